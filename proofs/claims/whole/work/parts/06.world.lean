/-! pieces of models: a guard, a bind; how a proof takes them apart -/
def gd {α : Type} (b : Bool) (x : Option α) : Option α := if b = true then x else none
theorem gd_ok {α : Type} {b : Bool} {x : Option α} {y : α} (h : gd b x = some y) : b = true ∧ x = some y := by
  unfold gd at h
  by_cases hb : b = true
  · rw [if_pos hb] at h; exact ⟨hb, h⟩
  · rw [if_neg hb] at h; cases h
theorem gd_t {α : Type} {b : Bool} {x : Option α} (h : b = true) : gd b x = x := by unfold gd; rw [if_pos h]
theorem bd_ok {α β : Type} {x : Option α} {f : α → Option β} {y : β} (h : x.bind f = some y) : ∃ a, x = some a ∧ f a = some y := Option.bind_eq_some_iff.mp h
theorem it_t {c : Prop} [Decidable c] {α : Type} {a b x : α} (h : c) (hf : (if c then a else b) = x) : a = x := by rw [if_pos h] at hf; exact hf
theorem it_f {c : Prop} [Decidable c] {α : Type} {a b x : α} (h : ¬ c) (hf : (if c then a else b) = x) : b = x := by rw [if_neg h] at hf; exact hf
def vin (i : Int32) (n : Nat) : Bool := decide (¬ i < 0 ∧ i.toNatClampNeg < n)
theorem vin_ok {i : Int32} {n : Nat} (h : vin i n = true) : vp_in i n := by
  have h := of_decide_eq_true h
  intro q
  rcases q with q | q
  · exact h.1 q
  · omega
theorem vin_lt {i : Int32} {n : Nat} (h : vin i n = true) : i.toNatClampNeg < n := (of_decide_eq_true h).2
def nz4 (x : Int32) : Bool := decide (¬ x = 0)
theorem nz4_ok {x : Int32} (h : nz4 x = true) : ¬ x = 0 := of_decide_eq_true h
def nz8 (x : Int64) : Bool := decide (¬ x = 0)
theorem nz8_ok {x : Int64} (h : nz8 x = true) : ¬ x = 0 := of_decide_eq_true h
def isb (x : Int32) : Bool := decide (x = 0 ∨ x = 1)
theorem isb_ok {x : Int32} (h : isb x = true) : narrow .boolean (.int x) = .int x := by
  rcases of_decide_eq_true h with h | h <;> subst h <;> decide
def FU : Nat := 6000
theorem lc_eq {x y : Int64} : lg_cmp x y = 0 ↔ x = y := by
  unfold lg_cmp
  by_cases h1 : y < x
  · rw [if_pos h1]
    refine ⟨fun h => absurd h (by decide), fun h => ?_⟩
    subst h
    exact absurd h1 (Int64.lt_irrefl)
  · rw [if_neg h1]
    by_cases h2 : x = y
    · rw [if_pos h2]; exact ⟨fun _ => h2, fun _ => rfl⟩
    · rw [if_neg h2]; exact ⟨fun h => absurd h (by decide), fun h => absurd h h2⟩
theorem lc_lt {x y : Int64} : lg_cmp x y < 0 ↔ x < y := by
  unfold lg_cmp
  by_cases h1 : y < x
  · rw [if_pos h1]
    exact ⟨fun h => absurd h (by decide), fun h => absurd h (Int64.lt_asymm h1)⟩
  · rw [if_neg h1]
    by_cases h2 : x = y
    · rw [if_pos h2]; subst h2; exact ⟨fun h => absurd h (by decide), fun h => absurd h Int64.lt_irrefl⟩
    · rw [if_neg h2]; exact ⟨fun _ => Int64.lt_of_le_of_ne (Int64.not_lt.mp h1) h2, fun _ => by decide⟩
theorem lc_gt {x y : Int64} : 0 < lg_cmp x y ↔ y < x := by
  unfold lg_cmp
  by_cases h1 : y < x
  · rw [if_pos h1]
    exact ⟨fun _ => h1, fun _ => by decide⟩
  · rw [if_neg h1]
    by_cases h2 : x = y
    · rw [if_pos h2]; exact ⟨fun h => absurd h (by decide), fun h => absurd h h1⟩
    · rw [if_neg h2]; exact ⟨fun h => absurd h (by decide), fun h => absurd h h1⟩
theorem lc_ge {x y : Int64} : 0 ≤ lg_cmp x y ↔ y ≤ x := by
  rw [← Int32.not_lt, lc_lt, Int64.not_lt]
theorem lc_le {x y : Int64} : lg_cmp x y ≤ 0 ↔ x ≤ y := by
  rw [← Int32.not_lt, lc_gt, Int64.not_lt]
/-! words: one list for all contracts -/
theorem gC {c0 w : Cond} (h : w ∈ wsG) : w ∈ c0 :: wsG ∧ ((w.onTables && w.keeps) = true ∨ ∃ ty, w = .arrayClass ty) := ⟨List.mem_cons_of_mem _ h, good_of_word (List.mem_filter.mp h).2⟩
theorem gG {c0 : Cond} {y : MethodName} {b : ByteArray} {n : Nat} {r : Option FieldType} (h : Cond.code y b n r ∈ wsG) : GoodIn (c0 :: wsG) (Cond.code y b n r :: wsG) := by
  intro w hw
  rcases List.mem_cons.mp hw with e | h2
  · rw [e]; exact gC h
  · exact gC h2
theorem gGl {y : MethodName} {b : ByteArray} {n : Nat} {r : Option FieldType} (h : Cond.code y b n r ∈ wsG) : GoodIn lw_tbl (Cond.code y b n r :: wsG) := by
  intro w hw
  rcases List.mem_cons.mp hw with e | h2
  · rw [e]; exact ⟨(List.mem_filter.mp h).1, good_of_word (List.mem_filter.mp h).2⟩
  · exact ⟨(List.mem_filter.mp h2).1, good_of_word (List.mem_filter.mp h2).2⟩
/-! a world: cells by a state, the cells that may change, what is constant -/
def WSok (D : va_G) {S : Type} (wf : S → va_W) (A : Nat → Prop) (Cn : State → Prop) : Prop :=
  (∀ u, va_D A (wf u)) ∧ (∀ (U : State) (g : JFrame) (mk : MethodId) (a : Array Value), Cn U → Cn (U.calling g mk a)) ∧ (∀ (s U : State) (H : Heap) (locs : List Loc), Cn s → U.heap = H → s.WarmedH U.vm → va_S A s.heap H locs → Cn U)
def wI (D : va_G) {S : Type} (wf : S → va_W) (Cn : State → Prop) (u : S) (U : State) : Prop := va_P D vwCl (wf u) U.heap ∧ Cn U
def wB (D : va_G) {S : Type} (wf : S → va_W) (u : S) (t : State) : Prop := va_P D vwCl (wf u) t.heap
theorem wI_blind {D : va_G} {S : Type} {wf : S → va_W} {A : Nat → Prop} {Cn : State → Prop} (h : WSok D wf A Cn) (av : List Value) (u : S) : FrameBlind (va_Pc av (wI D wf Cn u)) := fun _ _ _ _ q => ⟨q.1, q.2.1, h.2.1 _ _ _ _ q.2.2⟩
theorem fr_blind (av : List Value) : FrameBlind (va_Pc av (fun _ => True)) := fun _ _ _ _ q => ⟨q.1, trivial⟩
section GC
variable {p : Program} {l : Launch} {e : Env} {R : Room} {s : State} {m : MethodId} {args : Array Value} {below : List Frame} {meth : Method} {c : Code} {H : Heap} {locs : List Loc} {cells slots : Nat} {Q : State → Prop}
variable {D : va_G} {S : Type} {wf : S → va_W} {A : Nat → Prop} {Cn : State → Prop} {u u1 : S} {Ts : List Cond} {cc bytes : ByteArray} {nL maxL index pc : Nat} {own : String} {y : MethodName} {ret : Option FieldType} {rm : Room} {b : Nat} {As rest st0 : List Value} {ls : Array Slot}
theorem gB (n : Nat) (ht : ∀ w ∈ Ts, w.before args s = true) (hT : GoodIn Ts (Cond.code y bytes maxL ret :: wsG)) (k1 : Cond.methodLink own index y ∈ wsG) (k4 : Cond.initialized y.cls ∈ wsG) (hd : y.cls ≠ "java/lang/invoke/MethodHandle" ∧ y.cls ≠ "java/lang/invoke/VarHandle" ∧ (parseMethodDescriptor y.desc).map (fun d => d.parameters.length) = some n) (hr0 : rm.cells = 0 ∧ rm.slots = 0) (hR : rm.frames + 1 ≤ R.frames ∧ 8 + (maxL + 11) + rm.locals ≤ R.locals) : CallB R s args own index y bytes maxL ret (Cond.code y bytes maxL ret :: wsG) rm 0 0 n := by
  have ok : ∀ w ∈ wsG, w.before args s = true := fun w h => ht w (hT w (List.mem_cons_of_mem _ h)).1
  exact callB_of n ht hT rfl hr0.1 hr0.2 (ok _ k4) (ok _ k1) hd hR
theorem gcVi {r0 : Int32} (n : Nat) (hw : WSok D wf A Cn) (hCn : Cn s) (F : CallFix p m c cc nL s args Ts own)
    (hM : Met l y (Cond.code y bytes maxL ret :: wsG) rm (va_Pc (Value.ref b :: As) (wI D wf Cn u)) (va_Qi (fun (r : Int32) (u' : S) => r = r0 ∧ u' = u1) (wB D wf) A) 0 0 A)
    (hT : GoodIn Ts (Cond.code y bytes maxL ret :: wsG)) (k1 : Cond.methodLink own index y ∈ wsG) (k2 : Cond.instanceMethod y ∈ wsG) (k3 : Cond.selects y.cls y y ∈ wsG) (k4 : Cond.initialized y.cls ∈ wsG)
    (hd : y.cls ≠ "java/lang/invoke/MethodHandle" ∧ y.cls ≠ "java/lang/invoke/VarHandle" ∧ (parseMethodDescriptor y.desc).map (fun d => d.parameters.length) = some n) (hr0 : rm.cells = 0 ∧ rm.slots = 0) (hR : rm.frames + 1 ≤ R.frames ∧ 8 + (maxL + 11) + rm.locals ≤ R.locals)
    (hrec : ∃ cellB : Cell, H[b]? = some cellB ∧ cellB.vm.isStatics = false ∧ s.vm.findClass y.cls = some cellB.cls)
    (hP : va_P D vwCl (wf u) H) (hS : va_S A s.heap H locs) (hcs : cells ≤ R.cells ∧ slots ≤ R.slots) (hn : As.length = n) (hsz : ls.size = nL) (hst : st0 = As.reverse ++ .ref b :: rest) (hrm : (rest.map fun v => v.category).sum ≤ 8) (hdg : decode cc pc = .ok (.invokevirtual index, 3))
    (kk : ∀ (H : Heap) (locs : List Loc), va_P D vwCl (wf u1) H → va_S A s.heap H locs → W p l e R s m args below meth c H locs cells slots Q (F0 m (pc + 3) ls (.int r0 :: rest))) : W p l e R s m args below meth c H locs cells slots Q (F0 m pc ls st0) := by
  have ok : ∀ w ∈ wsG, w.before args s = true := fun w h => F.2.2.2.2 w (hT w (List.mem_cons_of_mem _ h)).1
  refine va_calli (va_runV (C := y.cls) (As := As) (rest := rest) F hM ⟨gB n F.2.2.2.2 hT k1 k4 hd hr0 hR, ok _ k2, ok _ k3⟩ ⟨wI_blind hw _ _, hrec, fun U hU hW => ⟨rfl, by rw [hU]; exact hP, hw.2.2 s U H locs hCn hU hW hS⟩⟩ rfl hn hsz hst (lv_room hrm) hdg hcs) hS (fun q _ h => h) (fun q h => h) (fun r u t H1 locs1 ht hvm hp hB hz hk hS1 => ?_)
  obtain ⟨h1, h2⟩ := hp
  subst h1
  subst h2
  exact kk H1 locs1 (by rw [← ht]; exact hB) hS1
theorem gcVl {r0 : Int64} (n : Nat) (hw : WSok D wf A Cn) (hCn : Cn s) (F : CallFix p m c cc nL s args Ts own)
    (hM : Met l y (Cond.code y bytes maxL ret :: wsG) rm (va_Pc (Value.ref b :: As) (wI D wf Cn u)) (va_Ql (fun (r : Int64) (u' : S) => r = r0 ∧ u' = u1) (wB D wf) A) 0 0 A)
    (hT : GoodIn Ts (Cond.code y bytes maxL ret :: wsG)) (k1 : Cond.methodLink own index y ∈ wsG) (k2 : Cond.instanceMethod y ∈ wsG) (k3 : Cond.selects y.cls y y ∈ wsG) (k4 : Cond.initialized y.cls ∈ wsG)
    (hd : y.cls ≠ "java/lang/invoke/MethodHandle" ∧ y.cls ≠ "java/lang/invoke/VarHandle" ∧ (parseMethodDescriptor y.desc).map (fun d => d.parameters.length) = some n) (hr0 : rm.cells = 0 ∧ rm.slots = 0) (hR : rm.frames + 1 ≤ R.frames ∧ 8 + (maxL + 11) + rm.locals ≤ R.locals)
    (hrec : ∃ cellB : Cell, H[b]? = some cellB ∧ cellB.vm.isStatics = false ∧ s.vm.findClass y.cls = some cellB.cls)
    (hP : va_P D vwCl (wf u) H) (hS : va_S A s.heap H locs) (hcs : cells ≤ R.cells ∧ slots ≤ R.slots) (hn : As.length = n) (hsz : ls.size = nL) (hst : st0 = As.reverse ++ .ref b :: rest) (hrm : (rest.map fun v => v.category).sum ≤ 8) (hdg : decode cc pc = .ok (.invokevirtual index, 3))
    (kk : ∀ (H : Heap) (locs : List Loc), va_P D vwCl (wf u1) H → va_S A s.heap H locs → W p l e R s m args below meth c H locs cells slots Q (F0 m (pc + 3) ls (.long r0 :: rest))) : W p l e R s m args below meth c H locs cells slots Q (F0 m pc ls st0) := by
  have ok : ∀ w ∈ wsG, w.before args s = true := fun w h => F.2.2.2.2 w (hT w (List.mem_cons_of_mem _ h)).1
  refine va_calll (va_runV (C := y.cls) (As := As) (rest := rest) F hM ⟨gB n F.2.2.2.2 hT k1 k4 hd hr0 hR, ok _ k2, ok _ k3⟩ ⟨wI_blind hw _ _, hrec, fun U hU hW => ⟨rfl, by rw [hU]; exact hP, hw.2.2 s U H locs hCn hU hW hS⟩⟩ rfl hn hsz hst (lv_room hrm) hdg hcs) hS (fun q _ h => h) (fun q h => h) (fun r u t H1 locs1 ht hvm hp hB hz hk hS1 => ?_)
  obtain ⟨h1, h2⟩ := hp
  subst h1
  subst h2
  exact kk H1 locs1 (by rw [← ht]; exact hB) hS1
theorem gcVv (n : Nat) (hw : WSok D wf A Cn) (hCn : Cn s) (F : CallFix p m c cc nL s args Ts own)
    (hM : Met l y (Cond.code y bytes maxL ret :: wsG) rm (va_Pc (Value.ref b :: As) (wI D wf Cn u)) (va_Qv (fun (u' : S) => u' = u1) (wB D wf) A) 0 0 A)
    (hT : GoodIn Ts (Cond.code y bytes maxL ret :: wsG)) (k1 : Cond.methodLink own index y ∈ wsG) (k2 : Cond.instanceMethod y ∈ wsG) (k3 : Cond.selects y.cls y y ∈ wsG) (k4 : Cond.initialized y.cls ∈ wsG)
    (hd : y.cls ≠ "java/lang/invoke/MethodHandle" ∧ y.cls ≠ "java/lang/invoke/VarHandle" ∧ (parseMethodDescriptor y.desc).map (fun d => d.parameters.length) = some n) (hr0 : rm.cells = 0 ∧ rm.slots = 0) (hR : rm.frames + 1 ≤ R.frames ∧ 8 + (maxL + 11) + rm.locals ≤ R.locals)
    (hrec : ∃ cellB : Cell, H[b]? = some cellB ∧ cellB.vm.isStatics = false ∧ s.vm.findClass y.cls = some cellB.cls)
    (hP : va_P D vwCl (wf u) H) (hS : va_S A s.heap H locs) (hcs : cells ≤ R.cells ∧ slots ≤ R.slots) (hn : As.length = n) (hsz : ls.size = nL) (hst : st0 = As.reverse ++ .ref b :: rest) (hrm : (rest.map fun v => v.category).sum ≤ 8) (hdg : decode cc pc = .ok (.invokevirtual index, 3))
    (kk : ∀ (H : Heap) (locs : List Loc), va_P D vwCl (wf u1) H → va_S A s.heap H locs → W p l e R s m args below meth c H locs cells slots Q (F0 m (pc + 3) ls rest)) : W p l e R s m args below meth c H locs cells slots Q (F0 m pc ls st0) := by
  have ok : ∀ w ∈ wsG, w.before args s = true := fun w h => F.2.2.2.2 w (hT w (List.mem_cons_of_mem _ h)).1
  refine va_callv (va_runV (C := y.cls) (As := As) (rest := rest) F hM ⟨gB n F.2.2.2.2 hT k1 k4 hd hr0 hR, ok _ k2, ok _ k3⟩ ⟨wI_blind hw _ _, hrec, fun U hU hW => ⟨rfl, by rw [hU]; exact hP, hw.2.2 s U H locs hCn hU hW hS⟩⟩ rfl hn hsz hst (lv_room hrm) hdg hcs) hS (fun q _ h => h) (fun q h => h) (fun u t H1 locs1 ht hvm hp hB hz hk hS1 => ?_)
  subst hp
  exact kk H1 locs1 (by rw [← ht]; exact hB) hS1
theorem gcSi {r0 : Int32} (n : Nat) (hw : WSok D wf A Cn) (hCn : Cn s) (F : CallFix p m c cc nL s args Ts own)
    (hM : Met l y (Cond.code y bytes maxL ret :: wsG) rm (va_Pc As (wI D wf Cn u)) (va_Qi (fun (r : Int32) (u' : S) => r = r0 ∧ u' = u1) (wB D wf) A) 0 0 A)
    (hT : GoodIn Ts (Cond.code y bytes maxL ret :: wsG)) (k1 : Cond.methodLink own index y ∈ wsG) (k2 : Cond.static y ∈ wsG) (k4 : Cond.initialized y.cls ∈ wsG)
    (hd : y.cls ≠ "java/lang/invoke/MethodHandle" ∧ y.cls ≠ "java/lang/invoke/VarHandle" ∧ (parseMethodDescriptor y.desc).map (fun d => d.parameters.length) = some n) (hr0 : rm.cells = 0 ∧ rm.slots = 0) (hR : rm.frames + 1 ≤ R.frames ∧ 8 + (maxL + 11) + rm.locals ≤ R.locals)
    (hP : va_P D vwCl (wf u) H) (hS : va_S A s.heap H locs) (hcs : cells ≤ R.cells ∧ slots ≤ R.slots) (hn : As.length = n) (hsz : ls.size = nL) (hst : st0 = As.reverse ++ rest) (hrm : (rest.map fun v => v.category).sum ≤ 8) (hdg : decode cc pc = .ok (.invokestatic index, 3))
    (kk : ∀ (H : Heap) (locs : List Loc), va_P D vwCl (wf u1) H → va_S A s.heap H locs → W p l e R s m args below meth c H locs cells slots Q (F0 m (pc + 3) ls (.int r0 :: rest))) : W p l e R s m args below meth c H locs cells slots Q (F0 m pc ls st0) := by
  have ok : ∀ w ∈ wsG, w.before args s = true := fun w h => F.2.2.2.2 w (hT w (List.mem_cons_of_mem _ h)).1
  refine va_calli (va_runS (As := As) (rest := rest) F hM ⟨gB n F.2.2.2.2 hT k1 k4 hd hr0 hR, ok _ k2⟩ ⟨wI_blind hw _ _, fun U hU hW => ⟨rfl, by rw [hU]; exact hP, hw.2.2 s U H locs hCn hU hW hS⟩⟩ rfl hn hsz hst (lv_room hrm) hdg hcs) hS (fun q _ h => h) (fun q h => h) (fun r u t H1 locs1 ht hvm hp hB hz hk hS1 => ?_)
  obtain ⟨h1, h2⟩ := hp
  subst h1
  subst h2
  exact kk H1 locs1 (by rw [← ht]; exact hB) hS1
theorem gcFi {r0 : Int32} (n : Nat) (F : CallFix p m c cc nL s args Ts own)
    (hM : Met l y (Cond.code y bytes maxL ret :: wsG) rm (va_Pc As (fun _ => True)) (vp_Si (fun (r : Int32) => r = r0)) 0 0 (fun _ => False))
    (hT : GoodIn Ts (Cond.code y bytes maxL ret :: wsG)) (k1 : Cond.methodLink own index y ∈ wsG) (k2 : Cond.static y ∈ wsG) (k4 : Cond.initialized y.cls ∈ wsG)
    (hd : y.cls ≠ "java/lang/invoke/MethodHandle" ∧ y.cls ≠ "java/lang/invoke/VarHandle" ∧ (parseMethodDescriptor y.desc).map (fun d => d.parameters.length) = some n) (hr0 : rm.cells = 0 ∧ rm.slots = 0) (hR : rm.frames + 1 ≤ R.frames ∧ 8 + (maxL + 11) + rm.locals ≤ R.locals)
    (hcs : cells ≤ R.cells ∧ slots ≤ R.slots) (hn : As.length = n) (hsz : ls.size = nL) (hst : st0 = As.reverse ++ rest) (hrm : (rest.map fun v => v.category).sum ≤ 8) (hdg : decode cc pc = .ok (.invokestatic index, 3))
    (kk : W p l e R s m args below meth c H locs cells slots Q (F0 m (pc + 3) ls (.int r0 :: rest))) : W p l e R s m args below meth c H locs cells slots Q (F0 m pc ls st0) := by
  have ok : ∀ w ∈ wsG, w.before args s = true := fun w h => F.2.2.2.2 w (hT w (List.mem_cons_of_mem _ h)).1
  refine vp_callSi (W.runS (As := As) (rest := rest) F hM ⟨gB n F.2.2.2.2 hT k1 k4 hd hr0 hR, ok _ k2⟩ ⟨fr_blind _, fun U hU hW => ⟨rfl, trivial⟩⟩ rfl hn hsz hst (lv_room hrm) hdg hcs) (fun r hr => ?_)
  subst hr
  exact kk
theorem gcFl {r0 : Int64} (n : Nat) (F : CallFix p m c cc nL s args Ts own)
    (hM : Met l y (Cond.code y bytes maxL ret :: wsG) rm (va_Pc As (fun _ => True)) (vp_Sl (fun (r : Int64) => r = r0)) 0 0 (fun _ => False))
    (hT : GoodIn Ts (Cond.code y bytes maxL ret :: wsG)) (k1 : Cond.methodLink own index y ∈ wsG) (k2 : Cond.static y ∈ wsG) (k4 : Cond.initialized y.cls ∈ wsG)
    (hd : y.cls ≠ "java/lang/invoke/MethodHandle" ∧ y.cls ≠ "java/lang/invoke/VarHandle" ∧ (parseMethodDescriptor y.desc).map (fun d => d.parameters.length) = some n) (hr0 : rm.cells = 0 ∧ rm.slots = 0) (hR : rm.frames + 1 ≤ R.frames ∧ 8 + (maxL + 11) + rm.locals ≤ R.locals)
    (hcs : cells ≤ R.cells ∧ slots ≤ R.slots) (hn : As.length = n) (hsz : ls.size = nL) (hst : st0 = As.reverse ++ rest) (hrm : (rest.map fun v => v.category).sum ≤ 8) (hdg : decode cc pc = .ok (.invokestatic index, 3))
    (kk : W p l e R s m args below meth c H locs cells slots Q (F0 m (pc + 3) ls (.long r0 :: rest))) : W p l e R s m args below meth c H locs cells slots Q (F0 m pc ls st0) := by
  have ok : ∀ w ∈ wsG, w.before args s = true := fun w h => F.2.2.2.2 w (hT w (List.mem_cons_of_mem _ h)).1
  refine vp_callSl (W.runS (As := As) (rest := rest) F hM ⟨gB n F.2.2.2.2 hT k1 k4 hd hr0 hR, ok _ k2⟩ ⟨fr_blind _, fun U hU hW => ⟨rfl, trivial⟩⟩ rfl hn hsz hst (lv_room hrm) hdg hcs) (fun r hr => ?_)
  subst hr
  exact kk
/-! returns -/
theorem grI {r r0 : Int32} (hexec : p.tables.exec = Jvm.exec) (hb : c.code = cc) (hr : meth.sig.returnType = some .int) (hlocks : meth.locks = false) (hP : va_P D vwCl (wf u) H) (hS : va_S A s.heap H locs) (hdg : decode cc pc = .ok (.ireturn, 1)) (h1 : r = r0) (h2 : u = u1) :
    W p l e R s m args below meth c H locs 0 0 (MQ below (va_Qi (fun (r : Int32) (u' : S) => r = r0 ∧ u' = u1) (wB D wf) A) args s 0 0 A) (F0 m pc ls [.int r]) :=
  W.iret (v := r) hexec hb hr (fun t ht _ => ⟨⟨r, u, rfl, ⟨h1, h2⟩, by unfold wB; rw [ht]; exact hP⟩, hS.F ht⟩) hS.2.2 hdg hlocks
theorem grZ {r r0 : Int32} (hexec : p.tables.exec = Jvm.exec) (hb : c.code = cc) (hr : meth.sig.returnType = some .boolean) (hlocks : meth.locks = false) (hn : narrow .boolean (.int r) = .int r) (hP : va_P D vwCl (wf u) H) (hS : va_S A s.heap H locs) (hdg : decode cc pc = .ok (.ireturn, 1)) (h1 : r = r0) (h2 : u = u1) :
    W p l e R s m args below meth c H locs 0 0 (MQ below (va_Qi (fun (r : Int32) (u' : S) => r = r0 ∧ u' = u1) (wB D wf) A) args s 0 0 A) (F0 m pc ls [.int r]) :=
  W.zret (v := r) hexec hb hr hn (fun t ht _ => ⟨⟨r, u, rfl, ⟨h1, h2⟩, by unfold wB; rw [ht]; exact hP⟩, hS.F ht⟩) hS.2.2 hdg hlocks
theorem grL {r r0 : Int64} (hexec : p.tables.exec = Jvm.exec) (hb : c.code = cc) (hr : meth.sig.returnType = some .long) (hlocks : meth.locks = false) (hP : va_P D vwCl (wf u) H) (hS : va_S A s.heap H locs) (hdg : decode cc pc = .ok (.lreturn, 1)) (h1 : r = r0) (h2 : u = u1) :
    W p l e R s m args below meth c H locs 0 0 (MQ below (va_Ql (fun (r : Int64) (u' : S) => r = r0 ∧ u' = u1) (wB D wf) A) args s 0 0 A) (F0 m pc ls [.long r]) :=
  W.lret (v := r) hexec hb hr (fun t ht _ => ⟨⟨r, u, rfl, ⟨h1, h2⟩, by unfold wB; rw [ht]; exact hP⟩, hS.F ht⟩) hS.2.2 hdg hlocks
theorem grV (hexec : p.tables.exec = Jvm.exec) (hb : c.code = cc) (hr : meth.sig.returnType = none) (hlocks : meth.locks = false) (hP : va_P D vwCl (wf u) H) (hS : va_S A s.heap H locs) (hdg : decode cc pc = .ok (.return_, 1)) (h2 : u = u1) :
    W p l e R s m args below meth c H locs 0 0 (MQ below (va_Qv (fun (u' : S) => u' = u1) (wB D wf) A) args s 0 0 A) (F0 m pc ls []) :=
  W.vret hexec hb hr (fun t ht _ => ⟨⟨u, rfl, h2, by unfold wB; rw [ht]; exact hP⟩, hS.F ht⟩) hS.2.2 hdg hlocks
theorem grFi {r r0 : Int32} (hexec : p.tables.exec = Jvm.exec) (hb : c.code = cc) (hr : meth.sig.returnType = some .int) (hlocks : meth.locks = false) (hdg : decode cc pc = .ok (.ireturn, 1)) (h1 : r = r0) :
    W p l e R s m args below meth c s.heap [] 0 0 (MQ below (vp_Si (fun (r : Int32) => r = r0)) args s 0 0 (fun _ => False)) (F0 m pc ls [.int r]) :=
  W.iret (v := r) hexec hb hr (fun t ht _ => ⟨r, rfl, h1, ht⟩) (fun _ h => by cases h) hdg hlocks
theorem grFz {r r0 : Int32} (hexec : p.tables.exec = Jvm.exec) (hb : c.code = cc) (hr : meth.sig.returnType = some .boolean) (hlocks : meth.locks = false) (hn : narrow .boolean (.int r) = .int r) (hdg : decode cc pc = .ok (.ireturn, 1)) (h1 : r = r0) :
    W p l e R s m args below meth c s.heap [] 0 0 (MQ below (vp_Si (fun (r : Int32) => r = r0)) args s 0 0 (fun _ => False)) (F0 m pc ls [.int r]) :=
  W.zret (v := r) hexec hb hr hn (fun t ht _ => ⟨r, rfl, h1, ht⟩) (fun _ h => by cases h) hdg hlocks
theorem grFl {r r0 : Int64} (hexec : p.tables.exec = Jvm.exec) (hb : c.code = cc) (hr : meth.sig.returnType = some .long) (hlocks : meth.locks = false) (hdg : decode cc pc = .ok (.lreturn, 1)) (h1 : r = r0) :
    W p l e R s m args below meth c s.heap [] 0 0 (MQ below (vp_Sl (fun (r : Int64) => r = r0)) args s 0 0 (fun _ => False)) (F0 m pc ls [.long r]) :=
  W.lret (v := r) hexec hb hr (fun t ht _ => ⟨r, rfl, h1, ht⟩) (fun _ h => by cases h) hdg hlocks
theorem va_aldA {tys : List (ClassId × FieldType)} {cl : List vw_C} {ws : va_W} {a : Nat} (hexec : p.tables.exec = Jvm.exec) (hb : c.code = cc) (hK : va_K D cl tys s) (hP : va_P D cl ws H) (q0 t0 : Nat) {cA : ClassId} {ty : FieldType} {n : Nat} {f : Nat → Option Nat} (ha : ws[q0]? = some (a, .inl (cA, n, .inr (.inr (.inr (.inr f)))))) (ht : tys[t0]? = some (cA, .array ty)) {i : Int32} (hin : vp_in i n) (hdg : decode cc pc = .ok (.aaload, 1))
    (kk : W p l e R s m args below meth c H locs cells slots Q (F0 m (pc + 1) ls (va_rf (f i.toNatClampNeg) :: rest))) : W p l e R s m args below meth c H locs cells slots Q (F0 m pc ls (.int i :: .ref a :: rest)) := by
  have hlt : i.toNatClampNeg < n := Nat.not_le.mp fun q => hin (Or.inr q)
  exact W.aald (v := va_rf (f i.toNatClampNeg)) (ty := .array ty) hexec hb (hP q0 _ ha) ((hK.2 t0 _ ht).1 n (fun j => va_rf (f j))) rfl (fun q => by cases q) (by show ¬ (i < 0 ∨ (arrV _ _ _).slots.size ≤ _); rw [arrV_size]; exact hin) (by show (arrV _ _ _).slots[_]? = _; rw [arrV_read _ _ hlt]) rfl rfl hdg kk
end GC
