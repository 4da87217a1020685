/-! THE CLAIM OUT OF ONE WALK OF THE LAW'S BODY. Your part is whole_start (and what it stands on); all else here is the same for every law, but numbers. -/
def R_law : String := "WaterTwiceLaw"
def lw_P (b : Addr) (xs : List Int32) (args : Array Value) (s : State) : Prop := args = #[.ref b] ∧ s.IntsAt b xs ∧ xs.length ≤ 3072 ∧ (Jvm.Cond.and given_1 narrow_1).before args s = true
def lw_Q (_ : Array Value) (s : State) (o : Outcome) (t : State) : Prop := o = .returned (some (.int 1)) ∧ Framed s o t [] 600000 7302250
def lw_Z (below : List Frame) (a : Array Value) (s : State) : State → Prop := fun t => ∃ o, t.status = .running ∧ Ended t below o ∧ lw_Q a s o t
/-- the law's own end, with 1 on the stack, nothing written that was there before, its room as the claim has it -/
theorem lw_ret {p : Program} {l : Launch} {e : Env} {s : State} {m : MethodId} {below : List Frame} {meth : Method} {c : Code} {b : Nat} (hx : p.tables.exec = Jvm.exec) (hb : c.code = code) (hr : meth.sig.returnType = ret) (hlocks : meth.locks = false) {pc : Nat} {H : Heap} {ls : Array Slot} (hdg : decode code pc = .ok (.ireturn, 1)) : W p l e room_1 s m #[Value.ref b] below meth c H [] 600000 7302250 (lw_Z below #[Value.ref b] s) (F0 m pc ls [.int 1]) := by
  intro T hT X
  obtain ⟨fs, hret, hrun, hended, hW, hframe⟩ := X.leave (v := some (.int 1)) (hlocks := hlocks) (fun h => by rw [hr] at h; cases h)
  have hmeth' : T.vm.method? m = some meth := X.method'
  refine ⟨T.setFrames fs, ?_, .returned (some (.int 1)), hrun, hended, rfl, ⟨_, rfl⟩, hW, hframe⟩
  jvm_step X.here [X.here.top, hx, hb, hdg, hmeth', hr, ret, narrow_b1]
  (try refine ⟨rfl, ?_⟩); (try refine ⟨rfl, ?_⟩)
  first | (intro acts; rw [hret _ acts rfl rfl rfl]) | rw [hret _ _ rfl rfl rfl]
  exact Steps.refl _
/-- what holds at the law's entry: the machine, the code, the tables' words (any of lw_tbl by 'hts w (by decide +kernel)'), the script of L ints xs at the cell b, what the Statement gives of the start (any of its parts by flat_of_before) -/
def lw_At (p : Program) (s : State) (m : MethodId) (meth : Method) (c : Code) (b L : Nat) (xs : Nat → Int32) : Prop :=
  p.tables.exec = Jvm.exec ∧ c.code = code ∧ meth.sig.returnType = ret ∧ c.maxLocals = 4 ∧ s.vm.findClass R_law = some m.cls ∧ (∀ w ∈ lw_tbl, w.before #[Value.ref b] s = true) ∧ va_X b L xs s s.heap ∧ b < s.heap.size ∧ meth.locks = false ∧ (Jvm.Cond.and given_1 narrow_1).before #[Value.ref b] s = true
/-! calls of the law: one world changes, the other stays -/
section LC
variable {p : Program} {l : Launch} {e : Env} {R : Room} {s : State} {m : MethodId} {args : Array Value} {below : List Frame} {meth : Method} {c : Code} {H : Heap} {locs : List Loc} {cells slots : Nat} {Q : State → Prop}
variable {D : va_G} {S : Type} {wf : S → va_W} {A : Nat → Prop} {Cn : State → Prop} {u u1 : S} {Ts : List Cond} {cc bytes : ByteArray} {nL maxL index pc : Nat} {own : String} {y : MethodName} {ret : Option FieldType} {rm : Room} {b : Nat} {As rest st0 : List Value} {ls : Array Slot} {wo : va_W}
theorem lcVi {r0 : Int32} (n : Nat) (hw : WSok D wf A Cn) (hCn : Cn s) (F : CallFix p m c cc nL s args Ts own)
    (hM : Met l y (Cond.code y bytes maxL ret :: wsG) rm (va_Pc (Value.ref b :: As) (wI D wf Cn u)) (va_Qi (fun (r : Int32) (u' : S) => r = r0 ∧ u' = u1) (wB D wf) A) 0 0 A)
    (hT : GoodIn Ts (Cond.code y bytes maxL ret :: wsG)) (k1 : Cond.methodLink own index y ∈ wsG) (k2 : Cond.instanceMethod y ∈ wsG) (k3 : Cond.selects y.cls y y ∈ wsG) (k4 : Cond.initialized y.cls ∈ wsG)
    (hd : y.cls ≠ "java/lang/invoke/MethodHandle" ∧ y.cls ≠ "java/lang/invoke/VarHandle" ∧ (parseMethodDescriptor y.desc).map (fun d => d.parameters.length) = some n) (hr0 : rm.cells = 0 ∧ rm.slots = 0) (hR : rm.frames + 1 ≤ R.frames ∧ 8 + (maxL + 11) + rm.locals ≤ R.locals)
    (hrec : ∃ cellB : Cell, H[b]? = some cellB ∧ cellB.vm.isStatics = false ∧ s.vm.findClass y.cls = some cellB.cls)
    (hP : va_P D vwCl (wf u) H) (hS : va_S (kA s.heap.size) s.heap H locs) (hA : ∀ q, A q → kA s.heap.size q) (hPo : va_P D vwCl wo H) (hdis : ∀ (k : Nat) (x : Nat × va_E), wo[k]? = some x → ¬ A x.1) (hcs : cells ≤ R.cells ∧ slots ≤ R.slots) (hn : As.length = n) (hsz : ls.size = nL) (hst : st0 = As.reverse ++ .ref b :: rest) (hrm : (rest.map fun v => v.category).sum ≤ 8) (hdg : decode cc pc = .ok (.invokevirtual index, 3))
    (kk : ∀ (H : Heap) (locs : List Loc), va_P D vwCl (wf u1) H → va_P D vwCl wo H → va_S (kA s.heap.size) s.heap H locs → W p l e R s m args below meth c H locs cells slots Q (F0 m (pc + 3) ls (.int r0 :: rest))) : W p l e R s m args below meth c H locs cells slots Q (F0 m pc ls st0) := by
  have ok : ∀ w ∈ wsG, w.before args s = true := fun w h => F.2.2.2.2 w (hT w (List.mem_cons_of_mem _ h)).1
  have hS2 : va_S A s.heap H [] := ⟨hS.1, fun q h1 h2 => hS.2.1 q h1 (fun h => by unfold kA at h; omega), fun _ h => by cases h⟩
  refine va_calli (va_runV (C := y.cls) (As := As) (rest := rest) F hM ⟨gB n F.2.2.2.2 hT k1 k4 hd hr0 hR, ok _ k2, ok _ k3⟩ ⟨wI_blind hw _ _, hrec, fun U hU hW => ⟨rfl, by rw [hU]; exact hP, hw.2.2 s U H [] hCn hU hW hS2⟩⟩ rfl hn hsz hst (lv_room hrm) hdg hcs) hS (fun q _ h => hA q h) (fun q h => hA q h) (fun r u t H1 locs1 ht hvm hp hB hz hk hS1 => ?_)
  obtain ⟨h1, h2⟩ := hp
  subst h1
  subst h2
  exact kk H1 locs1 (by rw [← ht]; exact hB) (hPo.kept (fun k x hx => hk x.1 ((hPo k x hx).lt) (hdis k x hx))) hS1
theorem lcVl {r0 : Int64} (n : Nat) (hw : WSok D wf A Cn) (hCn : Cn s) (F : CallFix p m c cc nL s args Ts own)
    (hM : Met l y (Cond.code y bytes maxL ret :: wsG) rm (va_Pc (Value.ref b :: As) (wI D wf Cn u)) (va_Ql (fun (r : Int64) (u' : S) => r = r0 ∧ u' = u1) (wB D wf) A) 0 0 A)
    (hT : GoodIn Ts (Cond.code y bytes maxL ret :: wsG)) (k1 : Cond.methodLink own index y ∈ wsG) (k2 : Cond.instanceMethod y ∈ wsG) (k3 : Cond.selects y.cls y y ∈ wsG) (k4 : Cond.initialized y.cls ∈ wsG)
    (hd : y.cls ≠ "java/lang/invoke/MethodHandle" ∧ y.cls ≠ "java/lang/invoke/VarHandle" ∧ (parseMethodDescriptor y.desc).map (fun d => d.parameters.length) = some n) (hr0 : rm.cells = 0 ∧ rm.slots = 0) (hR : rm.frames + 1 ≤ R.frames ∧ 8 + (maxL + 11) + rm.locals ≤ R.locals)
    (hrec : ∃ cellB : Cell, H[b]? = some cellB ∧ cellB.vm.isStatics = false ∧ s.vm.findClass y.cls = some cellB.cls)
    (hP : va_P D vwCl (wf u) H) (hS : va_S (kA s.heap.size) s.heap H locs) (hA : ∀ q, A q → kA s.heap.size q) (hPo : va_P D vwCl wo H) (hdis : ∀ (k : Nat) (x : Nat × va_E), wo[k]? = some x → ¬ A x.1) (hcs : cells ≤ R.cells ∧ slots ≤ R.slots) (hn : As.length = n) (hsz : ls.size = nL) (hst : st0 = As.reverse ++ .ref b :: rest) (hrm : (rest.map fun v => v.category).sum ≤ 8) (hdg : decode cc pc = .ok (.invokevirtual index, 3))
    (kk : ∀ (H : Heap) (locs : List Loc), va_P D vwCl (wf u1) H → va_P D vwCl wo H → va_S (kA s.heap.size) s.heap H locs → W p l e R s m args below meth c H locs cells slots Q (F0 m (pc + 3) ls (.long r0 :: rest))) : W p l e R s m args below meth c H locs cells slots Q (F0 m pc ls st0) := by
  have ok : ∀ w ∈ wsG, w.before args s = true := fun w h => F.2.2.2.2 w (hT w (List.mem_cons_of_mem _ h)).1
  have hS2 : va_S A s.heap H [] := ⟨hS.1, fun q h1 h2 => hS.2.1 q h1 (fun h => by unfold kA at h; omega), fun _ h => by cases h⟩
  refine va_calll (va_runV (C := y.cls) (As := As) (rest := rest) F hM ⟨gB n F.2.2.2.2 hT k1 k4 hd hr0 hR, ok _ k2, ok _ k3⟩ ⟨wI_blind hw _ _, hrec, fun U hU hW => ⟨rfl, by rw [hU]; exact hP, hw.2.2 s U H [] hCn hU hW hS2⟩⟩ rfl hn hsz hst (lv_room hrm) hdg hcs) hS (fun q _ h => hA q h) (fun q h => hA q h) (fun r u t H1 locs1 ht hvm hp hB hz hk hS1 => ?_)
  obtain ⟨h1, h2⟩ := hp
  subst h1
  subst h2
  exact kk H1 locs1 (by rw [← ht]; exact hB) (hPo.kept (fun k x hx => hk x.1 ((hPo k x hx).lt) (hdis k x hx))) hS1
end LC
/-- what stays the same while the law runs -/
def lwF (p : Program) (s : State) (m : MethodId) (c : Code) (b L : Nat) (xs : Nat → Int32) (D : va_G) (ad : Nat → Nat) (cs : Nat → ClassId) (tM : Nat) (am : Nat → Nat) (cm : Nat → ClassId) : Prop :=
  p.tables.exec = Jvm.exec ∧ c.code = code ∧ c.maxLocals = 4 ∧ s.vm.findClass R_law = some m.cls ∧ (∀ w ∈ lw_tbl, w.before #[Value.ref b] s = true) ∧ va_X b L xs s s.heap ∧ b < s.heap.size ∧ xC D ad cs tM s ∧ mC D am cm s ∧ (∀ k, k < 38 → s.heap.size ≤ ad k) ∧ (∀ k, k < 17 → s.heap.size ≤ am k) ∧ (∀ i j, i < 38 → j < 17 → ad i ≠ am j)
theorem lw_disX {ad am : Nat → Nat} {cm : Nat → ClassId} {v : UM} (h : ∀ i j, i < 38 → j < 17 → ad i ≠ am j) : ∀ (k : Nat) (x : Nat × va_E), (wM am cm v)[k]? = some x → ¬ AX ad x.1 := by
  intro k x hx hA
  have hk : k < 17 := by
    have := (List.getElem?_eq_some_iff.mp hx).1
    simpa [wM] using this
  rw [wM_at hk] at hx
  cases hx
  obtain ⟨i, hi, e⟩ := hA
  exact h i k hi hk e.symm
theorem lw_disM {ad am : Nat → Nat} {cs : Nat → ClassId} {u : UX} (h : ∀ i j, i < 38 → j < 17 → ad i ≠ am j) : ∀ (k : Nat) (x : Nat × va_E), (wX ad cs u)[k]? = some x → ¬ AM am x.1 := by
  intro k x hx hA
  have hk : k < 38 := by
    have := (List.getElem?_eq_some_iff.mp hx).1
    simpa [wX] using this
  rw [wX_at hk] at hx
  cases hx
  obtain ⟨i, hi, e⟩ := hA
  exact h k i hk hi e
