/-! rules for constructors: a list of cells grows at its end; all that is made lies from b0 on -/
def va_AOA (ty : FieldType) (U : State) : Prop := (Cond.arrayOver (.array ty)).before #[] U = true
theorem va_AOA.use {ty : FieldType} {A : Array Value} {U : State} (h : va_AOA ty U) : (Cond.arrayOver (.array ty)).before A U = true := h
theorem va_AOA.spec {ty : FieldType} {U : State} (h : va_AOA ty U) : ∃ (comp cA : ClassId) (kA : Class), U.vm.findClass (FieldType.array ty).toString = some comp ∧ (U.vm.classes.findIdx? fun (x : Class) => match x.kind with | .array component _ => component == comp | _ => false) = some cA ∧ U.vm.classes[cA]? = some kA ∧ kA.kind = .array comp (.array ty) ∧ U.vm.findClass ("[" ++ (FieldType.array ty).toString) = some cA := by
  have h0 : (Cond.arrayOver (.array ty)).value #[] U none U [] = some true := beq_iff_eq.mp h
  simp only [Cond.value] at h0
  obtain ⟨comp, h1, h0⟩ := Option.bind_eq_some_iff.mp h0
  obtain ⟨cA, h2, h0⟩ := Option.bind_eq_some_iff.mp h0
  obtain ⟨kA, h3, h0⟩ := Option.map_eq_some_iff.mp h0
  obtain ⟨q1, q2, -⟩ := Array.findIdx?_eq_some_iff_getElem.mp h2
  rw [(Array.getElem?_eq_some_iff.mp h3).2] at q2
  cases hk : kA.kind with
  | array c0 t0 =>
    rw [hk] at q2 h0
    have e1 : c0 = comp := beq_iff_eq.mp q2
    have e2 := Bool.and_eq_true_iff.mp h0
    exact ⟨comp, cA, kA, h1, h2, h3, by rw [hk, e1, of_decide_eq_true e2.1], of_decide_eq_true e2.2⟩
  | _ => rw [hk] at h0; cases h0
theorem va_AOA.moved {ty : FieldType} {u U : State} (hvm : u.vm.Alike U.vm) (h : va_AOA ty u) : va_AOA ty U := by
  obtain ⟨comp, cA, kA, h1, h2, h3, h4, h5⟩ := h.spec
  obtain ⟨kB, hB, he⟩ := hvm.2.2 _ _ h3
  have hi : (U.vm.classes.findIdx? fun (x : Class) => match x.kind with | .array component _ => component == comp | _ => false) = some cA := (hvm.findIdx?_eqK _ (fun _ => rfl)).trans h2
  have hk : kB.kind = .array comp (.array ty) := by rw [he]; exact h4
  have f1 : U.vm.findClass (FieldType.array ty).toString = some comp := by rw [hvm.findClass]; exact h1
  have f2 : U.vm.findClass ("[" ++ (FieldType.array ty).toString) = some cA := by rw [hvm.findClass]; exact h5
  have h0 : (Cond.arrayOver (.array ty)).value #[] U none U [] = some true := by
    simp only [Cond.value]
    refine Option.bind_eq_some_iff.mpr ⟨comp, f1, Option.bind_eq_some_iff.mpr ⟨cA, hi, Option.map_eq_some_iff.mpr ⟨kB, hB, ?_⟩⟩⟩
    rw [hk]
    exact Bool.and_eq_true_iff.mpr ⟨decide_eq_true rfl, decide_eq_true f2⟩
  exact beq_iff_eq.mpr h0
/-! ===== BEGIN new T[n][m]: the outer array a place, the inner ones among the pooled ===== -/
/-- f, but v at every address of l -/
def vr_up {α : Type} (f : Nat → α) (l : List Nat) (v : α) : Nat → α := fun a => if a ∈ l then v else f a
theorem vr_up_in {α : Type} {f : Nat → α} {l : List Nat} {v : α} {a : Nat} (h : a ∈ l) : vr_up f l v a = v := if_pos h
theorem vr_up_ne {α : Type} {f : Nat → α} {l : List Nat} {v : α} {a : Nat} (h : a ∉ l) : vr_up f l v a = f a := if_neg h
theorem vr_rows {L l : List Nat} {f : Nat → va_E} {e : va_E} (h : ∀ a, a ∈ l → a ∉ L) : va_pl L f ++ l.map (fun a => (a, e)) = va_pl (L ++ l) (vr_up f l e) := by
  unfold va_pl
  rw [List.map_append]
  congr 1
  · apply List.map_congr_left
    intro a ha
    rw [vr_up_ne (fun q => h a q ha)]
  · apply List.map_congr_left
    intro a ha
    rw [vr_up_in ha]
theorem vr_lay {X rows : va_W} {x : Nat × va_E} {pl : va_W} {D : va_G} {cl : List vw_C} {H : Heap} (hP : va_P D cl (((X ++ pl) ++ [x]) ++ rows) H) : va_P D cl ((X ++ [x]) ++ (pl ++ rows)) H := by
  rw [List.append_assoc (X ++ pl)] at hP
  have h := va_P.swap hP
  rw [← List.append_assoc X] at h
  have h2 := va_P.swap h
  rw [List.append_assoc (X ++ [x])] at h2
  exact h2
theorem vr_layD {X rows : va_W} {x : Nat × va_E} {pl : va_W} {A : Nat → Prop} (hD : va_D A (((X ++ pl) ++ [x]) ++ rows)) : va_D A ((X ++ [x]) ++ (pl ++ rows)) := by
  rw [List.append_assoc (X ++ pl)] at hD
  have h := va_D.swap hD
  rw [← List.append_assoc X] at h
  have h2 := va_D.swap h
  rw [List.append_assoc (X ++ [x])] at h2
  exact h2
theorem vr_outer (c : ClassId) (N h0 : Nat) : ∀ i : Nat, Jvm.Free.Multi.outerC c N h0 i = arrV c N (fun j => va_rf (if j < i then some (h0 + 1 + j) else none))
  | 0 => by
    show ({ cls := c, slots := Array.replicate N .null, vm := .none } : Cell) = _
    rw [arrV_new]
    refine congrArg (arrV c N) (funext fun j => ?_)
    simp [va_rf]
  | i + 1 => by
    show (Jvm.Free.Multi.outerC c N h0 i).setSlot i (.ref (h0 + 1 + i)) = _
    rw [vr_outer c N h0 i, arrV_store]
    refine congrArg (arrV c N) (funext fun j => ?_)
    by_cases e : j = i
    · subst e
      simp [updV, va_rf]
    · by_cases h : j < i
      · simp [updV, e, h, Nat.lt_succ_of_lt h]
      · simp [updV, e, h, show ¬ j < i + 1 by omega]
section VGM
variable {p : Program} {l : Launch} {e : Env} {R : Room} {s : State} {m : MethodId} {args : Array Value} {below : List Frame} {meth : Method} {c : Code} {H : Heap} {locs : List Loc} {cells slots : Nat} {Q : State → Prop}
variable {cc : ByteArray} {pc : Nat} {ls : Array Slot} {rest : List Value} {D : va_G} {cl : List vw_C} {A : Nat → Prop} {a : Nat} {tys : List (ClassId × FieldType)} {ws : va_W} {H0 : Heap}
theorem va_mna {X : va_W} {L : List Nat} {f : Nat → va_E} {cc : ByteArray} (hexec : p.tables.exec = Jvm.exec) (hb : c.code = cc) {own : String} {index : Nat} {ty : FieldType} {cy : ClassId} (hown : s.vm.findClass own = some m.cls) (hclink : (Cond.classLink own index ("[" ++ (FieldType.array ty).toString)).before args s = true) (hover : va_AOA ty s) (harr : (Cond.arrayClass ty).before args s = true) (hcy : s.vm.findClass (FieldType.array ty).toString = some cy)
    (hK : va_K D cl tys s) (hP : va_P D cl (X ++ va_pl L f) H) (hD : va_D A (X ++ va_pl L f)) (hS : va_S A H0 H locs) (hA : ∀ q, H0.size ≤ q → A q) {n k : Int32} {N' K' : Nat} {z : vp_A} (hn : ¬ n < 0) (hk : ¬ k < 0) (hN : n.toNatClampNeg = N') (hM : k.toNatClampNeg = K')
    (hb1 : N' * 4 ≤ 536870912) (hb2 : K' * componentBytes ty ≤ 536870912) (hb3 : K' ≤ 536870912) (hdf : fits ty (defaultValue ty) = true) (hdd : (defaultValue ty).isDefault = true) (hcells : cells + (1 + N') ≤ R.cells) (hslots : slots + (N' + N' * K') ≤ R.slots) (hz : ∀ c : ClassId, Jvm.Free.Multi.innerC c K' (defaultValue ty) = vp_cell c z) (hdg : decode cc pc = .ok (.multianewarray index 2, 4))
    (kk : ∀ (q : Nat) (r : Nat → Nat) (cA : ClassId) (H1 : Heap), (∀ i j : Nat, i < N' → j < N' → r i = r j → i = j) → (∀ i : Nat, i < N' → r i ∉ L) → va_K D cl (tys ++ [(cA, .array ty)]) s →
      va_P D cl ((X ++ [(q, .inl (cA, N', .inr (.inr (.inr (.inr (fun i => if i < N' then some (r i) else none))))))]) ++ va_pl (L ++ (List.range N').map r) (vr_up f ((List.range N').map r) (.inl (cy, z)))) H1 → va_D A ((X ++ [(q, .inl (cA, N', .inr (.inr (.inr (.inr (fun i => if i < N' then some (r i) else none))))))]) ++ va_pl (L ++ (List.range N').map r) (vr_up f ((List.range N').map r) (.inl (cy, z)))) → va_S A H0 H1 locs →
      W p l e R s m args below meth c H1 locs (cells + 1 + N') (slots + N' + N' * K') Q (F0 m (pc + 4) ls (.ref q :: rest))) : W p l e R s m args below meth c H locs cells slots Q (F0 m pc ls (.int k :: .int n :: rest)) := by
  subst hN
  subst hM
  intro T hT Xs
  obtain ⟨vm₁, cA, comp, -, fA, fC, hO, -, X', step⟩ := Xs.multianewarray2F hexec hown hclink (va_AOA.use hover) harr (g := F0 m pc ls (.int k :: .int n :: rest)) rfl (by rw [hb]; exact hdg) rfl hn hk hb1 hb2 hb3 hdf hdd hcells hslots
  have ec : some cy = some comp := hcy.symm.trans fC
  cases ec
  generalize hF : Jvm.Free.Multi.fill (T.setVm vm₁) cA cy n.toNatClampNeg k.toNatClampNeg (defaultValue ty) n.toNatClampNeg = F at X' step
  have hTh : (T.setVm vm₁).heap = H := hT
  obtain ⟨f1, f2, -, -⟩ := Jvm.Free.Multi.fill_facts (T.setVm vm₁) cA cy n.toNatClampNeg k.toNatClampNeg (defaultValue ty) n.toNatClampNeg
  rw [hF, hTh] at f1 f2
  have hold : ∀ x : Nat, x < H.size → F.heap[x]? = H[x]? := fun x hx => by
    have := Jvm.Free.Multi.fill_old (T.setVm vm₁) cA cy n.toNatClampNeg k.toNatClampNeg (defaultValue ty) (a := x) (by rw [hTh]; exact hx) n.toNatClampNeg
    rw [hF, hTh] at this
    exact this
  have hrow : ∀ j : Nat, j < n.toNatClampNeg → F.heap[H.size + 1 + j]? = some (vp_cell cy z) := fun j hj => by
    have := Jvm.Free.Multi.fill_inner (T.setVm vm₁) cA cy n.toNatClampNeg k.toNatClampNeg (defaultValue ty) n.toNatClampNeg j hj
    rw [hF, hTh, hz] at this
    exact this
  have hout : Jvm.Free.Multi.outerC cA n.toNatClampNeg H.size n.toNatClampNeg = vp_cell cA (n.toNatClampNeg, .inr (.inr (.inr (.inr (fun i => if i < n.toNatClampNeg then some (H.size + 1 + i) else none))))) := by
    rw [vp_cell_q]
    exact vr_outer cA n.toNatClampNeg H.size n.toNatClampNeg
  rw [hout] at f2
  have hlt : ∀ a, a ∈ L → a < H.size := fun a ha => by
    obtain ⟨k9, hk9⟩ := va_pl_get (X := X) (f := f) ha
    exact (hP k9 _ hk9).lt
  have hnl : ∀ i : Nat, i < n.toNatClampNeg → H.size + 1 + i ∉ L := fun i _ h => by
    have := hlt _ h
    omega
  have hnm : ∀ a, a ∈ (List.range n.toNatClampNeg).map (fun i => H.size + 1 + i) → a ∉ L := fun a ha h => by
    obtain ⟨i, -, rfl⟩ := List.mem_map.mp ha
    have := hlt _ h
    omega
  have hP0 : va_P D cl (X ++ va_pl L f) F.heap := hP.kept (fun k9 x hx => hold x.1 ((hP k9 x hx).lt))
  have hP1 : va_P D cl ((X ++ va_pl L f) ++ [(H.size, .inl (cA, n.toNatClampNeg, .inr (.inr (.inr (.inr (fun i => if i < n.toNatClampNeg then some (H.size + 1 + i) else none))))))]) F.heap := hP0.app (fun k9 x hx => by
    have h0 : k9 < 1 := (List.getElem?_eq_some_iff.mp hx).1
    rw [show k9 = 0 by omega] at hx
    cases hx
    exact f2)
  have hP2 : va_P D cl (((X ++ va_pl L f) ++ [(H.size, .inl (cA, n.toNatClampNeg, .inr (.inr (.inr (.inr (fun i => if i < n.toNatClampNeg then some (H.size + 1 + i) else none))))))]) ++ ((List.range n.toNatClampNeg).map (fun i => H.size + 1 + i)).map (fun a => (a, .inl (cy, z)))) F.heap := hP1.app (fun k9 x hx => by
    obtain ⟨a, ha, rfl⟩ := List.mem_map.mp (List.mem_of_getElem? hx)
    obtain ⟨i, hi, rfl⟩ := List.mem_map.mp ha
    exact hrow i (List.mem_range.mp hi))
  have hD2 : va_D A (((X ++ va_pl L f) ++ [(H.size, .inl (cA, n.toNatClampNeg, .inr (.inr (.inr (.inr (fun i => if i < n.toNatClampNeg then some (H.size + 1 + i) else none))))))]) ++ ((List.range n.toNatClampNeg).map (fun i => H.size + 1 + i)).map (fun a => (a, .inl (cy, z)))) := by
    have hD1 := hD.push (e := .inl (cA, n.toNatClampNeg, .inr (.inr (.inr (.inr (fun i => if i < n.toNatClampNeg then some (H.size + 1 + i) else none)))))) hP rfl (hA _ hS.1)
    generalize hW1 : (X ++ va_pl L f) ++ [(H.size, .inl (cA, n.toNatClampNeg, .inr (.inr (.inr (.inr (fun i => if i < n.toNatClampNeg then some (H.size + 1 + i) else none))))))] = W1 at hD1 hP1 ⊢
    have hle : ∀ (k9 : Nat) (x : Nat × va_E), W1[k9]? = some x → x.1 ≤ H.size := fun k9 x hx => by
      rw [← hW1] at hx
      by_cases hl : k9 < (X ++ va_pl L f).length
      · rw [List.getElem?_append_left hl] at hx
        exact Nat.le_of_lt ((hP k9 x hx).lt)
      · rw [List.getElem?_append_right (by omega)] at hx
        have h0 : k9 - (X ++ va_pl L f).length < 1 := (List.getElem?_eq_some_iff.mp hx).1
        rw [show k9 - (X ++ va_pl L f).length = 0 by omega] at hx
        cases hx
        exact Nat.le_refl _
    have hr : ∀ (k9 : Nat) (x : Nat × va_E), (((List.range n.toNatClampNeg).map (fun i => H.size + 1 + i)).map (fun a => ((a, .inl (cy, z)) : Nat × va_E)))[k9]? = some x → x.1 = H.size + 1 + k9 := fun k9 x hx => by
      rw [List.getElem?_map, List.getElem?_map] at hx
      by_cases h9 : k9 < n.toNatClampNeg
      · rw [List.getElem?_range h9] at hx
        cases hx
        rfl
      · have hn0 : (List.range n.toNatClampNeg)[k9]? = none := List.getElem?_eq_none (by rw [List.length_range]; omega)
        rw [hn0] at hx
        cases hx
    refine ⟨fun i j x y hi hj hxy => ?_, fun k9 x hx => ?_⟩
    · by_cases h1 : i < W1.length <;> by_cases h2 : j < W1.length
      · rw [List.getElem?_append_left h1] at hi
        rw [List.getElem?_append_left h2] at hj
        exact hD1.1 i j x y hi hj hxy
      · rw [List.getElem?_append_left h1] at hi
        rw [List.getElem?_append_right (by omega)] at hj
        have := hle _ _ hi
        have := hr _ _ hj
        omega
      · rw [List.getElem?_append_right (by omega)] at hi
        rw [List.getElem?_append_left h2] at hj
        have := hle _ _ hj
        have := hr _ _ hi
        omega
      · rw [List.getElem?_append_right (by omega)] at hi hj
        have := hr _ _ hi
        have := hr _ _ hj
        omega
    · by_cases h1 : k9 < W1.length
      · rw [List.getElem?_append_left h1] at hx
        exact hD1.2 k9 x hx
      · rw [List.getElem?_append_right (by omega)] at hx
        have := hr _ _ hx
        exact hA _ (by have := hS.1; omega)
  have hAr : ArrOfT s cA (.array ty) := fun N9 z9 => by
    obtain ⟨-, k9, hk9, cm9, hkk9⟩ := (hO 0 0 0).1
    exact ⟨(fun q hq => by cases hq), k9, hk9, cm9, hkk9⟩
  have hK2 : va_K D cl (tys ++ [(cA, .array ty)]) s := ⟨hK.1, fun k9 x hx => by
    by_cases hl : k9 < tys.length
    · rw [List.getElem?_append_left hl] at hx
      exact hK.2 k9 x hx
    · rw [List.getElem?_append_right (by omega)] at hx
      have h0 : k9 - tys.length < 1 := (List.getElem?_eq_some_iff.mp hx).1
      rw [show k9 - tys.length = 0 by omega] at hx
      cases hx
      exact ⟨hAr, fA⟩⟩
  obtain ⟨t, a1, b1⟩ := kk H.size (fun i => H.size + 1 + i) cA F.heap (fun i j _ _ h => by have h9 : H.size + 1 + i = H.size + 1 + j := h; omega) hnl hK2 (by rw [← vr_rows hnm]; exact vr_lay hP2) (by rw [← vr_rows hnm]; exact vr_layD hD2) ⟨by rw [f1]; have := hS.1; omega, fun x h1 h2 => (hold x (Nat.lt_of_lt_of_le h1 hS.1)).trans (hS.2.1 x h1 h2), hS.2.2⟩ F rfl X'
  refine ⟨t, step t ?_, b1⟩
  have e : T.heap.size = H.size := by rw [hT]
  rw [e]
  exact a1
end VGM
/-! ===== END ===== -/
def tyC (cs : Nat → ClassId) : List (ClassId × FieldType) := [(cs 0, .int), (cs 1, .boolean), (cs 2, .array .int), (cs 3, .object "WaterTwice$Fraction"), (cs 4, .long)]
def kC (D : va_G) (cs : Nat → ClassId) (b0 : Nat) (U : State) : Prop := va_K D vwCl (tyC cs) U ∧ nsX U ∧ va_AO "WaterTwice$Fraction" U ∧ va_AOA .int U ∧ b0 ≤ U.heap.size
def kA (b0 : Nat) : Nat → Prop := fun q => b0 ≤ q
def kI (D : va_G) (cs : Nat → ClassId) (b0 : Nat) (ws : va_W) (U : State) : Prop := va_P D vwCl ws U.heap ∧ va_D (kA b0) ws ∧ kC D cs b0 U
def kB (D : va_G) (b0 : Nat) {S : Type} (wf : S → va_W) (u : S) (t : State) : Prop := va_P D vwCl (wf u) t.heap ∧ va_D (kA b0) (wf u)
theorem kC_call {D : va_G} {cs : Nat → ClassId} {b0 : Nat} {U : State} (g : JFrame) (mk : MethodId) (a : Array Value) (h : kC D cs b0 U) : kC D cs b0 (U.calling g mk a) := by
  obtain ⟨h1, h2, h3, h4, h5⟩ := h
  exact ⟨va_K.moved (u := U) (U := U.calling g mk a) (Vm.Alike.refl U.vm) h1, nsX_same (u := U) (U := U.calling g mk a) rfl h2, va_AO.moved (u := U) (U := U.calling g mk a) (Vm.Alike.refl U.vm) h3, va_AOA.moved (u := U) (U := U.calling g mk a) (Vm.Alike.refl U.vm) h4, h5⟩
theorem kC_warm {D : va_G} {cs : Nat → ClassId} {b0 : Nat} {s U : State} {H : Heap} {locs : List Loc} (h : kC D cs b0 s) (hU : U.heap = H) (hW : s.WarmedH U.vm) (hS : va_S (kA b0) s.heap H locs) : kC D cs b0 U := by
  obtain ⟨h1, h2, h3, h4, h5⟩ := h
  exact ⟨va_K.moved hW.alike h1, nsX_warm hW h2, va_AO.moved hW.alike h3, va_AOA.moved hW.alike h4, by rw [hU]; exact Nat.le_trans h5 hS.1⟩
theorem kI_blind {D : va_G} {cs : Nat → ClassId} {b0 : Nat} {ws : va_W} (av : List Value) : FrameBlind (va_Pc av (kI D cs b0 ws)) := fun _ _ _ _ q => ⟨q.1, q.2.1, q.2.2.1, kC_call _ _ _ q.2.2.2⟩
theorem va_RA_one {U : State} {a b : ClassId} {ty : FieldType} (h1 : va_RA U a ty) (h2 : va_RA U b ty) : a = b := by
  cases ty with
  | object C =>
    obtain ⟨_, _, _, _, _, e1⟩ := h1
    obtain ⟨_, _, _, _, _, e2⟩ := h2
    exact Option.some.inj (e1.symm.trans e2)
  | _ => exact Option.some.inj (Eq.trans (Eq.symm h1) h2)
theorem set_app {α : Type} {X L : List α} {j : Nat} {v : α} : (X ++ L).set (X.length + j) v = X ++ L.set j v := by
  rw [List.set_append_right _ _ (by omega), Nat.add_sub_cancel_left]
theorem get_app {α : Type} {X L : List α} {j : Nat} {v : α} (h : L[j]? = some v) : (X ++ L)[X.length + j]? = some v := by
  rw [List.getElem?_append_right (by omega), Nat.add_sub_cancel_left]
  exact h
theorem last_ty {tys : List (ClassId × FieldType)} {x : ClassId × FieldType} : (tys ++ [x])[tys.length]? = some x := by
  rw [List.getElem?_append_right (Nat.le_refl _), Nat.sub_self]
  rfl
section KR
variable {p : Program} {l : Launch} {e : Env} {R : Room} {s : State} {m : MethodId} {args : Array Value} {below : List Frame} {meth : Method} {c : Code} {H : Heap} {locs : List Loc} {cells slots : Nat} {Q : State → Prop}
variable {D : va_G} {cs : Nat → ClassId} {b0 : Nat} {X L : va_W} {cc : ByteArray} {pc : Nat} {own : String} {rest : List Value} {ls : Array Slot} {index : Nat} {a : Nat}
theorem k_fresh {A : Nat → Prop} {b0 : Nat} {s : State} (h : b0 ≤ s.heap.size) : ∀ q, s.heap.size ≤ q → kA b0 q := fun q hq => Nat.le_trans h hq
theorem k_newa {atype : ArrayType} {ty : FieldType} {cA : ClassId} {n : Int32} {N' : Nat} {a0 : vp_A} (hexec : p.tables.exec = Jvm.exec) (hb : c.code = cc) (harr : (Cond.arrayClass (newarray.typeOf atype)).before args s = true) (hty : newarray.typeOf atype = ty) (hC : kC D cs b0 s) (hP : va_P D vwCl (X ++ L) H) (hD : va_D (kA b0) (X ++ L)) (hS : va_S (kA b0) s.heap H locs)
    (i : Nat) (hi : (tyC cs)[i]? = some (cA, ty)) (ha : ∀ cA : ClassId, vp_cell cA a0 = arrV cA N' (fun _ => defaultValue ty)) (hn : ¬ n < 0) (hN : n.toNatClampNeg = N') (hbytes : N' * componentBytes ty ≤ 536870912) (hcells : cells + 1 ≤ R.cells) (hslots : slots + N' ≤ R.slots) (hdg : decode cc pc = .ok (.newarray atype, 2))
    (kk : ∀ (q : Nat) (H : Heap), va_P D vwCl (X ++ (L ++ [(q, .inl (cA, a0))])) H → va_D (kA b0) (X ++ (L ++ [(q, .inl (cA, a0))])) → va_S (kA b0) s.heap H locs → W p l e R s m args below meth c H locs (cells + 1) (slots + N') Q (F0 m (pc + 2) ls (.ref q :: rest))) : W p l e R s m args below meth c H locs cells slots Q (F0 m pc ls (.int n :: rest)) := by
  refine va_newa hexec hb harr hty hC.1 hP hD hS (k_fresh (A := kA b0) hC.2.2.2.2) ha hn hN hbytes hcells hslots hdg (fun q cB H1 hK1 hP1 hD1 hS1 => ?_)
  have e1 : cB = cA := va_RA_one (hK1.2 _ _ last_ty).2 (hC.1.2 i _ hi).2
  subst e1
  rw [List.append_assoc] at hP1 hD1
  exact kk q H1 hP1 hD1 hS1
theorem k_newq {C : String} {cA : ClassId} {n : Int32} {N' : Nat} (hexec : p.tables.exec = Jvm.exec) (hb : c.code = cc) (hown : s.vm.findClass own = some m.cls) (hclink : (Cond.classLink own index C).before args s = true) (hover : va_AO C s) (hC : kC D cs b0 s) (hP : va_P D vwCl (X ++ L) H) (hD : va_D (kA b0) (X ++ L)) (hS : va_S (kA b0) s.heap H locs)
    (i : Nat) (hi : (tyC cs)[i]? = some (cA, .object C)) (hn : ¬ n < 0) (hN : n.toNatClampNeg = N') (hbytes : N' * 4 ≤ 536870912) (hcells : cells + 1 ≤ R.cells) (hslots : slots + N' ≤ R.slots) (hdg : decode cc pc = .ok (.anewarray index, 3))
    (kk : ∀ (q : Nat) (H : Heap), va_P D vwCl (X ++ (L ++ [(q, .inl (cA, N', .inr (.inr (.inr (.inr (fun _ => none))))))])) H → va_D (kA b0) (X ++ (L ++ [(q, .inl (cA, N', .inr (.inr (.inr (.inr (fun _ => none))))))])) → va_S (kA b0) s.heap H locs → W p l e R s m args below meth c H locs (cells + 1) (slots + N') Q (F0 m (pc + 3) ls (.ref q :: rest))) : W p l e R s m args below meth c H locs cells slots Q (F0 m pc ls (.int n :: rest)) := by
  refine va_newq hexec hb hown hclink hover hC.1 hP hD hS (k_fresh (A := kA b0) hC.2.2.2.2) hn hN hbytes hcells hslots hdg (fun q cB H1 hK1 hP1 hD1 hS1 => ?_)
  have e1 : cB = cA := va_RA_one (hK1.2 _ _ last_ty).2 (hC.1.2 i _ hi).2
  subst e1
  rw [List.append_assoc] at hP1 hD1
  exact kk q H1 hP1 hD1 hS1
theorem k_mna {n k : Int32} (hexec : p.tables.exec = Jvm.exec) (hb : c.code = cc) (hown : s.vm.findClass own = some m.cls) (hclink : (Cond.classLink own index "[[I").before args s = true) (harr : (Cond.arrayClass .int).before args s = true) (hC : kC D cs b0 s) (hP : va_P D vwCl (X ++ L) H) (hD : va_D (kA b0) (X ++ L)) (hS : va_S (kA b0) s.heap H locs)
    (hn : n = 5) (hk : k = 5) (hcells : cells + 6 ≤ R.cells) (hslots : slots + 30 ≤ R.slots) (hdg : decode cc pc = .ok (.multianewarray index 2, 4))
    (kk : ∀ (q r0 r1 r2 r3 r4 : Nat) (H : Heap), va_P D vwCl (X ++ (L ++ [(q, .inl (cs 2, 5, .inr (.inr (.inr (.inr (fun i => [some r0, some r1, some r2, some r3, some r4].getD i none)))))), (r0, .inl (cs 0, 5, .inl (fun _ => 0))), (r1, .inl (cs 0, 5, .inl (fun _ => 0))), (r2, .inl (cs 0, 5, .inl (fun _ => 0))), (r3, .inl (cs 0, 5, .inl (fun _ => 0))), (r4, .inl (cs 0, 5, .inl (fun _ => 0)))])) H → va_D (kA b0) (X ++ (L ++ [(q, .inl (cs 2, 5, .inr (.inr (.inr (.inr (fun i => [some r0, some r1, some r2, some r3, some r4].getD i none)))))), (r0, .inl (cs 0, 5, .inl (fun _ => 0))), (r1, .inl (cs 0, 5, .inl (fun _ => 0))), (r2, .inl (cs 0, 5, .inl (fun _ => 0))), (r3, .inl (cs 0, 5, .inl (fun _ => 0))), (r4, .inl (cs 0, 5, .inl (fun _ => 0)))])) → va_S (kA b0) s.heap H locs → W p l e R s m args below meth c H locs (cells + 6) (slots + 30) Q (F0 m (pc + 4) ls (.ref q :: rest))) : W p l e R s m args below meth c H locs cells slots Q (F0 m pc ls (.int k :: .int n :: rest)) := by
  subst hn
  subst hk
  have hP0 : va_P D vwCl ((X ++ L) ++ va_pl [] (fun _ => .inr (0, []))) H := by
    show va_P D vwCl ((X ++ L) ++ []) H
    rw [List.append_nil]; exact hP
  have hD0 : va_D (kA b0) ((X ++ L) ++ va_pl [] (fun _ => .inr (0, []))) := by
    show va_D (kA b0) ((X ++ L) ++ [])
    rw [List.append_nil]; exact hD
  refine va_mna (ty := .int) (N' := 5) (K' := 5) (z := (5, .inl (fun _ => 0))) hexec hb hown hclink hC.2.2.2.1 harr (hC.1.2 0 _ rfl).2 hC.1 hP0 hD0 hS (k_fresh (A := kA b0) hC.2.2.2.2) (by decide) (by decide) rfl rfl (by decide) (by decide) (by decide) (by decide) (by decide) hcells hslots (fun cA => by rw [vp_cell_i]; rfl) hdg (fun q r cB H1 _ _ hK1 hP1 hD1 hS1 => ?_)
  have e1 : cB = cs 2 := va_RA_one (hK1.2 _ _ last_ty).2 (hC.1.2 2 _ rfl).2
  subst e1
  have e2 : (X ++ L ++ [(q, (.inl (cs 2, 5, .inr (.inr (.inr (.inr (fun i => if i < 5 then some (r i) else none))))) : va_E))]) ++ va_pl ([] ++ (List.range 5).map r) (vr_up (fun _ => .inr (0, [])) ((List.range 5).map r) (.inl (cs 0, (5, .inl (fun _ => 0))))) = X ++ (L ++ [(q, .inl (cs 2, 5, .inr (.inr (.inr (.inr (fun i => [some (r 0), some (r 1), some (r 2), some (r 3), some (r 4)].getD i none)))))), (r 0, .inl (cs 0, 5, .inl (fun _ => 0))), (r 1, .inl (cs 0, 5, .inl (fun _ => 0))), (r 2, .inl (cs 0, 5, .inl (fun _ => 0))), (r 3, .inl (cs 0, 5, .inl (fun _ => 0))), (r 4, .inl (cs 0, 5, .inl (fun _ => 0)))]) := by
    have e3 : (fun i => if i < 5 then some (r i) else none) = (fun i => [some (r 0), some (r 1), some (r 2), some (r 3), some (r 4)].getD i none) := by
      funext i
      rcases i with _ | _ | _ | _ | _ | i
      · rfl
      · rfl
      · rfl
      · rfl
      · rfl
      · rw [if_neg (by omega)]; rfl
    rw [e3, List.append_assoc, List.append_assoc]
    congr 2
    show _ :: va_pl [r 0, r 1, r 2, r 3, r 4] _ = _
    unfold va_pl
    simp [vr_up, List.range, List.range.loop]
  rw [e2] at hP1 hD1
  exact kk q (r 0) (r 1) (r 2) (r 3) (r 4) H1 hP1 hD1 hS1
theorem k_new {C : String} {T : u_T} {N ci : Nat} {fs : List Value} (hexec : p.tables.exec = Jvm.exec) (hb : c.code = cc) (hg : ∀ w ∈ wsG, w.before args s = true) (hin : ∀ w ∈ u_ws C T N, w ∈ wsG) (ty : Nat → FieldType) (hty : ∀ k, k < N → parseFieldDescriptor (T k).2.2.1 = some (ty k)) (hown : s.vm.findClass own = some m.cls) (hcl : (Cond.classLink own index C).before args s = true) (hinst : (Cond.instantiable C N).before args s = true) (hini : (Cond.initialized C).before args s = true)
    (hC : kC D cs b0 s) (hP : va_P D vwCl (X ++ L) H) (hD : va_D (kA b0) (X ++ L)) (hS : va_S (kA b0) s.heap H locs) (hc : vwCl[ci]? = some (C, T, N)) (hfs : ∀ j, j < N → defaultValue (ty j) = vp_V fs j) (hcells : cells + 1 ≤ R.cells) (hslots : slots + N ≤ R.slots) (hdg : decode cc pc = .ok (.new index, 3))
    (kk : ∀ (q : Nat) (H : Heap), va_P D vwCl (X ++ (L ++ [(q, .inr (ci, fs))])) H → va_D (kA b0) (X ++ (L ++ [(q, .inr (ci, fs))])) → va_S (kA b0) s.heap H locs → W p l e R s m args below meth c H locs (cells + 1) (slots + N) Q (F0 m (pc + 3) ls (.ref q :: rest))) : W p l e R s m args below meth c H locs cells slots Q (F0 m pc ls rest) := by
  refine va_new hexec hb hg hin ty hty hown hcl hinst hini hC.1 hP hD hS (k_fresh (A := kA b0) hC.2.2.2.2) hc hfs hcells hslots hdg (fun q H1 hP1 hD1 hS1 => ?_)
  rw [List.append_assoc] at hP1 hD1
  exact kk q H1 hP1 hD1 hS1
theorem k_putF {C : String} {T : u_T} {N ci k : Nat} {fs : List Value} {ty : FieldType} {v : Value} (hexec : p.tables.exec = Jvm.exec) (hb : c.code = cc) (hg : ∀ w ∈ wsG, w.before args s = true) (hin : ∀ w ∈ u_ws C T N, w ∈ wsG) (ty0 : Nat → FieldType) (hty : ∀ k, k < N → parseFieldDescriptor (T k).2.2.1 = some (ty0 k)) (hnm : ∀ a, a < N → ∀ b, b < N → a ≠ b → (T a).2.1 ≠ (T b).2.1) (hown : s.vm.findClass own = some m.cls) (hC : kC D cs b0 s) (hP : va_P D vwCl (X ++ L) H) (hD : va_D (kA b0) (X ++ L)) (hS : va_S (kA b0) s.heap H locs)
    (he : L[0]? = some (a, .inr (ci, fs))) (hc : vwCl[ci]? = some (C, T, N)) (hk : k < N) (hlink : (Cond.fieldLink own index C (T k).2.1 (T k).2.2.1).before args s = true) (hsame : (T k).1 = C) (hfin : (T k).2.2.2 = true) (hin2 : meth.name = "<init>") (hdecl : (T k).1 = own) (hd : parseFieldDescriptor (T k).2.2.1 = some ty) (hn : narrow ty v = v) (hfit : fits ty v = true) (hl : k < fs.length) (hdg : decode cc pc = .ok (.putfield index, 3))
    (kk : ∀ (H : Heap) (locs : List Loc), va_P D vwCl (X ++ L.set 0 (a, .inr (ci, fs.set k v))) H → va_D (kA b0) (X ++ L.set 0 (a, .inr (ci, fs.set k v))) → va_S (kA b0) s.heap H locs → W p l e R s m args below meth c H locs cells slots Q (F0 m (pc + 3) ls rest)) : W p l e R s m args below meth c H locs cells slots Q (F0 m pc ls (v :: .ref a :: rest)) := by
  refine va_putF hexec hb hg hin ty0 hty hnm hown hC.1 hP hD hS (X.length + 0) (get_app he) hc k hk hlink (fun x h9 => by rw [hsame] at h9; exact h9) hfin hin2 hdecl hd hn hfit hl hdg (fun H1 locs1 hP1 hD1 hS1 => ?_)
  rw [set_app] at hP1 hD1
  exact kk H1 locs1 hP1 hD1 hS1
theorem k_put {C : String} {T : u_T} {N ci k : Nat} {fs : List Value} {ty : FieldType} {v : Value} (hexec : p.tables.exec = Jvm.exec) (hb : c.code = cc) (hg : ∀ w ∈ wsG, w.before args s = true) (hin : ∀ w ∈ u_ws C T N, w ∈ wsG) (ty0 : Nat → FieldType) (hty : ∀ k, k < N → parseFieldDescriptor (T k).2.2.1 = some (ty0 k)) (hnm : ∀ a, a < N → ∀ b, b < N → a ≠ b → (T a).2.1 ≠ (T b).2.1) (hown : s.vm.findClass own = some m.cls) (hC : kC D cs b0 s) (hP : va_P D vwCl (X ++ L) H) (hD : va_D (kA b0) (X ++ L)) (hS : va_S (kA b0) s.heap H locs)
    (he : L[0]? = some (a, .inr (ci, fs))) (hc : vwCl[ci]? = some (C, T, N)) (hk : k < N) (hlink : (Cond.fieldLink own index C (T k).2.1 (T k).2.2.1).before args s = true) (hsame : (T k).1 = C) (hfin : (T k).2.2.2 = false) (hd : parseFieldDescriptor (T k).2.2.1 = some ty) (hn : narrow ty v = v) (hfit : fits ty v = true) (hl : k < fs.length) (hdg : decode cc pc = .ok (.putfield index, 3))
    (kk : ∀ (H : Heap) (locs : List Loc), va_P D vwCl (X ++ L.set 0 (a, .inr (ci, fs.set k v))) H → va_D (kA b0) (X ++ L.set 0 (a, .inr (ci, fs.set k v))) → va_S (kA b0) s.heap H locs → W p l e R s m args below meth c H locs cells slots Q (F0 m (pc + 3) ls rest)) : W p l e R s m args below meth c H locs cells slots Q (F0 m pc ls (v :: .ref a :: rest)) := by
  refine va_put hexec hb hg hin ty0 hty hnm hown hC.1 hP hD hS (X.length + 0) (get_app he) hc k hk hlink (fun x h9 => by rw [hsame] at h9; exact h9) hfin hd hn hfit hl hdg (fun H1 locs1 hP1 hD1 hS1 => ?_)
  rw [set_app] at hP1 hD1
  exact kk H1 locs1 hP1 hD1 hS1
theorem k_get {C : String} {T : u_T} {N ci k : Nat} {fs : List Value} {v : Value} (hexec : p.tables.exec = Jvm.exec) (hb : c.code = cc) (hg : ∀ w ∈ wsG, w.before args s = true) (hin : ∀ w ∈ u_ws C T N, w ∈ wsG) (hown : s.vm.findClass own = some m.cls) (hC : kC D cs b0 s) (hP : va_P D vwCl (X ++ L) H)
    (he : L[0]? = some (a, .inr (ci, fs))) (hc : vwCl[ci]? = some (C, T, N)) (hk : k < N) (hlink : (Cond.fieldLink own index C (T k).2.1 (T k).2.2.1).before args s = true) (hsame : (T k).1 = C) (hv : fs[k]? = some v) (hdg : decode cc pc = .ok (.getfield index, 3))
    (kk : W p l e R s m args below meth c H locs cells slots Q (F0 m (pc + 3) ls (v :: rest))) : W p l e R s m args below meth c H locs cells slots Q (F0 m pc ls (.ref a :: rest)) :=
  va_get hexec hb hg hin hown hC.1 hP (X.length + 0) (get_app he) hc k hk hlink (fun x h9 => by rw [hsame] at h9; exact h9) hv hdg kk
theorem k_iast {j n : Nat} {i x : Int32} {f : Nat → Int32} (hexec : p.tables.exec = Jvm.exec) (hb : c.code = cc) (hC : kC D cs b0 s) (hP : va_P D vwCl (X ++ L) H) (hD : va_D (kA b0) (X ++ L)) (hS : va_S (kA b0) s.heap H locs) (he : L[j]? = some (a, .inl (cs 0, n, .inl f))) (hin : vin i n = true) (hdg : decode cc pc = .ok (.iastore, 1))
    (kk : ∀ (H : Heap) (locs : List Loc), va_P D vwCl (X ++ L.set j (a, .inl (cs 0, n, .inl (upd f i.toNatClampNeg x)))) H → va_D (kA b0) (X ++ L.set j (a, .inl (cs 0, n, .inl (upd f i.toNatClampNeg x)))) → va_S (kA b0) s.heap H locs → W p l e R s m args below meth c H locs cells slots Q (F0 m (pc + 1) ls rest)) : W p l e R s m args below meth c H locs cells slots Q (F0 m pc ls (.int x :: .int i :: .ref a :: rest)) := by
  refine va_iast hexec hb hC.1 hP hD hS (X.length + j) 0 (get_app he) rfl (vin_ok hin) hdg (fun H1 locs1 hP1 hD1 hS1 => ?_)
  rw [set_app] at hP1 hD1
  exact kk H1 locs1 hP1 hD1 hS1
theorem k_ast {j qk n v ti : Nat} {i : Int32} {f : Nat → Option Nat} {vs : List Value} (hexec : p.tables.exec = Jvm.exec) (hb : c.code = cc) (hC : kC D cs b0 s) (hP : va_P D vwCl (X ++ L) H) (hD : va_D (kA b0) (X ++ L)) (hS : va_S (kA b0) s.heap H locs) (he : L[j]? = some (a, .inl (cs 3, n, .inr (.inr (.inr (.inr f)))))) (hv : L[qk]? = some (v, .inr (1, vs))) (hin : vin i n = true) (hi : i.toNatClampNeg = ti) (hdg : decode cc pc = .ok (.aastore, 1))
    (kk : ∀ (H : Heap) (locs : List Loc), va_P D vwCl (X ++ L.set j (a, .inl (cs 3, n, .inr (.inr (.inr (.inr (va_up f ti (some v)))))))) H → va_D (kA b0) (X ++ L.set j (a, .inl (cs 3, n, .inr (.inr (.inr (.inr (va_up f ti (some v)))))))) → va_S (kA b0) s.heap H locs → W p l e R s m args below meth c H locs cells slots Q (F0 m (pc + 1) ls rest)) : W p l e R s m args below meth c H locs cells slots Q (F0 m pc ls (.ref v :: .int i :: .ref a :: rest)) := by
  subst hi
  refine va_astq hexec hb hC.1 hP hD hS (X.length + j) 3 (X.length + qk) 1 (get_app he) (r := (RX2, TX2, 2)) rfl (get_app hv) rfl (vin_ok hin) hdg (fun H1 locs1 hP1 hD1 hS1 => ?_)
  rw [set_app] at hP1 hD1
  exact kk H1 locs1 hP1 hD1 hS1
variable {Ts : List Cond} {nL maxL mc ms b : Nat} {y : MethodName} {bytes : ByteArray} {rm : Room} {As st0 : List Value} {S : Type} {wf : S → va_W} {host : String}
theorem kcI (n : Nat) (hC : kC D cs b0 s) (F : CallFix p m c cc nL s args Ts own)
    (hM : Met l y (Cond.code y bytes maxL none :: wsG) rm (va_Pc (Value.ref b :: As) (kI D cs b0 (X ++ L))) (va_Qv (fun (_ : S) => True) (kB D b0 wf) (kA b0)) mc ms (kA b0))
    (hT : GoodIn Ts (Cond.code y bytes maxL none :: wsG)) (k1 : Cond.methodLink own index y ∈ wsG) (k2 : Cond.instanceMethod y ∈ wsG) (k4 : Cond.initialized y.cls ∈ wsG) (hy : y.name = "<init>")
    (hd : y.cls ≠ "java/lang/invoke/MethodHandle" ∧ y.cls ≠ "java/lang/invoke/VarHandle" ∧ (parseMethodDescriptor y.desc).map (fun d => d.parameters.length) = some n) (hr0 : rm.cells = mc ∧ rm.slots = ms) (hR : rm.frames + 1 ≤ R.frames ∧ 8 + (maxL + 11) + rm.locals ≤ R.locals)
    (hP : va_P D vwCl (X ++ L) H) (hD : va_D (kA b0) (X ++ L)) (hS : va_S (kA b0) s.heap H locs) (hcs : cells + mc ≤ R.cells ∧ slots + ms ≤ R.slots) (hn : As.length = n) (hsz : ls.size = nL) (hst : st0 = As.reverse ++ .ref b :: rest) (hrm : (rest.map fun v => v.category).sum ≤ 8) (hdg : decode cc pc = .ok (.invokespecial index, 3))
    (kk : ∀ (u : S) (H : Heap) (locs : List Loc), va_P D vwCl (wf u) H → va_D (kA b0) (wf u) → va_S (kA b0) s.heap H locs → W p l e R s m args below meth c H locs (cells + mc) (slots + ms) Q (F0 m (pc + 3) ls rest)) : W p l e R s m args below meth c H locs cells slots Q (F0 m pc ls st0) := by
  have ok : ∀ w ∈ wsG, w.before args s = true := fun w h => F.2.2.2.2 w (hT w (List.mem_cons_of_mem _ h)).1
  refine va_callv (va_runI (As := As) (rest := rest) F hM ⟨callB_of n F.2.2.2.2 hT rfl hr0.1 hr0.2 (ok _ k4) (ok _ k1) hd hR, hy, ok _ k2⟩ ⟨kI_blind _, fun U hU hW => ⟨rfl, by rw [hU]; exact hP, hD, kC_warm hC hU hW hS⟩⟩ rfl hn hsz hst (lv_room hrm) hdg hcs) hS (fun q _ h => h) (fun q h => h) (fun u t H1 locs1 ht hvm hp hB hz hk hS1 => ?_)
  exact kk u H1 locs1 (by rw [← ht]; exact hB.1) hB.2 hS1
theorem kcN (n : Nat) (hC : kC D cs b0 s) (F : CallFix p m c cc nL s args Ts own)
    (hM : Met l y (Cond.code y bytes maxL none :: wsG) rm (va_Pc (Value.ref b :: As) (kI D cs b0 (X ++ L))) (va_Qv (fun (_ : S) => True) (kB D b0 wf) (kA b0)) mc ms (kA b0))
    (hT : GoodIn Ts (Cond.code y bytes maxL none :: wsG)) (k1 : Cond.methodLinkNest own index y host ∈ nestW) (k2 : Cond.instanceMethod y ∈ wsG) (k4 : Cond.initialized y.cls ∈ wsG) (hy : y.name = "<init>")
    (hd : y.cls ≠ "java/lang/invoke/MethodHandle" ∧ y.cls ≠ "java/lang/invoke/VarHandle" ∧ (parseMethodDescriptor y.desc).map (fun d => d.parameters.length) = some n) (hr0 : rm.cells = mc ∧ rm.slots = ms) (hR : rm.frames + 1 ≤ R.frames ∧ 8 + (maxL + 11) + rm.locals ≤ R.locals)
    (hP : va_P D vwCl (X ++ L) H) (hD : va_D (kA b0) (X ++ L)) (hS : va_S (kA b0) s.heap H locs) (hcs : cells + mc ≤ R.cells ∧ slots + ms ≤ R.slots) (hn : As.length = n) (hsz : ls.size = nL) (hst : st0 = As.reverse ++ .ref b :: rest) (hrm : (rest.map fun v => v.category).sum ≤ 8) (hdg : decode cc pc = .ok (.invokespecial index, 3))
    (kk : ∀ (u : S) (H : Heap) (locs : List Loc), va_P D vwCl (wf u) H → va_D (kA b0) (wf u) → va_S (kA b0) s.heap H locs → W p l e R s m args below meth c H locs (cells + mc) (slots + ms) Q (F0 m (pc + 3) ls rest)) : W p l e R s m args below meth c H locs cells slots Q (F0 m pc ls st0) := by
  have ok : ∀ w ∈ wsG, w.before args s = true := fun w h => F.2.2.2.2 w (hT w (List.mem_cons_of_mem _ h)).1
  refine va_callv (va_runIN (As := As) (rest := rest) F hM ⟨va_cnB (host := host) n F.2.2.2.2 hT rfl hr0.1 hr0.2 (hC.2.1 _ k1) (ok _ k4) hd hR, hy, ok _ k2⟩ ⟨kI_blind _, fun U hU hW => ⟨rfl, by rw [hU]; exact hP, hD, kC_warm hC hU hW hS⟩⟩ rfl hn hsz hst (lv_room hrm) hdg hcs) hS (fun q _ h => h) (fun q h => h) (fun u t H1 locs1 ht hvm hp hB hz hk hS1 => ?_)
  exact kk u H1 locs1 (by rw [← ht]; exact hB.1) hB.2 hS1
end KR
