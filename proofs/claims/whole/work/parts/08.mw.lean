/-! the reference's cells: int rows 0 .. 11 (0 load, 1 in, 2 out, 3 lag, 4 rules, 5 fresh, 6 pipe, 7 isTaken, 8 hits, 9 store, 10 sign, 11 reading), long rows 12 .. 15 (upper, lower, comesUpper, comesLower), 16 the object -/
abbrev UM : Type := (Nat → Nat → Int32) × (Nat → Nat → Int64) × Int64 × Int32 × Int32
def lm (k : Nat) : Nat := if k = 4 then 3 else if k = 6 then 25 else if k = 9 then 48 else if k = 10 then 8 else if k = 11 then 8 else 5
def me (am : Nat → Nat) (cm : Nat → ClassId) (v : UM) (k : Nat) : va_E :=
  if k < 12 then .inl (if k = 7 then cm 1 else cm 0, lm k, .inl (v.1 k))
  else if k < 16 then .inl (cm 2, 5, .inr (.inl (v.2.1 k)))
  else .inr (7, [.int 0, .long v.2.2.1, .int v.2.2.2.1, .ref (am 0), .ref (am 1), .ref (am 2), .ref (am 3), .ref (am 4), .ref (am 5), .ref (am 6), .ref (am 12), .ref (am 13), .ref (am 14), .ref (am 15), .ref (am 7), .ref (am 8), .ref (am 9), .int v.2.2.2.2, .ref (am 10), .ref (am 11)])
def wM (am : Nat → Nat) (cm : Nat → ClassId) (v : UM) : va_W := (List.range 17).map (fun k => (am k, me am cm v k))
abbrev tyM (cm : Nat → ClassId) : List (ClassId × FieldType) := [(cm 0, .int), (cm 1, .boolean), (cm 2, .long)]
def AM (am : Nat → Nat) : Nat → Prop := fun q => ∃ k, k < 17 ∧ q = am k
def MJ (am : Nat → Nat) : Prop := ∀ i j, i < 17 → j < 17 → am i = am j → i = j
def mC (D : va_G) (am : Nat → Nat) (cm : Nat → ClassId) (s : State) : Prop := va_K D vwCl (tyM cm) s ∧ MJ am
section MW
variable {am : Nat → Nat} {cm : Nat → ClassId} {v : UM} {D : va_G}
theorem wM_at {k : Nat} (h : k < 17) : (wM am cm v)[k]? = some (am k, me am cm v k) := by
  unfold wM
  rw [List.getElem?_map, List.getElem?_range h]
  rfl
theorem wM_of {k : Nat} {q : Nat × va_E} (h : (wM am cm v)[k]? = some q) : k < 17 ∧ q = (am k, me am cm v k) := by
  have hk : k < 17 := by
    have := (List.getElem?_eq_some_iff.mp h).1
    simpa [wM] using this
  rw [wM_at hk] at h
  cases h
  exact ⟨hk, rfl⟩
theorem wM_D (hJ : MJ am) : va_D (AM am) (wM am cm v) := by
  refine ⟨fun i j p q hi hj hpq => ?_, fun k q hk => ?_⟩
  · obtain ⟨h1, rfl⟩ := wM_of hi
    obtain ⟨h2, rfl⟩ := wM_of hj
    exact hJ i j h1 h2 hpq
  · obtain ⟨h1, rfl⟩ := wM_of hk
    exact ⟨k, h1, rfl⟩
theorem wM_set {k : Nat} {e : va_E} {v1 : UM} (hk : k < 17) (h1 : me am cm v1 k = e) (h2 : ∀ j, j < 17 → j ≠ k → me am cm v1 j = me am cm v j) : (wM am cm v).set k (am k, e) = wM am cm v1 := by
  apply List.ext_getElem?
  intro j
  by_cases hj : j < 17
  · rw [wM_at hj]
    by_cases e1 : j = k
    · subst e1
      rw [List.getElem?_set_self (by simp [wM]; omega), h1]
    · rw [List.getElem?_set_ne (Ne.symm e1), wM_at hj, h2 j hj e1]
  · rw [List.getElem?_eq_none (by simp [wM]; omega), List.getElem?_eq_none (by simp [wM]; omega)]
theorem mC_ok (D : va_G) (am : Nat → Nat) (cm : Nat → ClassId) (hJ : MJ am) : WSok D (wM am cm) (AM am) (mC D am cm) := by
  refine ⟨fun u => wM_D hJ, fun U g mk a h => ?_, fun s U H locs h hU hW hS => ?_⟩
  · obtain ⟨h1, h2⟩ := h
    exact ⟨va_K.moved (u := U) (U := U.calling g mk a) (Vm.Alike.refl U.vm) h1, h2⟩
  · obtain ⟨h1, h2⟩ := h
    exact ⟨va_K.moved hW.alike h1, h2⟩
theorem m_arr {k n : Nat} (h : k < 12) (hz : ¬ k = 7) (hn : lm k = n) : (wM am cm v)[k]? = some (am k, .inl (cm 0, n, .inl (v.1 k))) := by
  rw [wM_at (by omega)]
  unfold me
  rw [if_pos h, if_neg hz, hn]
theorem m_tak : (wM am cm v)[7]? = some (am 7, .inl (cm 1, 5, .inl (v.1 7))) := by
  rw [wM_at (by omega)]
  rfl
theorem m_lon {k : Nat} (h1 : 12 ≤ k) (h2 : k < 16) : (wM am cm v)[k]? = some (am k, .inl (cm 2, 5, .inr (.inl (v.2.1 k)))) := by
  rw [wM_at (by omega)]
  unfold me
  rw [if_neg (by omega), if_pos h2]
theorem m_o16 : (wM am cm v)[16]? = some (am 16, .inr (7, [.int 0, .long v.2.2.1, .int v.2.2.2.1, .ref (am 0), .ref (am 1), .ref (am 2), .ref (am 3), .ref (am 4), .ref (am 5), .ref (am 6), .ref (am 12), .ref (am 13), .ref (am 14), .ref (am 15), .ref (am 7), .ref (am 8), .ref (am 9), .int v.2.2.2.2, .ref (am 10), .ref (am 11)])) := by
  rw [wM_at (by omega)]; rfl
end MW
def mst (v : UM) (k j : Nat) (x : Int32) : UM := (fun a => if a = k then upd (v.1 k) j x else v.1 a, v.2)
def msl (v : UM) (k j : Nat) (x : Int64) : UM := (v.1, fun a => if a = k then vp_updL (v.2.1 k) j x else v.2.1 a, v.2.2)
def mtr (v : UM) (x : Int64) : UM := (v.1, v.2.1, x, v.2.2.2)
def msz (v : UM) (x : Int32) : UM := (v.1, v.2.1, v.2.2.1, x, v.2.2.2.2)
def mms (v : UM) (x : Int32) : UM := (v.1, v.2.1, v.2.2.1, v.2.2.2.1, x)
section MR
variable {p : Program} {l : Launch} {e : Env} {R : Room} {s : State} {m : MethodId} {args : Array Value} {below : List Frame} {meth : Method} {c : Code} {H : Heap} {locs : List Loc} {cells slots : Nat} {Q : State → Prop}
variable {D : va_G} {am : Nat → Nat} {cm : Nat → ClassId} {u : UM} {cc : ByteArray} {pc : Nat} {own : String} {rest : List Value} {ls : Array Slot} {index : Nat}
theorem m_iald {k n : Nat} {i : Int32} (hexec : p.tables.exec = Jvm.exec) (hb : c.code = cc) (hK : va_K D vwCl (tyM cm) s) (hP : va_P D vwCl (wM am cm u) H) (hk : k < 12) (hz : ¬ k = 7) (hn : lm k = n) (hin : vin i n = true) (hdg : decode cc pc = .ok (.iaload, 1))
    (kk : W p l e R s m args below meth c H locs cells slots Q (F0 m (pc + 1) ls (.int (u.1 k i.toNatClampNeg) :: rest))) : W p l e R s m args below meth c H locs cells slots Q (F0 m pc ls (.int i :: .ref (am k) :: rest)) :=
  va_iald hexec hb hK hP k 0 (m_arr hk hz hn) rfl (vin_ok hin) hdg kk
theorem m_zald {i : Int32} (hexec : p.tables.exec = Jvm.exec) (hb : c.code = cc) (hK : va_K D vwCl (tyM cm) s) (hP : va_P D vwCl (wM am cm u) H) (hin : vin i 5 = true) (hdg : decode cc pc = .ok (.baload, 1))
    (kk : W p l e R s m args below meth c H locs cells slots Q (F0 m (pc + 1) ls (.int (u.1 7 i.toNatClampNeg) :: rest))) : W p l e R s m args below meth c H locs cells slots Q (F0 m pc ls (.int i :: .ref (am 7) :: rest)) :=
  va_zald hexec hb hK hP 7 1 m_tak rfl (vin_ok hin) hdg kk
theorem m_lald {k : Nat} {i : Int32} (hexec : p.tables.exec = Jvm.exec) (hb : c.code = cc) (hK : va_K D vwCl (tyM cm) s) (hP : va_P D vwCl (wM am cm u) H) (h1 : 12 ≤ k) (h2 : k < 16) (hin : vin i 5 = true) (hdg : decode cc pc = .ok (.laload, 1))
    (kk : W p l e R s m args below meth c H locs cells slots Q (F0 m (pc + 1) ls (.long (u.2.1 k i.toNatClampNeg) :: rest))) : W p l e R s m args below meth c H locs cells slots Q (F0 m pc ls (.int i :: .ref (am k) :: rest)) :=
  va_lald hexec hb hK hP k 2 (m_lon h1 h2) rfl (vin_ok hin) hdg kk
theorem m_iast {k n : Nat} {i x : Int32} (hexec : p.tables.exec = Jvm.exec) (hb : c.code = cc) (hK : va_K D vwCl (tyM cm) s) (hP : va_P D vwCl (wM am cm u) H) (hJ : MJ am) (hS : va_S (AM am) s.heap H locs) (hk : k < 12) (hz : ¬ k = 7) (hn : lm k = n) (hin : vin i n = true) (hdg : decode cc pc = .ok (.iastore, 1))
    (kk : ∀ (H : Heap) (locs : List Loc), va_P D vwCl (wM am cm (mst u k i.toNatClampNeg x)) H → va_S (AM am) s.heap H locs → W p l e R s m args below meth c H locs cells slots Q (F0 m (pc + 1) ls rest)) : W p l e R s m args below meth c H locs cells slots Q (F0 m pc ls (.int x :: .int i :: .ref (am k) :: rest)) := by
  refine va_iast hexec hb hK hP (wM_D hJ) hS k 0 (m_arr hk hz hn) rfl (vin_ok hin) hdg (fun H1 locs1 hP1 _ hS1 => kk H1 locs1 ?_ hS1)
  rw [wM_set (v1 := mst u k i.toNatClampNeg x) (by omega)] at hP1
  · exact hP1
  · unfold me mst
    rw [if_pos hk, if_neg hz, hn]
    simp
  · intro j hj hne
    unfold me mst
    simp [hne]
theorem m_zast {i x : Int32} (hexec : p.tables.exec = Jvm.exec) (hb : c.code = cc) (hK : va_K D vwCl (tyM cm) s) (hP : va_P D vwCl (wM am cm u) H) (hJ : MJ am) (hS : va_S (AM am) s.heap H locs) (hx : vp_nar .boolean x = x) (hin : vin i 5 = true) (hdg : decode cc pc = .ok (.bastore, 1))
    (kk : ∀ (H : Heap) (locs : List Loc), va_P D vwCl (wM am cm (mst u 7 i.toNatClampNeg x)) H → va_S (AM am) s.heap H locs → W p l e R s m args below meth c H locs cells slots Q (F0 m (pc + 1) ls rest)) : W p l e R s m args below meth c H locs cells slots Q (F0 m pc ls (.int x :: .int i :: .ref (am 7) :: rest)) := by
  refine va_zast hexec hb hK hP (wM_D hJ) hS 7 1 m_tak rfl (vin_ok hin) hdg (fun H1 locs1 hP1 _ hS1 => kk H1 locs1 ?_ hS1)
  rw [hx, wM_set (v1 := mst u 7 i.toNatClampNeg x) (by omega)] at hP1
  · exact hP1
  · rfl
  · intro j hj hne
    unfold me mst
    simp [hne]
theorem m_last {k : Nat} {i : Int32} {x : Int64} (hexec : p.tables.exec = Jvm.exec) (hb : c.code = cc) (hK : va_K D vwCl (tyM cm) s) (hP : va_P D vwCl (wM am cm u) H) (hJ : MJ am) (hS : va_S (AM am) s.heap H locs) (h1 : 12 ≤ k) (h2 : k < 16) (hin : vin i 5 = true) (hdg : decode cc pc = .ok (.lastore, 1))
    (kk : ∀ (H : Heap) (locs : List Loc), va_P D vwCl (wM am cm (msl u k i.toNatClampNeg x)) H → va_S (AM am) s.heap H locs → W p l e R s m args below meth c H locs cells slots Q (F0 m (pc + 1) ls rest)) : W p l e R s m args below meth c H locs cells slots Q (F0 m pc ls (.long x :: .int i :: .ref (am k) :: rest)) := by
  refine va_last hexec hb hK hP (wM_D hJ) hS k 2 (m_lon h1 h2) rfl (vin_ok hin) hdg (fun H1 locs1 hP1 _ hS1 => kk H1 locs1 ?_ hS1)
  rw [wM_set (v1 := msl u k i.toNatClampNeg x) (by omega)] at hP1
  · exact hP1
  · unfold me msl
    rw [if_neg (by omega), if_pos h2]
    simp
  · intro j hj hne
    unfold me msl
    simp [hne]
theorem m_putZ (hexec : p.tables.exec = Jvm.exec) (hb : c.code = cc) (hg : ∀ w ∈ wsG, w.before args s = true) (hown : s.vm.findClass RX8 = some m.cls) (hK : va_K D vwCl (tyM cm) s) (hP : va_P D vwCl (wM am cm u) H) (hJ : MJ am) (hS : va_S (AM am) s.heap H locs) (hl : (Cond.fieldLink RX8 index RX8 "thrown" "I").before args s = true) (hdg : decode cc pc = .ok (.putfield index, 3))
    (kk : ∀ (H : Heap) (locs : List Loc), va_P D vwCl (wM am cm u) H → va_S (AM am) s.heap H locs → W p l e R s m args below meth c H locs cells slots Q (F0 m (pc + 3) ls rest)) : W p l e R s m args below meth c H locs cells slots Q (F0 m pc ls (.int 0 :: .ref (am 16) :: rest)) := by
  refine va_put (ci := 7) (v := .int 0) (ty := .int) (C := RX8) (T := TX8) (N := 20) hexec hb hg inG_X8 tyX8 tyX8_ok nmX8 hown hK hP (wM_D hJ) hS 16 m_o16 rfl 0 (by decide) hl (fun _ h9 => h9) rfl (by decide +kernel) rfl rfl (Nat.le_of_ble_eq_true rfl) hdg (fun H1 locs1 hP1 _ hS1 => kk H1 locs1 ?_ hS1)
  rw [wM_set (v1 := u) (by omega)] at hP1
  · exact hP1
  · rfl
  · intro j hj hne
    rfl
theorem m_putT {x : Int64} (hexec : p.tables.exec = Jvm.exec) (hb : c.code = cc) (hg : ∀ w ∈ wsG, w.before args s = true) (hown : s.vm.findClass RX8 = some m.cls) (hK : va_K D vwCl (tyM cm) s) (hP : va_P D vwCl (wM am cm u) H) (hJ : MJ am) (hS : va_S (AM am) s.heap H locs) (hl : (Cond.fieldLink RX8 index RX8 "trace" "J").before args s = true) (hdg : decode cc pc = .ok (.putfield index, 3))
    (kk : ∀ (H : Heap) (locs : List Loc), va_P D vwCl (wM am cm (mtr u x)) H → va_S (AM am) s.heap H locs → W p l e R s m args below meth c H locs cells slots Q (F0 m (pc + 3) ls rest)) : W p l e R s m args below meth c H locs cells slots Q (F0 m pc ls (.long x :: .ref (am 16) :: rest)) := by
  refine va_put (ci := 7) (v := .long x) (ty := .long) (C := RX8) (T := TX8) (N := 20) hexec hb hg inG_X8 tyX8 tyX8_ok nmX8 hown hK hP (wM_D hJ) hS 16 m_o16 rfl 1 (by decide) hl (fun _ h9 => h9) rfl (by decide +kernel) rfl rfl (Nat.le_of_ble_eq_true rfl) hdg (fun H1 locs1 hP1 _ hS1 => kk H1 locs1 ?_ hS1)
  rw [wM_set (v1 := mtr u x) (by omega)] at hP1
  · exact hP1
  · rfl
  · intro j hj hne
    have hj' : j < 16 := by omega
    unfold me mtr
    simp [hj']
theorem m_putN {x : Int32} (hexec : p.tables.exec = Jvm.exec) (hb : c.code = cc) (hg : ∀ w ∈ wsG, w.before args s = true) (hown : s.vm.findClass RX8 = some m.cls) (hK : va_K D vwCl (tyM cm) s) (hP : va_P D vwCl (wM am cm u) H) (hJ : MJ am) (hS : va_S (AM am) s.heap H locs) (hl : (Cond.fieldLink RX8 index RX8 "steps" "I").before args s = true) (hdg : decode cc pc = .ok (.putfield index, 3))
    (kk : ∀ (H : Heap) (locs : List Loc), va_P D vwCl (wM am cm (msz u x)) H → va_S (AM am) s.heap H locs → W p l e R s m args below meth c H locs cells slots Q (F0 m (pc + 3) ls rest)) : W p l e R s m args below meth c H locs cells slots Q (F0 m pc ls (.int x :: .ref (am 16) :: rest)) := by
  refine va_put (ci := 7) (v := .int x) (ty := .int) (C := RX8) (T := TX8) (N := 20) hexec hb hg inG_X8 tyX8 tyX8_ok nmX8 hown hK hP (wM_D hJ) hS 16 m_o16 rfl 2 (by decide) hl (fun _ h9 => h9) rfl (by decide +kernel) rfl rfl (Nat.le_of_ble_eq_true rfl) hdg (fun H1 locs1 hP1 _ hS1 => kk H1 locs1 ?_ hS1)
  rw [wM_set (v1 := msz u x) (by omega)] at hP1
  · exact hP1
  · rfl
  · intro j hj hne
    have hj' : j < 16 := by omega
    unfold me msz
    simp [hj']
theorem m_putM {x : Int32} (hexec : p.tables.exec = Jvm.exec) (hb : c.code = cc) (hg : ∀ w ∈ wsG, w.before args s = true) (hown : s.vm.findClass RX8 = some m.cls) (hK : va_K D vwCl (tyM cm) s) (hP : va_P D vwCl (wM am cm u) H) (hJ : MJ am) (hS : va_S (AM am) s.heap H locs) (hl : (Cond.fieldLink RX8 index RX8 "meters" "I").before args s = true) (hdg : decode cc pc = .ok (.putfield index, 3))
    (kk : ∀ (H : Heap) (locs : List Loc), va_P D vwCl (wM am cm (mms u x)) H → va_S (AM am) s.heap H locs → W p l e R s m args below meth c H locs cells slots Q (F0 m (pc + 3) ls rest)) : W p l e R s m args below meth c H locs cells slots Q (F0 m pc ls (.int x :: .ref (am 16) :: rest)) := by
  refine va_put (ci := 7) (v := .int x) (ty := .int) (C := RX8) (T := TX8) (N := 20) hexec hb hg inG_X8 tyX8 tyX8_ok nmX8 hown hK hP (wM_D hJ) hS 16 m_o16 rfl 17 (by decide) hl (fun _ h9 => h9) rfl (by decide +kernel) rfl rfl (Nat.le_of_ble_eq_true rfl) hdg (fun H1 locs1 hP1 _ hS1 => kk H1 locs1 ?_ hS1)
  rw [wM_set (v1 := mms u x) (by omega)] at hP1
  · exact hP1
  · rfl
  · intro j hj hne
    have hj' : j < 16 := by omega
    unfold me mms
    simp [hj']
end MR
