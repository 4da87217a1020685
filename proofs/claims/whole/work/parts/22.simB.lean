section SB
variable {u : UX} {v : UM}
theorem lt1 {x : Int32} {c : Nat} (hc : c < 2 ^ 30) : x < nI c + 1 ↔ x ≤ nI c := by
  rw [nI_1, fa_lt, fa_le, nI_toInt (by omega), nI_toInt (by omega)]
  omega
/-- the limit of a step by a kind -/
theorem lim_eq (h : Rel u v) {k j : Nat} (hk : k ≤ 2) (hj : j < u.2.2.1.toNatClampNeg) : ∃ L, fX3_by u (nI k) (nI j) = some L ∧ fX8_limitOf v (nI k) (nI j) = some L := by
  have h5 := h.j5 hj
  have e1 : v.1 1 j = u.1 1 j := h.at (k := 1) (j := j) (stc_lt (by decide)) h5
  have e2 : v.1 2 j = u.1 2 j := h.at (k := 2) (j := j) (stc_lt (by decide)) h5
  have e40 : v.1 4 0 = u.1 4 0 := h.at (k := 4) (j := 0) (stc_lt (by decide)) (show 0 < 3 by decide)
  have e41 : v.1 4 1 = u.1 4 1 := h.at (k := 4) (j := 1) (stc_lt (by decide)) (show 1 < 3 by decide)
  have b1 : bd (u.1 1 j) 0 400 := h.ok (k := 1) (j := j) (stc_lt (by decide)) h5 hj
  obtain ⟨c, ec, -, hc⟩ := bd_ex b1
  unfold fX3_by fX8_limitOf
  rw [gd_t (vin_nI h5 (by decide)), gd_t (vin_nI h5 (by decide)), cl_nI (by omega)]
  simp only [show (0 : Int32).toNatClampNeg = 0 from rfl, show (1 : Int32).toNatClampNeg = 1 from rfl, gd_t (show vin 0 3 = true from rfl), gd_t (show vin 1 3 = true from rfl), e1, e2, e40, e41, ec]
  generalize u.1 2 j = o
  generalize u.1 4 0 = g
  generalize u.1 4 1 = y
  rcases (show k = 0 ∨ k = 1 ∨ k = 2 by omega) with rfl | rfl | rfl
  · exact ⟨o, rfl, rfl⟩
  · refine ⟨if o - g ≤ nI c then nI c + 1 else o - g, ?_, ?_⟩
    · show some (if o - g < nI c + 1 then nI c + 1 else o - g) = _
      simp only [lt1 (show c < 2 ^ 30 by omega)]
    · show ((if o - g ≤ nI c then some (nI c + 1) else some (o - g)).bind (fun t => some t)) = _
      by_cases q : o - g ≤ nI c
      · rw [if_pos q, if_pos q]; rfl
      · rw [if_neg q, if_neg q]; rfl
  · have ew : (if o - g < nI c + 1 then nI c + 1 else o - g) = (if o - g ≤ nI c then nI c + 1 else o - g) := by simp only [lt1 (show c < 2 ^ 30 by omega)]
    refine ⟨if (if o - g ≤ nI c then nI c + 1 else o - g) - 2 * y ≤ nI c then nI c + 1 else (if o - g ≤ nI c then nI c + 1 else o - g) - 2 * y, ?_, ?_⟩
    · show some (if (if o - g < nI c + 1 then nI c + 1 else o - g) - 2 * y < nI c + 1 then nI c + 1 else (if o - g < nI c + 1 then nI c + 1 else o - g) - 2 * y) = _
      rw [ew]
      simp only [lt1 (show c < 2 ^ 30 by omega)]
    · show ((if o - g ≤ nI c then some (nI c + 1) else some (o - g)).bind (fun t => if t - 2 * y ≤ nI c then some (nI c + 1) else some (t - 2 * y))) = _
      by_cases q : o - g ≤ nI c
      · rw [if_pos q, if_pos q]
        show (if _ ≤ nI c then some (nI c + 1) else some _) = some (if _ then _ else _)
        split <;> rfl
      · rw [if_neg q, if_neg q]
        show (if _ ≤ nI c then some (nI c + 1) else some _) = some (if _ then _ else _)
        split <;> rfl
theorem sim_limit (h : Rel u v) (a1 a2 : Int32) : Sm (fX7_limit u a1 a2) (fX8_limit v a1 a2) := by
  unfold fX7_limit fX8_limit
  refine sw (P := Sm) (lo := 0) (hi := 2) (by decide) (by decide) (Sm_some h) (fun q1 q2 => ?_)
  refine sh (P := Sm) h (Sm_some h) (fun j hj ej => ?_)
  subst ej
  obtain ⟨k, rfl, -, hk⟩ := bd_ex (bd_of 0 2 (by decide) (by decide) q1 q2)
  have et : v.2.2.1 = u.2.2.2.2 := h.2.2.2.2.1
  rw [et]
  have key : ∀ x : Int64, ∃ L, fX3_by (xtr u x) (nI k) (nI j) = some L ∧ fX8_limitOf (mtr v x) (nI k) (nI j) = some L := fun x => lim_eq (h.trc (x := x)) hk hj
  rcases (show k = 0 ∨ k = 1 ∨ k = 2 by omega) with rfl | rfl | rfl
  · obtain ⟨L, l1, l2⟩ := key (u.2.2.2.2 + 1)
    show Sm ((fX3_by (xtr u (u.2.2.2.2 + (1 : Int32).toInt64)) (nI 0) (nI j)).bind (fun r => some (r, xtr u (u.2.2.2.2 + (1 : Int32).toInt64)))) ((fX8_limitOf (mtr v (u.2.2.2.2 + 1)) (nI 0) (nI j)).bind (fun r => some (r, mtr v (u.2.2.2.2 + 1))))
    rw [show (1 : Int32).toInt64 = 1 by decide, l1, l2]
    exact Sm_some h.trc
  · obtain ⟨L, l1, l2⟩ := key (u.2.2.2.2 + 11)
    show Sm ((fX3_by (xtr u (u.2.2.2.2 + (11 : Int32).toInt64)) (nI 1) (nI j)).bind (fun r => some (r, xtr u (u.2.2.2.2 + (11 : Int32).toInt64)))) ((fX8_limitOf (mtr v (u.2.2.2.2 + 11)) (nI 1) (nI j)).bind (fun r => some (r, mtr v (u.2.2.2.2 + 11))))
    rw [show (11 : Int32).toInt64 = 11 by decide, l1, l2]
    exact Sm_some h.trc
  · obtain ⟨L, l1, l2⟩ := key (u.2.2.2.2 + 111)
    show Sm ((fX3_by (xtr u (u.2.2.2.2 + (111 : Int32).toInt64)) (nI 2) (nI j)).bind (fun r => some (r, xtr u (u.2.2.2.2 + (111 : Int32).toInt64)))) ((fX8_limitOf (mtr v (u.2.2.2.2 + 111)) (nI 2) (nI j)).bind (fun r => some (r, mtr v (u.2.2.2.2 + 111))))
    rw [show (111 : Int32).toInt64 = 111 by decide, l1, l2]
    exact Sm_some h.trc
theorem sim_set (h : Rel u v) (a1 a2 : Int32) : Sm (fX7_set u a1 a2) (fX8_set v a1 a2) := by
  unfold fX7_set fX8_set
  have e : fX3_isSetting u a1 = fX7_within a1 0 2 := by
    unfold fX3_isSetting fX7_within
    by_cases c : a1 < 0
    · rw [if_pos c, if_pos c]
    · rw [if_neg c, if_neg c]
      have : (3 ≤ a1) ↔ (2 < a1) := by
        rw [fa_le, fa_lt, show (3 : Int32).toInt = 3 from rfl, show (2 : Int32).toInt = 2 from rfl]
        omega
      simp only [this]
  rw [e]
  refine sw (P := Sm) (lo := 0) (hi := 2) (by decide) (by decide) (Sm_some h) (fun q1 q2 => ?_)
  obtain ⟨k, rfl, -, hk⟩ := bd_ex (bd_of 0 2 (by decide) (by decide) q1 q2)
  have k3 : k < 3 := by omega
  rw [gd_t (vin_nI k3 (by decide)), cl_nI (by omega)]
  have key : ∀ (hi : Nat) (hi' : Int64), hi < 2 ^ 31 → hi' = (nI hi).toInt64 → hi = (if k = 0 then 100 else if k = 1 then 40 else 2) → Sm ((fX7_within a2 0 (nI hi)).bind (fun r => if r = 0 then some (-1, u) else (fX7_replace u 4 (nI k) a2).bind (fun r => some (r.1, r.2)))) ((fX8_in a2.toInt64 0 hi').bind (fun r => if r = 0 then some (-1, v) else gd (vin (nI k) 3) (some (v.1 4 k, mst v 4 k a2)))) := by
    intro hi hi' hh e1 e2
    refine sw (P := Sm) (lo := 0) (hi := nI hi) (by decide) e1 (Sm_some h) (fun q3 q4 => ?_)
    rw [rep_ok (k := 4) (show k < la 4 from k3), gd_t (vin_nI k3 (by decide))]
    show Sm (some (u.1 4 k, xst u 4 k a2)) (some (v.1 4 k, mst v 4 k a2))
    rw [show v.1 4 k = u.1 4 k from h.at (k := 4) (j := k) (stc_lt (by decide)) k3]
    have b := bd_of 0 hi hh (by decide) q3 q4
    rw [e2] at b
    exact Sm_some (h.set (k := 4) (stc_lt (by decide)) k3 b (Or.inl (by decide)))
  rcases (show k = 0 ∨ k = 1 ∨ k = 2 by omega) with rfl | rfl | rfl
  · exact key 100 100 (by decide) (by decide) rfl
  · exact key 40 40 (by decide) (by decide) rfl
  · exact key 2 2 (by decide) (by decide) rfl
theorem sim_change (h : Rel u v) (a1 a2 a3 : Int32) : Sm (fX7_change u a1 a2 a3) (fX8_change v a1 a2 a3) := by
  unfold fX7_change fX8_change
  refine sh (P := Sm) h (Sm_some h) (fun j hj ej => ?_)
  subst ej
  have h5 := h.j5 hj
  have e0 : v.1 0 j = u.1 0 j := h.at (k := 0) (j := j) (stc_lt (by decide)) h5
  have e3 : v.1 3 j = u.1 3 j := h.at (k := 3) (j := j) (stc_lt (by decide)) h5
  simp only [rep_ok (k := 0) (show j < la 0 from h5), rep_ok (k := 3) (show j < la 3 from h5), gd_t (vin_nI h5 (show 5 < 2 ^ 31 by decide)), cl_nI (show j < 2 ^ 31 by omega)]
  by_cases c0 : a2 = 0
  · subst c0
    rw [if_pos (Eq.refl (0 : Int32))]
    show Sm ((fX7_within a3 1 1000).bind (fun r => if r = 0 then some (-1, u) else some (u.1 0 j, xst u 0 j a3))) ((fX8_in a3.toInt64 1 1000).bind (fun r => if r = 0 then some (-1, v) else some (v.1 0 j, mst (mst v 0 j a3) 3 j ((mst v 0 j a3).1 3 j))))
    refine sw (P := Sm) (lo := 1) (hi := 1000) (by decide) (by decide) (Sm_some h) (fun q1 q2 => ?_)
    have k0 := h.set (k := 0) (j := j) (x := a3) (stc_lt (by decide)) h5 (fun _ => bd_of 1 1000 (by decide) (by decide) q1 q2) (Or.inl (by decide))
    have em : mst (mst v 0 j a3) 3 j ((mst v 0 j a3).1 3 j) = mst v 0 j a3 := by
      refine Prod.ext (funext fun k => ?_) rfl
      show (if k = 3 then upd ((mst v 0 j a3).1 3) j ((mst v 0 j a3).1 3 j) else (mst v 0 j a3).1 k) = (mst v 0 j a3).1 k
      by_cases q : k = 3
      · subst q
        rw [if_pos rfl]
        exact fa_upd_same rfl
      · rw [if_neg q]
    rw [em, e0]
    exact Sm_some k0
  · by_cases c1 : a2 = 1
    · subst c1
      show Sm ((fX7_within a3 0 9).bind (fun r => if r = 0 then some (-1, u) else some (u.1 3 j, xst u 3 j a3))) ((fX8_in a3.toInt64 0 9).bind (fun r => if r = 0 then some (-1, v) else some (v.1 3 j, mst (mst v 0 j (v.1 0 j)) 3 j a3)))
      refine sw (P := Sm) (lo := 0) (hi := 9) (by decide) (by decide) (Sm_some h) (fun q1 q2 => ?_)
      have k0 := h.set (k := 3) (j := j) (x := a3) (stc_lt (by decide)) h5 (fun _ => bd_of 0 9 (by decide) (by decide) q1 q2) (Or.inl (by decide))
      have em : mst v 0 j (v.1 0 j) = v := by
        refine Prod.ext (funext fun k => ?_) rfl
        show (if k = 0 then upd (v.1 0) j (v.1 0 j) else v.1 k) = v.1 k
        by_cases q : k = 0
        · subst q
          rw [if_pos rfl]
          exact fa_upd_same rfl
        · rw [if_neg q]
      rw [em, e3]
      exact Sm_some k0
    · have cw : a2 < 0 ∨ 1 < a2 := by
        rw [fa_eq, show (0 : Int32).toInt = 0 from rfl] at c0
        rw [fa_eq, show (1 : Int32).toInt = 1 from rfl] at c1
        rw [fa_lt, fa_lt, show (0 : Int32).toInt = 0 from rfl, show (1 : Int32).toInt = 1 from rfl]
        omega
      rw [if_neg c0, if_neg c1, show fX8_in a2.toInt64 0 1 = fX7_within a2 0 1 from in_wi a2 0 1, wi_0 cw]
      exact Sm_some h
theorem hour_eq {a2 : Int32} {d : Int64} {x y : Int32} (h1 : ¬ a2 < 1) : ∃ r, fX0_behindAnHour d a2 x y = some r ∧ fX8_hour d a2 x y = some r := by
  have c1 : (1 : Int32) ≤ a2 := Int32.not_lt.mp h1
  have c2 : nz8 a2.toInt64 = true := by
    unfold nz8
    rw [decide_eq_true_eq]
    intro q
    rw [show (0 : Int64) = (0 : Int32).toInt64 by decide, fa_wide_eq] at q
    rw [q] at c1
    exact absurd c1 (by decide)
  unfold fX0_behindAnHour fX8_hour
  rw [if_pos c1, gd_t c2]
  exact ⟨_, rfl, rfl⟩
theorem steady_eq {a1 a3 a4 a5 w : Int32} (h1 : ¬ a1 < 1) (hw : (a5 = 0 ∧ w = 1) ∨ (a5 = 1 ∧ w = 0)) : ∀ (f : Nat) (d : Int64) (i : Nat), i ≤ 5001 → 5001 < f + i → Sr (fX0_tellSteady_13 a1 a3 a4 w f d (nI i)) (fX8_steady_80 a1 a3 a4 a5 f d (nI i)) := by
  intro f
  induction f with
  | zero => intro d i h2 h3; omega
  | succ f ih =>
    intro d i h2 h3
    rw [fX0_tellSteady_13, fX8_steady_80]
    refine s_ite (P := Sr) (fun _ => Sr_some) (fun c => ?_)
    have ci : i ≤ 5000 := by
      rw [show (5000 : Int32) = nI 5000 from rfl, nI_ltI (by decide) (by omega)] at c
      omega
    obtain ⟨r, e1, e2⟩ := hour_eq (d := d) (x := a3) (y := a4) h1
    rw [e1, e2]
    show Sr (if r = d then if w = 0 then some d.toInt32 else some (nI i) else fX0_tellSteady_13 a1 a3 a4 w f r (nI i + 1)) (if r = d then if a5 = 0 then some (nI i) else some d.toInt32 else fX8_steady_80 a1 a3 a4 a5 f r (nI i + 1))
    refine s_ite (P := Sr) (fun _ => ?_) (fun _ => ?_)
    · rcases hw with ⟨rfl, rfl⟩ | ⟨rfl, rfl⟩
      · exact Sr_some
      · exact Sr_some
    · rw [nI_1]
      exact ih r (i + 1) (by omega) (by omega)
theorem sim_steady (a1 a2 a3 a4 a5 : Int32) : Sr (fX7_steady u a1 a2 a3 a4 a5) (fX8_steady v a1 a2 a3 a4 a5) := by
  unfold fX7_steady fX8_steady
  refine sw (P := Sr) (lo := 1) (hi := 1000) (by decide) (by decide) Sr_some (fun q1 _ => ?_)
  refine sw (P := Sr) (lo := 0) (hi := 1000000) (by decide) (by decide) Sr_some (fun _ _ => ?_)
  refine sw (P := Sr) (lo := 0) (hi := 1000) (by decide) (by decide) Sr_some (fun _ _ => ?_)
  refine sw (P := Sr) (lo := 0) (hi := a1) (by decide) rfl Sr_some (fun _ _ => ?_)
  refine sw (P := Sr) (lo := 0) (hi := 1) (by decide) (by decide) Sr_some (fun q9 q10 => ?_)
  obtain ⟨k, rfl, -, hk⟩ := bd_ex (bd_of 0 1 (by decide) (by decide) q9 q10)
  obtain ⟨r, e1, e2⟩ := hour_eq (d := a2.toInt64) (x := a3) (y := a4) q1
  unfold fX0_tellSteady
  rw [e1, e2]
  obtain ⟨f, hF, hf⟩ : ∃ f, FU = f ∧ 5001 < f + 1 := ⟨FU, rfl, by unfold FU; omega⟩
  rw [hF]
  clear hF
  have tl : ∀ x : Option Int32, x.bind (fun r => some r) = x := fun x => by cases x <;> rfl
  rcases (show k = 0 ∨ k = 1 by omega) with rfl | rfl
  · have := steady_eq (a3 := a3) (a4 := a4) (a5 := 0) (w := 1) q1 (Or.inl ⟨rfl, rfl⟩) f r 1 (by decide) hf
    show Sr ((fX0_tellSteady_13 a1 a3 a4 1 f r 1).bind (fun r => some r)) (fX8_steady_80 a1 a3 a4 0 f r 1)
    rw [tl]
    exact this
  · have := steady_eq (a3 := a3) (a4 := a4) (a5 := 1) (w := 0) q1 (Or.inr ⟨rfl, rfl⟩) f r 1 (by decide) hf
    show Sr ((fX0_tellSteady_13 a1 a3 a4 0 f r 1).bind (fun r => some r)) (fX8_steady_80 a1 a3 a4 1 f r 1)
    rw [tl]
    exact this
end SB
