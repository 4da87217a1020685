theorem mst_2 {v : UM} {k j : Nat} {x : Int32} : (mst v k j x).2 = v.2 := rfl
theorem xst_2 {u : UX} {k j : Nat} {x : Int32} : (xst u k j x).2 = u.2 := rfl
theorem xst_at {u : UX} {k j : Nat} {x : Int32} : (xst u k j x).1 k j = x := by
  show (if k = k then upd (u.1 k) j x else u.1 k) j = x
  rw [if_pos rfl, pk_us]
theorem xst_ne {u : UX} {k j k' j' : Nat} {x : Int32} (h : ¬ k' = k) : (xst u k j x).1 k' j' = u.1 k' j' := by
  show (if k' = k then upd (u.1 k) j x else u.1 k') j' = u.1 k' j'
  rw [if_neg h]
section SA
variable {u : UX} {v : UM}
theorem stc_lt {k : Nat} (h : k < 11) : stc k := Or.inl h
theorem Rel.j5 (h : Rel u v) {j : Nat} (hj : j < u.2.2.1.toNatClampNeg) : j < 5 := by
  have := h.1.2.2
  omega
theorem Rel.j8 (h : Rel u v) {j : Nat} (hj : j < u.2.2.2.1.toNatClampNeg) : j < 8 := by
  have := h.2.1.2.2
  omega
theorem Rel.bump (h : Rel u v) {n : Nat} (hn : u.2.2.1 = nI n) (h5 : n < 5) (h0 : bd (u.1 0 n) 1 1000) (h1 : bd (u.1 1 n) 0 400) (h2 : bd (u.1 2 n) 1 500) (h12 : (u.1 1 n).toNatClampNeg < (u.1 2 n).toNatClampNeg) (h3 : bd (u.1 3 n) 0 9) : Rel (xsz u (nI (n + 1))) (msz v (nI (n + 1))) := by
  obtain ⟨g1, g2, g3, g4, g5, g6, g7⟩ := h
  have e : u.2.2.1.toNatClampNeg = n := by rw [hn]; exact cl_nI (by omega)
  have e' : (nI (n + 1)).toNatClampNeg = n + 1 := cl_nI (by omega)
  rw [e] at g6 g7
  refine ⟨bd_nI (Nat.zero_le _) (by omega) (by decide), g2, rfl, g4, g5, fun k j hk hj => ⟨?_, (g6 k j hk hj).2⟩, fun j hj => ?_⟩
  · have q := (g6 k j hk hj).1
    show okA (nI (n + 1)).toNatClampNeg u.2.2.2.1.toNatClampNeg k j (u.1 k j)
    rw [e']
    unfold okA at q ⊢
    by_cases c0 : k = 0
    · subst c0
      simp only [if_true] at q ⊢
      intro hj2
      rcases Nat.lt_or_ge j n with w | w
      · exact q w
      · rw [show j = n by omega]; exact h0
    · rw [if_neg c0] at q ⊢
      by_cases c1 : k = 1
      · subst c1
        simp only [if_true] at q ⊢
        intro hj2
        rcases Nat.lt_or_ge j n with w | w
        · exact q w
        · rw [show j = n by omega]; exact h1
      · rw [if_neg c1] at q ⊢
        by_cases c2 : k = 2
        · subst c2
          simp only [if_true] at q ⊢
          intro hj2
          rcases Nat.lt_or_ge j n with w | w
          · exact q w
          · rw [show j = n by omega]; exact h2
        · rw [if_neg c2] at q ⊢
          by_cases c3 : k = 3
          · subst c3
            simp only [if_true] at q ⊢
            intro hj2
            rcases Nat.lt_or_ge j n with w | w
            · exact q w
            · rw [show j = n by omega]; exact h3
          · rw [if_neg c3] at q ⊢
            exact q
  · have hj' : j < n + 1 := by
      have : j < (nI (n + 1)).toNatClampNeg := hj
      rw [e'] at this
      exact this
    show (u.1 1 j).toNatClampNeg < (u.1 2 j).toNatClampNeg
    rcases Nat.lt_or_ge j n with w | w
    · exact g7 j w
    · rw [show j = n by omega]; exact h12
theorem Rel.bumpM (h : Rel u v) {n : Nat} (hn : u.2.2.2.1 = nI n) (h8 : n < 8) (h0 : u.1 16 n = 1 ∨ u.1 16 n = -1) (h1 : u.1 17 n = -9) : Rel (xms u (nI (n + 1))) (mms v (nI (n + 1))) := by
  obtain ⟨g1, g2, g3, g4, g5, g6, g7⟩ := h
  have e : u.2.2.2.1.toNatClampNeg = n := by rw [hn]; exact cl_nI (by omega)
  have e' : (nI (n + 1)).toNatClampNeg = n + 1 := cl_nI (by omega)
  rw [e] at g6
  refine ⟨g1, bd_nI (Nat.zero_le _) (by omega) (by decide), g3, rfl, g5, fun k j hk hj => ⟨?_, (g6 k j hk hj).2⟩, g7⟩
  have q := (g6 k j hk hj).1
  show okA u.2.2.1.toNatClampNeg (nI (n + 1)).toNatClampNeg k j (u.1 k j)
  rw [e']
  unfold okA at q ⊢
  by_cases c0 : k < 16
  · have d : ¬ k = 16 := by omega
    by_cases x0 : k = 0
    · rw [if_pos x0] at q ⊢; exact q
    rw [if_neg x0] at q ⊢
    by_cases x1 : k = 1
    · rw [if_pos x1] at q ⊢; exact q
    rw [if_neg x1] at q ⊢
    by_cases x2 : k = 2
    · rw [if_pos x2] at q ⊢; exact q
    rw [if_neg x2] at q ⊢
    by_cases x3 : k = 3
    · rw [if_pos x3] at q ⊢; exact q
    rw [if_neg x3] at q ⊢
    by_cases x4 : k = 4
    · rw [if_pos x4] at q ⊢; exact q
    rw [if_neg x4] at q ⊢
    by_cases x5 : k = 5
    · rw [if_pos x5] at q ⊢; exact q
    rw [if_neg x5] at q ⊢
    by_cases x6 : k < 11
    · rw [if_pos x6] at q ⊢; exact q
    rw [if_neg x6] at q ⊢
    by_cases x7 : k = 14
    · rw [if_pos x7] at q ⊢; exact q
    rw [if_neg x7] at q ⊢
    have x8 : k = 15 := by unfold stc at hk; omega
    rw [if_pos x8] at q ⊢; exact q
  · rw [if_neg (by omega), if_neg (by omega), if_neg (by omega), if_neg (by omega), if_neg (by omega), if_neg (by omega), if_neg (by omega), if_neg (by omega), if_neg (by omega)] at q ⊢
    by_cases x0 : k = 16
    · subst x0
      simp only [if_true] at q ⊢
      intro hj2
      rcases Nat.lt_or_ge j n with w | w
      · exact q w
      · rw [show j = n by omega]; exact h0
    · rw [if_neg x0] at q ⊢
      have x1 : k = 17 := by unfold stc at hk; omega
      subst x1
      intro hj2
      rcases Nat.lt_or_ge j n with w | w
      · exact q w
      · rw [show j = n by omega]; exact Or.inl h1
theorem sim_fresh (h : Rel u v) (a1 a2 : Int32) : Sm (fX7_fresh u a1 a2) (fX8_fresh v a1 a2) := by
  unfold fX7_fresh fX8_fresh
  refine sh (P := Sm) h (Sm_some h) (fun j hj e => ?_)
  refine sw (P := Sm) (lo := 0) (hi := 100) (by decide) (by decide) (Sm_some h) (fun q1 q2 => ?_)
  subst e
  have h5 := h.j5 hj
  rw [rep_ok (k := 5) (show j < la 5 from h5), gd_t (vin_nI h5 (by decide)), cl_nI (by omega)]
  show Sm (some (u.1 5 j, xst u 5 j a2)) (some (v.1 5 j, mst v 5 j a2))
  rw [show v.1 5 j = u.1 5 j from h.at (k := 5) (j := j) (stc_lt (by decide)) h5]
  exact Sm_some (h.set (k := 5) (stc_lt (by decide)) h5 (bd_of 0 100 (by decide) (by decide) q1 q2) (Or.inl (by decide)))
theorem sim_pipe (h : Rel u v) (a1 a2 a3 : Int32) : Sm (fX7_pipe u a1 a2 a3) (fX8_pipe v a1 a2 a3) := by
  unfold fX7_pipe fX8_pipe
  refine sh (P := Sm) h (Sm_some h) (fun i hi ei => ?_)
  refine sh (P := Sm) h (Sm_some h) (fun j hj ej => ?_)
  refine s_ite (P := Sm) (fun _ => Sm_some h) (fun hne => ?_)
  refine sw (P := Sm) (lo := 0) (hi := 100) (by decide) (by decide) (Sm_some h) (fun q1 q2 => ?_)
  subst ei
  subst ej
  have i5 := h.j5 hi
  have h5 := h.j5 hj
  have hl : la (6 + i) = 5 := la_row i5
  have e5 : (5 : Int32) * nI i + nI j = nI (5 * i + j) := by
    rw [show (5 : Int32) = nI 5 from rfl, pk_mul, nI_add]
  have ek : mk (6 + i) = 6 := by unfold mk; rw [if_neg (by omega), if_pos (by omega)]
  have ej : mj (6 + i) j = 5 * i + j := by unfold mj; rw [if_neg (by omega), if_pos (by omega)]; omega
  have ea := h.at (k := 6 + i) (j := j) (stc_lt (by omega)) (by omega)
  rw [ek, ej] at ea
  have es := h.set (k := 6 + i) (j := j) (x := a3) (stc_lt (by omega)) (by omega) (by
    unfold okA
    rw [if_neg (by omega), if_neg (by omega), if_neg (by omega), if_neg (by omega), if_neg (by omega), if_neg (by omega), if_pos (by omega)]
    exact ⟨bd_of 0 100 (by decide) (by decide) q1 q2, fun q => absurd (by rw [show i = j by omega]) hne⟩) (Or.inl (by omega))
  rw [ek, ej] at es
  rw [gd_t (vin_nI i5 (by decide)), cl_nI (by omega), rep_ok (by omega), e5, gd_t (vin_nI (show 5 * i + j < 25 by omega) (by decide)), cl_nI (by omega)]
  show Sm (some (u.1 (6 + i) j, xst u (6 + i) j a3)) (some (v.1 6 (5 * i + j), mst v 6 (5 * i + j) a3))
  rw [ea]
  exact Sm_some es
theorem sim_store (h : Rel u v) (a1 a2 a3 : Int32) : Sm (fX7_store u a1 a2 a3) (fX8_store v a1 a2 a3) := by
  unfold fX7_store fX8_store
  refine sw (P := Sm) (lo := 0) (hi := 23) (by decide) (by decide) (Sm_some h) (fun q1 q2 => ?_)
  refine sw (P := Sm) (lo := 0) (hi := 1) (by decide) (by decide) (Sm_some h) (fun q3 q4 => ?_)
  refine sw (P := Sm) (lo := 0) (hi := 500) (by decide) (by decide) (Sm_some h) (fun q5 q6 => ?_)
  obtain ⟨j, rfl, -, hj⟩ := bd_ex (bd_of 0 23 (by decide) (by decide) q1 q2)
  obtain ⟨k, rfl, -, hk⟩ := bd_ex (bd_of 0 1 (by decide) (by decide) q3 q4)
  have b := bd_of 0 500 (by decide) (by decide) q5 q6
  rcases (show k = 0 ∨ k = 1 by omega) with rfl | rfl
  · rw [if_pos (show nI 0 = 0 from rfl), rep_ok (k := 14) (show j < la 14 from (show j < 24 by omega))]
    have e5 : (2 : Int32) * nI j + nI 0 = nI (2 * j) := by
      rw [show (2 : Int32) = nI 2 from rfl, pk_mul, nI_add]; rfl
    rw [e5, gd_t (vin_nI (show 2 * j < 48 by omega) (by decide)), cl_nI (by omega)]
    show Sm (some (u.1 14 j, xst u 14 j a3)) (some (v.1 9 (2 * j), mst v 9 (2 * j) a3))
    rw [show v.1 9 (2 * j) = u.1 14 j from h.at (k := 14) (j := j) (by unfold stc; decide) (show j < 24 by omega)]
    exact Sm_some (h.set (k := 14) (by unfold stc; decide) (show j < 24 by omega) b (Or.inl (by decide)))
  · rw [if_neg (show ¬ nI 1 = 0 by decide), rep_ok (k := 15) (show j < la 15 from (show j < 24 by omega))]
    have e5 : (2 : Int32) * nI j + nI 1 = nI (2 * j + 1) := by
      rw [show (2 : Int32) = nI 2 from rfl, pk_mul, nI_add]
    rw [e5, gd_t (vin_nI (show 2 * j + 1 < 48 by omega) (by decide)), cl_nI (by omega)]
    show Sm (some (u.1 15 j, xst u 15 j a3)) (some (v.1 9 (2 * j + 1), mst v 9 (2 * j + 1) a3))
    rw [show v.1 9 (2 * j + 1) = u.1 15 j from h.at (k := 15) (j := j) (by unfold stc; decide) (show j < 24 by omega)]
    exact Sm_some (h.set (k := 15) (by unfold stc; decide) (show j < 24 by omega) b (Or.inl (by decide)))
theorem sim_read (h : Rel u v) (a1 a2 : Int32) : Sm (fX7_read u a1 a2) (fX8_read v a1 a2) := by
  unfold fX7_read fX8_read
  refine smt (P := Sm) h (Sm_some h) (fun j hj e => ?_)
  subst e
  have h8 := h.j8 hj
  have key : (a2 = -9 ∨ bd a2 0 100000) → Sm ((fX7_replace u 17 (nI j) a2).bind (fun r => some (r.1, r.2))) (gd (vin (nI j) 8) (some (v.1 11 (nI j).toNatClampNeg, mst v 11 (nI j).toNatClampNeg a2))) := by
    intro b
    rw [rep_ok (k := 17) (show j < la 17 from h8), gd_t (vin_nI h8 (by decide)), cl_nI (by omega)]
    show Sm (some (u.1 17 j, xst u 17 j a2)) (some (v.1 11 j, mst v 11 j a2))
    rw [show v.1 11 j = u.1 17 j from h.at (k := 17) (j := j) (by unfold stc; decide) h8]
    exact Sm_some (h.set (k := 17) (by unfold stc; decide) h8 (fun _ => b) (Or.inl (by decide)))
  refine s_ite (P := Sm) (fun c => key (Or.inl c)) (fun c => ?_)
  refine sw (P := Sm) (lo := 0) (hi := 100000) (by decide) (by decide) (Sm_some h) (fun q1 q2 => ?_)
  exact key (Or.inr (bd_of 0 100000 (by decide) (by decide) q1 q2))
theorem sim_trace (h : Rel u v) : Sr (fX7_trace u) (fX8_trace v) := ⟨u.2.2.2.2, rfl, by show some v.2.2.1 = _; rw [h.2.2.2.2.1]⟩
theorem sim_step (h : Rel u v) (a1 a2 a3 : Int32) : Sm (fX7_step u a1 a2 a3) (fX8_step v a1 a2 a3) := by
  unfold fX7_step fX8_step
  refine sw (P := Sm) (lo := 1) (hi := 1000) (by decide) (by decide) (Sm_some h) (fun q1 q2 => ?_)
  refine sw (P := Sm) (lo := 0) (hi := 400) (by decide) (by decide) (Sm_some h) (fun q3 q4 => ?_)
  refine sw (P := Sm) (lo := a2 + 1) (hi := 500) rfl (by decide) (Sm_some h) (fun q5 q6 => ?_)
  have b1 := bd_of 1 1000 (by decide) (by decide) q1 q2
  have b2 := bd_of 0 400 (by decide) (by decide) q3 q4
  obtain ⟨c, rfl, -, hc⟩ := bd_ex b2
  have q5' : ¬ a3 < nI (c + 1) := by rw [← nI_1]; exact q5
  obtain ⟨o, rfl, ho1, ho2⟩ := bd_ex (bd_of (c + 1) 500 (by decide) (by omega) q5' q6)
  obtain ⟨n, hn, e1, e2, e3⟩ := h.n
  unfold fX5_append
  rw [e1, e2]
  by_cases c5 : n = 5
  · subst c5
    rw [if_neg (show ¬ nI 5 < 5 by decide), if_pos (show nI 5 = 5 from rfl)]
    exact Sm_some h
  · have hlt : n < 5 := by omega
    rw [if_pos (show nI n < 5 from nI_lt hlt (by decide)), if_neg (show ¬ nI n = 5 from fun q => c5 ((nI_eq (by omega) (by decide)).mp q))]
    simp only [mst_2, e2]
    simp only [xst_2, e1]
    rw [gd_t (vin_nI hlt (by decide)), gd_t (vin_nI hlt (by decide)), cl_nI (by omega)]
    have k0 := h.set (k := 0) (j := n) (x := a1) (stc_lt (by decide)) hlt (fun q => absurd q (by omega)) (Or.inl (by decide))
    have k1 := k0.set (k := 1) (j := n) (x := nI c) (stc_lt (by decide)) hlt (fun q => absurd q (by rw [xst_2]; omega)) (Or.inr (by rw [xst_2]; omega))
    have k2 := k1.set (k := 2) (j := n) (x := nI o) (stc_lt (by decide)) hlt (fun q => absurd q (by rw [xst_2, xst_2]; omega)) (Or.inr (by rw [xst_2, xst_2]; omega))
    have k3 := k2.set (k := 3) (j := n) (x := 1) (stc_lt (by decide)) hlt (fun q => absurd q (by rw [xst_2, xst_2, xst_2]; omega)) (Or.inl (by decide))
    have k4 := k3.bump (n := n) e1 hlt (by rw [xst_ne (by decide), xst_ne (by decide), xst_ne (by decide), xst_at]; exact b1) (by rw [xst_ne (by decide), xst_ne (by decide), xst_at]; exact b2) (by rw [xst_ne (by decide), xst_at]; exact bd_nI (by omega) ho2 (by decide))
      (by rw [xst_ne (k' := 1) (by decide), xst_ne (k' := 1) (by decide), xst_at, xst_ne (k' := 2) (by decide), xst_at, cl_nI (by omega), cl_nI (by omega)]; omega) (by rw [xst_at]; exact bd_nI (k := 1) (by decide) (by decide) (by decide))
    have ea : nI n + 1 = nI (n + 1) := nI_1 n
    refine ⟨nI n, _, _, ?_, ?_, k4⟩
    · show some (nI n, xsz _ (nI n + 1)) = _
      rw [ea]
    rw [gd_t (vin_nI hlt (by decide)), gd_t (vin_nI hlt (by decide)), gd_t (vin_nI hlt (by decide))]
    show some ((nI n + 1) - 1, msz (mst (mst (mst (mst v 0 n a1) 1 n (nI c)) 2 n (nI o)) 3 n 1) (nI n + 1)) = _
    rw [ea, nI_pred]
    rfl
theorem sim_meter (h : Rel u v) (a1 : Int32) : Sm (fX7_meter u a1) (fX8_meter v a1) := by
  unfold fX7_meter fX8_meter
  obtain ⟨n, hn, e1, e2, e3⟩ := h.m
  have key : (a1 = 1 ∨ a1 = -1) → ¬ n = 8 → Sm ((fX4_append u a1).bind (fun r => some (r.1, r.2))) (gd (vin v.2.2.2.2 8) (gd (vin ((mst v 10 v.2.2.2.2.toNatClampNeg a1).2.2.2.2) 8) (some (((mms (mst (mst v 10 v.2.2.2.2.toNatClampNeg a1) 11 ((mst v 10 v.2.2.2.2.toNatClampNeg a1).2.2.2.2).toNatClampNeg (-9)) (((mst (mst v 10 v.2.2.2.2.toNatClampNeg a1) 11 ((mst v 10 v.2.2.2.2.toNatClampNeg a1).2.2.2.2).toNatClampNeg (-9)).2.2.2.2) + 1)).2.2.2.2) - 1, mms (mst (mst v 10 v.2.2.2.2.toNatClampNeg a1) 11 ((mst v 10 v.2.2.2.2.toNatClampNeg a1).2.2.2.2).toNatClampNeg (-9)) (((mst (mst v 10 v.2.2.2.2.toNatClampNeg a1) 11 ((mst v 10 v.2.2.2.2.toNatClampNeg a1).2.2.2.2).toNatClampNeg (-9)).2.2.2.2) + 1))))) := by
    intro hs h8
    have hlt : n < 8 := by omega
    simp only [mst_2, e2]
    unfold fX4_append
    simp only [xst_2, e1]
    rw [if_pos (show nI n < 8 from nI_lt (b := 8) (by omega) (by decide))]
    rw [gd_t (vin_nI hlt (by decide)), gd_t (vin_nI hlt (by decide)), gd_t (vin_nI hlt (by decide)), cl_nI (by omega)]
    have k0 := h.set (k := 16) (j := n) (x := a1) (by unfold stc; decide) hlt (fun _ => hs) (Or.inl (by decide))
    have k1 := k0.set (k := 17) (j := n) (x := -9) (by unfold stc; decide) hlt (fun _ => Or.inl rfl) (Or.inl (by decide))
    have k4 := k1.bumpM (n := n) e1 hlt (by rw [xst_ne (by decide), xst_at]; exact hs) (by rw [xst_at])
    have ea : nI n + 1 = nI (n + 1) := nI_1 n
    refine ⟨nI n, _, _, ?_, ?_, k4⟩
    · show some (nI n, xms _ (nI n + 1)) = _
      rw [ea]
    show some ((nI n + 1) - 1, mms (mst (mst v 10 n a1) 11 n (-9)) (nI n + 1)) = _
    rw [ea, nI_pred]
    rfl
  have full8 : n = 8 → fX4_append u a1 = some (-3, u) := fun q => by
    unfold fX4_append
    rw [e1, q, if_neg (show ¬ nI 8 < 8 by decide)]
  refine s_ite (P := Sm) (fun c => ?_) (fun c => s_ite (P := Sm) (fun c2 => ?_) (fun _ => Sm_some h))
  · by_cases c8 : n = 8
    · rw [full8 c8, if_pos (show v.2.2.2.2 = 8 by rw [e2, c8]; rfl)]
      exact Sm_some h
    · rw [if_neg (show ¬ v.2.2.2.2 = 8 from fun q => c8 ((nI_eq (by omega) (by decide)).mp (e2 ▸ q)))]
      exact key (Or.inl c) c8
  · by_cases c8 : n = 8
    · rw [full8 c8, if_pos (show v.2.2.2.2 = 8 by rw [e2, c8]; rfl)]
      exact Sm_some h
    · rw [if_neg (show ¬ v.2.2.2.2 = 8 from fun q => c8 ((nI_eq (by omega) (by decide)).mp (e2 ▸ q)))]
      exact key (Or.inr c2) c8
end SA
