theorem sw_out {y : Int32} (h : ∀ k : Nat, k < 21 → ¬ y = nI k) : y.toInt < 0 ∨ 20 < y.toInt := by
  rcases Int.lt_or_le y.toInt 0 with q | q
  · exact Or.inl q
  · right
    rcases Int.lt_or_le 20 y.toInt with r | r
    · exact r
    · exact absurd (Int32.toInt_inj.mp (by rw [nI_toInt (by omega)]; omega)) (h y.toInt.toNat (by omega))
theorem len6 {L n : Nat} (hL : L ≤ 3072) (hn : n ≤ 3072) : nI L - 6 < nI n ↔ L < n + 6 := by
  have e : (nI L - 6).toInt = (L : Int) - 6 := by
    have e6 : (6 : Int32).toInt = 6 := rfl
    rw [Int32.toInt_sub, nI_toInt (by omega), e6, fb_bmod (by omega) (by omega)]
  rw [Int32.lt_iff_toInt_lt, e, nI_toInt (by omega)]
  omega
set_option maxHeartbeats 4000000 in
set_option maxRecDepth 100000 in
/-- the law's loop -/
theorem lw_loop {p : Program} {l : Launch} {e : Env} {s : State} {m : MethodId} {below : List Frame} {meth : Method} {c : Code} {b L : Nat} {xs : Nat → Int32} {D : va_G} {ad : Nat → Nat} {cs : Nat → ClassId} {tM : Nat} {am : Nat → Nat} {cm : Nat → ClassId} (F : lwF p s m c b L xs D ad cs tM am cm) (hr : meth.sig.returnType = ret) (hlocks : meth.locks = false) (hL : L ≤ 3072) :
    ∀ (k n : Nat) (u : UX) (v : UM) (H : Heap) (locs : List Loc) (ls : Array Slot), L ≤ n + k → n ≤ 3072 → Rel u v → lv_has ls 4 [(3, .int (nI n)), (2, .ref (am 16)), (1, .ref (ad 29)), (0, .ref b)] → va_P D vwCl (wX ad cs u) H → va_P D vwCl (wM am cm v) H → va_S (kA s.heap.size) s.heap H locs →
      W p l e room_1 s m #[Value.ref b] below meth c H locs 600000 7302250 (lw_Z below #[Value.ref b] s) (F0 m 18 ls []) := by
  obtain ⟨hx, hb, hml, hown, hts, hX, hbl, hCx, hCm, gx, gm, hdis⟩ := id F
  have hbA : ¬ kA s.heap.size b := fun q => by unfold kA at q; omega
  intro k
  induction k with
  | zero =>
    intro n u v H locs ls hk hn h hl hPx hPm hS
    refine lv_iload_n hx hb dL_law_18 rfl (lv_at hl 0 rfl) ?_
    refine lv_aload_n hx hb dL_law_19 rfl (lv_at hl 3 rfl) ?_
    refine va_slen hx hb hX hbl hbA hS dL_law_20 ?_
    refine lv_bipush (v := 6) hx hb dL_law_21 (by decide) ?_
    refine lv_isub hx hb dL_law_23 ?_
    refine lv_icmp_gt (tgt := 827) hx hb dL_law_24 (by decide) (fun cq => ?_) (fun cq => absurd ((len6 hL hn).mpr (by omega)) cq)
    refine lv_iconst (v := 1) hx hb dL_law_827 (by decide) ?_
    refine va_forget (fun q hq => hS.2.2 q hq) ?_
    exact lw_ret hx hb hr hlocks dL_law_828
  | succ k ih =>
    intro n u v H locs ls hk hn h hl hPx hPm hS
    refine lv_iload_n hx hb dL_law_18 rfl (lv_at hl 0 rfl) ?_
    refine lv_aload_n hx hb dL_law_19 rfl (lv_at hl 3 rfl) ?_
    refine va_slen hx hb hX hbl hbA hS dL_law_20 ?_
    refine lv_bipush (v := 6) hx hb dL_law_21 (by decide) ?_
    refine lv_isub hx hb dL_law_23 ?_
    refine lv_icmp_gt (tgt := 827) hx hb dL_law_24 (by decide) (fun cq => ?_) (fun cq => ?_)
    · refine lv_iconst (v := 1) hx hb dL_law_827 (by decide) ?_
      refine va_forget (fun q hq => hS.2.2 q hq) ?_
      exact lw_ret hx hb hr hlocks dL_law_828
    · have hle : n + 6 ≤ L := Nat.le_of_not_lt (fun q => cq ((len6 hL hn).mpr q))
      refine lv_aload_n hx hb dL_law_27 rfl (lv_at hl 3 rfl) ?_
      refine lv_iload_n hx hb dL_law_28 rfl (lv_at hl 0 rfl) ?_
      refine va_sld hx hb hX hbl hbA hS (vp_in_nI (show n < L by omega) (by omega)) dL_law_29 ?_
      refine lv_bipush (v := 31) hx hb dL_law_30 (by decide) ?_
      refine lv_iand hx hb dL_law_32 ?_
      have h1 : vp_in (nI n + 1) L := by rw [show (1 : Int32) = nI 1 from rfl, nI_add]; exact vp_in_nI (by omega) (by omega)
      have h2 : vp_in (nI n + 2) L := by rw [show (2 : Int32) = nI 2 from rfl, nI_add]; exact vp_in_nI (by omega) (by omega)
      have h3 : vp_in (nI n + 3) L := by rw [show (3 : Int32) = nI 3 from rfl, nI_add]; exact vp_in_nI (by omega) (by omega)
      have h4 : vp_in (nI n + 4) L := by rw [show (4 : Int32) = nI 4 from rfl, nI_add]; exact vp_in_nI (by omega) (by omega)
      have h5 : vp_in (nI n + 5) L := by rw [show (5 : Int32) = nI 5 from rfl, nI_add]; exact vp_in_nI (by omega) (by omega)
      have kk : ∀ (u : UX) (v : UM) (H : Heap) (locs : List Loc), Rel u v → va_P D vwCl (wX ad cs u) H → va_P D vwCl (wM am cm v) H → va_S (kA s.heap.size) s.heap H locs → W p l e room_1 s m #[Value.ref b] below meth c H locs 600000 7302250 (lw_Z below #[Value.ref b] s) (F0 m 821 ls []) := by
        intro u v H locs h hPx hPm hS
        refine lv_iinc (v := nI (n + 6)) (lv' := [(3, .int (nI (n + 6))), (2, .ref (am 16)), (1, .ref (ad 29)), (0, .ref b)]) hx hb dL_law_821 hl (k := 0) rfl (show nI n + nI 6 = nI (n + 6) from nI_add n 6) (by decide) rfl (fun ls hl => ?_)
        refine lv_goto (tgt := 18) hx hb dL_law_824 (by decide) ?_
        exact ih (n + 6) u v H locs ls (by omega) (by omega) h hl hPx hPm hS
      generalize xs (nI n).toNatClampNeg &&& 31 = y
      by_cases e0 : y = nI 0
      · subst e0
        refine lv_tableIn (tgt := 132) hx hb dL_law_33 (by decide) (by decide) rfl (by decide) ?_
        exact lw_c0 F h hl h1 h2 h3 h4 h5 hPx hPm hS kk
      by_cases e1 : y = nI 1
      · subst e1
        refine lv_tableIn (tgt := 175) hx hb dL_law_33 (by decide) (by decide) rfl (by decide) ?_
        exact lw_c1 F h hl h1 h2 h3 h4 h5 hPx hPm hS kk
      by_cases e2 : y = nI 2
      · subst e2
        refine lv_tableIn (tgt := 218) hx hb dL_law_33 (by decide) (by decide) rfl (by decide) ?_
        exact lw_c2 F h hl h1 h2 h3 h4 h5 hPx hPm hS kk
      by_cases e3 : y = nI 3
      · subst e3
        refine lv_tableIn (tgt := 251) hx hb dL_law_33 (by decide) (by decide) rfl (by decide) ?_
        exact lw_c3 F h hl h1 h2 h3 h4 h5 hPx hPm hS kk
      by_cases e4 : y = nI 4
      · subst e4
        refine lv_tableIn (tgt := 284) hx hb dL_law_33 (by decide) (by decide) rfl (by decide) ?_
        exact lw_c4 F h hl h1 h2 h3 h4 h5 hPx hPm hS kk
      by_cases e5 : y = nI 5
      · subst e5
        refine lv_tableIn (tgt := 318) hx hb dL_law_33 (by decide) (by decide) rfl (by decide) ?_
        exact lw_c5 F h hl h1 h2 h3 h4 h5 hPx hPm hS kk
      by_cases e6 : y = nI 6
      · subst e6
        refine lv_tableIn (tgt := 342) hx hb dL_law_33 (by decide) (by decide) rfl (by decide) ?_
        exact lw_c6 F h hl h1 h2 h3 h4 h5 hPx hPm hS kk
      by_cases e7 : y = nI 7
      · subst e7
        refine lv_tableIn (tgt := 375) hx hb dL_law_33 (by decide) (by decide) rfl (by decide) ?_
        exact lw_c7 F h hl h1 h2 h3 h4 h5 hPx hPm hS kk
      by_cases e8 : y = nI 8
      · subst e8
        refine lv_tableIn (tgt := 418) hx hb dL_law_33 (by decide) (by decide) rfl (by decide) ?_
        exact lw_c8 F h hl h1 h2 h3 h4 h5 hPx hPm hS kk
      by_cases e9 : y = nI 9
      · subst e9
        refine lv_tableIn (tgt := 451) hx hb dL_law_33 (by decide) (by decide) rfl (by decide) ?_
        exact lw_c9 F h hl h1 h2 h3 h4 h5 hPx hPm hS kk
      by_cases e10 : y = nI 10
      · subst e10
        refine lv_tableIn (tgt := 464) hx hb dL_law_33 (by decide) (by decide) rfl (by decide) ?_
        exact lw_c10 F h hl h1 h2 h3 h4 h5 hPx hPm hS kk
      by_cases e11 : y = nI 11
      · subst e11
        refine lv_tableIn (tgt := 498) hx hb dL_law_33 (by decide) (by decide) rfl (by decide) ?_
        exact lw_c11 F h hl h1 h2 h3 h4 h5 hPx hPm hS kk
      by_cases e12 : y = nI 12
      · subst e12
        refine lv_tableIn (tgt := 541) hx hb dL_law_33 (by decide) (by decide) rfl (by decide) ?_
        exact lw_c12 F h hl h1 h2 h3 h4 h5 hPx hPm hS kk
      by_cases e13 : y = nI 13
      · subst e13
        refine lv_tableIn (tgt := 604) hx hb dL_law_33 (by decide) (by decide) rfl (by decide) ?_
        exact lw_c13 F h hl h1 h2 h3 h4 h5 hPx hPm hS kk
      by_cases e14 : y = nI 14
      · subst e14
        refine lv_tableIn (tgt := 647) hx hb dL_law_33 (by decide) (by decide) rfl (by decide) ?_
        exact lw_c14 F h hl h1 h2 h3 h4 h5 hPx hPm hS kk
      by_cases e15 : y = nI 15
      · subst e15
        refine lv_tableIn (tgt := 670) hx hb dL_law_33 (by decide) (by decide) rfl (by decide) ?_
        exact lw_c15 F h hl h1 h2 h3 h4 h5 hPx hPm hS kk
      by_cases e16 : y = nI 16
      · subst e16
        refine lv_tableIn (tgt := 693) hx hb dL_law_33 (by decide) (by decide) rfl (by decide) ?_
        exact lw_c16 F h hl h1 h2 h3 h4 h5 hPx hPm hS kk
      by_cases e17 : y = nI 17
      · subst e17
        refine lv_tableIn (tgt := 726) hx hb dL_law_33 (by decide) (by decide) rfl (by decide) ?_
        exact lw_c17 F h hl h1 h2 h3 h4 h5 hPx hPm hS kk
      by_cases e18 : y = nI 18
      · subst e18
        refine lv_tableIn (tgt := 750) hx hb dL_law_33 (by decide) (by decide) rfl (by decide) ?_
        exact lw_c18 F h hl h1 h2 h3 h4 h5 hPx hPm hS kk
      by_cases e19 : y = nI 19
      · subst e19
        refine lv_tableIn (tgt := 784) hx hb dL_law_33 (by decide) (by decide) rfl (by decide) ?_
        exact lw_c19 F h hl h1 h2 h3 h4 h5 hPx hPm hS kk
      by_cases e20 : y = nI 20
      · subst e20
        refine lv_tableIn (tgt := 807) hx hb dL_law_33 (by decide) (by decide) rfl (by decide) ?_
        exact lw_c20 F h hl h1 h2 h3 h4 h5 hPx hPm hS kk
      refine lv_tableOut (tgt := 821) hx hb dL_law_33 (sw_out (fun k hk => ?_)) (by decide) ?_
      · rcases (show k = 0 ∨ k = 1 ∨ k = 2 ∨ k = 3 ∨ k = 4 ∨ k = 5 ∨ k = 6 ∨ k = 7 ∨ k = 8 ∨ k = 9 ∨ k = 10 ∨ k = 11 ∨ k = 12 ∨ k = 13 ∨ k = 14 ∨ k = 15 ∨ k = 16 ∨ k = 17 ∨ k = 18 ∨ k = 19 ∨ k = 20 by omega) with rfl | rfl | rfl | rfl | rfl | rfl | rfl | rfl | rfl | rfl | rfl | rfl | rfl | rfl | rfl | rfl | rfl | rfl | rfl | rfl | rfl <;> assumption
      · exact kk u v H locs h hPx hPm hS
