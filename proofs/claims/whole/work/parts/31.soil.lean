/-! dirt at the end of a step, by the class and by the reference -/
section SI
variable {u : UX} {v : UM}
abbrev phX (u : UX) (o : List Nat) : Nat → Nat × Nat := Ph (nN u) (PN u) (WN u) (LD u) o
abbrev chX (u : UX) (o : List Nat) : Nat → Nat × Nat := Ch (nN u) (PN u) (WN u) (LD u) o
abbrev vvX (u : UX) (o : List Nat) (s i : Nat) : Nat := VV (PN u) (phX u o) (Dn (WN u) o) s i
/-- no step is dry -/
def Wet (u : UX) : Prop := ∀ s, s < nN u → 0 < WN u s
theorem WN_le (h : Rel u v) {s : Nat} (hs : s < nN u) : WN u s ≤ 600 ∧ fb_sm (fun r => PN u r s) (nN u) ≤ WN u s := by
  have hn := h.nle
  have f := h.F (show s < 5 by omega)
  have b := fb_sm_bound (f := fun r => PN u r s) (c := 100) (n := nN u) (fun r hr => (h.P (show r < 5 by omega) (show s < 5 by omega)).2.2.1)
  have b2 : nN u * 100 ≤ 5 * 100 := Nat.mul_le_mul_right _ hn
  unfold WN
  omega
theorem Wet.W (h : Rel u v) (hw : Wet u) : ∀ s, s < nN u → 0 < WN u s ∧ WN u s ≤ 600 ∧ fb_sm (fun r => PN u r s) (nN u) ≤ WN u s := fun s hs => ⟨hw s hs, WN_le h hs⟩
theorem Wet.num (h : Rel u v) (hw : Wet u) {o : List Nat} (g : Gd (nN u) (PN u) o) : Num (nN u) (PN u) (WN u) (LD u) o := Num_ok (Wet.W h hw) (fun s hs => (h.A hs).1.2.2.2) g
theorem pow4 {k : Nat} (h : k ≤ 4) : 600 ^ k ≤ 129600000000 := by
  have h2 : 600 ^ k ≤ 600 ^ 4 := Nat.pow_le_pow_right (by decide) h
  have h3 : 600 ^ 4 = 129600000000 := by decide
  omega
/-- bounds where one more step is taken -/
theorem bnds (h : Rel u v) (hw : Wet u) {o : List Nat} {s : Nat} (g : Gd (nN u) (PN u) (s :: o)) : 0 < Dn (WN u) o ∧ Dn (WN u) o ≤ 129600000000 ∧ Dn (WN u) o * WN u s ≤ 77760000000000 ∧ 0 < Dn (WN u) o * WN u s ∧ vvX u o s (nN u) ≤ 311040000000000000 ∧ LD u s * Dn (WN u) o ≤ 129600000000000 := by
  have hn := h.nle
  have l := g.len
  rw [List.length_cons] at l
  have W := Wet.W h hw
  have d := Dn_bd (W := WN u) (fun s hs => ⟨(W s hs).1, (W s hs).2.1⟩) g.2.2.2
  have p := pow4 (show o.length ≤ 4 by omega)
  have w := W s g.1
  have b := VV_bd (Wet.num h hw g.2.2.2) g.2.2.1 (nN u) (Nat.le_refl _)
  have d2 : Dn (WN u) o ≤ 129600000000 := Nat.le_trans d.2 p
  have e1 : Dn (WN u) o * WN u s ≤ 129600000000 * 600 := Nat.mul_le_mul d2 w.2.1
  have e2 : 1000 * o.length * Dn (WN u) o * fb_sm (fun r => PN u r s) (nN u) ≤ 1000 * 4 * 129600000000 * 600 := Nat.mul_le_mul (Nat.mul_le_mul (Nat.mul_le_mul_left _ (by omega)) d2) (Nat.le_trans w.2.2 w.2.1)
  have e3 : LD u s * Dn (WN u) o ≤ 1000 * 129600000000 := Nat.mul_le_mul (h.A g.1).1.2.2.2 d2
  refine ⟨d.1, d2, by omega, Nat.mul_pos d.1 w.1, Nat.le_trans b (by omega), by omega⟩
theorem addT_X {w : UX} {q q1 a b U L p : Nat} (hq : w.2.1 q = (lN a, lN b)) (hq1 : w.2.1 q1 = (lN U, lN L)) (hb : 0 < b) (hL : 0 < L) (hb2 : b < 2 ^ 62) (hL2 : L < 2 ^ 62) (hp : p < 2 ^ 31) (hN : a * (L / Nat.gcd b L) + U * p * (b / Nat.gcd b L) < 2 ^ 63) (hM : b * (L / Nat.gcd b L) < 2 ^ 63) (hM0 : 0 < b * (L / Nat.gcd b L)) : fX2_addTimes w q q1 (nI p) = some (setF w q (lN (rU (a * (L / Nat.gcd b L) + U * p * (b / Nat.gcd b L)) (b * (L / Nat.gcd b L)))) (lN (rL (a * (L / Nat.gcd b L) + U * p * (b / Nat.gcd b L)) (b * (L / Nat.gcd b L))))) := by
  have g0 : 0 < Nat.gcd b L := Nat.gcd_pos_of_pos_left _ hb
  have g1 : Nat.gcd b L ≤ b := Nat.gcd_le_left _ hb
  unfold fX2_addTimes
  rw [hq, hq1]
  show ((fX2_commonDivisor (lN b) (lN L)).bind _) = _
  rw [bnd (cdX (by omega) (by omega) hL), gd_t (nz_lN g0 (by omega))]
  show ((fX2_become w q (lN a * (lN L / lN (Nat.gcd b L)) + lN U * (nI p).toInt64 * (lN b / lN (Nat.gcd b L))) (lN b * (lN L / lN (Nat.gcd b L)))).bind (fun r => some r)) = _
  rw [nI_l hp, pk_lDiv (by omega) g0 (by omega), pk_lDiv (by omega) g0 (by omega), lN_mul, lN_mul, lN_mul, lN_mul, lN_add]
  exact bnd (become_ok hN hM hM0)
/-- the class's fractions, where the steps of o are done -/
def FX (u w : UX) (o : List Nat) : Prop := sameX u w ∧ ∀ x, x ∈ o → w.2.1 (24 + x) = (lN (phX u o x).1, lN (phX u o x).2) ∧ w.2.1 (19 + x) = (lN (chX u o x).1, lN (chX u o x).2)
theorem so15 (h : Rel u v) (hw : Wet u) {o : List Nat} {s : Nat} (g : Gd (nN u) (PN u) (s :: o)) {w0 : UX} (q0 : FX u w0 o) : ∀ (k i f : Nat) (w : UX), i + k = nN u → k < f → sameX u w → (∀ x, x ≠ 19 + s → w.2.1 x = w0.2.1 x) → w.2.1 (19 + s) = (lN (rU (vvX u o s i) (Dn (WN u) o)), lN (rL (vvX u o s i) (Dn (WN u) o))) → w.1 = w0.1 → ∃ w', fX1_soil_15 (nI s) f (nI i) w = some w' ∧ sameX u w' ∧ (∀ x, x ≠ 19 + s → w'.2.1 x = w0.2.1 x) ∧ w'.2.1 (19 + s) = (lN (rU (vvX u o s (nN u)) (Dn (WN u) o)), lN (rL (vvX u o s (nN u)) (Dn (WN u) o))) ∧ w'.1 = w0.1 := by
  have hn := h.nle
  have hs := g.1
  have B := bnds h hw g
  have N := Wet.num h hw g.2.2.2
  intro k
  induction k with
  | zero =>
    intro i f w hi hf e1 e2 e3 e4
    obtain ⟨f, rfl⟩ := fuel1 hf
    rw [fX1_soil_15, show w.2.2.1 = u.2.2.1 by rw [e1.2], if_pos ((h.lX (by omega)).mpr (by omega))]
    rw [show i = nN u by omega] at e3
    exact ⟨w, rfl, e1, e2, e3, e4⟩
  | succ k ih =>
    intro i f w hi hf e1 e2 e3 e4
    obtain ⟨f, rfl⟩ := fuel1 hf
    have hp := h.P (show i < 5 by omega) (show s < 5 by omega)
    rw [fX1_soil_15, show w.2.2.1 = u.2.2.1 by rw [e1.2], if_neg (fun c => by have := (h.lX (by omega)).mp c; omega), gd_t (vin_nI (show i < 5 by omega) (by decide)), cl_nI (by omega), cl_nI (by omega), e1.1 (6 + i) (by omega) (by omega) (by omega), hp.1, nI_1]
    have ev : vvX u o s (i + 1) = vvX u o s i + (if PN u i s = 0 then 0 else (phX u o i).1 * (Dn (WN u) o / (phX u o i).2) * PN u i s) := fb_sm_succ _ _
    by_cases c : PN u i s = 0
    · rw [if_pos ((nI_le0 (by omega)).mpr c)]
      rw [if_pos c, Nat.add_zero] at ev
      exact ih (i + 1) f w (by omega) (by omega) e1 e2 (by rw [ev]; exact e3) e4
    · rw [if_neg (fun z => c ((nI_le0 (by omega)).mp z))]
      rw [if_neg c] at ev
      have hio := g.2.2.1 i (by omega) c
      obtain ⟨n1, n2, n3⟩ : 0 < (phX u o i).2 ∧ (phX u o i).2 ∣ Dn (WN u) o ∧ (phX u o i).1 ≤ 1000 * o.length * (phX u o i).2 := N i hio
      have his : 24 + i ≠ 19 + s := by omega
      have hq1 := (q0.2 i hio).1
      have b1 := rL_pos (x := vvX u o s i) B.1
      have b2 := rL_dvd (vvX u o s i) (Dn (WN u) o)
      obtain ⟨a1, a2, a3⟩ := add_eq (a := rU (vvX u o s i) (Dn (WN u) o)) (V := vvX u o s i) (U := (phX u o i).1) (p := PN u i s) b1 n1 b2 n2 r_cross
      have m1 : vvX u o s (i + 1) ≤ vvX u o s (nN u) := VV_mono (by omega)
      have l1 := Nat.le_of_dvd B.1 a2
      have l2 := Nat.le_of_dvd B.1 b2
      have l3 := Nat.le_of_dvd B.1 n2
      rw [← ev] at a1
      have hN : rU (vvX u o s i) (Dn (WN u) o) * ((phX u o i).2 / Nat.gcd (rL (vvX u o s i) (Dn (WN u) o)) (phX u o i).2) + (phX u o i).1 * PN u i s * (rL (vvX u o s i) (Dn (WN u) o) / Nat.gcd (rL (vvX u o s i) (Dn (WN u) o)) (phX u o i).2) ≤ vvX u o s (i + 1) := by
        refine Nat.le_of_mul_le_mul_right (c := Dn (WN u) o) ?_ B.1
        rw [a1]
        exact Nat.mul_le_mul_left _ l1
      have z := addT_X (w := w) (q := 19 + s) (q1 := 24 + i) (p := PN u i s) e3 (by rw [e2 _ his]; exact hq1) b1 n1 (by omega) (by omega) (by omega) (by omega) (by omega) a3
      rw [bnd z]
      have hr := r_eq a3 B.1 a1
      rw [hr.1, hr.2]
      refine ih (i + 1) f _ (by omega) (by omega) (e1.trans setF_same) (fun x hx => ?_) ?_ e4
      · rw [setF_ne hx]; exact e2 x hx
      · rw [setF_at]
theorem same_WN (h : Rel u v) {w : UX} (q : sameX u w) {s : Nat} : WN w s = WN u s ∧ nN w = nN u := by
  have hn := h.nle
  have e1 : nN w = nN u := by unfold nN; rw [q.2]
  refine ⟨?_, e1⟩
  unfold WN FN
  rw [e1, q.1 5 (by decide) (by decide) (by decide)]
  rw [fb_sm_cong (f := fun r => PN w r s) (g := fun r => PN u r s) (fun r hr => by unfold PN; rw [q.1 (6 + r) (by omega) (by omega) (by omega)])]
theorem div_X {w : UX} {q a b k : Nat} (hq : w.2.1 q = (lN a, lN b)) (hk : 0 < k) (hk2 : k < 2 ^ 31) (ha : a < 2 ^ 63) (hb : b * k < 2 ^ 63) (hb0 : 0 < b * k) : fX2_divideBy w q (nI k) = some (setF w q (lN (rU a (b * k))) (lN (rL a (b * k)))) := by
  unfold fX2_divideBy
  rw [if_neg (fun z => by have := (nI_le0 hk2).mp z; omega), hq]
  show ((fX2_become w q (lN a) (lN b * (nI k).toInt64)).bind (fun r => some r)) = _
  rw [nI_l hk2, lN_mul]
  exact bnd (become_ok ha hb hb0)
theorem soil_X (h : Rel u v) (hw : Wet u) {o : List Nat} {s : Nat} (g : Gd (nN u) (PN u) (s :: o)) {w0 : UX} (q0 : FX u w0 o) : ∃ w', fX1_soil w0 (nI s) = some w' ∧ FX u w' (s :: o) ∧ w'.1 = w0.1 := by
  have hn := h.nle
  have hs := g.1
  have B := bnds h hw g
  have W := Wet.W h hw s hs
  have hA := h.A hs
  have e0 : fX2_become w0 (19 + s) 0 1 = some (setF w0 (19 + s) (lN (rU 0 1)) (lN (rL 0 1))) := become_ok (a := 0) (b := 1) (by decide) (by decide) (by decide)
  have z0 := r_eq (x := 0) (y := 1) (x' := 0) (y' := Dn (WN u) o) (by decide) B.1 (by omega)
  obtain ⟨w1, f1, s1, o1, c1, a1⟩ := so15 h hw g q0 (nN u) 0 FU (setF w0 (19 + s) (lN (rU 0 1)) (lN (rL 0 1))) (by omega) (fu5 h) (q0.1.trans setF_same) (fun x hx => setF_ne hx) (by rw [setF_at, z0.1, z0.2]; rfl) rfl
  have R1 : Rel w1 v := h.same s1 sameM.rfl
  have f2 : fX1_comingTo w1 (nI s) = some (nI (WN u s)) := by rw [com_X R1 (show s < 5 by omega), (same_WN h s1).1]
  generalize hV : vvX u o s (nN u) = V at *
  generalize hD : Dn (WN u) o = D at *
  have ca := r_cross (x := V) (y := D)
  have la := rU_le V D
  have lb := rL_le V D
  have pb := rL_pos (x := V) B.1
  generalize rU V D = a at *
  generalize rL V D = b at *
  have f3 : fX2_become w1 (24 + s) (w1.2.1 (19 + s)).1 (w1.2.1 (19 + s)).2 = some (setF w1 (24 + s) (lN (rU a b)) (lN (rL a b))) := by
    rw [c1]
    exact become_ok (by omega) (by omega) pb
  have cb := r_cross (x := a) (y := b)
  have lc := rU_le a b
  have ld := rL_le a b
  have pc := rL_pos (x := a) pb
  generalize rU a b = a2 at *
  generalize rL a b = b2 at *
  have cd : a2 * D = V * b2 := by
    have t1 : a2 * D * b = V * b2 * b := by
      have x1 : a2 * D * b = a2 * b * D := by ac_rfl
      have x2 : a * b2 * D = a * D * b2 := by ac_rfl
      have x3 : V * b * b2 = V * b2 * b := by ac_rfl
      rw [x1, cb, x2, ca, x3]
    exact Nat.eq_of_mul_eq_mul_right pb t1
  have el : (setF w1 (24 + s) (lN a2) (lN b2)).1 0 s = nI (LD u s) := by
    show w1.1 0 s = nI (LD u s)
    rw [s1.1 0 (by decide) (by decide) (by decide)]
    exact hA.1.1
  have f4 : fX2_addWhole (setF w1 (24 + s) (lN a2) (lN b2)) (24 + s) (nI (LD u s)) = some (xfU (setF w1 (24 + s) (lN a2) (lN b2)) (24 + s) (lN (a2 + LD u s * b2))) := by
    unfold fX2_addWhole
    rw [setF_at]
    show some (xfU _ (24 + s) (lN a2 + (nI (LD u s)).toInt64 * lN b2)) = _
    rw [nI_l (by omega), lN_mul, lN_add]
  have g4 : (xfU (setF w1 (24 + s) (lN a2) (lN b2)) (24 + s) (lN (a2 + LD u s * b2))).2.1 (24 + s) = (lN (a2 + LD u s * b2), lN b2) := by
    show (if 24 + s = 24 + s then (lN (a2 + LD u s * b2), ((setF w1 (24 + s) (lN a2) (lN b2)).2.1 (24 + s)).2) else _) = _
    rw [if_pos rfl, setF_at]
  have g4' : ∀ x, x ≠ 24 + s → (xfU (setF w1 (24 + s) (lN a2) (lN b2)) (24 + s) (lN (a2 + LD u s * b2))).2.1 x = w1.2.1 x := by
    intro x hx
    show (if x = 24 + s then _ else (setF w1 (24 + s) (lN a2) (lN b2)).2.1 x) = _
    rw [if_neg hx, setF_ne hx]
  have s4 : sameX u (xfU (setF w1 (24 + s) (lN a2) (lN b2)) (24 + s) (lN (a2 + LD u s * b2))) := ⟨s1.1, s1.2⟩
  have a4 : (xfU (setF w1 (24 + s) (lN a2) (lN b2)) (24 + s) (lN (a2 + LD u s * b2))).1 = w0.1 := a1
  generalize xfU (setF w1 (24 + s) (lN a2) (lN b2)) (24 + s) (lN (a2 + LD u s * b2)) = w4 at *
  have lld : LD u s * b2 ≤ LD u s * D := Nat.mul_le_mul_left _ (by omega)
  have lbw : b2 * WN u s ≤ D * WN u s := Nat.mul_le_mul_right _ (by omega)
  have lbw2 : b * WN u s ≤ D * WN u s := Nat.mul_le_mul_right _ (by omega)
  have pbw : 0 < b2 * WN u s := Nat.mul_pos pc W.1
  have pbw2 : 0 < b * WN u s := Nat.mul_pos pb W.1
  have f5 := div_X (w := w4) (q := 24 + s) (k := WN u s) g4 W.1 (by omega) (by omega) (by omega) pbw
  have r5 := r_eq (x := a2 + LD u s * b2) (y := b2 * WN u s) (x' := V + LD u s * D) (y' := D * WN u s) pbw B.2.2.2.1 (by
    have x1 : (a2 + LD u s * b2) * (D * WN u s) = (a2 * D + LD u s * b2 * D) * WN u s := by rw [← Nat.mul_assoc, Nat.add_mul]
    have x2 : (V + LD u s * D) * (b2 * WN u s) = (V * b2 + LD u s * D * b2) * WN u s := by rw [← Nat.mul_assoc, Nat.add_mul]
    have x3 : LD u s * b2 * D = LD u s * D * b2 := by ac_rfl
    rw [x1, x2, cd, x3])
  rw [r5.1, r5.2] at f5
  have f6 := div_X (w := setF w4 (24 + s) (lN (rU (V + LD u s * D) (D * WN u s))) (lN (rL (V + LD u s * D) (D * WN u s)))) (q := 19 + s) (k := WN u s) (a := a) (b := b) (by rw [setF_ne (by omega), g4' _ (by omega)]; exact c1) W.1 (by omega) (by omega) (by omega) pbw2
  have r6 := r_eq (x := a) (y := b * WN u s) (x' := V) (y' := D * WN u s) pbw2 B.2.2.2.1 (by
    rw [← Nat.mul_assoc, ca]
    ac_rfl)
  rw [r6.1, r6.2] at f6
  refine ⟨setF (setF w4 (24 + s) (lN (rU (V + LD u s * D) (D * WN u s))) (lN (rL (V + LD u s * D) (D * WN u s)))) (19 + s) (lN (rU V (D * WN u s))) (lN (rL V (D * WN u s))), ?_, ?_, ?_⟩
  · unfold fX1_soil
    rw [gd_t (vin_nI (show s < 5 by omega) (by decide)), cl_nI (by omega), bnd e0, show (0 : Int32) = nI 0 from rfl, bnd f1, bnd f2, bnd f3, el, bnd f4, bnd f5, bnd f6]
  · refine ⟨(s4.trans setF_same).trans setF_same, fun x hx => ?_⟩
    by_cases c : x = s
    · subst c
      have p1 : phX u (x :: o) x = (rU (V + LD u x * D) (D * WN u x), rL (V + LD u x * D) (D * WN u x)) := by
        have : phX u (x :: o) x = _ := if_pos rfl
        rw [this]
        show (rU (vvX u o x (nN u) + LD u x * Dn (WN u) o) (Dn (WN u) o * WN u x), rL (vvX u o x (nN u) + LD u x * Dn (WN u) o) (Dn (WN u) o * WN u x)) = _
        rw [hV, hD]
      have p2 : chX u (x :: o) x = (rU V (D * WN u x), rL V (D * WN u x)) := by
        have : chX u (x :: o) x = _ := if_pos rfl
        rw [this]
        show (rU (vvX u o x (nN u)) (Dn (WN u) o * WN u x), rL (vvX u o x (nN u)) (Dn (WN u) o * WN u x)) = _
        rw [hV, hD]
      rw [p1, p2]
      exact ⟨by rw [setF_ne (by omega), setF_at], by rw [setF_at]⟩
    · have hx' : x ∈ o := (List.mem_cons.mp hx).resolve_left c
      have hx5 := Gd.lt g.2.2.2 x hx'
      have p1 : phX u (s :: o) x = phX u o x := if_neg c
      have p2 : chX u (s :: o) x = chX u o x := if_neg c
      have qq := q0.2 x hx'
      rw [p1, p2, setF_ne (by omega), setF_ne (by omega), g4' _ (by omega), o1 _ (by omega), setF_ne (by omega), setF_ne (by omega), g4' _ (by omega), o1 _ (by omega)]
      exact qq
  · exact a4
/-! the reference -/
def FM (u : UX) (v z : UM) (o : List Nat) : Prop := sameM v z ∧ (∀ x, x < nN u → z.1 7 x = if x ∈ o then 1 else 0) ∧ ∀ x, x ∈ o → z.2.1 12 x = lN (phX u o x).1 ∧ z.2.1 13 x = lN (phX u o x).2 ∧ z.2.1 14 x = lN (chX u o x).1 ∧ z.2.1 15 x = lN (chX u o x).2
theorem ta8 (h : Rel u v) (hw : Wet u) {o : List Nat} {s : Nat} (g : Gd (nN u) (PN u) (s :: o)) {z : UM} (q : FM u v z o) : ∀ (k i f a b : Nat), i + k = nN u → k < f → 0 < b → b ∣ Dn (WN u) o → a * Dn (WN u) o = vvX u o s i * b → ∃ a' b', fX8_takes_8 (nI s) z f (lN a) (lN b) (nI i) = some (lN a', lN b') ∧ 0 < b' ∧ b' ∣ Dn (WN u) o ∧ a' * Dn (WN u) o = vvX u o s (nN u) * b' := by
  have hn := h.nle
  have hs := g.1
  have B := bnds h hw g
  have N := Wet.num h hw g.2.2.2
  intro k
  induction k with
  | zero =>
    intro i f a b hi hf b0 bd e
    obtain ⟨f, rfl⟩ := fuel1 hf
    rw [fX8_takes_8, show z.2.2.2.1 = v.2.2.2.1 by rw [q.1.2], if_pos ((h.lM (by omega)).mpr (by omega))]
    rw [show i = nN u by omega] at e
    exact ⟨a, b, rfl, b0, bd, e⟩
  | succ k ih =>
    intro i f a b hi hf b0 bd e
    obtain ⟨f, rfl⟩ := fuel1 hf
    have hp := h.P (show i < 5 by omega) (show s < 5 by omega)
    have x5 := ix5' (show i < 5 by omega) (show s < 5 by omega)
    rw [fX8_takes_8, show z.2.2.2.1 = v.2.2.2.1 by rw [q.1.2], if_neg (fun c => by have := (h.lM (by omega)).mp c; omega), gd_t x5.1, x5.2, q.1.1 6 (by decide) (by decide), hp.2.1, nI_1]
    have ev : vvX u o s (i + 1) = vvX u o s i + (if PN u i s = 0 then 0 else (phX u o i).1 * (Dn (WN u) o / (phX u o i).2) * PN u i s) := fb_sm_succ _ _
    by_cases c : PN u i s = 0
    · rw [if_pos ((nI_le0 (by omega)).mpr c)]
      rw [if_pos c, Nat.add_zero] at ev
      exact ih (i + 1) f a b (by omega) (by omega) b0 bd (by rw [ev]; exact e)
    · rw [if_neg (fun y => c ((nI_le0 (by omega)).mp y))]
      rw [if_neg c] at ev
      have hio := g.2.2.1 i (by omega) c
      obtain ⟨n1, n2, n3⟩ : 0 < (phX u o i).2 ∧ (phX u o i).2 ∣ Dn (WN u) o ∧ (phX u o i).1 ≤ 1000 * o.length * (phX u o i).2 := N i hio
      obtain ⟨m1, m2, -, -⟩ := q.2.2 i hio
      obtain ⟨a1, a2, a3⟩ := add_eq (a := a) (V := vvX u o s i) (U := (phX u o i).1) (p := PN u i s) b0 n1 bd n2 e
      have l1 := Nat.le_of_dvd B.1 bd
      have l3 := Nat.le_of_dvd B.1 n2
      have g0 : 0 < Nat.gcd b (phX u o i).2 := Nat.gcd_pos_of_pos_left _ b0
      have g1 : Nat.gcd b (phX u o i).2 ≤ b := Nat.gcd_le_left _ b0
      rw [← ev] at a1
      have eb : b / Nat.gcd b (phX u o i).2 * (phX u o i).2 = b * ((phX u o i).2 / Nat.gcd b (phX u o i).2) := by
        rw [← Nat.mul_div_assoc _ (Nat.gcd_dvd_right b _), Nat.mul_comm b, Nat.mul_div_assoc _ (Nat.gcd_dvd_left b _), Nat.mul_comm]
      rw [gd_t (vin_nI (show i < 5 by omega) (by decide)), cl_nI (by omega), m1, m2, bnd (cm_M (by omega) (by omega)), gd_t (nz_lN g0 (by omega)), nI_l (by omega), pk_lDiv (by omega) g0 (by omega), pk_lDiv (by omega) g0 (by omega), lN_mul, lN_mul, lN_mul, lN_add, lN_mul, eb]
      exact ih (i + 1) f _ _ (by omega) (by omega) a3 a2 a1
theorem msl_1 {z : UM} {k j : Nat} {x : Int64} : (msl z k j x).1 = z.1 := rfl
theorem msl_22 {z : UM} {k j : Nat} {x : Int64} : (msl z k j x).2.2 = z.2.2 := rfl
theorem msl_at {z : UM} {k j : Nat} {x : Int64} : (msl z k j x).2.1 k j = x := by
  show (if k = k then vp_updL (z.2.1 k) j x else z.2.1 k) j = x
  rw [if_pos rfl, pk_uLs]
theorem msl_nk {z : UM} {k k' j j' : Nat} {x : Int64} (h : ¬ k' = k) : (msl z k j x).2.1 k' j' = z.2.1 k' j' := by
  show (if k' = k then vp_updL (z.2.1 k) j x else z.2.1 k') j' = _
  rw [if_neg h]
theorem msl_nj {z : UM} {k k' j j' : Nat} {x : Int64} (h : ¬ j' = j) : (msl z k j x).2.1 k' j' = z.2.1 k' j' := by
  show (if k' = k then vp_updL (z.2.1 k) j x else z.2.1 k') j' = _
  by_cases c : k' = k
  · subst c
    rw [if_pos rfl, pk_uLn h]
  · rw [if_neg c]
theorem takes_M (h : Rel u v) (hw : Wet u) {o : List Nat} {s : Nat} (g : Gd (nN u) (PN u) (s :: o)) {z : UM} (q : FM u v z o) : ∃ z', fX8_takes z (nI s) = some z' ∧ FM u v z' (s :: o) := by
  have hn := h.nle
  have hs := g.1
  have B := bnds h hw g
  have W := Wet.W h hw s hs
  have hA := h.A hs
  obtain ⟨a, b, f1, b0, bd, e⟩ := ta8 h hw g q (nN u) 0 FU 0 1 (by omega) (fu5 h) (by decide) (Nat.one_dvd _) (by show 0 * _ = 0 * 1; omega)
  have R1 : Rel u z := h.same sameX.rfl q.1
  have f2 : fX8_comes z (nI s) = some (nI (WN u s)) := com_M R1 (show s < 5 by omega)
  generalize hV : vvX u o s (nN u) = V at *
  generalize hD : Dn (WN u) o = D at *
  have lb := Nat.le_of_dvd B.1 bd
  have la : a ≤ V := by
    refine Nat.le_of_mul_le_mul_right (c := D) ?_ B.1
    rw [e]
    exact Nat.mul_le_mul_left _ lb
  have lbw : b * WN u s ≤ D * WN u s := Nat.mul_le_mul_right _ lb
  have pbw : 0 < b * WN u s := Nat.mul_pos b0 W.1
  have lld : LD u s * b ≤ LD u s * D := Nat.mul_le_mul_left _ lb
  have g1 : 0 < Nat.gcd a (b * WN u s) := Nat.gcd_pos_of_pos_right _ pbw
  have g1' : Nat.gcd a (b * WN u s) ≤ b * WN u s := Nat.gcd_le_right _ pbw
  have g2 : 0 < Nat.gcd (a + LD u s * b) (b * WN u s) := Nat.gcd_pos_of_pos_right _ pbw
  have g2' : Nat.gcd (a + LD u s * b) (b * WN u s) ≤ b * WN u s := Nat.gcd_le_right _ pbw
  have r5 := r_eq (x := a + LD u s * b) (y := b * WN u s) (x' := V + LD u s * D) (y' := D * WN u s) pbw B.2.2.2.1 (by
    have x1 : (a + LD u s * b) * (D * WN u s) = (a * D + LD u s * b * D) * WN u s := by rw [← Nat.mul_assoc, Nat.add_mul]
    have x2 : (V + LD u s * D) * (b * WN u s) = (V * b + LD u s * D * b) * WN u s := by rw [← Nat.mul_assoc, Nat.add_mul]
    have x3 : LD u s * b * D = LD u s * D * b := by ac_rfl
    rw [x1, x2, e, x3])
  have r6 := r_eq (x := a) (y := b * WN u s) (x' := V) (y' := D * WN u s) pbw B.2.2.2.1 (by
    rw [← Nat.mul_assoc, e]
    ac_rfl)
  have el : z.1 0 s = nI (LD u s) := by
    rw [q.1.1 0 (by decide) (by decide)]
    exact hA.1.2.1
  refine ⟨mst (msl (msl (msl (msl z 14 s (lN (rU V (D * WN u s)))) 15 s (lN (rL V (D * WN u s)))) 12 s (lN (rU (V + LD u s * D) (D * WN u s)))) 13 s (lN (rL (V + LD u s * D) (D * WN u s)))) 7 s 1, ?_, ?_⟩
  · unfold fX8_takes
    rw [show (0 : Int64) = lN 0 from rfl, show (1 : Int64) = lN 1 from rfl, show (0 : Int32) = nI 0 from rfl, bnd f1, bnd f2]
    show ((fX8_common (lN a) (lN b * (nI (WN u s)).toInt64)).bind _) = _
    rw [nI_l (by omega), lN_mul, bnd (cm_M (by omega) (by omega)), gd_t (nz_lN g1 (by omega)), gd_t (vin_nI (show s < 5 by omega) (by decide)), cl_nI (by omega)]
    simp only [msl_1, el]
    rw [nI_l (by omega), lN_mul, lN_add, bnd (cm_M (by omega) (by omega)), gd_t (nz_lN g2 (by omega)), pk_lDiv (by omega) g1 (by omega), pk_lDiv (by omega) g1 (by omega), pk_lDiv (by omega) g2 (by omega), pk_lDiv (by omega) g2 (by omega)]
    rw [← r5.1, ← r5.2, ← r6.1, ← r6.2]
    rfl
  · refine ⟨⟨fun k c7 c8 => ?_, q.1.2⟩, fun x hx => ?_, fun x hx => ?_⟩
    · show (if k = 7 then _ else z.1 k) = v.1 k
      rw [if_neg c7]
      exact q.1.1 k c7 c8
    · by_cases c : x = s
      · subst c
        rw [mst_at, if_pos (List.mem_cons.mpr (Or.inl rfl))]
      · rw [mst_nj c, msl_1, msl_1, msl_1, msl_1, q.2.1 x hx]
        by_cases d : x ∈ o
        · rw [if_pos d, if_pos (List.mem_cons.mpr (Or.inr d))]
        · rw [if_neg d, if_neg (fun w => d ((List.mem_cons.mp w).resolve_left c))]
    · rw [mst_2]
      by_cases c : x = s
      · subst c
        have p1 : phX u (x :: o) x = (rU (V + LD u x * D) (D * WN u x), rL (V + LD u x * D) (D * WN u x)) := by
          have : phX u (x :: o) x = _ := if_pos rfl
          rw [this]
          show (rU (vvX u o x (nN u) + LD u x * Dn (WN u) o) (Dn (WN u) o * WN u x), rL (vvX u o x (nN u) + LD u x * Dn (WN u) o) (Dn (WN u) o * WN u x)) = _
          rw [hV, hD]
        have p2 : chX u (x :: o) x = (rU V (D * WN u x), rL V (D * WN u x)) := by
          have : chX u (x :: o) x = _ := if_pos rfl
          rw [this]
          show (rU (vvX u o x (nN u)) (Dn (WN u) o * WN u x), rL (vvX u o x (nN u)) (Dn (WN u) o * WN u x)) = _
          rw [hV, hD]
        rw [p1, p2]
        refine ⟨?_, ?_, ?_, ?_⟩
        · rw [msl_nk (by decide), msl_at]
        · rw [msl_at]
        · rw [msl_nk (by decide), msl_nk (by decide), msl_nk (by decide), msl_at]
        · rw [msl_nk (by decide), msl_nk (by decide), msl_at]
      · have hx' : x ∈ o := (List.mem_cons.mp hx).resolve_left c
        have p1 : phX u (s :: o) x = phX u o x := if_neg c
        have p2 : chX u (s :: o) x = chX u o x := if_neg c
        rw [p1, p2, msl_nj c, msl_nj c, msl_nj c, msl_nj c, msl_nj c, msl_nj c, msl_nj c, msl_nj c, msl_nj c, msl_nj c, msl_nj c, msl_nj c, msl_nj c, msl_nj c, msl_nj c, msl_nj c]
        exact q.2.2 x hx'
end SI
