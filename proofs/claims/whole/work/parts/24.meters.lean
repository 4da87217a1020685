/-! whole numbers as ints -/
def oI (z : Int) : Int32 := Int32.ofInt z
theorem oI_nat (n : Nat) : nI n = oI (n : Int) := by
  unfold oI nI
  simp [Int32.ofInt_eq_ofNat]
theorem oI_add (a b : Int) : oI a + oI b = oI (a + b) := (Int32.ofInt_add a b).symm
theorem oI_sub (a b : Int) : oI a - oI b = oI (a - b) := (Int32.ofInt_sub a b).symm
theorem oI_neg (a : Int) : -oI a = oI (-a) := (Int32.ofInt_neg a).symm
theorem oI_lt {a b : Int} (h1 : -1000000 ≤ a) (h2 : a ≤ 1000000) (h3 : -1000000 ≤ b) (h4 : b ≤ 1000000) : oI a < oI b ↔ a < b := by
  unfold oI
  rw [fa_lt, fb_ofI (by omega) (by omega), fb_ofI (by omega) (by omega)]
theorem oI_le {a b : Int} (h1 : -1000000 ≤ a) (h2 : a ≤ 1000000) (h3 : -1000000 ≤ b) (h4 : b ≤ 1000000) : oI a ≤ oI b ↔ a ≤ b := by
  unfold oI
  rw [fa_le, fb_ofI (by omega) (by omega), fb_ofI (by omega) (by omega)]
/-! the store -/
def inN (u : UX) (j : Nat) : Nat := (u.1 14 j).toNatClampNeg
def ouN (u : UX) (j : Nat) : Nat := (u.1 15 j).toNatClampNeg
def rA (u : UX) : Nat → Int
  | 0 => 0
  | i + 1 => rA u i + inN u i - ouN u i
def rB (u : UX) : Nat → Int
  | 0 => 0
  | i + 1 => if rA u (i + 1) < rB u i then rA u (i + 1) else rB u i
def rC (u : UX) : Nat → Int
  | 0 => 0
  | i + 1 => if rC u i < rA u i + inN u i then rA u i + inN u i else rC u i
section SD
variable {u : UX} {v : UM}
theorem Rel.S (h : Rel u v) {j : Nat} (hj : j < 24) : u.1 14 j = nI (inN u j) ∧ u.1 15 j = nI (ouN u j) ∧ v.1 9 (2 * j) = nI (inN u j) ∧ v.1 9 (2 * j + 1) = nI (ouN u j) ∧ inN u j ≤ 500 ∧ ouN u j ≤ 500 := by
  have a1 : v.1 9 (2 * j) = u.1 14 j := h.at (k := 14) (j := j) (by unfold stc; decide) hj
  have a2 : v.1 9 (2 * j + 1) = u.1 15 j := h.at (k := 15) (j := j) (by unfold stc; decide) hj
  have o1 : bd (u.1 14 j) 0 500 := h.ok (k := 14) (j := j) (by unfold stc; decide) hj
  have o2 : bd (u.1 15 j) 0 500 := h.ok (k := 15) (j := j) (by unfold stc; decide) hj
  exact ⟨o1.1, o2.1, a1.trans o1.1, a2.trans o2.1, o1.2.2, o2.2.2⟩
theorem r_bd (h : Rel u v) : ∀ i : Nat, i ≤ 24 → -(500 * (i : Int)) ≤ rA u i ∧ rA u i ≤ 500 * i ∧ -(500 * (i : Int)) ≤ rB u i ∧ rB u i ≤ 0 ∧ 0 ≤ rC u i ∧ rC u i ≤ 500 * i
  | 0, _ => by simp [rA, rB, rC]
  | i + 1, hi => by
    have q := r_bd h i (by omega)
    have s := h.S (show i < 24 by omega)
    have eA : rA u (i + 1) = rA u i + inN u i - ouN u i := rfl
    rw [rB, rC]
    push_cast
    by_cases c1 : rA u (i + 1) < rB u i <;> by_cases c2 : rC u i < rA u i + inN u i
    · rw [if_pos c1, if_pos c2]; omega
    · rw [if_pos c1, if_neg c2]; omega
    · rw [if_neg c1, if_pos c2]; omega
    · rw [if_neg c1, if_neg c2]; omega
theorem lbX (h : Rel u v) : ∀ (k i f : Nat), i + k = 24 → k < f → fX6_leastBegun_6 u f (oI (rA u i)) (oI (rB u i)) (nI i) = some (oI (rB u 24)) := by
  intro k
  induction k with
  | zero =>
    intro i f hi hf
    obtain ⟨f, rfl⟩ := fuel1 hf
    rw [fX6_leastBegun_6, show i = 24 by omega, if_pos (show (24 : Int32) ≤ nI 24 by decide)]
  | succ k ih =>
    intro i f hi hf
    obtain ⟨f, rfl⟩ := fuel1 hf
    have q := ih (i + 1) f (by omega) (by omega)
    have s := h.S (show i < 24 by omega)
    have b := r_bd h i (by omega)
    have b' := r_bd h (i + 1) (by omega)
    rw [fX6_leastBegun_6, if_neg (show ¬ (24 : Int32) ≤ nI i from fun c => by rw [show (24 : Int32) = nI 24 from rfl, nI_leI (by decide) (by omega)] at c; omega), gd_t (vin_nI (show i < 24 by omega) (by decide)), cl_nI (by omega), s.1, s.2.1, oI_nat, oI_nat, oI_sub, oI_add, nI_1]
    have ea : rA u i + ((inN u i : Int) - ouN u i) = rA u (i + 1) := by simp only [rA]; omega
    rw [ea]
    have eb : (if oI (rA u (i + 1)) < oI (rB u i) then oI (rA u (i + 1)) else oI (rB u i)) = oI (rB u (i + 1)) := by
      rw [rB]
      by_cases c : rA u (i + 1) < rB u i
      · rw [if_pos ((oI_lt (by omega) (by omega) (by omega) (by omega)).mpr c), if_pos c]
      · rw [if_neg (fun q => c ((oI_lt (by omega) (by omega) (by omega) (by omega)).mp q)), if_neg c]
    rw [eb]
    exact q
theorem mhX (h : Rel u v) (z : Int) (hz : 0 ≤ z) (hz2 : z ≤ 12000) : ∀ (k i f : Nat), i + k = 24 → k < f → fX6_mostHeld_7 u f (oI (z + rA u i)) (oI (z + rC u i)) (nI i) = some (oI (z + rC u 24)) := by
  intro k
  induction k with
  | zero =>
    intro i f hi hf
    obtain ⟨f, rfl⟩ := fuel1 hf
    rw [fX6_mostHeld_7, show i = 24 by omega, if_pos (show (24 : Int32) ≤ nI 24 by decide)]
  | succ k ih =>
    intro i f hi hf
    obtain ⟨f, rfl⟩ := fuel1 hf
    have q := ih (i + 1) f (by omega) (by omega)
    have s := h.S (show i < 24 by omega)
    have b := r_bd h i (by omega)
    rw [fX6_mostHeld_7, if_neg (show ¬ (24 : Int32) ≤ nI i from fun c => by rw [show (24 : Int32) = nI 24 from rfl, nI_leI (by decide) (by omega)] at c; omega), gd_t (vin_nI (show i < 24 by omega) (by decide)), cl_nI (by omega), s.1, s.2.1, oI_nat, oI_nat, oI_add, oI_sub, nI_1]
    have ea : z + rA u i + (inN u i : Int) - ouN u i = z + rA u (i + 1) := by simp only [rA]; omega
    rw [ea]
    have eb : (if oI (z + rC u i) < oI (z + rA u i + (inN u i : Int)) then oI (z + rA u i + (inN u i : Int)) else oI (z + rC u i)) = oI (z + rC u (i + 1)) := by
      rw [rC]
      by_cases c : rC u i < rA u i + inN u i
      · rw [if_pos ((oI_lt (by omega) (by omega) (by omega) (by omega)).mpr (by omega)), if_pos c, Int.add_assoc]
      · rw [if_neg (fun q => c (by have := (oI_lt (by omega) (by omega) (by omega) (by omega)).mp q; omega)), if_neg c]
    rw [eb]
    exact q
theorem rmM (h : Rel u v) : ∀ (k i f : Nat), i + k = 24 → k < f → fX8_room_27 v f (oI (rA u i)) (oI (rB u i)) (oI (rC u i)) (nI i) = some (oI (rB u 24), oI (rC u 24)) := by
  intro k
  induction k with
  | zero =>
    intro i f hi hf
    obtain ⟨f, rfl⟩ := fuel1 hf
    rw [fX8_room_27, show i = 24 by omega, if_pos (show (24 : Int32) ≤ nI 24 by decide)]
  | succ k ih =>
    intro i f hi hf
    obtain ⟨f, rfl⟩ := fuel1 hf
    have q := ih (i + 1) f (by omega) (by omega)
    have s := h.S (show i < 24 by omega)
    have b := r_bd h i (by omega)
    have b' := r_bd h (i + 1) (by omega)
    have e2 : (2 : Int32) * nI i = nI (2 * i) := by rw [show (2 : Int32) = nI 2 from rfl, pk_mul]
    rw [fX8_room_27, if_neg (show ¬ (24 : Int32) ≤ nI i from fun c => by rw [show (24 : Int32) = nI 24 from rfl, nI_leI (by decide) (by omega)] at c; omega), e2, nI_1, gd_t (vin_nI (show 2 * i < 48 by omega) (by decide)), cl_nI (by omega), cl_nI (by omega), s.2.2.1, s.2.2.2.1, oI_nat (inN u i), oI_nat (ouN u i), oI_add, oI_sub, nI_1]
    have ea : rA u i + (inN u i : Int) - ouN u i = rA u (i + 1) := by simp only [rA]
    have ec : (if oI (rA u i + (inN u i : Int)) ≤ oI (rC u i) then some (oI (rC u i)) else some (oI (rA u i + (inN u i : Int)))) = some (oI (rC u (i + 1))) := by
      rw [rC]
      by_cases c : rC u i < rA u i + inN u i
      · rw [if_neg (fun q => by have := (oI_le (by omega) (by omega) (by omega) (by omega)).mp q; omega), if_pos c]
      · rw [if_pos ((oI_le (by omega) (by omega) (by omega) (by omega)).mpr (by omega)), if_neg c]
    rw [bnd ec, gd_t (vin_nI (show 2 * i + 1 < 48 by omega) (by decide)), ea]
    rw [rB] at q
    by_cases c : rA u (i + 1) < rB u i
    · rw [if_pos c] at q
      rw [if_neg (fun q => by have := (oI_le (by omega) (by omega) (by omega) (by omega)).mp q; omega)]
      exact q
    · rw [if_neg c] at q
      rw [if_pos ((oI_le (by omega) (by omega) (by omega) (by omega)).mpr (by omega))]
      exact q
theorem fu24 : 24 < FU := by unfold FU; omega
theorem sim_room (h : Rel u v) (a1 : Int32) : Sr (fX7_room u a1) (fX8_room v a1) := by
  unfold fX7_room fX8_room
  refine sw (P := Sr) (lo := 0) (hi := 1) (by decide) (by decide) Sr_some (fun _ _ => ?_)
  have b := r_bd h 24 (by decide)
  have e1 : fX6_leastBegun u = some (oI (-rB u 24)) := by
    unfold fX6_leastBegun
    have q : fX6_leastBegun_6 u FU 0 0 0 = some (oI (rB u 24)) := lbX h 24 0 FU (by decide) fu24
    rw [bnd q, oI_neg]
  have e2 : fX6_mostHeld u (oI (-rB u 24)) = some (oI (-rB u 24 + rC u 24)) := by
    unfold fX6_mostHeld
    have q := mhX h (-rB u 24) (by omega) (by omega) 24 0 FU (by decide) fu24
    rw [show rA u 0 = 0 from rfl, show rC u 0 = 0 from rfl, Int.add_zero] at q
    exact bnd q
  have e3 : fX8_room_27 v FU 0 0 0 0 = some (oI (rB u 24), oI (rC u 24)) := rmM h 24 0 FU (by decide) fu24
  rw [bnd e1, e2, bnd e3]
  refine s_ite (P := Sr) (fun _ => ?_) (fun _ => ?_)
  · rw [oI_neg]; exact Sr_some
  · rw [oI_sub, show rC u 24 - rB u 24 = -rB u 24 + rC u 24 by omega]; exact Sr_some
/-! meters -/
def miss (u : UX) (j : Nat) : Bool := decide (u.1 17 j = -9)
def sI (u : UX) (j : Nat) : Int64 := if u.1 17 j = -9 then 0 else (u.1 16 j * u.1 17 j).toInt64
def sL (u : UX) : Nat → Int64
  | 0 => 0
  | i + 1 => sL u i + sI u i
theorem Rel.Mt (h : Rel u v) {j : Nat} (hj : j < mN u) : v.1 10 j = u.1 16 j ∧ v.1 11 j = u.1 17 j ∧ (u.1 16 j = 1 ∨ u.1 16 j = -1) ∧ (u.1 17 j = -9 ∨ bd (u.1 17 j) 0 100000) := by
  have h8 := h.mle
  exact ⟨h.at (k := 16) (j := j) (by unfold stc; decide) (show j < 8 by omega), h.at (k := 17) (j := j) (by unfold stc; decide) (show j < 8 by omega), h.ok (k := 16) (j := j) (by unfold stc; decide) (show j < 8 by omega) hj, h.ok (k := 17) (j := j) (by unfold stc; decide) (show j < 8 by omega) hj⟩
theorem suX (h : Rel u v) : ∀ (k i f : Nat), i + k = mN u → k < f → fX4_sum_4 u f (sL u i) (nI i) = some (sL u (mN u)) := by
  have hn := h.mle
  intro k
  induction k with
  | zero =>
    intro i f hi hf
    obtain ⟨f, rfl⟩ := fuel1 hf
    rw [fX4_sum_4, if_pos ((h.mX (by omega)).mpr (by omega)), show i = mN u by omega]
  | succ k ih =>
    intro i f hi hf
    obtain ⟨f, rfl⟩ := fuel1 hf
    have q := ih (i + 1) f (by omega) (by omega)
    rw [sL] at q
    rw [fX4_sum_4, if_neg (fun c => by have := (h.mX (by omega)).mp c; omega), gd_t (vin_nI (show i < 8 by omega) (by decide)), cl_nI (by omega), nI_1]
    unfold sI at q
    by_cases c : u.1 17 i = -9
    · rw [if_pos c]
      rw [if_pos c, Int64.add_zero] at q
      exact q
    · rw [if_neg c]
      rw [if_neg c] at q
      exact q
theorem suM (h : Rel u v) : ∀ (k i f : Nat), i + k = mN u → k < f → fX8_gapOf_4 v f (sL u i) (nI i) = some (sL u (mN u)) := by
  have hn := h.mle
  intro k
  induction k with
  | zero =>
    intro i f hi hf
    obtain ⟨f, rfl⟩ := fuel1 hf
    rw [fX8_gapOf_4, if_pos ((h.mM (by omega)).mpr (by omega)), show i = mN u by omega]
  | succ k ih =>
    intro i f hi hf
    obtain ⟨f, rfl⟩ := fuel1 hf
    have q := ih (i + 1) f (by omega) (by omega)
    have m := h.Mt (show i < mN u by omega)
    rw [sL] at q
    rw [fX8_gapOf_4, if_neg (fun c => by have := (h.mM (by omega)).mp c; omega), gd_t (vin_nI (show i < 8 by omega) (by decide)), cl_nI (by omega), nI_1, m.1, m.2.1]
    unfold sI at q
    by_cases c : u.1 17 i = -9
    · rw [if_pos c]
      rw [if_pos c] at q
      exact q
    · rw [if_neg c]
      rw [if_neg c] at q
      exact q
theorem msX (h : Rel u v) : ∀ (k i f : Nat), i + k = mN u → k < f → fX4_missing_4 u f (nI (fb_ct (miss u) i)) (nI i) = some (nI (fb_ct (miss u) (mN u))) := by
  have hn := h.mle
  intro k
  induction k with
  | zero =>
    intro i f hi hf
    obtain ⟨f, rfl⟩ := fuel1 hf
    rw [fX4_missing_4, if_pos ((h.mX (by omega)).mpr (by omega)), show i = mN u by omega]
  | succ k ih =>
    intro i f hi hf
    obtain ⟨f, rfl⟩ := fuel1 hf
    have q := ih (i + 1) f (by omega) (by omega)
    rw [fb_ct_succ] at q
    rw [fX4_missing_4, if_neg (fun c => by have := (h.mX (by omega)).mp c; omega), gd_t (vin_nI (show i < 8 by omega) (by decide)), cl_nI (by omega), nI_1, nI_1]
    by_cases c : u.1 17 i = -9
    · rw [if_pos c]
      rw [if_pos (show miss u i = true by unfold miss; rw [decide_eq_true_eq]; exact c)] at q
      exact q
    · rw [if_neg c, show (0 : Int32) = nI 0 from rfl, nI_add]
      rw [if_neg (show ¬ miss u i = true by unfold miss; rw [decide_eq_true_eq]; exact c)] at q
      exact q
theorem msM (h : Rel u v) : ∀ (k i f : Nat), i + k = mN u → k < f → fX8_missing_4 v f (nI (fb_ct (miss u) i)) (nI i) = some (nI (fb_ct (miss u) (mN u))) := by
  have hn := h.mle
  intro k
  induction k with
  | zero =>
    intro i f hi hf
    obtain ⟨f, rfl⟩ := fuel1 hf
    rw [fX8_missing_4, if_pos ((h.mM (by omega)).mpr (by omega)), show i = mN u by omega]
  | succ k ih =>
    intro i f hi hf
    obtain ⟨f, rfl⟩ := fuel1 hf
    have q := ih (i + 1) f (by omega) (by omega)
    have m := h.Mt (show i < mN u by omega)
    rw [fb_ct_succ] at q
    rw [fX8_missing_4, if_neg (fun c => by have := (h.mM (by omega)).mp c; omega), gd_t (vin_nI (show i < 8 by omega) (by decide)), cl_nI (by omega), nI_1, nI_1, m.2.1]
    by_cases c : u.1 17 i = -9
    · rw [if_pos c]
      rw [if_pos (show miss u i = true by unfold miss; rw [decide_eq_true_eq]; exact c)] at q
      exact q
    · rw [if_neg c, show (0 : Int32) = nI 0 from rfl, nI_add]
      rw [if_neg (show ¬ miss u i = true by unfold miss; rw [decide_eq_true_eq]; exact c)] at q
      exact q
theorem fu8 (h : Rel u v) : mN u < FU := by have := h.mle; unfold FU; omega
theorem sum_X (h : Rel u v) : fX4_sum u = some (sL u (mN u)) := by
  unfold fX4_sum; exact bnd (suX h (mN u) 0 FU (by omega) (fu8 h))
theorem sum_M (h : Rel u v) : fX8_gapOf v = some (sL u (mN u)) := by
  unfold fX8_gapOf; exact bnd (suM h (mN u) 0 FU (by omega) (fu8 h))
theorem mis_X (h : Rel u v) : fX4_missing u = some (nI (fb_ct (miss u) (mN u))) := by
  unfold fX4_missing; exact bnd (msX h (mN u) 0 FU (by omega) (fu8 h))
theorem mis_M (h : Rel u v) : fX8_missing v = some (nI (fb_ct (miss u) (mN u))) := by
  unfold fX8_missing; exact bnd (msM h (mN u) 0 FU (by omega) (fu8 h))
theorem toX (h : Rel u v) {j : Nat} (hj : j < mN u) (h1 : miss u j = true) (h2 : ∀ i, i < mN u → miss u i = true → i = j) : ∀ (k i f : Nat), i + k = j → k < f → fX4_told_13 u f (nI i) = some (nI j) := by
  have hn := h.mle
  intro k
  induction k with
  | zero =>
    intro i f hi hf
    obtain ⟨f, rfl⟩ := fuel1 hf
    have e : i = j := by omega
    subst e
    rw [fX4_told_13, if_neg (fun c => by have := (h.mX (by omega)).mp c; omega), gd_t (vin_nI (show i < 8 by omega) (by decide)), cl_nI (by omega), if_pos (of_decide_eq_true h1)]
  | succ k ih =>
    intro i f hi hf
    obtain ⟨f, rfl⟩ := fuel1 hf
    rw [fX4_told_13, if_neg (fun c => by have := (h.mX (by omega)).mp c; omega), gd_t (vin_nI (show i < 8 by omega) (by decide)), cl_nI (by omega), if_neg (fun c => by have := h2 i (by omega) (by unfold miss; rw [decide_eq_true_eq]; exact c); omega), nI_1]
    exact ih (i + 1) f (by omega) (by omega)
theorem toM (h : Rel u v) (hc : fb_ct (miss u) (mN u) = 1) {j : Nat} (hj : j < mN u) (h1 : miss u j = true) (h2 : ∀ i, i < mN u → miss u i = true → i = j) : ∀ (k i f : Nat), i + k = mN u → k < f → fX8_gap_26 v f (if i ≤ j then -9 else nI j) (nI i) = some (nI j) := by
  have hn := h.mle
  intro k
  induction k with
  | zero =>
    intro i f hi hf
    obtain ⟨f, rfl⟩ := fuel1 hf
    rw [fX8_gap_26, if_pos ((h.mM (by omega)).mpr (by omega)), if_neg (by omega)]
  | succ k ih =>
    intro i f hi hf
    obtain ⟨f, rfl⟩ := fuel1 hf
    have q := ih (i + 1) f (by omega) (by omega)
    have m := h.Mt (show i < mN u by omega)
    rw [fX8_gap_26, if_neg (fun c => by have := (h.mM (by omega)).mp c; omega), bnd (mis_M h), hc, if_pos (show nI 1 = 1 from rfl), gd_t (vin_nI (show i < 8 by omega) (by decide)), cl_nI (by omega), nI_1, m.2.1]
    by_cases c : u.1 17 i = -9
    · have e := h2 i (by omega) (by unfold miss; rw [decide_eq_true_eq]; exact c)
      subst e
      rw [if_pos c]
      rw [if_neg (by omega)] at q
      exact q
    · rw [if_neg c]
      have hne : i ≠ j := fun e => c (by rw [e]; exact of_decide_eq_true h1)
      by_cases g : i ≤ j
      · rw [if_pos (show i + 1 ≤ j by omega)] at q
        rw [if_pos g]
        exact q
      · rw [if_neg (show ¬ i + 1 ≤ j by omega)] at q
        rw [if_neg g]
        exact q
theorem told_eq (h : Rel u v) : (fX4_told u = some (-9) ∧ fX8_gap_26 v FU (-9) 0 = some (-9)) ∨ ∃ j, j < mN u ∧ fX4_told u = some (nI j) ∧ fX8_gap_26 v FU (-9) 0 = some (nI j) := by
  have hn := h.mle
  by_cases hc : fb_ct (miss u) (mN u) = 1
  · obtain ⟨j, hj, h1, h0⟩ := fb_ct_kth (p := miss u) (k := 0) (n := mN u) (by omega)
    have h2 : ∀ i, i < mN u → miss u i = true → i = j := fun i hi hm => by
      apply fb_ct_kth_one hm h1
      rw [h0]
      have := fb_ct_mono (miss u) (show i + 1 ≤ mN u by omega)
      rw [fb_ct_succ, if_pos hm] at this
      omega
    refine Or.inr ⟨j, hj, ?_, ?_⟩
    · unfold fX4_told
      rw [bnd (mis_X h), hc, if_pos (show nI 1 = 1 from rfl)]
      exact toX h hj h1 h2 j 0 FU (by omega) (by unfold FU; omega)
    · have := toM h hc hj h1 h2 (mN u) 0 FU (by omega) (fu8 h)
      rw [if_pos (Nat.zero_le j)] at this
      exact this
  · refine Or.inl ⟨?_, ?_⟩
    · unfold fX4_told
      rw [bnd (mis_X h), if_neg (show ¬ nI (fb_ct (miss u) (mN u)) = 1 from fun c => hc ((nI_eq (b := 1) (by have := fb_ct_le (miss u) (mN u); omega) (by decide)).mp c))]
    · obtain ⟨f, hf⟩ : ∃ f, FU = f + 1 := ⟨5999, rfl⟩
      rw [hf, fX8_gap_26]
      by_cases z : mN u = 0
      · rw [show (0 : Int32) = nI 0 from rfl, if_pos ((h.mM (by omega)).mpr (by omega))]
      · rw [show (0 : Int32) = nI 0 from rfl, if_neg (fun c => by have := (h.mM (by omega)).mp c; omega), bnd (mis_M h), if_neg (show ¬ nI (fb_ct (miss u) (mN u)) = 1 from fun c => hc ((nI_eq (b := 1) (by have := fb_ct_le (miss u) (mN u); omega) (by decide)).mp c))]
theorem nI_ne9 {j : Nat} (h : j < 2 ^ 31) : ¬ nI j = -9 := by
  rw [fa_eq, nI_toInt h, show (-9 : Int32).toInt = -9 from rfl]
  omega
theorem sim_gap (h : Rel u v) (a1 : Int32) : Sr (fX7_gap u a1) (fX8_gap v a1) := by
  have hn := h.mle
  unfold fX7_gap fX8_gap
  by_cases cw : a1 < 0 ∨ 3 < a1
  · rw [show fX8_in a1.toInt64 0 3 = fX7_within a1 0 3 from in_wi a1 0 3, wi_0 cw]
    have n0 : ¬ a1 = 0 := fun c => by rw [c] at cw; exact absurd cw (by decide)
    have n1 : ¬ a1 = 1 := fun c => by rw [c] at cw; exact absurd cw (by decide)
    have n2 : ¬ a1 = 2 := fun c => by rw [c] at cw; exact absurd cw (by decide)
    have n3 : ¬ a1 = 3 := fun c => by rw [c] at cw; exact absurd cw (by decide)
    rw [if_neg n0, if_neg n1, if_neg n2, if_neg n3]
    exact Sr_some
  · rw [show fX8_in a1.toInt64 0 3 = fX7_within a1 0 3 from in_wi a1 0 3, wi_1 (fun c => cw (Or.inl c)) (fun c => cw (Or.inr c))]
    obtain ⟨k, rfl, -, hk⟩ := bd_ex (bd_of (a := a1) 0 3 (by decide) (by decide) (fun c => cw (Or.inl c)) (fun c => cw (Or.inr c)))
    unfold fX4_toldAs
    rw [sum_X h, sum_M h, mis_X h, mis_M h]
    rcases told_eq h with ⟨t1, t2⟩ | ⟨j, hj, t1, t2⟩
    · rw [t1, t2]
      rcases (show k = 0 ∨ k = 1 ∨ k = 2 ∨ k = 3 by omega) with rfl | rfl | rfl | rfl
      · exact Sr_some
      · exact Sr_some
      · exact Sr_some
      · exact Sr_some
    · have m := h.Mt hj
      rw [t1, t2]
      rcases (show k = 0 ∨ k = 1 ∨ k = 2 ∨ k = 3 by omega) with rfl | rfl | rfl | rfl
      · exact Sr_some
      · exact Sr_some
      · exact Sr_some
      · show Sr ((if nI j = -9 then some (-1000000000000) else gd (vin (nI j) 8) (some ((-u.1 16 (nI j).toNatClampNeg).toInt64 * sL u (mN u)))).bind (fun r => some r)) (if nI j = -9 then some (-1000000000000) else gd (vin (nI j) 8) (some ((-v.1 10 (nI j).toNatClampNeg).toInt64 * sL u (mN u))))
        rw [if_neg (nI_ne9 (by omega)), if_neg (nI_ne9 (by omega)), gd_t (vin_nI (by omega) (by decide)), gd_t (vin_nI (by omega) (by decide)), cl_nI (by omega), m.1]
        exact Sr_some
end SD
