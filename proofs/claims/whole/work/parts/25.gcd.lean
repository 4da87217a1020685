/-! Euclid's way, how long it is -/
def fibl : Nat → Nat → Nat → Nat
  | 0, a, _ => a
  | k + 1, a, b => fibl k b (a + b)
theorem fibl_rec : ∀ (k a b : Nat), fibl (k + 2) a b = fibl (k + 1) a b + fibl k a b
  | 0, a, b => by simp [fibl]; omega
  | k + 1, a, b => by
    show fibl (k + 2) b (a + b) = fibl (k + 1) b (a + b) + fibl k b (a + b)
    exact fibl_rec k b (a + b)
def fib (k : Nat) : Nat := fibl k 0 1
theorem fib_rec (k : Nat) : fib (k + 2) = fib (k + 1) + fib k := fibl_rec k 0 1
theorem fib_93 : 2 ^ 63 ≤ fib 93 := by decide +kernel
theorem eu_Q {L : Nat → Nat → Int64 → Int64 → Option Int64} (E0 : ∀ f i a, i ≤ 99 → L (f + 1) i (lN a) (lN 0) = some (lN a)) (E1 : ∀ f i a b, 0 < b → a < 2 ^ 63 → b < 2 ^ 63 → i ≤ 99 → L (f + 1) i (lN a) (lN b) = L f (i + 1) (lN b) (lN (a % b))) (k : Nat) : ∀ a b i f, b < a → a < fib (k + 2) → a < 2 ^ 63 → i + k ≤ 99 → k < f → L f i (lN a) (lN b) = some (lN (Nat.gcd a b)) := by
  induction k using Nat.strongRecOn with
  | ind k ih =>
    intro a b i f hba hak ha hik hkf
    obtain ⟨f, rfl⟩ := fuel1 hkf
    rcases Nat.eq_zero_or_pos b with hb | hb
    · subst hb
      rw [E0 f i a (by omega), Nat.gcd_zero_right]
    · have hk2 : 2 ≤ k := by
        rcases Nat.lt_or_ge k 2 with q | q
        · exfalso
          rcases (show k = 0 ∨ k = 1 by omega) with rfl | rfl
          · have : fib (0 + 2) = 1 := rfl
            omega
          · have : fib (1 + 2) = 2 := rfl
            omega
        · exact q
      obtain ⟨m, rfl⟩ : ∃ m, k = m + 2 := ⟨k - 2, by omega⟩
      have hr : a % b < b := Nat.mod_lt _ hb
      have hg : Nat.gcd a b = Nat.gcd b (a % b) := by rw [Nat.gcd_comm a b, Nat.gcd_rec b a, Nat.gcd_comm]
      have f4 : fib (m + 4) = fib (m + 3) + fib (m + 2) := fib_rec (m + 2)
      rw [E1 f i a b hb ha (by omega) (by omega), hg]
      rcases Nat.lt_or_ge b (fib (m + 3)) with q | q
      · exact ih (m + 1) (by omega) b (a % b) (i + 1) f hr q (by omega) (by omega) (by omega)
      · obtain ⟨f, rfl⟩ : ∃ g, f = g + 1 := ⟨f - 1, by omega⟩
        rcases Nat.eq_zero_or_pos (a % b) with hz | hz
        · rw [hz, E0 f (i + 1) b (by omega), Nat.gcd_zero_right]
        · have hr2 : b % (a % b) < a % b := Nat.mod_lt _ hz
          have hg2 : Nat.gcd b (a % b) = Nat.gcd (a % b) (b % (a % b)) := by rw [Nat.gcd_comm b, Nat.gcd_rec (a % b) b, Nat.gcd_comm]
          have hsm : a % b < fib (m + 2) := by
            have h1 : a % b ≤ a - b := by
              rw [Nat.mod_eq_sub_mod (by omega)]
              exact Nat.mod_le _ _
            have h2 : a < fib (m + 4) := hak
            omega
          rw [E1 f (i + 1) b (a % b) hz (by omega) (by omega) (by omega), hg2]
          exact ih m (by omega) (a % b) (b % (a % b)) (i + 1 + 1) f hr2 hsm (by omega) (by omega) (by omega)
theorem eu_all {L : Nat → Nat → Int64 → Int64 → Option Int64} (E0 : ∀ f i a, i ≤ 99 → L (f + 1) i (lN a) (lN 0) = some (lN a)) (E1 : ∀ f i a b, 0 < b → a < 2 ^ 63 → b < 2 ^ 63 → i ≤ 99 → L (f + 1) i (lN a) (lN b) = L f (i + 1) (lN b) (lN (a % b))) {a b f : Nat} (ha : a < 2 ^ 63) (hb : b < 2 ^ 63) (hf : 95 < f) : L f 0 (lN a) (lN b) = some (lN (Nat.gcd a b)) := by
  obtain ⟨f, rfl⟩ := fuel1 hf
  rcases Nat.eq_zero_or_pos b with h | h
  · subst h
    rw [E0 f 0 a (by omega), Nat.gcd_zero_right]
  · have hg : Nat.gcd a b = Nat.gcd b (a % b) := by rw [Nat.gcd_comm a b, Nat.gcd_rec b a, Nat.gcd_comm]
    rw [E1 f 0 a b h ha hb (by omega), hg]
    exact eu_Q E0 E1 91 b (a % b) 1 f (Nat.mod_lt _ h) (Nat.lt_of_lt_of_le hb fib_93) hb (by omega) (by omega)
theorem lN_0 : lN 0 = 0 := rfl
theorem nz_lN {b : Nat} (h0 : 0 < b) (h : b < 2 ^ 63) : nz8 (lN b) = true := by
  unfold nz8
  rw [decide_eq_true_eq, ← lN_0, pk_lEQ h (by decide)]
  omega
theorem lN_eq0 {b : Nat} (h : b < 2 ^ 63) : lN b = 0 ↔ b = 0 := by rw [← lN_0, pk_lEQ h (by decide)]
theorem cdX {a b : Nat} (ha : a < 2 ^ 63) (hb : b < 2 ^ 63) (hb0 : 0 < b) : fX2_commonDivisor (lN a) (lN b) = some (lN (Nat.gcd a b)) := by
  unfold fX2_commonDivisor
  have key : fX2_commonDivisor_9 FU (lN a) (lN b) (nI 0) = some (lN (Nat.gcd a b)) := by
    refine eu_all (L := fun f i x y => fX2_commonDivisor_9 f x y (nI i)) (fun f i a hi => ?_) (fun f i a b h0 ha hb hi => ?_) ha hb (by unfold FU; omega)
    · show fX2_commonDivisor_9 (f + 1) (lN a) (lN 0) (nI i) = _
      rw [fX2_commonDivisor_9, if_neg (show ¬ (100 : Int32) ≤ nI i from fun c => by rw [show (100 : Int32) = nI 100 from rfl, nI_leI (by decide) (by omega)] at c; omega), if_pos lN_0]
    · show fX2_commonDivisor_9 (f + 1) (lN a) (lN b) (nI i) = _
      rw [fX2_commonDivisor_9, if_neg (show ¬ (100 : Int32) ≤ nI i from fun c => by rw [show (100 : Int32) = nI 100 from rfl, nI_leI (by decide) (by omega)] at c; omega), if_neg (fun c => by rw [lN_eq0 hb] at c; omega), gd_t (nz_lN h0 hb), pk_lRem ha h0 hb, nI_1]
  have hg : 0 < Nat.gcd a b := Nat.gcd_pos_of_pos_right a hb0
  have hgb : Nat.gcd a b ≤ b := Nat.gcd_le_right a hb0
  rw [show (0 : Int32) = nI 0 from rfl, bnd key]
  refine if_neg (fun c => ?_)
  rw [← lN_0, pk_lLE (by omega) (by decide)] at c
  omega
theorem cmM {a b : Nat} (ha : a < 2 ^ 63) (hb : b < 2 ^ 63) : fX8_common_17 FU (lN a) (lN b) = some (lN (Nat.gcd a b)) := by
  refine eu_all (L := fun f _ x y => fX8_common_17 f x y) (fun f i a hi => ?_) (fun f i a b h0 ha hb hi => ?_) ha hb (by unfold FU; omega)
  · show fX8_common_17 (f + 1) (lN a) (lN 0) = _
    rw [fX8_common_17, if_pos lN_0]
  · show fX8_common_17 (f + 1) (lN a) (lN b) = _
    rw [fX8_common_17, if_neg (fun c => by rw [lN_eq0 hb] at c; omega), gd_t (nz_lN h0 hb), pk_lRem ha h0 hb]
theorem cm_M {a b : Nat} (ha : a < 2 ^ 63) (hb : b < 2 ^ 63) : fX8_common (lN a) (lN b) = some (lN (Nat.gcd a b)) := by
  unfold fX8_common
  have e : (if (0 : Int64) ≤ lN a then some (lN a) else some (-lN a)) = some (lN a) := by
    rw [if_pos (show (0 : Int64) ≤ lN a from (pk_lLE (a := 0) (by decide) ha).mpr (Nat.zero_le a))]
  rw [bnd e, bnd (cmM ha hb)]
/-- a number of either sign: the class's and the reference's common divisor with a number above 0 -/
theorem cd_z {A : Int64} {b : Nat} (h1 : -4611686018427387904 < A.toInt) (h2 : A.toInt < 4611686018427387904) (hb : b < 2 ^ 62) (hb0 : 0 < b) : ∃ g, 0 < g ∧ g < 2 ^ 62 ∧ fX2_commonDivisor (if 0 < A then A else -A) (lN b) = some (lN g) ∧ fX8_common A (lN b) = some (lN g) := by
  have hz : (0 : Int64).toInt = 0 := rfl
  have key : ∃ a, a < 2 ^ 63 ∧ (if 0 < A then A else -A) = lN a ∧ (if 0 ≤ A then some A else some (-A)) = some (lN a) := by
    have hneg : (-A).toInt = -A.toInt := by
      have := fb_subL (x := 0) (y := A) (by rw [hz]; omega) (by rw [hz]; omega)
      rw [hz, Int64.zero_sub] at this
      omega
    rcases (show 0 < A.toInt ∨ A.toInt = 0 ∨ A.toInt < 0 by omega) with c | c | c
    · have c1 : 0 < A := by rw [fa_lt64, hz]; exact c
      have c2 : 0 ≤ A := by rw [fa_le64, hz]; omega
      obtain ⟨a, ha, e⟩ := pk_lOf (x := A) (by rw [fa_lt64, hz]; omega)
      exact ⟨a, ha, by rw [if_pos c1]; exact e, by rw [if_pos c2, e]⟩
    · have e : A = 0 := by rw [fa_eq64, hz]; exact c
      subst e
      exact ⟨0, by decide, by decide, by decide⟩
    · have c1 : ¬ 0 < A := by rw [fa_lt64, hz]; omega
      have c2 : ¬ 0 ≤ A := by rw [fa_le64, hz]; omega
      obtain ⟨a, ha, e⟩ := pk_lOf (x := -A) (by rw [fa_lt64, hz, hneg]; omega)
      exact ⟨a, ha, by rw [if_neg c1]; exact e, by rw [if_neg c2, e]⟩
  obtain ⟨a, ha, e1, e2⟩ := key
  have hgb : Nat.gcd a b ≤ b := Nat.gcd_le_right a hb0
  refine ⟨Nat.gcd a b, Nat.gcd_pos_of_pos_right a hb0, by omega, ?_, ?_⟩
  · rw [e1]; exact cdX ha (by omega) hb0
  · unfold fX8_common
    rw [bnd e2, bnd (cmM ha (by omega))]
/-! fractions in least form -/
theorem red_eq {x y x' y' : Nat} (hy : 0 < y) (hy' : 0 < y') (h : x * y' = x' * y) : x / Nat.gcd x y = x' / Nat.gcd x' y' ∧ y / Nat.gcd x y = y' / Nat.gcd x' y' := by
  have g0 : 0 < Nat.gcd x y := Nat.gcd_pos_of_pos_right x hy
  have g0' : 0 < Nat.gcd x' y' := Nat.gcd_pos_of_pos_right x' hy'
  obtain ⟨a, ea⟩ := Nat.gcd_dvd_left x y
  obtain ⟨b, eb⟩ := Nat.gcd_dvd_right x y
  obtain ⟨a', ea'⟩ := Nat.gcd_dvd_left x' y'
  obtain ⟨b', eb'⟩ := Nat.gcd_dvd_right x' y'
  have c1 : Nat.gcd a b = 1 := by
    have := Nat.coprime_div_gcd_div_gcd (m := x) (n := y) g0
    have e1 : x / Nat.gcd x y = a := by
      refine Nat.div_eq_of_eq_mul_right g0 ea
    have e2 : y / Nat.gcd x y = b := Nat.div_eq_of_eq_mul_right g0 eb
    rw [e1, e2] at this
    exact this
  have c2 : Nat.gcd a' b' = 1 := by
    have := Nat.coprime_div_gcd_div_gcd (m := x') (n := y') g0'
    have e1 : x' / Nat.gcd x' y' = a' := Nat.div_eq_of_eq_mul_right g0' ea'
    have e2 : y' / Nat.gcd x' y' = b' := Nat.div_eq_of_eq_mul_right g0' eb'
    rw [e1, e2] at this
    exact this
  have hm : a * b' = a' * b := by
    have h2 : (Nat.gcd x y * a) * (Nat.gcd x' y' * b') = (Nat.gcd x' y' * a') * (Nat.gcd x y * b) := by rw [← ea, ← eb, ← ea', ← eb']; exact h
    have h3 : (Nat.gcd x y * Nat.gcd x' y') * (a * b') = (Nat.gcd x y * Nat.gcd x' y') * (a' * b) := by
      have l : (Nat.gcd x y * Nat.gcd x' y') * (a * b') = (Nat.gcd x y * a) * (Nat.gcd x' y' * b') := by ac_rfl
      have r : (Nat.gcd x y * Nat.gcd x' y') * (a' * b) = (Nat.gcd x' y' * a') * (Nat.gcd x y * b) := by ac_rfl
      rw [l, r]; exact h2
    exact Nat.eq_of_mul_eq_mul_left (Nat.mul_pos g0 g0') h3
  have d1 : b ∣ b' := by
    have : b ∣ a * b' := by rw [hm]; exact Nat.dvd_mul_left b a'
    exact (Nat.Coprime.dvd_of_dvd_mul_left (Nat.coprime_comm.mp c1) this)
  have d2 : b' ∣ b := by
    have : b' ∣ a' * b := by rw [← hm]; exact Nat.dvd_mul_left b' a
    exact (Nat.Coprime.dvd_of_dvd_mul_left (Nat.coprime_comm.mp c2) this)
  have eb2 : b = b' := Nat.dvd_antisymm d1 d2
  have hb0 : 0 < b := by
    rcases Nat.eq_zero_or_pos b with q | q
    · rw [q, Nat.mul_zero] at eb; omega
    · exact q
  have ea2 : a = a' := by
    rw [← eb2] at hm
    exact Nat.eq_of_mul_eq_mul_right hb0 hm
  have e1 : x / Nat.gcd x y = a := Nat.div_eq_of_eq_mul_right g0 ea
  have e2 : y / Nat.gcd x y = b := Nat.div_eq_of_eq_mul_right g0 eb
  have e3 : x' / Nat.gcd x' y' = a' := Nat.div_eq_of_eq_mul_right g0' ea'
  have e4 : y' / Nat.gcd x' y' = b' := Nat.div_eq_of_eq_mul_right g0' eb'
  rw [e1, e2, e3, e4]
  exact ⟨ea2, eb2⟩
def rU (x y : Nat) : Nat := x / Nat.gcd x y
def rL (x y : Nat) : Nat := y / Nat.gcd x y
theorem r_eq {x y x' y' : Nat} (hy : 0 < y) (hy' : 0 < y') (h : x * y' = x' * y) : rU x y = rU x' y' ∧ rL x y = rL x' y' := red_eq hy hy' h
theorem rL_pos {x y : Nat} (hy : 0 < y) : 0 < rL x y := Nat.div_pos (Nat.gcd_le_right x hy) (Nat.gcd_pos_of_pos_right x hy)
theorem r_cross {x y : Nat} : rU x y * y = x * rL x y := by
  unfold rU rL
  obtain ⟨a, ea⟩ := Nat.gcd_dvd_left x y
  obtain ⟨b, eb⟩ := Nat.gcd_dvd_right x y
  rcases Nat.eq_zero_or_pos (Nat.gcd x y) with g | g
  · have := Nat.gcd_eq_zero_iff.mp g
    rw [this.1, this.2]
    simp
  · have e1 : x / Nat.gcd x y = a := Nat.div_eq_of_eq_mul_right g ea
    have e2 : y / Nat.gcd x y = b := Nat.div_eq_of_eq_mul_right g eb
    rw [e1, e2]
    have l : a * y = a * (Nat.gcd x y * b) := by rw [← eb]
    have r : x * b = (Nat.gcd x y * a) * b := by rw [← ea]
    rw [l, r]
    ac_rfl
theorem rU_le (x y : Nat) : rU x y ≤ x := Nat.div_le_self _ _
theorem rL_le (x y : Nat) : rL x y ≤ y := Nat.div_le_self _ _
theorem rL_dvd (x y : Nat) : rL x y ∣ y := ⟨Nat.gcd x y, (Nat.div_mul_cancel (Nat.gcd_dvd_right x y)).symm⟩
def setF (u : UX) (q : Nat) (a b : Int64) : UX := (u.1, fun x => if x = q then (a, b) else u.2.1 x, u.2.2)
theorem setF_eq {u : UX} {q : Nat} {a b : Int64} : xfL (xfU u q a) q b = setF u q a b := by
  refine Prod.ext rfl (Prod.ext (funext fun x => ?_) rfl)
  show (if x = q then ((if q = q then (a, (u.2.1 q).2) else u.2.1 q).1, b) else if x = q then (a, (u.2.1 q).2) else u.2.1 x) = if x = q then (a, b) else u.2.1 x
  by_cases c : x = q
  · rw [if_pos c, if_pos c, if_pos rfl]
  · rw [if_neg c, if_neg c, if_neg c]
theorem setF_same {u : UX} {q : Nat} {a b : Int64} : sameX u (setF u q a b) := ⟨fun _ _ _ _ => rfl, rfl⟩
theorem setF_at {u : UX} {q : Nat} {a b : Int64} : (setF u q a b).2.1 q = (a, b) := by
  show (if q = q then (a, b) else u.2.1 q) = _
  rw [if_pos rfl]
theorem setF_ne {u : UX} {q x : Nat} {a b : Int64} (h : ¬ x = q) : (setF u q a b).2.1 x = u.2.1 x := by
  show (if x = q then (a, b) else u.2.1 x) = _
  rw [if_neg h]
theorem become_ok {u : UX} {q a b : Nat} (ha : a < 2 ^ 63) (hb : b < 2 ^ 63) (hb0 : 0 < b) : fX2_become u q (lN a) (lN b) = some (setF u q (lN (rU a b)) (lN (rL a b))) := by
  have hg : 0 < Nat.gcd a b := Nat.gcd_pos_of_pos_right a hb0
  have hgb : Nat.gcd a b ≤ b := Nat.gcd_le_right a hb0
  have e : (if 0 < lN a then lN a else -lN a) = lN a := by
    by_cases c : 0 < lN a
    · rw [if_pos c]
    · rw [if_neg c]
      rw [← lN_0, pk_lLT (by decide) ha] at c
      rw [show a = 0 by omega]
      rfl
  unfold fX2_become
  rw [e, bnd (cdX ha hb hb0), gd_t (nz_lN hg (by omega)), pk_lDiv ha hg (by omega), pk_lDiv hb hg (by omega), setF_eq]
  rfl
theorem become_z {u : UX} {q : Nat} {A B : Int64} {g : Nat} (hg : 0 < g) (hg2 : g < 2 ^ 62) (h : fX2_commonDivisor (if 0 < A then A else -A) B = some (lN g)) : fX2_become u q A B = some (setF u q (A / lN g) (B / lN g)) := by
  unfold fX2_become
  rw [bnd h, gd_t (nz_lN hg (by omega)), setF_eq]
/-! a meter, mended -/
section SE
variable {u : UX} {v : UM}
theorem sI_bd (h : Rel u v) {j : Nat} (hj : j < mN u) : -100000 ≤ (sI u j).toInt ∧ (sI u j).toInt ≤ 100000 := by
  have m := h.Mt hj
  unfold sI
  by_cases c : u.1 17 j = -9
  · rw [if_pos c]; exact ⟨by decide, by decide⟩
  · rw [if_neg c, Int32.toInt_toInt64]
    obtain ⟨r, er, -, hr⟩ := bd_ex (m.2.2.2.resolve_left c)
    have tr : (nI r).toInt = (r : Int) := nI_toInt (by omega)
    rw [er]
    rcases m.2.2.1 with e | e
    · rw [e, Int32.one_mul, tr]; omega
    · rw [e]
      have := fb_mulI (x := -1) (y := nI r) (by rw [tr, show (-1 : Int32).toInt = -1 from rfl]; omega) (by rw [tr, show (-1 : Int32).toInt = -1 from rfl]; omega)
      rw [this, tr, show (-1 : Int32).toInt = -1 from rfl]
      omega
theorem sL_bd (h : Rel u v) : ∀ i : Nat, i ≤ mN u → -(100000 * (i : Int)) ≤ (sL u i).toInt ∧ (sL u i).toInt ≤ 100000 * i
  | 0, _ => by
    have e : (sL u 0).toInt = 0 := rfl
    rw [e]
    omega
  | i + 1, hi => by
    have hm := h.mle
    have q := sL_bd h i (by omega)
    have s := sI_bd h (show i < mN u by omega)
    rw [sL, fb_addL (by omega) (by omega)]
    push_cast
    omega
theorem part_0 {w : UX} {q : Nat} : fX2_part w q 0 = some (w.2.1 q).1 := rfl
theorem part_1 {w : UX} {q : Nat} : fX2_part w q 1 = some (w.2.1 q).2 := rfl
theorem sim_mended (h : Rel u v) (a1 a2 : Int32) : Sx v (fX7_mended u a1 a2) (fX8_mended v a1 a2) := by
  unfold fX7_mended fX8_mended
  refine smt (P := Sx v) h (Sx_some h) (fun j hj ej => ?_)
  refine sp (P := Sx v) (Sx_some h) (fun hp => ?_)
  subst ej
  have hm := h.mle
  have h8 := h.j8 hj
  have hj : j < mN u := hj
  have m := h.Mt hj
  rw [bnd (mis_X h), bnd (mis_M h)]
  refine s_ite (P := Sx v) (fun c => ?_) (fun _ => Sx_some h)
  have hct := fb_ct_le (miss u) (mN u)
  rw [nI_le0 (by omega)] at c
  have hnm := fb_ct_zero.mp c j hj
  have hr := m.2.2.2.resolve_left (fun q => by unfold miss at hnm; rw [decide_eq_false_iff_not] at hnm; exact hnm q)
  obtain ⟨r, er, -, hr2⟩ := bd_ex hr
  have em : u.2.2.2.1 = nI (mN u) := h.2.1.1
  unfold fX4_tellMended
  rw [gd_t (vin_nI h8 (by decide)), gd_t (vin_nI h8 (by decide)), cl_nI (by omega), sum_X h, sum_M h, h.2.2.2.1, m.1, m.2.1, em, nI_l (by omega)]
  have b := sL_bd h (mN u) (Nat.le_refl _)
  have tm : (lN (mN u)).toInt = (mN u : Int) := lN_toInt (by omega)
  have hx : (r : Int) * mN u ≤ 800000 := by
    have q : r * mN u ≤ 100000 * 8 := Nat.mul_le_mul hr2 hm
    rw [← Int.natCast_mul]
    omega
  have hy : 0 ≤ (r : Int) * mN u := Int.mul_nonneg (by omega) (by omega)
  have t1 : ((u.1 17 j).toInt64 * lN (mN u)).toInt = (r : Int) * mN u := by
    have e : ((u.1 17 j).toInt64).toInt = (r : Int) := by rw [er, Int32.toInt_toInt64, nI_toInt (by omega)]
    rw [fb_mulL (by rw [e, tm]; omega) (by rw [e, tm]; omega), e, tm]
  have t2 : -800000 ≤ ((u.1 16 j).toInt64 * sL u (mN u)).toInt ∧ ((u.1 16 j).toInt64 * sL u (mN u)).toInt ≤ 800000 := by
    rcases m.2.2.1 with e | e
    · rw [e, show (1 : Int32).toInt64 = 1 by decide, Int64.one_mul]; omega
    · have e1 : ((-1 : Int32).toInt64).toInt = -1 := by decide
      rw [e, fb_mulL (by rw [e1]; omega) (by rw [e1]; omega), e1]; omega
  have t3 := fb_subL (x := (u.1 17 j).toInt64 * lN (mN u)) (y := (u.1 16 j).toInt64 * sL u (mN u)) (by omega) (by omega)
  rw [bnd (show (some (sL u (mN u))) = some (sL u (mN u)) from rfl), bnd (show (some (sL u (mN u))) = some (sL u (mN u)) from rfl)]
  generalize (u.1 17 j).toInt64 * lN (mN u) - (u.1 16 j).toInt64 * sL u (mN u) = A at t3 ⊢
  obtain ⟨g, hg, hg2, c1, c2⟩ := cd_z (A := A) (b := mN u) (by omega) (by omega) (by omega) (by omega)
  have hs : Rel (setF u 18 (A / lN g) (lN (mN u) / lN g)) v := h.same setF_same sameM.rfl
  have e1 : ∀ w : UX, (some w : Option UX).bind (fun r => some r) = some w := fun _ => rfl
  rw [become_z hg hg2 c1, bnd c2, e1]
  rcases hp with rfl | rfl
  · show Sx v (some (((setF u 18 (A / lN g) (lN (mN u) / lN g)).2.1 18).1, setF u 18 (A / lN g) (lN (mN u) / lN g))) (gd (nz8 (lN g)) (some (A / lN g)))
    rw [setF_at, gd_t (nz_lN hg (by omega))]
    exact Sx_some hs
  · show Sx v (some (((setF u 18 (A / lN g) (lN (mN u) / lN g)).2.1 18).2, setF u 18 (A / lN g) (lN (mN u) / lN g))) (gd (nz8 (lN g)) (some (lN (mN u) / lN g)))
    rw [setF_at, gd_t (nz_lN hg (by omega))]
    exact Sx_some hs
end SE
