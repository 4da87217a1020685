/-! products and least common multiples of spans -/
def pr (f : Nat → Nat) : Nat → Nat
  | 0 => 1
  | i + 1 => pr f i * f i
def bl (f : Nat → Nat) : Nat → Nat
  | 0 => 1
  | i + 1 => bl f i / Nat.gcd (bl f i) (f i) * f i
theorem pr_le {f : Nat → Nat} {B : Nat} : ∀ i : Nat, (∀ j, j < i → f j ≤ B) → pr f i ≤ B ^ i
  | 0, _ => Nat.le_refl 1
  | i + 1, h => by
    rw [pr, Nat.pow_succ]
    exact Nat.mul_le_mul (pr_le i (fun j hj => h j (by omega))) (h i (by omega))
theorem pr_pos {f : Nat → Nat} : ∀ i : Nat, (∀ j, j < i → 0 < f j) → 0 < pr f i
  | 0, _ => Nat.one_pos
  | i + 1, h => Nat.mul_pos (pr_pos i (fun j hj => h j (by omega))) (h i (by omega))
theorem bl_pos {f : Nat → Nat} : ∀ i : Nat, (∀ j, j < i → 0 < f j) → 0 < bl f i
  | 0, _ => Nat.one_pos
  | i + 1, h => by
    have q := bl_pos i (fun j hj => h j (by omega))
    have hg : 0 < Nat.gcd (bl f i) (f i) := Nat.gcd_pos_of_pos_left _ q
    exact Nat.mul_pos (Nat.div_pos (Nat.le_of_dvd q (Nat.gcd_dvd_left _ _)) hg) (h i (by omega))
theorem bl_pr {f : Nat → Nat} : ∀ i : Nat, bl f i ∣ pr f i
  | 0 => Nat.dvd_refl 1
  | i + 1 => by
    rw [bl, pr]
    exact Nat.mul_dvd_mul (Nat.dvd_trans ⟨Nat.gcd (bl f i) (f i), (Nat.div_mul_cancel (Nat.gcd_dvd_left _ _)).symm⟩ (bl_pr i)) (Nat.dvd_refl _)
theorem bl_succ {f : Nat → Nat} {i : Nat} : bl f i ∣ bl f (i + 1) := by
  rw [bl]
  obtain ⟨a, ea⟩ := Nat.gcd_dvd_left (bl f i) (f i)
  obtain ⟨b, eb⟩ := Nat.gcd_dvd_right (bl f i) (f i)
  rcases Nat.eq_zero_or_pos (Nat.gcd (bl f i) (f i)) with g | g
  · have := Nat.gcd_eq_zero_iff.mp g
    rw [this.1, this.2]
    simp
  · have e1 : bl f i / Nat.gcd (bl f i) (f i) = a := Nat.div_eq_of_eq_mul_right g ea
    rw [e1]
    refine ⟨b, ?_⟩
    have l : a * f i = a * (Nat.gcd (bl f i) (f i) * b) := by rw [← eb]
    have r : bl f i * b = (Nat.gcd (bl f i) (f i) * a) * b := by rw [← ea]
    rw [l, r]
    ac_rfl
theorem bl_f {f : Nat → Nat} {j : Nat} : ∀ i : Nat, j < i → f j ∣ bl f i
  | 0, h => absurd h (by omega)
  | i + 1, h => by
    rcases Nat.lt_or_ge j i with q | q
    · exact Nat.dvd_trans (bl_f i q) bl_succ
    · rw [show j = i by omega, bl]
      exact Nat.dvd_mul_left _ _
theorem pr_f {f : Nat → Nat} {j : Nat} : ∀ i : Nat, j < i → f j ∣ pr f i
  | 0, h => absurd h (by omega)
  | i + 1, h => by
    rw [pr]
    rcases Nat.lt_or_ge j i with q | q
    · exact Nat.dvd_trans (pr_f i q) (Nat.dvd_mul_right _ _)
    · rw [show j = i by omega]
      exact Nat.dvd_mul_left _ _
/-! steps -/
def LD (u : UX) (j : Nat) : Nat := (u.1 0 j).toNatClampNeg
def CI (u : UX) (j : Nat) : Nat := (u.1 1 j).toNatClampNeg
def CO (u : UX) (j : Nat) : Nat := (u.1 2 j).toNatClampNeg
def SP (u : UX) (j : Nat) : Nat := CO u j - CI u j
def mn (x c : Nat) : Nat := if c < x then c else x
def DD (u : UX) (L x i : Nat) : Nat := fb_sm (fun j => LD u j * (mn x (CO u j) - CI u j) * (L / SP u j)) i
section SF
variable {u : UX} {v : UM}
theorem Rel.A (h : Rel u v) {j : Nat} (hj : j < nN u) : (u.1 0 j = nI (LD u j) ∧ v.1 0 j = nI (LD u j) ∧ 1 ≤ LD u j ∧ LD u j ≤ 1000) ∧ (u.1 1 j = nI (CI u j) ∧ v.1 1 j = nI (CI u j) ∧ CI u j ≤ 400) ∧ (u.1 2 j = nI (CO u j) ∧ v.1 2 j = nI (CO u j) ∧ CO u j ≤ 500) ∧ CI u j < CO u j := by
  have h5 := h.j5 hj
  have b0 : bd (u.1 0 j) 1 1000 := h.ok (k := 0) (j := j) (stc_lt (by decide)) h5 hj
  have b1 : bd (u.1 1 j) 0 400 := h.ok (k := 1) (j := j) (stc_lt (by decide)) h5 hj
  have b2 : bd (u.1 2 j) 1 500 := h.ok (k := 2) (j := j) (stc_lt (by decide)) h5 hj
  have e0 : v.1 0 j = u.1 0 j := h.at (k := 0) (j := j) (stc_lt (by decide)) h5
  have e1 : v.1 1 j = u.1 1 j := h.at (k := 1) (j := j) (stc_lt (by decide)) h5
  have e2 : v.1 2 j = u.1 2 j := h.at (k := 2) (j := j) (stc_lt (by decide)) h5
  exact ⟨⟨b0.1, e0.trans b0.1, b0.2.1, b0.2.2⟩, ⟨b1.1, e1.trans b1.1, b1.2.2⟩, ⟨b2.1, e2.trans b2.1, b2.2.2⟩, h.2.2.2.2.2.2 j hj⟩
theorem Rel.sp (h : Rel u v) {j : Nat} (hj : j < nN u) : 0 < SP u j ∧ SP u j ≤ 500 := by
  have a := h.A hj
  unfold SP
  omega
theorem span_X (h : Rel u v) {j : Nat} (hj : j < nN u) : fX5_span u (nI j) = some (nI (SP u j)) := by
  have h5 := h.j5 hj
  have a := h.A hj
  have s := h.sp hj
  unfold fX5_span
  rw [gd_t (vin_nI h5 (by decide)), cl_nI (by omega), a.2.1.1, a.2.2.1.1, pk_sub (by omega)]
  show some (if (1 : Int32) < nI (SP u j) then nI (SP u j) else 1) = _
  by_cases c : (1 : Int32) < nI (SP u j)
  · rw [if_pos c]
  · rw [if_neg c]
    rw [show (1 : Int32) = nI 1 from rfl, nI_ltI (by decide) (by omega)] at c
    rw [show SP u j = 1 by omega]
    rfl
theorem pr_bd (h : Rel u v) : 0 < pr (SP u) (nN u) ∧ pr (SP u) (nN u) ≤ 31250000000000 := by
  have hn := h.nle
  refine ⟨pr_pos _ (fun j hj => (h.sp hj).1), ?_⟩
  have := pr_le (f := SP u) (B := 500) (nN u) (fun j hj => (h.sp hj).2)
  have h2 : 500 ^ nN u ≤ 500 ^ 5 := Nat.pow_le_pow_right (by decide) hn
  have h3 : 500 ^ 5 = 31250000000000 := by decide
  omega
theorem bl_bd (h : Rel u v) : 0 < bl (SP u) (nN u) ∧ bl (SP u) (nN u) ≤ 31250000000000 := by
  have p := pr_bd h
  refine ⟨bl_pos _ (fun j hj => (h.sp hj).1), ?_⟩
  exact Nat.le_trans (Nat.le_of_dvd p.1 (bl_pr _)) p.2
theorem clX (h : Rel u v) : ∀ (k i f : Nat), i + k = nN u → k < f → fX5_commonLower_4 u f (lN (pr (SP u) i)) (nI i) = some (lN (pr (SP u) (nN u))) := by
  have hn := h.nle
  intro k
  induction k with
  | zero =>
    intro i f hi hf
    obtain ⟨f, rfl⟩ := fuel1 hf
    rw [fX5_commonLower_4, if_pos ((h.lX (by omega)).mpr (by omega)), show i = nN u by omega]
  | succ k ih =>
    intro i f hi hf
    obtain ⟨f, rfl⟩ := fuel1 hf
    have q := ih (i + 1) f (by omega) (by omega)
    have s := h.sp (show i < nN u by omega)
    rw [pr] at q
    rw [fX5_commonLower_4, if_neg (fun c => by have := (h.lX (by omega)).mp c; omega), bnd (span_X h (show i < nN u by omega)), nI_l (by omega), lN_mul, nI_1]
    exact q
theorem lower_X (h : Rel u v) : fX5_commonLower u = some (lN (pr (SP u) (nN u))) := by
  unfold fX5_commonLower
  exact bnd (clX h (nN u) 0 FU (by omega) (fu5 h))
theorem blM (h : Rel u v) : ∀ (k i f : Nat), i + k = nN u → k < f → fX8_below_4 v f (lN (bl (SP u) i)) (nI i) = some (lN (bl (SP u) (nN u))) := by
  have hn := h.nle
  intro k
  induction k with
  | zero =>
    intro i f hi hf
    obtain ⟨f, rfl⟩ := fuel1 hf
    rw [fX8_below_4, if_pos ((h.lM (by omega)).mpr (by omega)), show i = nN u by omega]
  | succ k ih =>
    intro i f hi hf
    obtain ⟨f, rfl⟩ := fuel1 hf
    have q := ih (i + 1) f (by omega) (by omega)
    have s := h.sp (show i < nN u by omega)
    have a := h.A (show i < nN u by omega)
    have p0 : 0 < bl (SP u) i := bl_pos _ (fun j hj => (h.sp (by omega)).1)
    have p1 : bl (SP u) i ≤ 31250000000000 := by
      have h1 := Nat.le_of_dvd (pr_pos i (fun j hj => (h.sp (show j < nN u by omega)).1)) (bl_pr (f := SP u) i)
      have h2 := pr_le (f := SP u) (B := 500) i (fun j hj => (h.sp (show j < nN u by omega)).2)
      have h3 : 500 ^ i ≤ 500 ^ 5 := Nat.pow_le_pow_right (by decide) (by omega)
      have h4 : 500 ^ 5 = 31250000000000 := by decide
      omega
    have g0 : 0 < Nat.gcd (bl (SP u) i) (SP u i) := Nat.gcd_pos_of_pos_left _ p0
    have g1 : Nat.gcd (bl (SP u) i) (SP u i) ≤ SP u i := Nat.gcd_le_right _ s.1
    rw [bl] at q
    rw [fX8_below_4, if_neg (fun c => by have := (h.lM (by omega)).mp c; omega), gd_t (vin_nI (show i < 5 by omega) (by decide)), cl_nI (by omega), a.2.1.2.1, a.2.2.1.2.1, pk_sub (by omega)]
    show ((fX8_common (lN (bl (SP u) i)) (nI (SP u i)).toInt64).bind _) = _
    rw [nI_l (by omega), bnd (cm_M (by omega) (by omega)), gd_t (nz_lN g0 (by omega)), pk_lDiv (by omega) g0 (by omega), nI_1]
    show fX8_below_4 v f (lN (bl (SP u) i / Nat.gcd (bl (SP u) i) (SP u i)) * (nI (SP u i)).toInt64) (nI (i + 1)) = _
    rw [nI_l (by omega), lN_mul]
    exact q
theorem below_M (h : Rel u v) : fX8_below v = some (lN (bl (SP u) (nN u))) := by
  unfold fX8_below
  exact bnd (blM h (nN u) 0 FU (by omega) (fu5 h))
theorem mn_eq {x c : Nat} (hx : x < 2 ^ 31) (hc : c < 2 ^ 31) : (if nI c < nI x then nI c else nI x) = nI (mn x c) := by
  unfold mn
  by_cases q : c < x
  · rw [if_pos (nI_lt q hx), if_pos q]
  · rw [if_neg (fun w => q ((nI_ltI hc hx).mp w)), if_neg q]
theorem mn_eq' {x c : Nat} (hx : x < 2 ^ 31) (hc : c < 2 ^ 31) : (if nI c ≤ nI x then some (nI c) else some (nI x)) = some (nI (mn x c)) := by
  unfold mn
  by_cases q : c < x
  · rw [if_pos (nI_le (Nat.le_of_lt q) hx), if_pos q]
  · rw [if_neg q]
    by_cases q2 : c ≤ x
    · rw [if_pos (nI_le q2 hx), show c = x by omega]
    · rw [if_neg (fun w => q2 ((nI_leI hc hx).mp w))]
theorem re_eq {m c : Nat} (hm : m < 2 ^ 30) (hc : c < 2 ^ 30) : (if (0 : Int32) < nI m - nI c then nI m - nI c else 0) = nI (m - c) := by
  by_cases q : c ≤ m
  · rw [pk_sub q]
    by_cases z : (0 : Int32) < nI (m - c)
    · rw [if_pos z]
    · rw [if_neg z]
      rw [show (0 : Int32) = nI 0 from rfl, nI_ltI (by decide) (by omega)] at z
      rw [show m - c = 0 by omega]
      rfl
  · have := pk_sneg (a := m) (b := c) hc (by omega)
    rw [if_neg (fun w => absurd this (Int32.lt_asymm w)), show m - c = 0 by omega]
    rfl
theorem mn_le {x c : Nat} : mn x c ≤ c := by unfold mn; split <;> omega
theorem mn_lex {x c : Nat} : mn x c ≤ x := by unfold mn; split <;> omega
theorem DD_le (h : Rel u v) {L x : Nat} : ∀ i : Nat, i ≤ nN u → DD u L x i ≤ i * (1000 * L)
  | 0, _ => by simp [DD, fb_sm]
  | i + 1, hi => by
    have q := DD_le h (L := L) (x := x) i (by omega)
    have a := h.A (show i < nN u by omega)
    have m := mn_le (x := x) (c := CO u i)
    unfold DD at q ⊢
    rw [fb_sm_succ]
    have t : LD u i * (mn x (CO u i) - CI u i) * (L / SP u i) ≤ 1000 * L := by
      rw [Nat.mul_assoc]
      refine Nat.mul_le_mul a.1.2.2.2 ?_
      refine Nat.le_trans (Nat.mul_le_mul_right _ (show mn x (CO u i) - CI u i ≤ SP u i by unfold SP; omega)) ?_
      exact Nat.mul_div_le L (SP u i)
    rw [Nat.succ_mul]
    omega
theorem DD_bd (h : Rel u v) {L x : Nat} (hL : L ≤ 31250000000000) : DD u L x (nN u) ≤ 156250000000000000 := by
  have hn := h.nle
  have q := DD_le h (L := L) (x := x) (nN u) (Nat.le_refl _)
  have r : nN u * (1000 * L) ≤ 5 * (1000 * 31250000000000) := Nat.mul_le_mul hn (Nat.mul_le_mul_left _ hL)
  omega
theorem DD_mul {L c x : Nat} : ∀ i : Nat, (∀ j, j < i → SP u j ∣ L) → DD u (c * L) x i = c * DD u L x i
  | 0, _ => by simp [DD, fb_sm]
  | i + 1, hd => by
    have q := DD_mul (L := L) (c := c) (x := x) i (fun j hj => hd j (by omega))
    unfold DD at q ⊢
    rw [fb_sm_succ, fb_sm_succ, q, Nat.mul_add, Nat.mul_div_assoc c (hd i (by omega))]
    congr 1
    ac_rfl
theorem dbX (h : Rel u v) {L x : Nat} (hL : L ≤ 31250000000000) (hx : x ≤ 500) : ∀ (k i f : Nat), i + k = nN u → k < f → fX5_dirtBelow_6 (nI x) (lN L) u f (lN (DD u L x i)) (nI i) = some (lN (DD u L x (nN u))) := by
  have hn := h.nle
  intro k
  induction k with
  | zero =>
    intro i f hi hf
    obtain ⟨f, rfl⟩ := fuel1 hf
    rw [fX5_dirtBelow_6, if_pos ((h.lX (by omega)).mpr (by omega)), show i = nN u by omega]
  | succ k ih =>
    intro i f hi hf
    obtain ⟨f, rfl⟩ := fuel1 hf
    have q := ih (i + 1) f (by omega) (by omega)
    have s := h.sp (show i < nN u by omega)
    have a := h.A (show i < nN u by omega)
    have m := mn_le (x := x) (c := CO u i)
    have e : DD u L x (i + 1) = DD u L x i + LD u i * (mn x (CO u i) - CI u i) * (L / SP u i) := rfl
    rw [e] at q
    rw [fX5_dirtBelow_6, if_neg (fun c => by have := (h.lX (by omega)).mp c; omega), gd_t (vin_nI (show i < 5 by omega) (by decide)), bnd (span_X h (show i < nN u by omega)), cl_nI (by omega), a.1.1, a.2.1.1, a.2.2.1.1, mn_eq (by omega) (by omega), re_eq (by omega) (by omega), nI_l (by omega), nI_l (by omega), nI_l (by omega), gd_t (nz_lN s.1 (by omega)), lN_mul, pk_lDiv (by omega) s.1 (by omega), lN_mul, lN_add, nI_1]
    exact q
theorem dirt_X (h : Rel u v) {L x : Nat} (hL : L ≤ 31250000000000) (hx : x ≤ 500) : fX5_dirtBelow u (nI x) (lN L) = some (lN (DD u L x (nN u))) := by
  unfold fX5_dirtBelow
  exact bnd (dbX h hL hx (nN u) 0 FU (by omega) (fu5 h))
theorem doM (h : Rel u v) {L x : Nat} (hL : L ≤ 31250000000000) (hx : x ≤ 500) : ∀ (k i f : Nat), i + k = nN u → k < f → fX8_dirtOf_6 (nI x) (lN L) v f (lN (DD u L x i)) (nI i) = some (lN (DD u L x (nN u))) := by
  have hn := h.nle
  intro k
  induction k with
  | zero =>
    intro i f hi hf
    obtain ⟨f, rfl⟩ := fuel1 hf
    rw [fX8_dirtOf_6, if_pos ((h.lM (by omega)).mpr (by omega)), show i = nN u by omega]
  | succ k ih =>
    intro i f hi hf
    obtain ⟨f, rfl⟩ := fuel1 hf
    have q := ih (i + 1) f (by omega) (by omega)
    have s := h.sp (show i < nN u by omega)
    have a := h.A (show i < nN u by omega)
    have m := mn_le (x := x) (c := CO u i)
    have e : DD u L x (i + 1) = DD u L x i + LD u i * (mn x (CO u i) - CI u i) * (L / SP u i) := rfl
    have es : CO u i - CI u i = SP u i := rfl
    rw [e] at q
    rw [fX8_dirtOf_6, if_neg (fun c => by have := (h.lM (by omega)).mp c; omega), gd_t (vin_nI (show i < 5 by omega) (by decide)), cl_nI (by omega), a.1.2.1, a.2.1.2.1, a.2.2.1.2.1, bnd (mn_eq' (by omega) (by omega)), pk_sub (show CI u i ≤ CO u i by omega), es]
    by_cases c : mn x (CO u i) ≤ CI u i
    · rw [if_pos (nI_le c (by omega)), nI_1, show (0 : Int64) = lN 0 from rfl, lN_add, Nat.add_zero]
      rw [show mn x (CO u i) - CI u i = 0 by omega, Nat.mul_zero, Nat.zero_mul, Nat.add_zero] at q
      exact q
    · rw [if_neg (fun w => c ((nI_leI (by omega) (by omega)).mp w)), nI_l (by omega), nI_l (by omega), pk_sub (by omega), nI_l (by omega), gd_t (nz_lN s.1 (by omega)), lN_mul, pk_lDiv (by omega) s.1 (by omega), lN_mul, lN_add, nI_1]
      exact q
theorem dirt_M (h : Rel u v) {L x : Nat} (hL : L ≤ 31250000000000) (hx : x ≤ 500) : fX8_dirtOf v (nI x) (lN L) = some (lN (DD u L x (nN u))) := by
  unfold fX8_dirtOf
  exact bnd (doM h hL hx (nN u) 0 FU (by omega) (fu5 h))
/-- the class's product of spans is a multiple of the reference's least common one -/
theorem pr_bl (h : Rel u v) : ∃ c, 0 < c ∧ pr (SP u) (nN u) = c * bl (SP u) (nN u) ∧ ∀ x, DD u (pr (SP u) (nN u)) x (nN u) = c * DD u (bl (SP u) (nN u)) x (nN u) := by
  obtain ⟨c, e⟩ := bl_pr (f := SP u) (nN u)
  have p := pr_bd h
  have e' : pr (SP u) (nN u) = c * bl (SP u) (nN u) := by rw [e, Nat.mul_comm]
  refine ⟨c, ?_, e', fun x => ?_⟩
  · rcases Nat.eq_zero_or_pos c with q | q
    · rw [q, Nat.mul_zero] at e; omega
    · exact q
  · rw [e']
    exact DD_mul (nN u) (fun j hj => bl_f _ hj)
theorem sim_dirt (h : Rel u v) (a1 a2 : Int32) : Sx v (fX7_dirt u a1 a2) (fX8_dirt v a1 a2) := by
  unfold fX7_dirt fX8_dirt
  refine sw (P := Sx v) (lo := 1) (hi := 500) (by decide) (by decide) (Sx_some h) (fun q1 q2 => ?_)
  refine sp (P := Sx v) (Sx_some h) (fun hp => ?_)
  obtain ⟨x, rfl, hx1, hx2⟩ := bd_ex (bd_of 1 500 (by decide) (by decide) q1 q2)
  have p := pr_bd h
  have b := bl_bd h
  obtain ⟨c, hc, ep, ed⟩ := pr_bl h
  have d1 := DD_bd h (x := x) p.2
  have d2 := DD_bd h (x := x) b.2
  have hg : 0 < Nat.gcd (DD u (bl (SP u) (nN u)) x (nN u)) (bl (SP u) (nN u)) := Nat.gcd_pos_of_pos_right _ b.1
  have hgl : Nat.gcd (DD u (bl (SP u) (nN u)) x (nN u)) (bl (SP u) (nN u)) ≤ bl (SP u) (nN u) := Nat.gcd_le_right _ b.1
  unfold fX5_tellDirtBelow
  rw [bnd (lower_X h), bnd (dirt_X h p.2 hx2), bnd (become_ok (by omega) (by omega) p.1), bnd (below_M h), bnd (dirt_M h b.2 hx2), bnd (cm_M (by omega) (by omega)), gd_t (nz_lN hg (by omega)), gd_t (nz_lN hg (by omega)), pk_lDiv (by omega) hg (by omega), pk_lDiv (by omega) hg (by omega)]
  have hr := r_eq (x := DD u (pr (SP u) (nN u)) x (nN u)) (y := pr (SP u) (nN u)) (x' := DD u (bl (SP u) (nN u)) x (nN u)) (y' := bl (SP u) (nN u)) p.1 b.1 (by rw [ed, ep]; ac_rfl)
  rw [hr.1, hr.2]
  have hs : ∀ a b, Rel (setF u 18 a b) v := fun a b => h.same setF_same sameM.rfl
  rcases hp with rfl | rfl
  · show Sx v (some (((setF u 18 _ _).2.1 18).1, setF u 18 _ _)) (some _)
    rw [setF_at]
    exact Sx_some (hs _ _)
  · show Sx v (some (((setF u 18 _ _).2.1 18).2, setF u 18 _ _)) (some _)
    rw [setF_at]
    exact Sx_some (hs _ _)
end SF
