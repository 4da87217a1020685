/-! which of two x has more dirt by x -/
theorem qr_cmp {a x c y : Nat} (hx : 0 < x) (hy : 0 < y) : (c * x < a * y ↔ (c / y < a / x ∨ (a / x = c / y ∧ c % y * x < a % x * y))) ∧ (a * y = c * x ↔ (a / x = c / y ∧ a % x * y = c % y * x)) := by
  have ea : a = x * (a / x) + a % x := (Nat.div_add_mod a x).symm
  have ec : c = y * (c / y) + c % y := (Nat.div_add_mod c y).symm
  have hr : a % x < x := Nat.mod_lt _ hx
  have hs : c % y < y := Nat.mod_lt _ hy
  generalize a / x = q at *
  generalize a % x = r at *
  generalize c / y = p at *
  generalize c % y = s at *
  subst ea
  subst ec
  have l : (x * q + r) * y = x * y * q + r * y := by rw [Nat.add_mul]; congr 1; ac_rfl
  have m : (y * p + s) * x = x * y * p + s * x := by rw [Nat.add_mul]; congr 1; ac_rfl
  rw [l, m]
  have h1 : r * y < x * y := Nat.mul_lt_mul_of_pos_right hr hy
  have h2 : s * x < x * y := by rw [Nat.mul_comm x y]; exact Nat.mul_lt_mul_of_pos_right hs hx
  generalize hM : x * y = M at *
  generalize r * y = R at *
  generalize s * x = S at *
  rcases Nat.lt_trichotomy q p with c | c | c
  · have : M * (q + 1) ≤ M * p := Nat.mul_le_mul_left _ c
    rw [Nat.mul_add, Nat.mul_one] at this
    refine ⟨⟨fun w => by omega, fun w => by omega⟩, ⟨fun w => by omega, fun w => by omega⟩⟩
  · subst c
    refine ⟨⟨fun w => Or.inr ⟨rfl, by omega⟩, fun w => by omega⟩, ⟨fun w => ⟨rfl, by omega⟩, fun w => by omega⟩⟩
  · have : M * (p + 1) ≤ M * q := Nat.mul_le_mul_left _ c
    rw [Nat.mul_add, Nat.mul_one] at this
    refine ⟨⟨fun w => Or.inl c, fun w => by omega⟩, ⟨fun w => by omega, fun w => by omega⟩⟩
/-- b is the best of the x in S by V: the most V x by x, of the same the least x; 0: S is empty -/
def Best (V : Nat → Nat) (S : Nat → Prop) (b : Nat) : Prop := (b = 0 ∧ ∀ y, ¬ S y) ∨ (0 < b ∧ S b ∧ ∀ y, S y → 0 < y ∧ (V y * b < V b * y ∨ (V y * b = V b * y ∧ b ≤ y)))
theorem Best_one {V : Nat → Nat} {S : Nat → Prop} {b b' : Nat} (h : Best V S b) (h' : Best V S b') : b = b' := by
  rcases h with ⟨e, n⟩ | ⟨p, s, a⟩ <;> rcases h' with ⟨e', n'⟩ | ⟨p', s', a'⟩
  · omega
  · exact absurd s' (n b')
  · exact absurd s (n' b)
  · have q := (a b' s').2
    have q' := (a' b s).2
    omega
theorem Best_scale {V W : Nat → Nat} {S : Nat → Prop} {b c : Nat} (hc : 0 < c) (e : ∀ x, W x = c * V x) (h : Best W S b) : Best V S b := by
  rcases h with h | ⟨p, s, a⟩
  · exact Or.inl h
  · refine Or.inr ⟨p, s, fun y hy => ⟨(a y hy).1, ?_⟩⟩
    have q := (a y hy).2
    rw [e, e, Nat.mul_assoc, Nat.mul_assoc] at q
    rcases q with q | q
    · exact Or.inl (Nat.lt_of_mul_lt_mul_left q)
    · exact Or.inr ⟨Nat.eq_of_mul_eq_mul_left hc q.1, q.2⟩
theorem Best_ext {V : Nat → Nat} {S T : Nat → Prop} {b : Nat} (e : ∀ x, S x ↔ T x) (h : Best V S b) : Best V T b := by
  have : S = T := funext fun x => propext (e x)
  rw [← this]
  exact h
/-- the better of two -/
def bt (V : Nat → Nat) (b x : Nat) : Nat := if x = 0 then b else if b = 0 then x else if V b * x < V x * b then x else if V x * b = V b * x then (if b ≤ x then b else x) else b
theorem cr_tr {V : Nat → Nat} {x y z : Nat} (hy : 0 < y) (h1 : V z * y ≤ V y * z) (h2 : V y * x ≤ V x * y) : V z * x ≤ V x * z := by
  have a : V z * y * x ≤ V y * z * x := Nat.mul_le_mul_right x h1
  have b : V y * x * z ≤ V x * y * z := Nat.mul_le_mul_right z h2
  have e1 : V z * y * x = V z * x * y := by ac_rfl
  have e2 : V y * z * x = V y * x * z := by ac_rfl
  have e3 : V x * y * z = V x * z * y := by ac_rfl
  rw [e1, e2] at a
  rw [e3] at b
  exact Nat.le_of_mul_le_mul_right (Nat.le_trans a b) hy
theorem cr_trl {V : Nat → Nat} {x y z : Nat} (hy : 0 < y) (hx : 0 < x) (h1 : V z * y ≤ V y * z) (h2 : V y * x < V x * y) (hz : 0 < z) : V z * x < V x * z := by
  have a : V z * y * x ≤ V y * z * x := Nat.mul_le_mul_right x h1
  have b : V y * x * z < V x * y * z := Nat.mul_lt_mul_of_pos_right h2 hz
  have e1 : V z * y * x = V z * x * y := by ac_rfl
  have e2 : V y * z * x = V y * x * z := by ac_rfl
  have e3 : V x * y * z = V x * z * y := by ac_rfl
  rw [e1, e2] at a
  rw [e3] at b
  exact Nat.lt_of_mul_lt_mul_right (Nat.lt_of_le_of_lt a b)
theorem Best_bt {V : Nat → Nat} {S : Nat → Prop} {b x : Nat} (h : Best V S b) : Best V (fun y => S y ∨ (y = x ∧ 0 < x)) (bt V b x) := by
  unfold bt
  by_cases x0 : x = 0
  · rw [if_pos x0]
    refine Best_ext (fun y => ⟨fun q => Or.inl q, fun q => q.resolve_right (fun w => by omega)⟩) h
  rw [if_neg x0]
  have xp : 0 < x := by omega
  rcases h with ⟨e, n⟩ | ⟨p, s, a⟩
  · rw [if_pos e]
    refine Or.inr ⟨xp, Or.inr ⟨rfl, xp⟩, fun y hy => ?_⟩
    rcases hy with hy | ⟨hy, -⟩
    · exact absurd hy (n y)
    · rw [hy]; exact ⟨xp, Or.inr ⟨rfl, Nat.le_refl _⟩⟩
  · rw [if_neg (by omega)]
    by_cases c1 : V b * x < V x * b
    · rw [if_pos c1]
      refine Or.inr ⟨xp, Or.inr ⟨rfl, xp⟩, fun y hy => ?_⟩
      rcases hy with hy | ⟨hy, -⟩
      · have q := a y hy
        exact ⟨q.1, Or.inl (cr_trl p xp (by rcases q.2 with w | w <;> omega) c1 q.1)⟩
      · rw [hy]; exact ⟨xp, Or.inr ⟨rfl, Nat.le_refl _⟩⟩
    · rw [if_neg c1]
      by_cases c2 : V x * b = V b * x
      · rw [if_pos c2]
        by_cases c3 : b ≤ x
        · rw [if_pos c3]
          refine Or.inr ⟨p, Or.inl s, fun y hy => ?_⟩
          rcases hy with hy | ⟨hy, -⟩
          · exact a y hy
          · rw [hy]; exact ⟨xp, Or.inr ⟨c2, c3⟩⟩
        · rw [if_neg c3]
          refine Or.inr ⟨xp, Or.inr ⟨rfl, xp⟩, fun y hy => ?_⟩
          rcases hy with hy | ⟨hy, -⟩
          · have q := a y hy
            refine ⟨q.1, ?_⟩
            have le : V y * x ≤ V x * y := cr_tr p (by rcases q.2 with w | w <;> omega) (by omega)
            rcases Nat.lt_or_ge (V y * x) (V x * y) with w | w
            · exact Or.inl w
            · refine Or.inr ⟨by omega, ?_⟩
              have ge : V b * y ≤ V y * b := cr_tr (V := V) (x := y) (y := x) (z := b) xp (by omega) (by omega)
              rcases q.2 with z | z <;> omega
          · rw [hy]; exact ⟨xp, Or.inr ⟨rfl, Nat.le_refl _⟩⟩
      · rw [if_neg c2]
        refine Or.inr ⟨p, Or.inl s, fun y hy => ?_⟩
        rcases hy with hy | ⟨hy, -⟩
        · exact a y hy
        · rw [hy]; exact ⟨xp, Or.inl (by omega)⟩
/-- none is -9 -/
def eb (b : Nat) : Int32 := if b = 0 then -9 else nI b
theorem cmp_lN {a b : Nat} (ha : a < 2 ^ 63) (hb : b < 2 ^ 63) : fJ13_compare_74951 (lN a) (lN b) = some (if b < a then 1 else if a = b then 0 else -1) := by
  unfold fJ13_compare_74951
  by_cases c : b ≤ a
  · rw [if_pos ((pk_lLE hb ha).mpr c)]
    by_cases e : a = b
    · rw [if_pos (by rw [e]), if_neg (by omega), if_pos e]
    · rw [if_neg (fun q => e ((pk_lEQ ha hb).mp q)), if_pos (by omega)]
  · rw [if_neg (fun q => c ((pk_lLE hb ha).mp q)), if_neg (by omega), if_neg (by omega)]
section SG
variable {u : UX} {v : UM}
theorem better_X (h : Rel u v) {L b x : Nat} (hL : L ≤ 31250000000000) (hb : b ≤ 500) (hx : x ≤ 500) : fX5_better u (eb b) (nI x) (lN L) = some (eb (bt (fun y => DD u L y (nN u)) b x)) := by
  unfold fX5_better bt
  by_cases x0 : x = 0
  · rw [if_pos x0, if_neg (show ¬ (1 : Int32) ≤ nI x by rw [x0]; decide)]
  have c1 : (1 : Int32) ≤ nI x := nI_le (a := 1) (by omega) (by omega)
  rw [if_neg x0, if_pos c1]
  by_cases b0 : b = 0
  · rw [if_pos b0, if_neg (show ¬ (1 : Int32) ≤ eb b by rw [b0]; decide)]
    unfold eb
    rw [if_neg x0]
  have e1 : eb b = nI b := by unfold eb; rw [if_neg b0]
  have c2 : (1 : Int32) ≤ nI b := nI_le (a := 1) (by omega) (by omega)
  rw [e1, if_neg b0, if_pos c2, bnd (dirt_X h hL hb), bnd (dirt_X h hL hx), nI_l (by omega), nI_l (by omega), gd_t (nz_lN (by omega) (by omega)), gd_t (nz_lN (by omega) (by omega))]
  have d1 := DD_bd h (x := x) hL
  have d2 := DD_bd h (x := b) hL
  show _ = some (eb (if DD u L b (nN u) * x < DD u L x (nN u) * b then x else if DD u L x (nN u) * b = DD u L b (nN u) * x then (if b ≤ x then b else x) else b))
  generalize DD u L x (nN u) = A at *
  generalize DD u L b (nN u) = C at *
  obtain ⟨q1, q2⟩ := qr_cmp (a := A) (x := x) (c := C) (y := b) (by omega) (by omega)
  have m1 : A % x < x := Nat.mod_lt _ (by omega)
  have m2 : C % b < b := Nat.mod_lt _ (by omega)
  have n1 : A % x * b ≤ 500 * 500 := Nat.mul_le_mul (by omega) hb
  have n2 : C % b * x ≤ 500 * 500 := Nat.mul_le_mul (by omega) hx
  have v1 : A / x ≤ A := Nat.div_le_self _ _
  have v2 : C / b ≤ C := Nat.div_le_self _ _
  rw [pk_lRem (by omega) (by omega) (by omega), pk_lRem (by omega) (by omega) (by omega), pk_lDiv (by omega) (by omega) (by omega), pk_lDiv (by omega) (by omega) (by omega), lN_mul, lN_mul, cmp_lN (by omega) (by omega), cmp_lN (by omega) (by omega)]
  have ex : eb x = nI x := by unfold eb; rw [if_neg x0]
  rcases Nat.lt_trichotomy (C / b) (A / x) with w | w | w
  · rw [if_pos w, if_pos (q1.mpr (Or.inl w)), ex]
    rfl
  · rw [if_neg (show ¬ C / b < A / x by omega), if_pos w.symm]
    rcases Nat.lt_trichotomy (C % b * x) (A % x * b) with z | z | z
    · rw [if_pos z, if_pos (q1.mpr (Or.inr ⟨w.symm, z⟩)), ex]
      rfl
    · have nq : ¬ C * x < A * b := fun t => by rcases q1.mp t with t | t <;> omega
      rw [if_neg (show ¬ C % b * x < A % x * b by omega), if_pos z.symm, if_neg nq, if_pos (q2.mpr ⟨w.symm, z.symm⟩)]
      show (if nI b ≤ nI x then some (nI b) else some (nI x)) = _
      by_cases g : b ≤ x
      · rw [if_pos g, if_pos (nI_le g (by omega)), e1]
      · rw [if_neg g, if_neg (show ¬ nI b ≤ nI x from fun t => g ((nI_leI (by omega) (by omega)).mp t)), ex]
    · have nq : ¬ C * x < A * b := fun t => by rcases q1.mp t with t | t <;> omega
      have ne : ¬ A * b = C * x := fun t => by have := q2.mp t; omega
      rw [if_neg (show ¬ C % b * x < A % x * b by omega), if_neg (show ¬ A % x * b = C % b * x by omega), if_neg nq, if_neg ne, e1]
      rfl
  · have nq : ¬ C * x < A * b := fun t => by rcases q1.mp t with t | t <;> omega
    have ne : ¬ A * b = C * x := fun t => by have := q2.mp t; omega
    rw [if_neg (show ¬ C / b < A / x by omega), if_neg (show ¬ A / x = C / b by omega), if_neg nq, if_neg ne, e1]
    rfl
/-- the x that count -/
def cand (u : UX) (i x : Nat) : Prop := 0 < x ∧ ∃ j, j < i ∧ (CI u j = x ∨ CO u j = x)
def bX (u : UX) (L : Nat) : Nat → Nat
  | 0 => 0
  | i + 1 => bt (fun y => DD u L y (nN u)) (bt (fun y => DD u L y (nN u)) (bX u L i) (CI u i)) (CO u i)
theorem bX_best {L : Nat} : ∀ i, Best (fun y => DD u L y (nN u)) (cand u i) (bX u L i)
  | 0 => Or.inl ⟨rfl, fun y hy => by obtain ⟨-, j, hj, -⟩ := hy; omega⟩
  | i + 1 => by
    rw [bX]
    refine Best_ext (fun y => ?_) (Best_bt (x := CO u i) (Best_bt (x := CI u i) (bX_best i)))
    constructor
    · rintro ((⟨p, j, hj, e⟩ | ⟨e, p⟩) | ⟨e, p⟩)
      · exact ⟨p, j, by omega, e⟩
      · exact ⟨by omega, i, by omega, Or.inl e.symm⟩
      · exact ⟨by omega, i, by omega, Or.inr e.symm⟩
    · rintro ⟨p, j, hj, e⟩
      rcases Nat.lt_or_ge j i with q | q
      · exact Or.inl (Or.inl ⟨p, j, q, e⟩)
      · have : j = i := by omega
        subst this
        rcases e with e | e
        · exact Or.inl (Or.inr ⟨e.symm, by omega⟩)
        · exact Or.inr ⟨e.symm, by omega⟩
theorem best_le (h : Rel u v) {V : Nat → Nat} {i b : Nat} (hi : i ≤ nN u) (q : Best V (cand u i) b) : b ≤ 500 := by
  rcases q with q | q
  · omega
  · obtain ⟨-, j, hj, e⟩ := q.2.1
    have a := h.A (show j < nN u by omega)
    omega
theorem bt_le {V : Nat → Nat} {b x B : Nat} (hb : b ≤ B) (hx : x ≤ B) : bt V b x ≤ B := by
  unfold bt
  repeat' split
  all_goals omega
theorem piX2 (h : Rel u v) {L : Nat} (hL : L ≤ 31250000000000) : ∀ (k i f : Nat), i + k = nN u → k < f → fX5_pinch_11 u (lN L) f (eb (bX u L i)) (nI i) = some (eb (bX u L (nN u))) := by
  have hn := h.nle
  intro k
  induction k with
  | zero =>
    intro i f hi hf
    obtain ⟨f, rfl⟩ := fuel1 hf
    rw [fX5_pinch_11, if_pos ((h.lX (by omega)).mpr (by omega)), show i = nN u by omega]
  | succ k ih =>
    intro i f hi hf
    obtain ⟨f, rfl⟩ := fuel1 hf
    have q := ih (i + 1) f (by omega) (by omega)
    have a := h.A (show i < nN u by omega)
    have b5 := best_le h (by omega) (bX_best (u := u) (L := L) i)
    rw [bX] at q
    rw [fX5_pinch_11, if_neg (fun c => by have := (h.lX (by omega)).mp c; omega), gd_t (vin_nI (show i < 5 by omega) (by decide)), cl_nI (by omega), a.2.1.1, a.2.2.1.1, bnd (better_X h hL b5 (by omega)), bnd (better_X h hL (bt_le b5 (by omega)) (by omega)), nI_1]
    exact q
theorem pinch_X (h : Rel u v) : fX5_pinch u = some (eb (bX u (pr (SP u) (nN u)) (nN u))) := by
  unfold fX5_pinch
  rw [bnd (lower_X h)]
  exact bnd (piX2 h (pr_bd h).2 (nN u) 0 FU (by omega) (fu5 h))
/-- the reference's: x by x -/
def cf (u : UX) (x : Nat) : Nat → Nat
  | 0 => 0
  | i + 1 => if CI u i = x ∨ CO u i = x then 1 else cf u x i
theorem cf_01 {x : Nat} : ∀ i, cf u x i = 0 ∨ cf u x i = 1
  | 0 => Or.inl rfl
  | i + 1 => by
    rw [cf]
    split
    · exact Or.inr rfl
    · exact cf_01 i
theorem cf_iff {x : Nat} (hx : 0 < x) : ∀ i, cf u x i = 1 ↔ cand u i x
  | 0 => ⟨fun q => absurd (show (0 : Nat) = 1 from q) (by decide), fun q => by obtain ⟨-, j, hj, -⟩ := q; omega⟩
  | i + 1 => by
    rw [cf]
    by_cases c : CI u i = x ∨ CO u i = x
    · rw [if_pos c]
      exact ⟨fun _ => ⟨hx, i, by omega, c⟩, fun _ => rfl⟩
    · rw [if_neg c, cf_iff hx i]
      constructor
      · rintro ⟨p, j, hj, e⟩
        exact ⟨p, j, by omega, e⟩
      · rintro ⟨p, j, hj, e⟩
        rcases Nat.lt_or_ge j i with q | q
        · exact ⟨p, j, q, e⟩
        · exact absurd (by rw [show i = j by omega]; exact e) c
theorem cfM (h : Rel u v) {x : Nat} (hx : x ≤ 500) : ∀ (k i f : Nat), i + k = nN u → k < f → fX8_pinch_25 v (nI x) f (nI (cf u x i)) (nI i) = some (nI (cf u x (nN u))) := by
  have hn := h.nle
  intro k
  induction k with
  | zero =>
    intro i f hi hf
    obtain ⟨f, rfl⟩ := fuel1 hf
    rw [fX8_pinch_25, if_pos ((h.lM (by omega)).mpr (by omega)), show i = nN u by omega]
  | succ k ih =>
    intro i f hi hf
    obtain ⟨f, rfl⟩ := fuel1 hf
    have q := ih (i + 1) f (by omega) (by omega)
    have a := h.A (show i < nN u by omega)
    rw [cf] at q
    have o1 : nI (cf u x i) ||| 1 = nI 1 := by rcases cf_01 (u := u) (x := x) i with e | e <;> rw [e] <;> decide
    have o0 : nI (cf u x i) ||| 0 = nI (cf u x i) := by rcases cf_01 (u := u) (x := x) i with e | e <;> rw [e] <;> decide
    rw [fX8_pinch_25, if_neg (fun c => by have := (h.lM (by omega)).mp c; omega), gd_t (vin_nI (show i < 5 by omega) (by decide)), cl_nI (by omega), a.2.1.2.1, a.2.2.1.2.1, o1, o0, nI_1]
    by_cases c1 : CI u i = x
    · rw [if_pos (by rw [c1])]
      rw [if_pos (Or.inl c1)] at q
      exact q
    · rw [if_neg (fun w => c1 ((nI_eq (by omega) (by omega)).mp w))]
      by_cases c2 : CO u i = x
      · rw [if_pos (by rw [c2])]
        rw [if_pos (Or.inr c2)] at q
        exact q
      · rw [if_neg (fun w => c2 ((nI_eq (by omega) (by omega)).mp w))]
        rw [if_neg (fun w => w.elim c1 c2)] at q
        exact q
def bM (u : UX) (L : Nat) : Nat → Nat
  | 0 => 0
  | x + 1 => if cf u (x + 1) (nN u) = 0 then bM u L x else bt (fun y => DD u L y (nN u)) (bM u L x) (x + 1)
theorem bM_best {L : Nat} : ∀ x, Best (fun y => DD u L y (nN u)) (fun y => y ≤ x ∧ cand u (nN u) y) (bM u L x)
  | 0 => Or.inl ⟨rfl, fun y hy => by have := hy.2.1; omega⟩
  | x + 1 => by
    rw [bM]
    by_cases c : cf u (x + 1) (nN u) = 0
    · rw [if_pos c]
      refine Best_ext (fun y => ⟨fun q => ⟨by omega, q.2⟩, fun q => ⟨?_, q.2⟩⟩) (bM_best x)
      rcases Nat.lt_or_ge y (x + 1) with w | w
      · omega
      · have := (cf_iff (u := u) (x := x + 1) (by omega) (nN u)).mpr (by rw [show x + 1 = y by omega]; exact q.2)
        omega
    · rw [if_neg c]
      have hc : cand u (nN u) (x + 1) := (cf_iff (u := u) (x := x + 1) (by omega) (nN u)).mp (by rcases cf_01 (u := u) (x := x + 1) (nN u) with e | e <;> omega)
      refine Best_ext (fun y => ⟨fun q => ?_, fun q => ?_⟩) (Best_bt (x := x + 1) (bM_best x))
      · rcases q with q | q
        · exact ⟨by omega, q.2⟩
        · rw [q.1]; exact ⟨Nat.le_refl _, hc⟩
      · rcases Nat.lt_or_ge y (x + 1) with w | w
        · exact Or.inl ⟨by omega, q.2⟩
        · exact Or.inr ⟨by omega, by omega⟩
theorem bM_le {L : Nat} (x : Nat) : bM u L x ≤ x := by
  rcases bM_best (u := u) (L := L) x with q | q
  · omega
  · exact q.2.1.1
theorem lsub_le {a b : Nat} (ha : a < 2 ^ 62) (hb : b < 2 ^ 62) : lN a - lN b ≤ 0 ↔ a ≤ b := by
  have t1 := pk_lT (n := a) (by omega)
  have t2 := pk_lT (n := b) (by omega)
  rw [fa_le64, fb_subL (by omega) (by omega), t1, t2, show (0 : Int64).toInt = 0 from rfl]
  omega
theorem piM2 (h : Rel u v) {L : Nat} (hL : L ≤ 31250000000000) : ∀ (k x f : Nat), x + k = 500 → k < f → fX8_pinch_11 v (lN L) f (eb (bM u L x)) (nI (x + 1)) = some (eb (bM u L 500)) := by
  have hn := h.nle
  intro k
  induction k with
  | zero =>
    intro x f hi hf
    obtain ⟨f, rfl⟩ := fuel1 hf
    rw [fX8_pinch_11, show x = 500 by omega, if_pos (show (500 : Int32) < nI (500 + 1) by decide)]
  | succ k ih =>
    intro x f hi hf
    obtain ⟨f, rfl⟩ := fuel1 hf
    have q := ih (x + 1) f (by omega) (by omega)
    have e1 : fX8_pinch_25 v (nI (x + 1)) FU 0 0 = some (nI (cf u (x + 1) (nN u))) := cfM h (by omega) (nN u) 0 FU (by omega) (fu5 h)
    have bl := bM_le (u := u) (L := L) x
    rw [bM] at q
    rw [fX8_pinch_11, if_neg (show ¬ (500 : Int32) < nI (x + 1) from fun c => by rw [show (500 : Int32) = nI 500 from rfl, nI_ltI (by decide) (by omega)] at c; omega), bnd e1, nI_1]
    by_cases c : cf u (x + 1) (nN u) = 0
    · rw [if_pos c] at q
      rw [if_pos (show nI (cf u (x + 1) (nN u)) = 0 by rw [c]; rfl)]
      exact q
    · rw [if_neg c] at q
      have cc : cf u (x + 1) (nN u) = 1 := by rcases cf_01 (u := u) (x := x + 1) (nN u) with e | e <;> omega
      rw [if_neg (show ¬ nI (cf u (x + 1) (nN u)) = 0 by rw [cc]; decide), bnd (dirt_M h hL (show x + 1 ≤ 500 by omega))]
      unfold bt at q
      rw [if_neg (by omega)] at q
      generalize hb : bM u L x = b at *
      by_cases b0 : b = 0
      · rw [if_pos b0] at q
        have e9 : eb b = -9 := by unfold eb; rw [if_pos b0]
        rw [e9, if_pos rfl]
        have ex : eb (x + 1) = nI (x + 1) := by unfold eb; rw [if_neg (by omega)]
        rw [ex] at q
        exact q
      · rw [if_neg b0] at q
        have e9 : eb b = nI b := by unfold eb; rw [if_neg b0]
        have e2 : fX8_dirtOf v (nI b) (lN L) = some (lN (DD u L b (nN u))) := dirt_M h hL (by omega)
        have hne : ¬ nI b = -9 := nI_ne9 (by omega)
        rw [e9, if_neg hne, e2, bnd (show ((some (lN (DD u L b (nN u)))).bind (fun r => some r)) = some (lN (DD u L b (nN u))) from rfl), if_neg hne, nI_l (by omega), nI_l (by omega), gd_t (nz_lN (by omega) (by omega)), gd_t (nz_lN (by omega) (by omega))]
        have d1 := DD_bd h (x := x + 1) hL
        have d2 := DD_bd h (x := b) hL
        have q : fX8_pinch_11 v (lN L) f (eb (if DD u L b (nN u) * (x + 1) < DD u L (x + 1) (nN u) * b then x + 1 else if DD u L (x + 1) (nN u) * b = DD u L b (nN u) * (x + 1) then (if b ≤ x + 1 then b else x + 1) else b)) (nI (x + 1 + 1)) = some (eb (bM u L 500)) := q
        generalize DD u L (x + 1) (nN u) = A at *
        generalize DD u L b (nN u) = C at *
        obtain ⟨q1, q2⟩ := qr_cmp (a := A) (x := x + 1) (c := C) (y := b) (by omega) (by omega)
        have m1 : A % (x + 1) < x + 1 := Nat.mod_lt _ (by omega)
        have m2 : C % b < b := Nat.mod_lt _ (by omega)
        have n1 : A % (x + 1) * b ≤ 500 * 500 := Nat.mul_le_mul (by omega) (by omega)
        have n2 : C % b * (x + 1) ≤ 500 * 500 := Nat.mul_le_mul (by omega) (by omega)
        have v1 : A / (x + 1) ≤ A := Nat.div_le_self _ _
        have v2 : C / b ≤ C := Nat.div_le_self _ _
        show ((if lN A / lN (x + 1) = lN C / lN b then some ((lN A - lN A / lN (x + 1) * lN (x + 1)) * lN b - (lN C - lN C / lN b * lN b) * lN (x + 1)) else some (lN A / lN (x + 1) - lN C / lN b)).bind (fun t => if t ≤ 0 then fX8_pinch_11 v (lN L) f (nI b) (nI (x + 1 + 1)) else fX8_pinch_11 v (lN L) f (nI (x + 1)) (nI (x + 1 + 1)))) = _
        rw [pk_lRem (by omega) (by omega) (by omega), pk_lRem (by omega) (by omega) (by omega), pk_lDiv (by omega) (by omega) (by omega), pk_lDiv (by omega) (by omega) (by omega), lN_mul, lN_mul]
        have ex : eb (x + 1) = nI (x + 1) := by unfold eb; rw [if_neg (by omega)]
        have keep : ¬ C * (x + 1) < A * b → fX8_pinch_11 v (lN L) f (nI b) (nI (x + 1 + 1)) = some (eb (bM u L 500)) := by
          intro t
          rw [if_neg t, if_pos (show b ≤ x + 1 by omega)] at q
          rw [← e9]
          by_cases t2 : A * b = C * (x + 1)
          · rw [if_pos t2] at q; exact q
          · rw [if_neg t2] at q; exact q
        have take : C * (x + 1) < A * b → fX8_pinch_11 v (lN L) f (nI (x + 1)) (nI (x + 1 + 1)) = some (eb (bM u L 500)) := by
          intro t
          rw [if_pos t, ex] at q
          exact q
        by_cases w : A / (x + 1) = C / b
        · rw [if_pos (by rw [w])]
          show (if lN (A % (x + 1) * b) - lN (C % b * (x + 1)) ≤ 0 then fX8_pinch_11 v (lN L) f (nI b) (nI (x + 1 + 1)) else fX8_pinch_11 v (lN L) f (nI (x + 1)) (nI (x + 1 + 1))) = _
          by_cases z : A % (x + 1) * b ≤ C % b * (x + 1)
          · rw [if_pos ((lsub_le (by omega) (by omega)).mpr z)]
            exact keep (fun t => by rcases q1.mp t with t | t <;> omega)
          · rw [if_neg (fun t => z ((lsub_le (by omega) (by omega)).mp t))]
            exact take (q1.mpr (Or.inr ⟨w, by omega⟩))
        · rw [if_neg (fun t => w ((pk_lEQ (by omega) (by omega)).mp t))]
          show (if lN (A / (x + 1)) - lN (C / b) ≤ 0 then fX8_pinch_11 v (lN L) f (nI b) (nI (x + 1 + 1)) else fX8_pinch_11 v (lN L) f (nI (x + 1)) (nI (x + 1 + 1))) = _
          by_cases z : A / (x + 1) ≤ C / b
          · rw [if_pos ((lsub_le (by omega) (by omega)).mpr z)]
            exact keep (fun t => by rcases q1.mp t with t | t <;> omega)
          · rw [if_neg (fun t => z ((lsub_le (by omega) (by omega)).mp t))]
            exact take (q1.mpr (Or.inl (by omega)))
theorem pinch_M (h : Rel u v) : fX8_pinch v = some (eb (bM u (bl (SP u) (nN u)) 500)) := by
  unfold fX8_pinch
  rw [bnd (below_M h)]
  exact bnd (piM2 h (bl_bd h).2 500 0 FU (by omega) (by unfold FU; omega))
theorem pinch_same (h : Rel u v) : bX u (pr (SP u) (nN u)) (nN u) = bM u (bl (SP u) (nN u)) 500 := by
  obtain ⟨c, hc, ep, ed⟩ := pr_bl h
  have h1 := Best_scale (V := fun y => DD u (bl (SP u) (nN u)) y (nN u)) hc ed (bX_best (u := u) (L := pr (SP u) (nN u)) (nN u))
  have h2 := bM_best (u := u) (L := bl (SP u) (nN u)) 500
  refine Best_one h1 (Best_ext (fun y => ⟨fun q => q.2, fun q => ⟨?_, q⟩⟩) h2)
  obtain ⟨-, j, hj, e⟩ := q
  have a := h.A hj
  omega
theorem sim_least (h : Rel u v) (a1 : Int32) : Sx v (fX7_least u a1) (fX8_least v a1) := by
  unfold fX7_least fX8_least
  refine sw (P := Sx v) (lo := 0) (hi := 2) (by decide) (by decide) (Sx_some h) (fun q1 q2 => ?_)
  obtain ⟨k, rfl, -, hk⟩ := bd_ex (bd_of 0 2 (by decide) (by decide) q1 q2)
  rw [bnd (pinch_X h), bnd (pinch_M h), pinch_same h]
  have b5 := bM_le (u := u) (L := bl (SP u) (nN u)) 500
  have hb := bM_best (u := u) (L := bl (SP u) (nN u)) 500
  generalize bM u (bl (SP u) (nN u)) 500 = b at *
  have p := pr_bd h
  have bb := bl_bd h
  have hs : ∀ w : UX, sameX u w → Rel w v := fun w q => h.same q sameM.rfl
  refine s_ite (P := Sx v) (fun _ => Sx_some h) (fun k2 => ?_)
  have k1 : k = 0 ∨ k = 1 := by
    rcases (show k = 0 ∨ k = 1 ∨ k = 2 by omega) with e | e | e
    · exact Or.inl e
    · exact Or.inr e
    · exact absurd (by rw [e]; rfl) k2
  by_cases b0 : b = 0
  · subst b0
    have n0 : nN u = 0 := by
      rcases hb with q | q
      · rcases Nat.eq_zero_or_pos (nN u) with w | w
        · exact w
        · have a := h.A w
          exact absurd ⟨by omega, by omega, 0, w, Or.inr rfl⟩ (q.2 (CO u 0))
      · omega
    have ed : fX5_dirtBelow u (-9) (lN 1) = some (lN 0) := by
      unfold fX5_dirtBelow
      obtain ⟨f, hf⟩ : ∃ f, FU = f + 1 := ⟨5999, rfl⟩
      rw [hf, fX5_dirtBelow_6, show (0 : Int32) = nI 0 from rfl, if_pos ((h.lX (by omega)).mpr (by omega))]
      rfl
    have el : fX5_commonLower u = some (lN 1) := by rw [lower_X h, n0]; rfl
    have et : fX5_tellLeastFresh u (eb 0) 18 = some (setF u 18 (lN 0) (lN 1)) := by
      unfold fX5_tellLeastFresh fX5_tellDirtBelow
      rw [bnd el, show eb 0 = -9 from rfl, bnd ed, bnd (become_ok (by decide) (by decide) (by decide))]
      show ((fX2_divideBy (setF u 18 (lN (rU 0 1)) (lN (rL 0 1))) 18 (-9)).bind (fun r => some r)) = _
      unfold fX2_divideBy
      rw [if_pos (by decide)]
      rfl
    rw [bnd et, show eb 0 = -9 from rfl, if_pos rfl]
    rcases k1 with rfl | rfl
    · show Sx v (some (((setF u 18 (lN 0) (lN 1)).2.1 18).1, setF u 18 (lN 0) (lN 1))) (some ((nI 0).toInt64))
      rw [setF_at]
      exact Sx_some (hs _ setF_same)
    · show Sx v (some (((setF u 18 (lN 0) (lN 1)).2.1 18).2, setF u 18 (lN 0) (lN 1))) (some ((nI 1).toInt64))
      rw [setF_at]
      exact Sx_some (hs _ setF_same)
  · have e1 : eb b = nI b := by unfold eb; rw [if_neg b0]
    rw [e1, if_neg (nI_ne9 (by omega)), bnd (below_M h), bnd (dirt_M h bb.2 b5), nI_l (by omega), lN_mul]
    obtain ⟨c, hc, ep, ed⟩ := pr_bl h
    have d1 := DD_bd h (x := b) p.2
    have d2 := DD_bd h (x := b) bb.2
    have hpb : pr (SP u) (nN u) * b ≤ 31250000000000 * 500 := Nat.mul_le_mul p.2 b5
    have hbb : bl (SP u) (nN u) * b ≤ 31250000000000 * 500 := Nat.mul_le_mul bb.2 b5
    have pb0 : 0 < bl (SP u) (nN u) * b := Nat.mul_pos bb.1 (by omega)
    have hg : 0 < Nat.gcd (DD u (bl (SP u) (nN u)) b (nN u)) (bl (SP u) (nN u) * b) := Nat.gcd_pos_of_pos_right _ pb0
    have hgl := Nat.gcd_le_right (DD u (bl (SP u) (nN u)) b (nN u)) pb0
    rw [bnd (cm_M (by omega) (by omega)), gd_t (nz_lN hg (by omega)), gd_t (nz_lN hg (by omega)), pk_lDiv (by omega) hg (by omega), pk_lDiv (by omega) hg (by omega)]
    have r1 := rU_le (DD u (pr (SP u) (nN u)) b (nN u)) (pr (SP u) (nN u))
    have r2 := rL_le (DD u (pr (SP u) (nN u)) b (nN u)) (pr (SP u) (nN u))
    have r3 : 0 < rL (DD u (pr (SP u) (nN u)) b (nN u)) (pr (SP u) (nN u)) := rL_pos p.1
    have r4 : rL (DD u (pr (SP u) (nN u)) b (nN u)) (pr (SP u) (nN u)) * b ≤ 31250000000000 * 500 := Nat.mul_le_mul (by omega) b5
    have r5 : 0 < rL (DD u (pr (SP u) (nN u)) b (nN u)) (pr (SP u) (nN u)) * b := Nat.mul_pos r3 (by omega)
    have cr := r_cross (x := DD u (pr (SP u) (nN u)) b (nN u)) (y := pr (SP u) (nN u))
    have et : fX5_tellLeastFresh u (nI b) 18 = some (setF (setF u 18 (lN (rU (DD u (pr (SP u) (nN u)) b (nN u)) (pr (SP u) (nN u)))) (lN (rL (DD u (pr (SP u) (nN u)) b (nN u)) (pr (SP u) (nN u))))) 18 (lN (rU (DD u (bl (SP u) (nN u)) b (nN u)) (bl (SP u) (nN u) * b))) (lN (rL (DD u (bl (SP u) (nN u)) b (nN u)) (bl (SP u) (nN u) * b)))) := by
      unfold fX5_tellLeastFresh fX5_tellDirtBelow
      rw [bnd (lower_X h), bnd (dirt_X h p.2 b5), bnd (become_ok (by omega) (by omega) p.1)]
      show ((fX2_divideBy (setF u 18 (lN (rU (DD u (pr (SP u) (nN u)) b (nN u)) (pr (SP u) (nN u)))) (lN (rL (DD u (pr (SP u) (nN u)) b (nN u)) (pr (SP u) (nN u))))) 18 (nI b)).bind (fun r => some r)) = _
      unfold fX2_divideBy
      rw [if_neg (fun q => b0 ((nI_le0 (by omega)).mp q)), setF_at, nI_l (by omega), lN_mul, bnd (become_ok (by omega) (by omega) r5)]
      have hr := r_eq (x := rU (DD u (pr (SP u) (nN u)) b (nN u)) (pr (SP u) (nN u))) (y := rL (DD u (pr (SP u) (nN u)) b (nN u)) (pr (SP u) (nN u)) * b) (x' := DD u (bl (SP u) (nN u)) b (nN u)) (y' := bl (SP u) (nN u) * b) r5 pb0 (by
        have hcr : rU (DD u (pr (SP u) (nN u)) b (nN u)) (pr (SP u) (nN u)) * bl (SP u) (nN u) = DD u (bl (SP u) (nN u)) b (nN u) * rL (DD u (pr (SP u) (nN u)) b (nN u)) (pr (SP u) (nN u)) := by
          generalize rU (DD u (pr (SP u) (nN u)) b (nN u)) (pr (SP u) (nN u)) = X at *
          generalize rL (DD u (pr (SP u) (nN u)) b (nN u)) (pr (SP u) (nN u)) = Y at *
          rw [ed, ep] at cr
          have l : X * (c * bl (SP u) (nN u)) = c * (X * bl (SP u) (nN u)) := by ac_rfl
          rw [l, Nat.mul_assoc] at cr
          exact Nat.eq_of_mul_eq_mul_left hc cr
        rw [← Nat.mul_assoc, hcr]
        ac_rfl)
      rw [hr.1, hr.2]
      rfl
    rw [bnd et]
    rcases k1 with rfl | rfl
    · show Sx v (some (((setF (setF u 18 _ _) 18 _ _).2.1 18).1, setF (setF u 18 _ _) 18 _ _)) (some _)
      rw [setF_at]
      exact Sx_some (hs _ (setF_same.trans setF_same))
    · show Sx v (some (((setF (setF u 18 _ _) 18 _ _).2.1 18).2, setF (setF u 18 _ _) 18 _ _)) (some _)
      rw [setF_at]
      exact Sx_some (hs _ (setF_same.trans setF_same))
end SG
