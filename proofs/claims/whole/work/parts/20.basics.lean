/-! numbers within bounds -/
def bd (x : Int32) (lo hi : Nat) : Prop := x = nI x.toNatClampNeg ∧ lo ≤ x.toNatClampNeg ∧ x.toNatClampNeg ≤ hi
theorem bd_nI {k lo hi : Nat} (h1 : lo ≤ k) (h2 : k ≤ hi) (h3 : hi < 2 ^ 31) : bd (nI k) lo hi := by
  unfold bd
  rw [nI_clamp (by omega)]
  exact ⟨rfl, h1, h2⟩
theorem bd_of {a : Int32} (lo hi : Nat) (hh : hi < 2 ^ 31) (hl : lo < 2 ^ 31) (h1 : ¬ a < nI lo) (h2 : ¬ nI hi < a) : bd a lo hi := by
  have h0 : ¬ a < 0 := by
    rw [fa_lt] at h1 ⊢
    rw [nI_toInt hl] at h1
    show ¬ a.toInt < 0
    omega
  obtain ⟨j, hj, rfl⟩ := nI_of h0
  rw [nI_ltI hj hl] at h1
  rw [nI_ltI hh hj] at h2
  exact bd_nI (by omega) (by omega) hh
theorem bd_ex {x : Int32} {lo hi : Nat} (h : bd x lo hi) : ∃ k, x = nI k ∧ lo ≤ k ∧ k ≤ hi := ⟨_, h.1, h.2.1, h.2.2⟩
theorem bd_w {x : Int32} {lo hi lo' hi' : Nat} (h : bd x lo hi) (h1 : lo' ≤ lo) (h2 : hi ≤ hi') : bd x lo' hi' := ⟨h.1, Nat.le_trans h1 h.2.1, Nat.le_trans h.2.2 h2⟩
theorem vin_nI {j n : Nat} (h : j < n) (hn : n < 2 ^ 31) : vin (nI j) n = true := by
  unfold vin
  rw [decide_eq_true_eq, nI_clamp (by omega)]
  exact ⟨nI_pos (by omega), h⟩
theorem cl_nI {j : Nat} (h : j < 2 ^ 31) : (nI j).toNatClampNeg = j := nI_clamp h
/-! bounds tests of the class and of the reference -/
theorem in_wi (a lo hi : Int32) : fX8_in a.toInt64 lo.toInt64 hi.toInt64 = fX7_within a lo hi := by
  unfold fX8_in fX7_within
  simp only [fa_wide_lt]
theorem wi_0 {a lo hi : Int32} (h : a < lo ∨ hi < a) : fX7_within a lo hi = some 0 := by
  unfold fX7_within
  by_cases h1 : a < lo
  · rw [if_pos h1]
  · rw [if_neg h1, if_pos (h.resolve_left h1)]
theorem wi_1 {a lo hi : Int32} (h1 : ¬ a < lo) (h2 : ¬ hi < a) : fX7_within a lo hi = some 1 := by
  unfold fX7_within
  rw [if_neg h1, if_neg h2]
theorem sw {α β : Type} {P : Option α → Option β → Prop} {a lo hi : Int32} {lo' hi' : Int64} {A : Option α} {A' : Option β} {B : Int32 → Option α} {B' : Int32 → Option β} (e1 : lo' = lo.toInt64) (e2 : hi' = hi.toInt64) (h0 : P A A') (h1 : ¬ a < lo → ¬ hi < a → P (B 1) (B' 1)) :
    P ((fX7_within a lo hi).bind (fun r => if r = 0 then A else B r)) ((fX8_in a.toInt64 lo' hi').bind (fun r => if r = 0 then A' else B' r)) := by
  rw [e1, e2, in_wi]
  by_cases h : a < lo ∨ hi < a
  · rw [wi_0 h]
    exact h0
  · rw [wi_1 (fun q => h (Or.inl q)) (fun q => h (Or.inr q))]
    exact h1 (fun q => h (Or.inl q)) (fun q => h (Or.inr q))
theorem sp {α β : Type} {P : Option α → Option β → Prop} {a : Int32} {A : Option α} {A' : Option β} {B : Int32 → Option α} {B' : Int32 → Option β} (h0 : P A A') (h1 : a = 0 ∨ a = 1 → P (B 1) (B' 1)) :
    P ((fX7_isPart a).bind (fun r => if r = 0 then A else B r)) ((fX8_in a.toInt64 0 1).bind (fun r => if r = 0 then A' else B' r)) := by
  have e : fX7_isPart a = fX7_within a 0 1 := by
    unfold fX7_isPart
    by_cases h : a < 0 ∨ 1 < a
    · rw [wi_0 h]; rfl
    · rw [wi_1 (fun q => h (Or.inl q)) (fun q => h (Or.inr q))]; rfl
  rw [e]
  refine sw (P := P) (lo := 0) (hi := 1) (by decide) (by decide) h0 (fun q1 q2 => h1 ?_)
  obtain ⟨k, rfl, -, hk⟩ := bd_ex (bd_of 0 1 (by decide) (by decide) q1 q2)
  rcases (show k = 0 ∨ k = 1 by omega) with rfl | rfl
  · exact Or.inl rfl
  · exact Or.inr rfl
/-! what the two states hold, and that they hold the same -/
def stc (k : Nat) : Prop := k < 11 ∨ (14 ≤ k ∧ k < 18)
def okA (n mm k j : Nat) (x : Int32) : Prop :=
  if k = 0 then (j < n → bd x 1 1000) else if k = 1 then (j < n → bd x 0 400) else if k = 2 then (j < n → bd x 1 500) else if k = 3 then (j < n → bd x 0 9)
  else if k = 4 then bd x 0 (if j = 0 then 100 else if j = 1 then 40 else 2)
  else if k = 5 then bd x 0 100
  else if k < 11 then bd x 0 100 ∧ (k = 6 + j → x = 0)
  else if k = 14 then bd x 0 500 else if k = 15 then bd x 0 500
  else if k = 16 then (j < mm → x = 1 ∨ x = -1) else (j < mm → x = -9 ∨ bd x 0 100000)
def mk (k : Nat) : Nat := if k < 6 then k else if k < 11 then 6 else if k < 16 then 9 else k - 6
def mj (k j : Nat) : Nat := if k < 6 then j else if k < 11 then 5 * (k - 6) + j else if k = 14 then 2 * j else if k = 15 then 2 * j + 1 else j
theorem la_le (k : Nat) : la k ≤ 24 := by
  unfold la
  repeat' split
  all_goals omega
theorem mk_inj {k j k' j' : Nat} (h : stc k) (h' : stc k') (hj : j < la k) (hj' : j' < la k') (e : mk k = mk k') (e2 : mj k j = mj k' j') : k = k' ∧ j = j' := by
  have l1 : k < 11 → 6 ≤ k → la k = 5 := fun a b => by unfold la; (repeat' split) <;> omega
  have l2 : k' < 11 → 6 ≤ k' → la k' = 5 := fun a b => by unfold la; (repeat' split) <;> omega
  unfold stc at h h'
  unfold mk at e
  unfold mj at e2
  by_cases a1 : k < 6 <;> by_cases b1 : k' < 6
  · simp only [a1, b1, if_true] at e e2; omega
  · simp only [a1, b1, if_true, if_false] at e
    by_cases b2 : k' < 11
    · simp only [b2, if_true] at e; omega
    · by_cases b3 : k' < 16
      · simp only [b2, b3, if_true, if_false] at e; omega
      · simp only [b2, b3, if_false] at e; omega
  · simp only [a1, b1, if_true, if_false] at e
    by_cases b2 : k < 11
    · simp only [b2, if_true] at e; omega
    · by_cases b3 : k < 16
      · simp only [b2, b3, if_true, if_false] at e; omega
      · simp only [b2, b3, if_false] at e; omega
  · simp only [a1, b1, if_false] at e e2
    by_cases a2 : k < 11 <;> by_cases b2 : k' < 11
    · have q1 := l1 a2 (by omega)
      have q2 := l2 b2 (by omega)
      simp only [a2, b2, if_true] at e2
      omega
    · by_cases b3 : k' < 16
      · simp only [a2, b2, b3, if_true, if_false] at e; omega
      · simp only [a2, b2, b3, if_true, if_false] at e; omega
    · by_cases b3 : k < 16
      · simp only [a2, b2, b3, if_true, if_false] at e; omega
      · simp only [a2, b2, b3, if_true, if_false] at e; omega
    · by_cases a3 : k < 16 <;> by_cases b3 : k' < 16
      · simp only [a2, b2, if_false] at e2
        by_cases a4 : k = 14 <;> by_cases b4 : k' = 14
        · simp only [a4, b4, if_true] at e2; omega
        · have b5 : k' = 15 := by omega
          simp only [a4, b5, if_true] at e2
          simp at e2
          omega
        · have a5 : k = 15 := by omega
          simp only [a5, b4, if_true] at e2
          simp at e2
          omega
        · have a5 : k = 15 := by omega
          have b5 : k' = 15 := by omega
          simp only [a5, b5, if_true] at e2
          simp at e2
          omega
      · simp only [a2, b2, a3, b3, if_true, if_false] at e; omega
      · simp only [a2, b2, a3, b3, if_true, if_false] at e; omega
      · simp only [a2, b2, a3, b3, if_false] at e e2
        have a4 : ¬ k = 14 := by omega
        have b4 : ¬ k' = 14 := by omega
        have a5 : ¬ k = 15 := by omega
        have b5 : ¬ k' = 15 := by omega
        simp only [a4, b4, a5, b5, if_false] at e2
        omega
def Rel (u : UX) (v : UM) : Prop :=
  bd u.2.2.1 0 5 ∧ bd u.2.2.2.1 0 8 ∧ v.2.2.2.1 = u.2.2.1 ∧ v.2.2.2.2 = u.2.2.2.1 ∧ v.2.2.1 = u.2.2.2.2 ∧ (∀ k j, stc k → j < la k → okA u.2.2.1.toNatClampNeg u.2.2.2.1.toNatClampNeg k j (u.1 k j) ∧ v.1 (mk k) (mj k j) = u.1 k j) ∧ (∀ j, j < u.2.2.1.toNatClampNeg → (u.1 1 j).toNatClampNeg < (u.1 2 j).toNatClampNeg)
def Sm {ρ : Type} (x : Option (ρ × UX)) (y : Option (ρ × UM)) : Prop := ∃ r u v, x = some (r, u) ∧ y = some (r, v) ∧ Rel u v
def Sr {ρ : Type} (x y : Option ρ) : Prop := ∃ r, x = some r ∧ y = some r
def Sx (v : UM) {ρ : Type} (x : Option (ρ × UX)) (y : Option ρ) : Prop := ∃ r u, x = some (r, u) ∧ y = some r ∧ Rel u v
theorem Sm_some {ρ : Type} {r : ρ} {u : UX} {v : UM} (h : Rel u v) : Sm (some (r, u)) (some (r, v)) := ⟨r, u, v, rfl, rfl, h⟩
theorem Sr_some {ρ : Type} {r : ρ} : Sr (some r) (some r) := ⟨r, rfl, rfl⟩
theorem Sx_some {ρ : Type} {r : ρ} {u : UX} {v : UM} (h : Rel u v) : Sx v (some (r, u)) (some r) := ⟨r, u, rfl, rfl, h⟩
theorem s_ite {α β : Type} {P : Option α → Option β → Prop} {c : Prop} [Decidable c] {A B : Option α} {A' B' : Option β} (h1 : c → P A A') (h2 : ¬ c → P B B') : P (if c then A else B) (if c then A' else B') := by
  by_cases h : c
  · rw [if_pos h, if_pos h]; exact h1 h
  · rw [if_neg h, if_neg h]; exact h2 h
section RL
variable {u : UX} {v : UM}
theorem Rel.n (h : Rel u v) : ∃ n, n ≤ 5 ∧ u.2.2.1 = nI n ∧ v.2.2.2.1 = nI n ∧ u.2.2.1.toNatClampNeg = n := by
  obtain ⟨h1, -, h3, -⟩ := h
  exact ⟨_, h1.2.2, h1.1, h3.trans h1.1, rfl⟩
theorem Rel.m (h : Rel u v) : ∃ n, n ≤ 8 ∧ u.2.2.2.1 = nI n ∧ v.2.2.2.2 = nI n ∧ u.2.2.2.1.toNatClampNeg = n := by
  obtain ⟨-, h1, -, h3, -⟩ := h
  exact ⟨_, h1.2.2, h1.1, h3.trans h1.1, rfl⟩
/-- a step's number is tested alike -/
theorem sh {α β : Type} {P : Option α → Option β → Prop} (h : Rel u v) {a : Int32} {A : Option α} {A' : Option β} {B : Int32 → Option α} {B' : Int32 → Option β} (h0 : P A A') (h1 : ∀ j, j < u.2.2.1.toNatClampNeg → a = nI j → P (B 1) (B' 1)) :
    P ((fX5_has u a).bind (fun r => if r = 0 then A else B r)) ((fX8_isStep v a).bind (fun r => if r = 0 then A' else B' r)) := by
  obtain ⟨n, hn, e1, e2, e3⟩ := h.n
  have hh : (nI n - 1).toInt = (n : Int) - 1 := by
    have := pk_sub_toInt (a := n) (b := 1) (by omega) (by omega)
    exact this
  unfold fX5_has fX8_isStep
  rw [e1, e2]
  by_cases c1 : a < 0
  · rw [if_pos c1, show (fX8_in a.toInt64 0 (nI n - 1).toInt64) = fX7_within a 0 (nI n - 1) from in_wi a 0 (nI n - 1), wi_0 (Or.inl c1)]
    exact h0
  · rw [if_neg c1]
    obtain ⟨j, hj, rfl⟩ := nI_of c1
    by_cases c2 : nI n ≤ nI j
    · have c3 : nI n - 1 < nI j := by
        rw [nI_leI (by omega) hj] at c2
        rw [fa_lt, hh, nI_toInt hj]
        omega
      rw [if_pos c2, show (fX8_in (nI j).toInt64 0 (nI n - 1).toInt64) = fX7_within (nI j) 0 (nI n - 1) from in_wi _ 0 (nI n - 1), wi_0 (Or.inr c3)]
      exact h0
    · have c3 : ¬ nI n - 1 < nI j := by
        rw [nI_leI (by omega) hj] at c2
        rw [fa_lt, hh, nI_toInt hj]
        omega
      rw [if_neg c2, show (fX8_in (nI j).toInt64 0 (nI n - 1).toInt64) = fX7_within (nI j) 0 (nI n - 1) from in_wi _ 0 (nI n - 1), wi_1 c1 c3]
      rw [nI_leI (by omega) hj] at c2
      exact h1 j (by omega) rfl
/-- a meter's number is tested alike -/
theorem smt {α β : Type} {P : Option α → Option β → Prop} (h : Rel u v) {a : Int32} {A : Option α} {A' : Option β} {B : Int32 → Option α} {B' : Int32 → Option β} (h0 : P A A') (h1 : ∀ j, j < u.2.2.2.1.toNatClampNeg → a = nI j → P (B 1) (B' 1)) :
    P ((fX4_has u a).bind (fun r => if r = 0 then A else B r)) ((fX8_isMeter v a).bind (fun r => if r = 0 then A' else B' r)) := by
  obtain ⟨n, hn, e1, e2, e3⟩ := h.m
  have hh : (nI n - 1).toInt = (n : Int) - 1 := by
    have := pk_sub_toInt (a := n) (b := 1) (by omega) (by omega)
    exact this
  unfold fX4_has fX8_isMeter
  rw [e1, e2]
  by_cases c1 : a < 0
  · rw [if_pos c1, show (fX8_in a.toInt64 0 (nI n - 1).toInt64) = fX7_within a 0 (nI n - 1) from in_wi a 0 (nI n - 1), wi_0 (Or.inl c1)]
    exact h0
  · rw [if_neg c1]
    obtain ⟨j, hj, rfl⟩ := nI_of c1
    by_cases c2 : nI n ≤ nI j
    · have c3 : nI n - 1 < nI j := by
        rw [nI_leI (by omega) hj] at c2
        rw [fa_lt, hh, nI_toInt hj]
        omega
      rw [if_pos c2, show (fX8_in (nI j).toInt64 0 (nI n - 1).toInt64) = fX7_within (nI j) 0 (nI n - 1) from in_wi _ 0 (nI n - 1), wi_0 (Or.inr c3)]
      exact h0
    · have c3 : ¬ nI n - 1 < nI j := by
        rw [nI_leI (by omega) hj] at c2
        rw [fa_lt, hh, nI_toInt hj]
        omega
      rw [if_neg c2, show (fX8_in (nI j).toInt64 0 (nI n - 1).toInt64) = fX7_within (nI j) 0 (nI n - 1) from in_wi _ 0 (nI n - 1), wi_1 c1 c3]
      rw [nI_leI (by omega) hj] at c2
      exact h1 j (by omega) rfl
/-- a change in one place, the same in both -/
theorem Rel.set (h : Rel u v) {k j : Nat} {x : Int32} (hk : stc k) (hj : j < la k) (hx : okA u.2.2.1.toNatClampNeg u.2.2.2.1.toNatClampNeg k j x) (hc : (¬ k = 1 ∧ ¬ k = 2) ∨ u.2.2.1.toNatClampNeg ≤ j) : Rel (xst u k j x) (mst v (mk k) (mj k j) x) := by
  obtain ⟨h1, h2, h3, h4, h5, h6, h7⟩ := h
  refine ⟨h1, h2, h3, h4, h5, fun a b ha hb => ?_, fun b hb => ?_⟩
  · show okA u.2.2.1.toNatClampNeg u.2.2.2.1.toNatClampNeg a b ((if a = k then upd (u.1 k) j x else u.1 a) b) ∧ (if mk a = mk k then upd (v.1 (mk k)) (mj k j) x else v.1 (mk a)) (mj a b) = (if a = k then upd (u.1 k) j x else u.1 a) b
    by_cases e : a = k
    · subst e
      rw [if_pos rfl, if_pos rfl]
      by_cases e2 : b = j
      · subst e2
        rw [pk_us, pk_us]
        exact ⟨hx, rfl⟩
      · rw [pk_un e2, pk_un (fun q => e2 (mk_inj ha hk hb hj rfl q).2)]
        exact h6 a b ha hb
    · rw [if_neg e]
      by_cases e2 : mk a = mk k
      · rw [if_pos e2, pk_un (fun q => e (mk_inj ha hk hb hj e2 q).1), ← e2]
        exact h6 a b ha hb
      · rw [if_neg e2]
        exact h6 a b ha hb
  · show ((if 1 = k then upd (u.1 k) j x else u.1 1) b).toNatClampNeg < ((if 2 = k then upd (u.1 k) j x else u.1 2) b).toNatClampNeg
    have hb' : b < u.2.2.1.toNatClampNeg := hb
    by_cases c1 : 1 = k
    · subst c1
      have hj' : ¬ b = j := by omega
      rw [if_pos rfl, if_neg (by decide), pk_un hj']
      exact h7 b hb
    · rw [if_neg c1]
      by_cases c2 : 2 = k
      · subst c2
        have hj' : ¬ b = j := by omega
        rw [if_pos rfl, pk_un hj']
        exact h7 b hb
      · rw [if_neg c2]
        exact h7 b hb
theorem Rel.at (h : Rel u v) {k j : Nat} (hk : stc k) (hj : j < la k) : v.1 (mk k) (mj k j) = u.1 k j := (h.2.2.2.2.2.1 k j hk hj).2
theorem Rel.ok (h : Rel u v) {k j : Nat} (hk : stc k) (hj : j < la k) : okA u.2.2.1.toNatClampNeg u.2.2.2.1.toNatClampNeg k j (u.1 k j) := (h.2.2.2.2.2.1 k j hk hj).1
theorem Rel.trc (h : Rel u v) {x : Int64} : Rel (xtr u x) (mtr v x) := ⟨h.1, h.2.1, h.2.2.1, h.2.2.2.1, rfl, h.2.2.2.2.2.1, h.2.2.2.2.2.2⟩
def sameX (u u1 : UX) : Prop := (∀ k, k ≠ 11 → k ≠ 12 → k ≠ 13 → u1.1 k = u.1 k) ∧ u1.2.2 = u.2.2
def sameM (v v1 : UM) : Prop := (∀ k, k ≠ 7 → k ≠ 8 → v1.1 k = v.1 k) ∧ v1.2.2 = v.2.2
theorem sameX.rfl : sameX u u := ⟨fun _ _ _ _ => Eq.refl _, Eq.refl _⟩
theorem sameM.rfl : sameM v v := ⟨fun _ _ _ => Eq.refl _, Eq.refl _⟩
theorem sameX.trans {u1 u2 : UX} (h : sameX u u1) (h2 : sameX u1 u2) : sameX u u2 := ⟨fun k a b c => (h2.1 k a b c).trans (h.1 k a b c), h2.2.trans h.2⟩
theorem sameM.trans {v1 v2 : UM} (h : sameM v v1) (h2 : sameM v1 v2) : sameM v v2 := ⟨fun k a b => (h2.1 k a b).trans (h.1 k a b), h2.2.trans h.2⟩
theorem mk_stc {k : Nat} (h : stc k) : mk k ≠ 7 ∧ mk k ≠ 8 := by
  unfold stc at h
  unfold mk
  repeat' split
  all_goals omega
theorem Rel.same (h : Rel u v) {u1 : UX} {v1 : UM} (hu : sameX u u1) (hv : sameM v v1) : Rel u1 v1 := by
  obtain ⟨h1, h2, h3, h4, h5, h6, h7⟩ := h
  have e1 : u1.2.2.1 = u.2.2.1 := by rw [hu.2]
  have e2 : u1.2.2.2 = u.2.2.2 := by rw [hu.2]
  have e3 : v1.2.2 = v.2.2 := hv.2
  refine ⟨by rw [e1]; exact h1, by rw [e2]; exact h2, by rw [e3, e1]; exact h3, by rw [e3, e2]; exact h4, by rw [e3, e2]; exact h5, fun k j hk hj => ?_, fun j hj => ?_⟩
  · rw [e1, e2, hu.1 k (by unfold stc at hk; omega) (by unfold stc at hk; omega) (by unfold stc at hk; omega), hv.1 _ (mk_stc hk).1 (mk_stc hk).2]
    exact h6 k j hk hj
  · rw [e1] at hj
    rw [hu.1 1 (by decide) (by decide) (by decide), hu.1 2 (by decide) (by decide) (by decide)]
    exact h7 j hj
end RL
theorem rep_ok {u : UX} {k j : Nat} {x : Int32} (hj : j < la k) : fX7_replace u k (nI j) x = some (u.1 k j, xst u k j x) := by
  have hl := la_le k
  unfold fX7_replace
  have c2 : nI j < Int32.ofNat (la k) := nI_lt hj (by omega)
  rw [if_neg (nI_pos (by omega)), if_pos c2, gd_t (vin_nI hj (by omega)), nI_clamp (by omega)]
