/-! steps taken in order: the list of them, the last one first -/
def mayB (n : Nat) (P : Nat → Nat → Nat) (o : List Nat) (s : Nat) : Bool := (List.range n).all (fun r => decide (P r s = 0 ∨ r ∈ o))
theorem mayB_iff {n : Nat} {P : Nat → Nat → Nat} {o : List Nat} {s : Nat} : mayB n P o s = true ↔ ∀ r, r < n → P r s ≠ 0 → r ∈ o := by
  unfold mayB
  rw [List.all_eq_true]
  constructor
  · intro h r hr hp
    have := of_decide_eq_true (h r (List.mem_range.mpr hr))
    exact this.resolve_left hp
  · intro h r hr
    rw [decide_eq_true_eq]
    by_cases c : P r s = 0
    · exact Or.inl c
    · exact Or.inr (h r (List.mem_range.mp hr) c)
def sw1 (n : Nat) (P : Nat → Nat → Nat) (o : List Nat) (s : Nat) : List Nat := if s ∈ o then o else if mayB n P o s = true then s :: o else o
def swp (n : Nat) (P : Nat → Nat → Nat) (o : List Nat) : Nat → List Nat
  | 0 => o
  | i + 1 => sw1 n P (swp n P o i) i
def itO (n : Nat) (P : Nat → Nat → Nat) : Nat → List Nat
  | 0 => []
  | k + 1 => swp n P (itO n P k) n
/-- each step in the list has pipes only of those behind it -/
def Gd (n : Nat) (P : Nat → Nat → Nat) : List Nat → Prop
  | [] => True
  | s :: o => s < n ∧ s ∉ o ∧ (∀ r, r < n → P r s ≠ 0 → r ∈ o) ∧ Gd n P o
def Ct (n : Nat) (o : List Nat) : Prop := o.length = fb_ct (fun x => decide (x ∈ o)) n
section FL
variable {n : Nat} {P : Nat → Nat → Nat}
theorem Gd.lt : ∀ {o : List Nat}, Gd n P o → ∀ x, x ∈ o → x < n
  | [], _, x, hx => absurd hx List.not_mem_nil
  | s :: o, h, x, hx => by
    rcases List.mem_cons.mp hx with e | e
    · rw [e]; exact h.1
    · exact Gd.lt h.2.2.2 x e
theorem Gd.ct : ∀ {o : List Nat}, Gd n P o → Ct n o
  | [], _ => by
    unfold Ct
    rw [fb_ct_zero.mpr (fun k _ => by simp)]
    rfl
  | s :: o, h => by
    have q := Gd.ct h.2.2.2
    unfold Ct at q ⊢
    have e : (fun x => decide (x ∈ s :: o)) = (fun x => if x = s then true else decide (x ∈ o)) := by
      funext x
      by_cases c : x = s
      · simp [c]
      · simp [c]
    have w := fb_ct_upd (fun x => decide (x ∈ o)) true h.1
    rw [e, List.length_cons, q]
    rw [if_neg (by simpa using h.2.1), if_pos rfl] at w
    omega
theorem Gd.len {o : List Nat} (h : Gd n P o) : o.length ≤ n := by
  rw [h.ct]
  exact fb_ct_le _ _
theorem Gd.room {o : List Nat} (h : Gd n P o) {s : Nat} (hs : s < n) (hn : s ∉ o) : o.length < n := by
  have := h.len
  rcases Nat.lt_or_ge o.length n with q | q
  · exact q
  · have e : fb_ct (fun x => decide (x ∈ o)) n = n := by rw [← h.ct]; omega
    have := fb_ct_all.mp e s hs
    exact absurd (of_decide_eq_true this) hn
theorem Gd.full {o : List Nat} (h : Gd n P o) (hl : o.length = n) : ∀ s, s < n → s ∈ o := by
  intro s hs
  have e : fb_ct (fun x => decide (x ∈ o)) n = n := by rw [← h.ct]; exact hl
  exact of_decide_eq_true (fb_ct_all.mp e s hs)
theorem Gd.all {o : List Nat} (h : Gd n P o) (hl : ∀ s, s < n → s ∈ o) : o.length = n := by
  rw [h.ct]
  exact fb_ct_all.mpr (fun k hk => by rw [decide_eq_true_eq]; exact hl k hk)
theorem sw1_Gd {o : List Nat} {s : Nat} (h : Gd n P o) (hs : s < n) : Gd n P (sw1 n P o s) := by
  unfold sw1
  by_cases c1 : s ∈ o
  · rw [if_pos c1]; exact h
  · rw [if_neg c1]
    by_cases c2 : mayB n P o s = true
    · rw [if_pos c2]
      exact ⟨hs, c1, mayB_iff.mp c2, h⟩
    · rw [if_neg c2]; exact h
theorem swp_Gd {o : List Nat} (h : Gd n P o) : ∀ i, i ≤ n → Gd n P (swp n P o i)
  | 0, _ => h
  | i + 1, hi => sw1_Gd (swp_Gd h i (by omega)) (by omega)
theorem itO_Gd : ∀ k, Gd n P (itO n P k)
  | 0 => trivial
  | k + 1 => swp_Gd (itO_Gd k) n (Nat.le_refl _)
theorem sw1_len {o : List Nat} {s : Nat} : o.length ≤ (sw1 n P o s).length ∧ ((sw1 n P o s).length = o.length → sw1 n P o s = o) := by
  unfold sw1
  by_cases c1 : s ∈ o
  · rw [if_pos c1]; exact ⟨Nat.le_refl _, fun _ => rfl⟩
  · rw [if_neg c1]
    by_cases c2 : mayB n P o s = true
    · rw [if_pos c2, List.length_cons]; exact ⟨by omega, fun q => by omega⟩
    · rw [if_neg c2]; exact ⟨Nat.le_refl _, fun _ => rfl⟩
theorem swp_len {o : List Nat} : ∀ i, o.length ≤ (swp n P o i).length ∧ ((swp n P o i).length = o.length → swp n P o i = o)
  | 0 => ⟨Nat.le_refl _, fun _ => rfl⟩
  | i + 1 => by
    have q := swp_len (o := o) i
    have w := sw1_len (n := n) (P := P) (o := swp n P o i) (s := i)
    rw [swp]
    refine ⟨by omega, fun e => ?_⟩
    have e1 := w.2 (by omega)
    rw [e1]
    exact q.2 (by omega)
theorem swp_mid {o : List Nat} {i : Nat} (hi : i ≤ n) (h : swp n P o n = o) : swp n P o i = o := by
  obtain ⟨d, rfl⟩ : ∃ d, n = i + d := ⟨n - i, by omega⟩
  have key : ∀ d, (swp (i + d) P o i).length ≤ (swp (i + d) P o (i + d)).length := by
    intro d
    have : ∀ e m, (swp m P o i).length ≤ (swp m P o (i + e)).length := by
      intro e m
      induction e with
      | zero => exact Nat.le_refl _
      | succ e ih =>
        have w := (sw1_len (n := m) (P := P) (o := swp m P o (i + e)) (s := i + e)).1
        rw [← Nat.add_assoc, swp]
        omega
    exact this d (i + d)
  have k := key d
  rw [h] at k
  have q := swp_len (n := i + d) (P := P) (o := o) i
  exact q.2 (by omega)
theorem swp_full {o : List Nat} (h : ∀ s, s < n → s ∈ o) : ∀ i, i ≤ n → swp n P o i = o
  | 0, _ => rfl
  | i + 1, hi => by
    rw [swp, swp_full h i (by omega)]
    unfold sw1
    rw [if_pos (h i (by omega))]
theorem itO_fix {k : Nat} (h : itO n P (k + 1) = itO n P k) : ∀ d, itO n P (k + d) = itO n P k
  | 0 => rfl
  | d + 1 => by
    rw [← Nat.add_assoc, itO, itO_fix h d]
    exact h
theorem itO_grow : ∀ k, (∃ j, j < k ∧ itO n P (j + 1) = itO n P j) ∨ k ≤ (itO n P k).length
  | 0 => Or.inr (Nat.zero_le _)
  | k + 1 => by
    rcases itO_grow k with ⟨j, hj, e⟩ | q
    · exact Or.inl ⟨j, by omega, e⟩
    · have w := swp_len (n := n) (P := P) (o := itO n P k) n
      by_cases c : (swp n P (itO n P k) n).length = (itO n P k).length
      · exact Or.inl ⟨k, by omega, w.2 c⟩
      · refine Or.inr ?_
        rw [itO]
        omega
/-- as many rounds as steps are enough -/
theorem itO_end : itO n P (n + 1) = itO n P n := by
  rcases itO_grow (n := n) (P := P) n with ⟨j, hj, e⟩ | q
  · have a := itO_fix e (n - j)
    have b := itO_fix e (n + 1 - j)
    rw [show j + (n - j) = n by omega] at a
    rw [show j + (n + 1 - j) = n + 1 by omega] at b
    rw [a, b]
  · have g := itO_Gd (n := n) (P := P) n
    have l := g.len
    rw [itO]
    exact swp_full (g.full (by omega)) n (Nat.le_refl _)
theorem itO_same {j : Nat} (e : itO n P (j + 1) = itO n P j) : itO n P j = itO n P n := by
  rcases Nat.lt_or_ge j n with q | q
  · have a := itO_fix e (n - j)
    rw [show j + (n - j) = n by omega] at a
    exact a.symm
  · have a := itO_fix (itO_end (n := n) (P := P)) (j - n)
    rw [show n + (j - n) = j by omega] at a
    exact a
/-! dirt at the ends -/
def VV (P : Nat → Nat → Nat) (φ : Nat → Nat × Nat) (D s : Nat) (i : Nat) : Nat := fb_sm (fun r => if P r s = 0 then 0 else (φ r).1 * (D / (φ r).2) * P r s) i
def Dn (W : Nat → Nat) : List Nat → Nat
  | [] => 1
  | s :: o => Dn W o * W s
def Ph (n : Nat) (P : Nat → Nat → Nat) (W ld : Nat → Nat) : List Nat → Nat → Nat × Nat
  | [] => fun _ => (0, 1)
  | s :: o => fun x => if x = s then (rU (VV P (Ph n P W ld o) (Dn W o) s n + ld s * Dn W o) (Dn W o * W s), rL (VV P (Ph n P W ld o) (Dn W o) s n + ld s * Dn W o) (Dn W o * W s)) else Ph n P W ld o x
def Ch (n : Nat) (P : Nat → Nat → Nat) (W ld : Nat → Nat) : List Nat → Nat → Nat × Nat
  | [] => fun _ => (0, 1)
  | s :: o => fun x => if x = s then (rU (VV P (Ph n P W ld o) (Dn W o) s n) (Dn W o * W s), rL (VV P (Ph n P W ld o) (Dn W o) s n) (Dn W o * W s)) else Ch n P W ld o x
def Num (n : Nat) (P : Nat → Nat → Nat) (W ld : Nat → Nat) (o : List Nat) : Prop := ∀ x, x ∈ o → 0 < (Ph n P W ld o x).2 ∧ (Ph n P W ld o x).2 ∣ Dn W o ∧ (Ph n P W ld o x).1 ≤ 1000 * o.length * (Ph n P W ld o x).2
variable {W ld : Nat → Nat}
theorem Dn_bd (hW : ∀ s, s < n → 0 < W s ∧ W s ≤ 600) : ∀ {o : List Nat}, Gd n P o → 0 < Dn W o ∧ Dn W o ≤ 600 ^ o.length
  | [], _ => ⟨Nat.one_pos, Nat.le_refl _⟩
  | s :: o, h => by
    have q := Dn_bd hW h.2.2.2
    have w := hW s h.1
    rw [Dn, List.length_cons, Nat.pow_succ]
    exact ⟨Nat.mul_pos q.1 w.1, Nat.mul_le_mul q.2 w.2⟩
theorem VV_bd {o : List Nat} {s : Nat} (hN : Num n P W ld o) (hp : ∀ r, r < n → P r s ≠ 0 → r ∈ o) : ∀ i, i ≤ n → VV P (Ph n P W ld o) (Dn W o) s i ≤ 1000 * o.length * Dn W o * fb_sm (fun r => P r s) i
  | 0, _ => Nat.zero_le _
  | i + 1, hi => by
    have q := VV_bd hN hp i (by omega)
    unfold VV at q ⊢
    rw [fb_sm_succ, fb_sm_succ, Nat.mul_add]
    refine Nat.add_le_add q ?_
    by_cases c : P i s = 0
    · rw [if_pos c]; exact Nat.zero_le _
    · rw [if_neg c]
      obtain ⟨h1, h2, h3⟩ := hN i (hp i (by omega) c)
      refine Nat.mul_le_mul_right _ ?_
      refine Nat.le_trans (Nat.mul_le_mul_right _ h3) ?_
      rw [Nat.mul_assoc]
      exact Nat.mul_le_mul_left _ (Nat.mul_div_le _ _)
theorem VV_mono {φ : Nat → Nat × Nat} {D s i j : Nat} (h : i ≤ j) : VV P φ D s i ≤ VV P φ D s j := by
  obtain ⟨d, rfl⟩ : ∃ d, j = i + d := ⟨j - i, by omega⟩
  exact fb_sm_mono _ i d
theorem Num_ok (hW : ∀ s, s < n → 0 < W s ∧ W s ≤ 600 ∧ fb_sm (fun r => P r s) n ≤ W s) (hl : ∀ s, s < n → ld s ≤ 1000) : ∀ {o : List Nat}, Gd n P o → Num n P W ld o
  | [], _ => fun x hx => absurd hx List.not_mem_nil
  | s :: o, h => by
    have q := Num_ok hW hl h.2.2.2
    have d := Dn_bd (fun s hs => ⟨(hW s hs).1, (hW s hs).2.1⟩) h.2.2.2
    have w := hW s h.1
    intro x hx
    by_cases c : x = s
    · have e1 : Ph n P W ld (s :: o) x = (rU (VV P (Ph n P W ld o) (Dn W o) s n + ld s * Dn W o) (Dn W o * W s), rL (VV P (Ph n P W ld o) (Dn W o) s n + ld s * Dn W o) (Dn W o * W s)) := if_pos c
      rw [e1, List.length_cons, Dn]
      have p : 0 < Dn W o * W s := Nat.mul_pos d.1 w.1
      refine ⟨rL_pos p, rL_dvd _ _, ?_⟩
      have cr := r_cross (x := VV P (Ph n P W ld o) (Dn W o) s n + ld s * Dn W o) (y := Dn W o * W s)
      have b := VV_bd q h.2.2.1 n (Nat.le_refl _)
      have b2 : VV P (Ph n P W ld o) (Dn W o) s n ≤ 1000 * o.length * Dn W o * W s := Nat.le_trans b (Nat.mul_le_mul_left _ w.2.2)
      have b3 : ld s * Dn W o ≤ 1000 * (Dn W o * W s) := Nat.mul_le_mul (hl s h.1) (Nat.le_mul_of_pos_right _ w.1)
      have b4 : VV P (Ph n P W ld o) (Dn W o) s n + ld s * Dn W o ≤ 1000 * (o.length + 1) * (Dn W o * W s) := by
        have e : 1000 * (o.length + 1) * (Dn W o * W s) = 1000 * o.length * Dn W o * W s + 1000 * (Dn W o * W s) := by
          rw [Nat.mul_add, Nat.mul_one, Nat.add_mul, Nat.mul_assoc (1000 * o.length) (Dn W o) (W s)]
        omega
      have b5 : rU (VV P (Ph n P W ld o) (Dn W o) s n + ld s * Dn W o) (Dn W o * W s) * (Dn W o * W s) ≤ (1000 * (o.length + 1) * rL (VV P (Ph n P W ld o) (Dn W o) s n + ld s * Dn W o) (Dn W o * W s)) * (Dn W o * W s) := by
        rw [cr]
        refine Nat.le_trans (Nat.mul_le_mul_right _ b4) (Nat.le_of_eq ?_)
        ac_rfl
      exact Nat.le_of_mul_le_mul_right b5 p
    · have hx' : x ∈ o := (List.mem_cons.mp hx).resolve_left c
      obtain ⟨h1, h2, h3⟩ := q x hx'
      have e1 : Ph n P W ld (s :: o) x = Ph n P W ld o x := if_neg c
      rw [e1, List.length_cons, Dn]
      refine ⟨h1, Nat.dvd_trans h2 (Nat.dvd_mul_right _ _), Nat.le_trans h3 (Nat.mul_le_mul_right _ (by omega))⟩
/-- adding a fraction of lower part L to one of lower part b -/
theorem add_eq {a b V D U L p : Nat} (hb : 0 < b) (hL : 0 < L) (hbD : b ∣ D) (hLD : L ∣ D) (h : a * D = V * b) : (a * (L / Nat.gcd b L) + U * p * (b / Nat.gcd b L)) * D = (V + U * (D / L) * p) * (b * (L / Nat.gcd b L)) ∧ b * (L / Nat.gcd b L) ∣ D ∧ 0 < b * (L / Nat.gcd b L) := by
  have g0 : 0 < Nat.gcd b L := Nat.gcd_pos_of_pos_left _ hb
  obtain ⟨b', eb⟩ := Nat.gcd_dvd_left b L
  obtain ⟨L', eL⟩ := Nat.gcd_dvd_right b L
  have e1 : b / Nat.gcd b L = b' := Nat.div_eq_of_eq_mul_right g0 eb
  have e2 : L / Nat.gcd b L = L' := Nat.div_eq_of_eq_mul_right g0 eL
  obtain ⟨d, ed⟩ := hLD
  have e3 : D / L = d := Nat.div_eq_of_eq_mul_right hL ed
  have hL' : 0 < L' := by
    rcases Nat.eq_zero_or_pos L' with q | q
    · rw [q, Nat.mul_zero] at eL; omega
    · exact q
  refine ⟨?_, ?_, ?_⟩
  · rw [e1, e2, e3, Nat.add_mul, Nat.add_mul]
    have l1 : a * L' * D = V * (b * L') := by
      have : a * L' * D = a * D * L' := by ac_rfl
      rw [this, h]
      ac_rfl
    have l2 : U * p * b' * D = U * d * p * (b * L') := by
      have x1 : D = Nat.gcd b L * L' * d := by rw [ed, ← eL]
      have x2 : b * L' = Nat.gcd b L * b' * L' := by rw [← eb]
      rw [x2]
      conv => lhs; rw [x1]
      ac_rfl
    rw [l1, l2]
  · have : b * (L / Nat.gcd b L) = Nat.lcm b L := by
      unfold Nat.lcm
      rw [Nat.mul_div_assoc _ (Nat.gcd_dvd_right b L)]
    rw [this]
    exact Nat.lcm_dvd hbD ⟨d, ed⟩
  · rw [e2]
    exact Nat.mul_pos hb hL'
end FL
