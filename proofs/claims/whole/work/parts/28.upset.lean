/-! an upset along pipes: ways, their cost, the shortest -/
def rch (n fr h : Nat) (P : Nat → Nat → Nat) (lg : Nat → Nat) : Nat → Nat → Nat → Prop
  | 0, s, c => s = fr ∧ c = h
  | k + 1, s, c => rch n fr h P lg k s c ∨ (s ≠ fr ∧ s < n ∧ ∃ r c', r < n ∧ P r s ≠ 0 ∧ rch n fr h P lg k r c' ∧ c = c' + lg s)
section UP
variable {n fr h : Nat} {P : Nat → Nat → Nat} {lg : Nat → Nat}
theorem rch_mono {k k' s c : Nat} (hk : k ≤ k') (q : rch n fr h P lg k s c) : rch n fr h P lg k' s c := by
  obtain ⟨d, rfl⟩ : ∃ d, k' = k + d := ⟨k' - k, by omega⟩
  clear hk
  induction d with
  | zero => exact q
  | succ d ih => exact Or.inl ih
theorem rch_cost (hl : ∀ s, s < n → lg s ≤ 9) : ∀ {k s c : Nat}, rch n fr h P lg k s c → c ≤ h + 9 * k
  | 0, s, c, q => by have := q.2; omega
  | k + 1, s, c, q => by
    rcases q with q | ⟨-, hs, r, c', -, -, q, e⟩
    · have := rch_cost hl q; omega
    · have := rch_cost hl q
      have := hl s hs
      omega
theorem rch_fr : ∀ {k c : Nat}, rch n fr h P lg k fr c → c = h
  | 0, c, q => q.2
  | k + 1, c, q => by
    rcases q with q | q
    · exact rch_fr q
    · exact absurd rfl q.1
theorem rch_lt (hf : fr < n) : ∀ {k s c : Nat}, rch n fr h P lg k s c → s < n
  | 0, s, c, q => by rw [q.1]; exact hf
  | k + 1, s, c, q => by
    rcases q with q | q
    · exact rch_lt hf q
    · exact q.2.1
theorem rch_last : ∀ {k s c : Nat}, rch n fr h P lg (k + 1) s c → s ≠ fr → ∃ r c', r < n ∧ P r s ≠ 0 ∧ rch n fr h P lg k r c' ∧ c = c' + lg s
  | 0, s, c, q, hs => by
    rcases q with q | q
    · exact absurd q.1 hs
    · exact q.2.2
  | k + 1, s, c, q, hs => by
    rcases q with q | q
    · obtain ⟨r, c', h1, h2, h3, h4⟩ := rch_last q hs
      exact ⟨r, c', h1, h2, Or.inl h3, h4⟩
    · exact q.2.2
/-- a way, place by place -/
def wlk (n fr h : Nat) (P : Nat → Nat → Nat) (lg : Nat → Nat) (j s c : Nat) : Prop := ∃ w : Nat → Nat, w 0 = fr ∧ w j = s ∧ (∀ i, i < j → P (w i) (w (i + 1)) ≠ 0 ∧ w (i + 1) ≠ fr ∧ w (i + 1) < n) ∧ c = h + fb_sm (fun i => lg (w (i + 1))) j
theorem wlk_of (hf : fr < n) : ∀ {k s c : Nat}, rch n fr h P lg k s c → ∃ j, wlk n fr h P lg j s c
  | 0, s, c, q => ⟨0, fun _ => fr, rfl, q.1.symm, fun i hi => by omega, by rw [q.2]; rfl⟩
  | k + 1, s, c, q => by
    rcases q with q | ⟨hs, hsn, r, c', hr, hp, q, e⟩
    · exact wlk_of hf q
    · obtain ⟨j, w, w0, wj, we, wc⟩ := wlk_of hf q
      refine ⟨j + 1, fun i => if i ≤ j then w i else s, by show (if 0 ≤ j then w 0 else s) = fr; rw [if_pos (Nat.zero_le _)]; exact w0, by show (if j + 1 ≤ j then w (j + 1) else s) = s; rw [if_neg (by omega)], fun i hi => ?_, ?_⟩
      · dsimp only
        rcases Nat.lt_or_ge i j with g | g
        · rw [if_pos (by omega), if_pos (by omega)]
          exact we i g
        · have : i = j := by omega
          subst this
          rw [if_pos (Nat.le_refl _), if_neg (by omega), wj]
          exact ⟨hp, hs, hsn⟩
      · rw [fb_sm_succ, e, wc]
        have e1 : fb_sm (fun i => lg (if i + 1 ≤ j then w (i + 1) else s)) j = fb_sm (fun i => lg (w (i + 1))) j := fb_sm_cong (fun i hi => by rw [if_pos (by omega)])
        rw [e1]
        show _ = h + (fb_sm (fun i => lg (w (i + 1))) j + lg (if j + 1 ≤ j then w (j + 1) else s))
        rw [if_neg (by omega)]
        omega
theorem of_wlk (hf : fr < n) : ∀ {j s c : Nat}, wlk n fr h P lg j s c → rch n fr h P lg j s c
  | 0, s, c, q => by
    obtain ⟨w, w0, wj, -, wc⟩ := q
    exact ⟨by rw [← wj, w0], by rw [wc]; rfl⟩
  | j + 1, s, c, q => by
    obtain ⟨w, w0, wj, we, wc⟩ := q
    have hj : w j < n := by
      rcases Nat.eq_zero_or_pos j with g | g
      · rw [g, w0]; exact hf
      · have := (we (j - 1) (by omega)).2.2
        rw [show j - 1 + 1 = j by omega] at this
        exact this
    have q := of_wlk hf (s := w j) (c := h + fb_sm (fun i => lg (w (i + 1))) j) ⟨w, w0, rfl, fun i hi => we i (by omega), rfl⟩
    have e := we j (by omega)
    rw [wj] at e
    refine Or.inr ⟨e.2.1, e.2.2, w j, _, hj, e.1, q, ?_⟩
    rw [wc, fb_sm_succ, wj]
    omega
theorem wlk_cut (hf : fr < n) (j : Nat) : ∀ {s c : Nat}, wlk n fr h P lg j s c → ∃ j' c', j' + 1 ≤ n ∧ c' ≤ c ∧ wlk n fr h P lg j' s c' := by
  induction j using Nat.strongRecOn with
  | ind j ih =>
    intro s c q
    rcases Nat.lt_or_ge j n with g | g
    · exact ⟨j, c, by omega, Nat.le_refl _, q⟩
    · obtain ⟨w, w0, wj, we, wc⟩ := q
      have hw : ∀ i, i < j + 1 → w i < n := fun i hi => by
        rcases Nat.eq_zero_or_pos i with z | z
        · rw [z, w0]; exact hf
        · have := (we (i - 1) (by omega)).2.2
          rw [show i - 1 + 1 = i by omega] at this
          exact this
      obtain ⟨a, b, hab, hb, e⟩ := fb_twice hw (show n < j + 1 by omega)
      obtain ⟨d, hd⟩ : ∃ d, b = a + d := ⟨b - a, by omega⟩
      obtain ⟨x, hx⟩ : ∃ x, j = a + d + x := ⟨j - b, by omega⟩
      have hcut : wlk n fr h P lg (a + x) s (h + fb_sm (fun i => lg ((fun i => if i ≤ a then w i else w (i + d)) (i + 1))) (a + x)) := by
        refine ⟨fun i => if i ≤ a then w i else w (i + d), by show (if 0 ≤ a then w 0 else w (0 + d)) = fr; rw [if_pos (Nat.zero_le _)]; exact w0, ?_, fun i hi => ?_, rfl⟩
        · show (if a + x ≤ a then w (a + x) else w (a + x + d)) = s
          rcases Nat.eq_zero_or_pos x with z | z
          · rw [if_pos (by omega), z, Nat.add_zero, e, ← wj]
            congr 1
            omega
          · rw [if_neg (by omega), ← wj]
            congr 1
            omega
        · dsimp only
          rcases Nat.lt_trichotomy i a with z | z | z
          · rw [if_pos (by omega), if_pos (by omega)]
            exact we i (by omega)
          · rw [if_pos (by omega), if_neg (by omega), z, e, show a + 1 + d = b + 1 by omega]
            exact we b (by omega)
          · rw [if_neg (by omega), if_neg (by omega), show i + 1 + d = i + d + 1 by omega]
            exact we (i + d) (by omega)
      obtain ⟨j', c', h1, h2, h3⟩ := ih (a + x) (by omega) hcut
      refine ⟨j', c', h1, Nat.le_trans h2 ?_, h3⟩
      rw [wc, hx, fb_sm_split, fb_sm_split]
      have e1 : fb_sm (fun i => lg (if i + 1 ≤ a then w (i + 1) else w (i + 1 + d))) a = fb_sm (fun i => lg (w (i + 1))) a := fb_sm_cong (fun i hi => by rw [if_pos (by omega)])
      have e2 : fb_sm (fun k => lg (if a + k + 1 ≤ a then w (a + k + 1) else w (a + k + 1 + d))) x = fb_sm (fun k => lg (w (a + d + k + 1))) x := fb_sm_cong (fun i hi => by rw [if_neg (by omega)]; congr 2; omega)
      have m := fb_sm_mono (fun i => lg (w (i + 1))) a d
      show h + (fb_sm (fun i => lg (if i + 1 ≤ a then w (i + 1) else w (i + 1 + d))) a + fb_sm (fun k => lg (if a + k + 1 ≤ a then w (a + k + 1) else w (a + k + 1 + d))) x) ≤ h + (fb_sm (fun i => lg (w (i + 1))) (a + d) + fb_sm (fun k => lg (w (a + d + k + 1))) x)
      rw [e1, e2]
      omega
theorem rch_cut (hf : fr < n) {k s c : Nat} (q : rch n fr h P lg k s c) : ∃ c', c' ≤ c ∧ rch n fr h P lg (n - 1) s c' := by
  obtain ⟨j, w⟩ := wlk_of hf q
  obtain ⟨j', c', h1, h2, h3⟩ := wlk_cut hf j w
  exact ⟨c', h2, rch_mono (by omega) (of_wlk hf h3)⟩
/-- what is held is a way's cost; no way of t pipes costs less -/
def So (n fr h : Nat) (P : Nat → Nat → Nat) (lg : Nat → Nat) (D : Nat → Nat) (m : Nat) : Prop := ∀ s, s < n → D s ≠ 100000 → ∃ k, k ≤ m ∧ rch n fr h P lg k s (D s)
def Co (n fr h : Nat) (P : Nat → Nat → Nat) (lg : Nat → Nat) (D : Nat → Nat) (t : Nat) : Prop := ∀ s c, rch n fr h P lg t s c → D s ≤ c
theorem up_eq (hf : fr < n) (hl : ∀ s, s < n → lg s ≤ 9) (hn : n ≤ 5) (hh : h ≤ 1000) {D E : Nat → Nat} {m m' t t' : Nat} (ht : n ≤ t + 1) (ht' : n ≤ t' + 1) (s1 : So n fr h P lg D m) (c1 : Co n fr h P lg D t) (s2 : So n fr h P lg E m') (c2 : Co n fr h P lg E t') {s : Nat} (hs : s < n) : D s = E s ∧ (D s = 100000 ∨ D s ≤ 1045) := by
  have half : ∀ {D E : Nat → Nat} {m t : Nat}, n ≤ t + 1 → So n fr h P lg D m → Co n fr h P lg E t → D s ≠ 100000 → E s ≤ D s ∧ E s ≤ 1045 := by
    intro D E m t ht s1 c2 hd
    obtain ⟨k, -, q⟩ := s1 s hs hd
    obtain ⟨c', h1, h2⟩ := rch_cut hf q
    have h3 := c2 s c' (rch_mono (by omega) h2)
    have h4 := rch_cost hl h2
    omega
  by_cases d : D s = 100000
  · by_cases e : E s = 100000
    · omega
    · have := half ht s2 c1 e
      omega
  · have a := half ht' s1 c2 d
    have b := half ht s2 c1 (by omega)
    omega
/-! one round of the class -/
def up1 (D : Nat → Nat) (s x : Nat) : Nat → Nat := fun j => if j = s then x else D j
def mi (P : Nat → Nat → Nat) (D : Nat → Nat) (s : Nat) : Nat → Nat
  | 0 => 100000
  | i + 1 => if P i s = 0 then mi P D s i else if D i < mi P D s i then D i else mi P D s i
def nb (n : Nat) (P : Nat → Nat → Nat) (lg : Nat → Nat) (D : Nat → Nat) (s : Nat) : Nat := if mi P D s n = 100000 then 100000 else mi P D s n + lg s
def swX (n fr : Nat) (P : Nat → Nat → Nat) (lg : Nat → Nat) (D : Nat → Nat) : Nat → Nat → Nat
  | 0 => D
  | i + 1 => if i = fr then swX n fr P lg D i else up1 (swX n fr P lg D i) i (nb n P lg (swX n fr P lg D i) i)
def itX (n fr : Nat) (P : Nat → Nat → Nat) (lg : Nat → Nat) (D : Nat → Nat) : Nat → Nat → Nat
  | 0 => D
  | k + 1 => swX n fr P lg (itX n fr P lg D k) n
theorem mi_le {D : Nat → Nat} {s : Nat} : ∀ i, mi P D s i ≤ 100000
  | 0 => Nat.le_refl _
  | i + 1 => by
    have := mi_le (D := D) (s := s) i
    rw [mi]
    repeat' split
    all_goals omega
theorem mi_low {D : Nat → Nat} {s r : Nat} (hp : P r s ≠ 0) : ∀ i, r < i → mi P D s i ≤ D r
  | 0, q => by omega
  | i + 1, q => by
    rw [mi]
    rcases Nat.lt_or_ge r i with g | g
    · have := mi_low (D := D) hp i g
      repeat' split
      all_goals omega
    · have e : r = i := by omega
      subst e
      rw [if_neg hp]
      split <;> omega
theorem mi_at {D : Nat → Nat} {s : Nat} : ∀ i, mi P D s i ≠ 100000 → ∃ r, r < i ∧ P r s ≠ 0 ∧ D r = mi P D s i
  | 0, q => absurd rfl q
  | i + 1, q => by
    rw [mi] at q ⊢
    by_cases c1 : P i s = 0
    · rw [if_pos c1] at q ⊢
      obtain ⟨r, h1, h2⟩ := mi_at i q
      exact ⟨r, by omega, h2⟩
    · rw [if_neg c1] at q ⊢
      by_cases c2 : D i < mi P D s i
      · rw [if_pos c2]
        exact ⟨i, by omega, c1, rfl⟩
      · rw [if_neg c2] at q ⊢
        obtain ⟨r, h1, h2⟩ := mi_at i q
        exact ⟨r, by omega, h2⟩
theorem So.bd (hl : ∀ s, s < n → lg s ≤ 9) {D : Nat → Nat} {m : Nat} (q : So n fr h P lg D m) {s : Nat} (hs : s < n) : D s = 100000 ∨ D s ≤ h + 9 * m := by
  by_cases c : D s = 100000
  · exact Or.inl c
  · obtain ⟨k, hk, w⟩ := q s hs c
    have := rch_cost hl w
    omega
theorem swX_ok (hf : fr < n) (hl : ∀ s, s < n → lg s ≤ 9) (hn : n ≤ 5) (hh : h ≤ 1000) {D : Nat → Nat} {m t : Nat} (hm : m ≤ 100) (ht : t ≤ 100) (d0 : D fr = h) (s0 : So n fr h P lg D m) (c0 : Co n fr h P lg D t) : ∀ i, i ≤ n → swX n fr P lg D i fr = h ∧ So n fr h P lg (swX n fr P lg D i) (m + i) ∧ Co n fr h P lg (swX n fr P lg D i) t ∧ ∀ s c, s < i → rch n fr h P lg (t + 1) s c → swX n fr P lg D i s ≤ c
  | 0, _ => ⟨d0, s0, c0, fun s c hs => by omega⟩
  | i + 1, hi => by
    obtain ⟨e0, e1, e2, e3⟩ := swX_ok hf hl hn hh hm ht d0 s0 c0 i (by omega)
    rw [swX]
    by_cases c : i = fr
    · rw [if_pos c]
      refine ⟨e0, fun s hs hd => ?_, e2, fun s c' hs q => ?_⟩
      · obtain ⟨k, hk, q⟩ := e1 s hs hd
        exact ⟨k, by omega, q⟩
      · rcases Nat.lt_or_ge s i with g | g
        · exact e3 s c' g q
        · have e : s = fr := by omega
          subst e
          rw [rch_fr q, e0]
          exact Nat.le_refl _
    · rw [if_neg c]
      generalize swX n fr P lg D i = E at *
      have low : ∀ c', rch n fr h P lg (t + 1) i c' → nb n P lg E i ≤ c' := by
        intro c' q
        obtain ⟨r, c2, hr, hp, q2, ec⟩ := rch_last q c
        have g1 := e2 r c2 q2
        have g2 := mi_low (P := P) (D := E) (s := i) hp n hr
        have g3 := rch_cost hl q2
        unfold nb
        rw [if_neg (by omega)]
        omega
      refine ⟨?_, fun s hs hd => ?_, fun s c' q => ?_, fun s c' hs q => ?_⟩
      · show (if fr = i then _ else E fr) = h
        rw [if_neg (fun z => c z.symm)]
        exact e0
      · have hd' : (if s = i then nb n P lg E i else E s) ≠ 100000 := hd
        show ∃ k, k ≤ m + (i + 1) ∧ rch n fr h P lg k s (if s = i then nb n P lg E i else E s)
        by_cases z : s = i
        · subst z
          rw [if_pos rfl] at hd' ⊢
          unfold nb at hd' ⊢
          by_cases y : mi P E s n = 100000
          · rw [if_pos y] at hd'
            exact absurd rfl hd'
          · rw [if_neg y]
            obtain ⟨r, hr, hp, er⟩ := mi_at (P := P) (D := E) (s := s) n y
            obtain ⟨k, hk, q⟩ := e1 r hr (by rw [er]; exact y)
            rw [er] at q
            exact ⟨k + 1, by omega, Or.inr ⟨c, hs, r, _, hr, hp, q, rfl⟩⟩
        · rw [if_neg z] at hd' ⊢
          obtain ⟨k, hk, q⟩ := e1 s hs hd'
          exact ⟨k, by omega, q⟩
      · show (if s = i then nb n P lg E i else E s) ≤ c'
        by_cases z : s = i
        · subst z
          rw [if_pos rfl]
          exact low c' (Or.inl q)
        · rw [if_neg z]
          exact e2 s c' q
      · show (if s = i then nb n P lg E i else E s) ≤ c'
        by_cases z : s = i
        · subst z
          rw [if_pos rfl]
          exact low c' q
        · rw [if_neg z]
          exact e3 s c' (by omega) q
theorem itX_ok (hf : fr < n) (hl : ∀ s, s < n → lg s ≤ 9) (hn : n ≤ 5) (hh : h ≤ 1000) {D : Nat → Nat} (d0 : D fr = h) (s0 : So n fr h P lg D 0) (c0 : Co n fr h P lg D 0) : ∀ k, k ≤ 5 → itX n fr P lg D k fr = h ∧ So n fr h P lg (itX n fr P lg D k) (k * n) ∧ Co n fr h P lg (itX n fr P lg D k) k
  | 0, _ => ⟨d0, by rw [Nat.zero_mul]; exact s0, c0⟩
  | k + 1, hk => by
    obtain ⟨e0, e1, e2⟩ := itX_ok hf hl hn hh d0 s0 c0 k (by omega)
    have b : k * n ≤ 5 * 5 := Nat.mul_le_mul (by omega) hn
    obtain ⟨g0, g1, g2, g3⟩ := swX_ok hf hl hn hh (m := k * n) (t := k) (by omega) (by omega) e0 e1 e2 n (Nat.le_refl _)
    refine ⟨g0, ?_, fun s c q => g3 s c (rch_lt hf q) q⟩
    rw [Nat.succ_mul]
    exact g1
/-! one round of the reference -/
def rl (P : Nat → Nat → Nat) (lg : Nat → Nat) (D : Nat → Nat) (s : Nat) : Nat → Nat → Nat
  | 0 => D
  | i + 1 => if P i s = 0 then rl P lg D s i else if rl P lg D s i s ≤ rl P lg D s i i + lg s then rl P lg D s i else up1 (rl P lg D s i) s (rl P lg D s i i + lg s)
def swM (n fr : Nat) (P : Nat → Nat → Nat) (lg : Nat → Nat) (D : Nat → Nat) : Nat → Nat → Nat
  | 0 => D
  | i + 1 => if i = fr then swM n fr P lg D i else rl P lg (swM n fr P lg D i) i n
def itM (n fr : Nat) (P : Nat → Nat → Nat) (lg : Nat → Nat) (D : Nat → Nat) : Nat → Nat → Nat
  | 0 => D
  | k + 1 => swM n fr P lg (itM n fr P lg D k) n
def Le5 (n : Nat) (D : Nat → Nat) : Prop := ∀ s, s < n → D s ≤ 100000
theorem rl_ok (hl : ∀ s, s < n → lg s ≤ 9) {D : Nat → Nat} {s m : Nat} (hs : s < n) (hsf : s ≠ fr) (hpp : P s s = 0) (s0 : So n fr h P lg D m) (l0 : Le5 n D) : ∀ i, i ≤ n → (∀ x, x ≠ s → rl P lg D s i x = D x) ∧ rl P lg D s i s ≤ D s ∧ (∀ r, r < i → P r s ≠ 0 → rl P lg D s i s ≤ D r + lg s) ∧ (rl P lg D s i s ≠ 100000 → ∃ k, k ≤ m + 1 ∧ rch n fr h P lg k s (rl P lg D s i s))
  | 0, _ => ⟨fun _ _ => rfl, Nat.le_refl _, fun r hr => by omega, fun hd => by
      obtain ⟨k, hk, q⟩ := s0 s hs hd
      exact ⟨k, by omega, q⟩⟩
  | i + 1, hi => by
    obtain ⟨e0, e1, e2, e3⟩ := rl_ok hl hs hsf hpp s0 l0 i (by omega)
    rw [rl]
    generalize rl P lg D s i = E at *
    by_cases c1 : P i s = 0
    · rw [if_pos c1]
      refine ⟨e0, e1, fun r hr hp => ?_, e3⟩
      rcases Nat.lt_or_ge r i with g | g
      · exact e2 r g hp
      · exact absurd (by rw [show r = i by omega]; exact c1) hp
    · rw [if_neg c1]
      have his : i ≠ s := fun z => c1 (by rw [z]; exact hpp)
      have ei := e0 i his
      by_cases c2 : E s ≤ E i + lg s
      · rw [if_pos c2]
        refine ⟨e0, e1, fun r hr hp => ?_, e3⟩
        rcases Nat.lt_or_ge r i with g | g
        · exact e2 r g hp
        · rw [show r = i by omega, ← ei]; exact c2
      · rw [if_neg c2]
        have es : up1 E s (E i + lg s) s = E i + lg s := by unfold up1; rw [if_pos rfl]
        refine ⟨fun x hx => ?_, by rw [es]; omega, fun r hr hp => ?_, fun hd => ?_⟩
        · show (if x = s then _ else E x) = D x
          rw [if_neg hx]
          exact e0 x hx
        · rw [es]
          rcases Nat.lt_or_ge r i with g | g
          · have := e2 r g hp
            omega
          · rw [show r = i by omega, ei]
            exact Nat.le_refl _
        · rw [es, ei]
          have hdi : D i ≠ 100000 := by
            have := l0 s hs
            omega
          obtain ⟨k, hk, q⟩ := s0 i (by omega) hdi
          exact ⟨k + 1, by omega, Or.inr ⟨hsf, hs, i, _, by omega, c1, q, rfl⟩⟩
theorem swM_ok (hf : fr < n) (hl : ∀ s, s < n → lg s ≤ 9) (hpp : ∀ s, s < n → P s s = 0) {D : Nat → Nat} {m t : Nat} (d0 : D fr = h) (s0 : So n fr h P lg D m) (l0 : Le5 n D) (c0 : Co n fr h P lg D t) : ∀ i, i ≤ n → swM n fr P lg D i fr = h ∧ So n fr h P lg (swM n fr P lg D i) (m + i) ∧ Le5 n (swM n fr P lg D i) ∧ Co n fr h P lg (swM n fr P lg D i) t ∧ ∀ s c, s < i → rch n fr h P lg (t + 1) s c → swM n fr P lg D i s ≤ c
  | 0, _ => ⟨d0, s0, l0, c0, fun s c hs => by omega⟩
  | i + 1, hi => by
    obtain ⟨e0, e1, e2, e3, e4⟩ := swM_ok hf hl hpp d0 s0 l0 c0 i (by omega)
    rw [swM]
    by_cases c : i = fr
    · rw [if_pos c]
      refine ⟨e0, fun s hs hd => ?_, e2, e3, fun s c' hs q => ?_⟩
      · obtain ⟨k, hk, q⟩ := e1 s hs hd
        exact ⟨k, by omega, q⟩
      · rcases Nat.lt_or_ge s i with g | g
        · exact e4 s c' g q
        · have e : s = fr := by omega
          subst e
          rw [rch_fr q, e0]
          exact Nat.le_refl _
    · rw [if_neg c]
      generalize swM n fr P lg D i = E at *
      obtain ⟨g0, g1, g2, g3⟩ := rl_ok (fr := fr) (h := h) hl (show i < n by omega) c (hpp i (by omega)) e1 e2 n (Nat.le_refl _)
      generalize rl P lg E i n = G at *
      refine ⟨?_, fun s hs hd => ?_, fun s hs => ?_, fun s c' q => ?_, fun s c' hs q => ?_⟩
      · rw [g0 fr (fun z => c z.symm)]; exact e0
      · by_cases z : s = i
        · subst z
          obtain ⟨k, hk, q⟩ := g3 hd
          exact ⟨k, by omega, q⟩
        · rw [g0 s z] at hd ⊢
          obtain ⟨k, hk, q⟩ := e1 s hs hd
          exact ⟨k, by omega, q⟩
      · by_cases z : s = i
        · subst z
          exact Nat.le_trans g1 (e2 s hs)
        · rw [g0 s z]; exact e2 s hs
      · by_cases z : s = i
        · subst z
          exact Nat.le_trans g1 (e3 s c' q)
        · rw [g0 s z]; exact e3 s c' q
      · by_cases z : s = i
        · subst z
          obtain ⟨r, c2, hr, hp, q2, ec⟩ := rch_last q c
          have k1 := e3 r c2 q2
          have k2 := g2 r hr hp
          omega
        · rw [g0 s z]; exact e4 s c' (by omega) q
theorem itM_ok (hf : fr < n) (hl : ∀ s, s < n → lg s ≤ 9) (hpp : ∀ s, s < n → P s s = 0) {D : Nat → Nat} (d0 : D fr = h) (s0 : So n fr h P lg D 0) (l0 : Le5 n D) (c0 : Co n fr h P lg D 0) : ∀ k, itM n fr P lg D k fr = h ∧ So n fr h P lg (itM n fr P lg D k) (k * n) ∧ Le5 n (itM n fr P lg D k) ∧ Co n fr h P lg (itM n fr P lg D k) k
  | 0 => ⟨d0, by rw [Nat.zero_mul]; exact s0, l0, c0⟩
  | k + 1 => by
    obtain ⟨e0, e1, e2, e3⟩ := itM_ok hf hl hpp d0 s0 l0 c0 k
    obtain ⟨g0, g1, g2, g3, g4⟩ := swM_ok hf hl hpp (m := k * n) (t := k) e0 e1 e2 e3 n (Nat.le_refl _)
    refine ⟨g0, ?_, g2, fun s c q => g4 s c (rch_lt hf q) q⟩
    rw [Nat.succ_mul]
    exact g1
end UP
