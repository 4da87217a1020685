def LG (u : UX) (s : Nat) : Nat := (u.1 3 s).toNatClampNeg
/-- the hours of a state of the class: none is -9 -/
def eh (x : Nat) : Int32 := if x = 100000 then -9 else nI x
def HX (u w : UX) (D : Nat → Nat) : Prop := sameX u w ∧ ∀ s, s < 5 → w.1 13 s = eh (D s)
def HM (v w : UM) (n : Nat) (D : Nat → Nat) : Prop := sameM v w ∧ ∀ s, s < n → w.1 8 s = nI (D s)
theorem xst_same13 {u w : UX} {j : Nat} {x : Int32} (h : sameX u w) : sameX u (xst w 13 j x) := by
  refine ⟨fun k a b c => ?_, h.2⟩
  show (if k = 13 then upd (w.1 13) j x else w.1 k) = u.1 k
  rw [if_neg c]
  exact h.1 k a b c
theorem mst_same8 {v w : UM} {j : Nat} {x : Int32} (h : sameM v w) : sameM v (mst w 8 j x) := by
  refine ⟨fun k a b => ?_, h.2⟩
  show (if k = 8 then upd (w.1 8) j x else w.1 k) = v.1 k
  rw [if_neg b]
  exact h.1 k a b
theorem mst_at {v : UM} {k j : Nat} {x : Int32} : (mst v k j x).1 k j = x := by
  show (if k = k then upd (v.1 k) j x else v.1 k) j = x
  rw [if_pos rfl, pk_us]
theorem mst_nj {v : UM} {k j j' : Nat} {x : Int32} (h : ¬ j' = j) : (mst v k j x).1 k j' = v.1 k j' := by
  show (if k = k then upd (v.1 k) j x else v.1 k) j' = v.1 k j'
  rw [if_pos rfl, pk_un h]
theorem xst_nj {u : UX} {k j j' : Nat} {x : Int32} (h : ¬ j' = j) : (xst u k j x).1 k j' = u.1 k j' := by
  show (if k = k then upd (u.1 k) j x else u.1 k) j' = u.1 k j'
  rw [if_pos rfl, pk_un h]
theorem HX.put {u w : UX} {D : Nat → Nat} (h : HX u w D) {s x : Nat} : HX u (xst w 13 s (eh x)) (up1 D s x) := by
  refine ⟨xst_same13 h.1, fun j hj => ?_⟩
  unfold up1
  by_cases c : j = s
  · subst c
    rw [xst_at, if_pos rfl]
  · rw [xst_nj c, if_neg c]
    exact h.2 j hj
theorem HM.put {v w : UM} {n : Nat} {D : Nat → Nat} (h : HM v w n D) {s x : Nat} : HM v (mst w 8 s (nI x)) n (up1 D s x) := by
  refine ⟨mst_same8 h.1, fun j hj => ?_⟩
  unfold up1
  by_cases c : j = s
  · subst c
    rw [mst_at, if_pos rfl]
  · rw [mst_nj c, if_neg c]
    exact h.2 j hj
section SH
variable {u : UX} {v : UM}
theorem Rel.G (h : Rel u v) {s : Nat} (hs : s < nN u) : u.1 3 s = nI (LG u s) ∧ v.1 3 s = nI (LG u s) ∧ LG u s ≤ 9 := by
  have h5 := h.j5 hs
  have a : v.1 3 s = u.1 3 s := h.at (k := 3) (j := s) (stc_lt (by decide)) h5
  have o : bd (u.1 3 s) 0 9 := h.ok (k := 3) (j := s) (stc_lt (by decide)) h5 hs
  exact ⟨o.1, a.trans o.1, o.2.2⟩
theorem HX.n {w : UX} {D : Nat → Nat} (q : HX u w D) : w.2.2.1 = u.2.2.1 := by rw [q.1.2]
theorem HX.p {w : UX} {D : Nat → Nat} (q : HX u w D) {k : Nat} (hk : k < 11) : w.1 k = u.1 k := q.1.1 k (by omega) (by omega) (by omega)
theorem HM.n {w : UM} {n : Nat} {D : Nat → Nat} (q : HM v w n D) : w.2.2.2.1 = v.2.2.2.1 := by rw [q.1.2]
theorem HM.p {w : UM} {n : Nat} {D : Nat → Nat} (q : HM v w n D) {k : Nat} (hk : k < 7) : w.1 k = v.1 k := q.1.1 k (by omega) (by omega)
def okD (n : Nat) (D : Nat → Nat) : Prop := ∀ s, s < n → D s = 100000 ∨ D s ≤ 2000
theorem eh_fin {x : Nat} (h : ¬ x = 100000) : eh x = nI x := by unfold eh; rw [if_neg h]
theorem eh_inf {x : Nat} (h : x = 100000) : eh x = -9 := by unfold eh; rw [if_pos h]
theorem hbX (h : Rel u v) {w : UX} {D : Nat → Nat} (q : HX u w D) (hd : okD (nN u) D) {s : Nat} (hs : s < 5) : ∀ (k i f : Nat), i + k = nN u → k < f → fX1_hitBehindOthers_5 (nI s) w f (eh (mi (PN u) D s i)) (nI i) = some (eh (mi (PN u) D s (nN u))) := by
  have hn := h.nle
  intro k
  induction k with
  | zero =>
    intro i f hi hf
    obtain ⟨f, rfl⟩ := fuel1 hf
    rw [fX1_hitBehindOthers_5, q.n, if_pos ((h.lX (by omega)).mpr (by omega)), show i = nN u by omega]
  | succ k ih =>
    intro i f hi hf
    obtain ⟨f, rfl⟩ := fuel1 hf
    have z := ih (i + 1) f (by omega) (by omega)
    have hp := h.P (show i < 5 by omega) hs
    have di := hd i (by omega)
    have ml : mi (PN u) D s i = 100000 ∨ mi (PN u) D s i ≤ 2000 := by
      by_cases c : mi (PN u) D s i = 100000
      · exact Or.inl c
      · obtain ⟨r, hr, -, e⟩ := mi_at (P := PN u) (D := D) (s := s) i c
        have := hd r (by omega)
        omega
    rw [mi] at z
    rw [fX1_hitBehindOthers_5, q.n, if_neg (fun c => by have := (h.lX (by omega)).mp c; omega), gd_t (vin_nI (show i < 5 by omega) (by decide)), gd_t (vin_nI hs (by decide)), cl_nI (by omega), cl_nI (by omega), q.p (show 6 + i < 11 by omega), hp.1, q.2 i (by omega), nI_1]
    by_cases c1 : PN u i s = 0
    · rw [if_pos c1] at z
      rw [if_pos ((nI_le0 (by omega)).mpr c1)]
      exact z
    · rw [if_neg c1] at z
      rw [if_neg (fun g => c1 ((nI_le0 (by omega)).mp g))]
      by_cases c2 : D i = 100000
      · have := mi_le (P := PN u) (D := D) (s := s) i
        rw [if_neg (show ¬ D i < mi (PN u) D s i by omega)] at z
        rw [if_pos (eh_inf c2)]
        exact z
      · rw [eh_fin c2, if_neg (nI_ne9 (by omega))]
        by_cases c3 : mi (PN u) D s i = 100000
        · rw [if_pos (show D i < mi (PN u) D s i by omega), eh_fin c2] at z
          rw [if_pos (eh_inf c3)]
          exact z
        · rw [eh_fin c3, if_neg (nI_ne9 (by omega))]
          by_cases c4 : D i < mi (PN u) D s i
          · rw [if_pos c4, eh_fin c2] at z
            rw [if_neg (fun g => by have := (nI_leI (by omega) (by omega)).mp g; omega)]
            exact z
          · rw [if_neg c4, eh_fin c3] at z
            rw [if_pos ((nI_leI (by omega) (by omega)).mpr (by omega))]
            exact z
theorem hb_X (h : Rel u v) {w : UX} {D : Nat → Nat} (q : HX u w D) (hd : okD (nN u) D) {s : Nat} (hs : s < nN u) : fX1_hitBehindOthers w (nI s) = some (eh (nb (nN u) (PN u) (LG u) D s)) := by
  have hn := h.nle
  have hg := h.G hs
  unfold fX1_hitBehindOthers
  have z : fX1_hitBehindOthers_5 (nI s) w FU (-9) 0 = some (eh (mi (PN u) D s (nN u))) := hbX h q hd (show s < 5 by omega) (nN u) 0 FU (by omega) (fu5 h)
  have ml : mi (PN u) D s (nN u) = 100000 ∨ mi (PN u) D s (nN u) ≤ 2000 := by
    by_cases c : mi (PN u) D s (nN u) = 100000
    · exact Or.inl c
    · obtain ⟨r, hr, -, e⟩ := mi_at (P := PN u) (D := D) (s := s) (nN u) c
      have := hd r (by omega)
      omega
  rw [bnd z]
  unfold nb
  by_cases c : mi (PN u) D s (nN u) = 100000
  · rw [if_pos c, if_pos (eh_inf c)]
    rfl
  · rw [if_neg c, eh_fin c, if_neg (nI_ne9 (by omega)), gd_t (vin_nI (show s < 5 by omega) (by decide)), cl_nI (by omega), q.p (show 3 < 11 by decide), hg.1, nI_add, eh_fin (by omega)]
theorem swX_okD (h : Rel u v) {fr hh : Nat} (hf : fr < nN u) (h1 : hh ≤ 1000) {D : Nat → Nat} {m t : Nat} (hm : m ≤ 100) (ht : t ≤ 100) (d0 : D fr = hh) (s0 : So (nN u) fr hh (PN u) (LG u) D m) (c0 : Co (nN u) fr hh (PN u) (LG u) D t) {i : Nat} (hi : i ≤ nN u) : okD (nN u) (swX (nN u) fr (PN u) (LG u) D i) := by
  have hn := h.nle
  obtain ⟨-, e, -⟩ := swX_ok hf (fun s hs => (h.G hs).2.2) hn h1 hm ht d0 s0 c0 i hi
  intro s hs
  have := e.bd (fun s hs => (h.G hs).2.2) hs
  omega
theorem su44 (h : Rel u v) {fr hh : Nat} (hf : fr < nN u) (h1 : hh ≤ 1000) {D : Nat → Nat} {m t : Nat} (hm : m ≤ 100) (ht : t ≤ 100) (d0 : D fr = hh) (s0 : So (nN u) fr hh (PN u) (LG u) D m) (c0 : Co (nN u) fr hh (PN u) (LG u) D t) : ∀ (k i f : Nat) (w : UX), i + k = nN u → k < f → HX u w (swX (nN u) fr (PN u) (LG u) D i) → ∃ w', fX1_spreadUpset_44 (nI fr) f (nI i) w = some w' ∧ HX u w' (swX (nN u) fr (PN u) (LG u) D (nN u)) := by
  have hn := h.nle
  intro k
  induction k with
  | zero =>
    intro i f w hi hf' q
    obtain ⟨f, rfl⟩ := fuel1 hf'
    rw [fX1_spreadUpset_44, q.n, if_pos ((h.lX (by omega)).mpr (by omega))]
    rw [show i = nN u by omega] at q
    exact ⟨w, rfl, q⟩
  | succ k ih =>
    intro i f w hi hf' q
    obtain ⟨f, rfl⟩ := fuel1 hf'
    have od := swX_okD h hf h1 hm ht d0 s0 c0 (show i ≤ nN u by omega)
    rw [fX1_spreadUpset_44, q.n, if_neg (fun c => by have := (h.lX (by omega)).mp c; omega), nI_1]
    by_cases c : i = fr
    · rw [if_pos (by rw [c])]
      refine ih (i + 1) f w (by omega) (by omega) ?_
      rw [swX, if_pos c]
      exact q
    · rw [if_neg (fun g => c ((nI_eq (by omega) (by omega)).mp g)), bnd (hb_X h q od (show i < nN u by omega)), gd_t (vin_nI (show i < 5 by omega) (by decide)), cl_nI (by omega)]
      refine ih (i + 1) f _ (by omega) (by omega) ?_
      rw [swX, if_neg c]
      exact q.put
theorem su30 (h : Rel u v) {fr hh : Nat} (hf : fr < nN u) (h1 : hh ≤ 1000) {D : Nat → Nat} (d0 : D fr = hh) (s0 : So (nN u) fr hh (PN u) (LG u) D 0) (c0 : Co (nN u) fr hh (PN u) (LG u) D 0) : ∀ (k i f : Nat) (w : UX), i + k = nN u → k < f → HX u w (itX (nN u) fr (PN u) (LG u) D i) → ∃ w', fX1_spreadUpset_30 (nI fr) f (nI i) w = some w' ∧ HX u w' (itX (nN u) fr (PN u) (LG u) D (nN u)) := by
  have hn := h.nle
  intro k
  induction k with
  | zero =>
    intro i f w hi hf' q
    obtain ⟨f, rfl⟩ := fuel1 hf'
    rw [fX1_spreadUpset_30, q.n, if_pos ((h.lX (by omega)).mpr (by omega))]
    rw [show i = nN u by omega] at q
    exact ⟨w, rfl, q⟩
  | succ k ih =>
    intro i f w hi hf' q
    obtain ⟨f, rfl⟩ := fuel1 hf'
    obtain ⟨e0, e1, e2⟩ := itX_ok hf (fun s hs => (h.G hs).2.2) hn h1 d0 s0 c0 i (by omega)
    have b : i * nN u ≤ 5 * 5 := Nat.mul_le_mul (by omega) hn
    obtain ⟨w', z1, z2⟩ := su44 h hf h1 (m := i * nN u) (t := i) (by omega) (by omega) e0 e1 e2 (nN u) 0 FU w (by omega) (fu5 h) q
    rw [fX1_spreadUpset_30, q.n, if_neg (fun c => by have := (h.lX (by omega)).mp c; omega), nI_1]
    rw [show (0 : Int32) = nI 0 from rfl, bnd z1]
    exact ih (i + 1) f w' (by omega) (by omega) z2
theorem su2 : ∀ (k i f : Nat) (w : UX), i + k = 5 → k < f → sameX u w → (∀ s, s < i → w.1 13 s = -9) → ∃ w', fX1_spreadUpset_2 f (nI i) w = some w' ∧ sameX u w' ∧ ∀ s, s < 5 → w'.1 13 s = -9 := by
  intro k
  induction k with
  | zero =>
    intro i f w hi hf q1 q2
    obtain ⟨f, rfl⟩ := fuel1 hf
    rw [fX1_spreadUpset_2, show i = 5 by omega, if_pos (show (5 : Int32) ≤ nI 5 by decide)]
    rw [show i = 5 by omega] at q2
    exact ⟨w, rfl, q1, q2⟩
  | succ k ih =>
    intro i f w hi hf q1 q2
    obtain ⟨f, rfl⟩ := fuel1 hf
    rw [fX1_spreadUpset_2, if_neg (show ¬ (5 : Int32) ≤ nI i from fun c => by rw [show (5 : Int32) = nI 5 from rfl, nI_leI (by decide) (by omega)] at c; omega), gd_t (vin_nI (show i < 5 by omega) (by decide)), cl_nI (by omega), nI_1]
    refine ih (i + 1) f _ (by omega) (by omega) (xst_same13 q1) (fun s hs => ?_)
    by_cases c : s = i
    · subst c; rw [xst_at]
    · rw [xst_nj c]; exact q2 s (by omega)
/-- at first: the upset's own hour, none elsewhere -/
def D0 (fr hh : Nat) : Nat → Nat := fun s => if s = fr then hh else 100000
theorem D0_ok {n fr hh : Nat} {P : Nat → Nat → Nat} {lg : Nat → Nat} : D0 fr hh fr = hh ∧ So n fr hh P lg (D0 fr hh) 0 ∧ Co n fr hh P lg (D0 fr hh) 0 := by
  refine ⟨by unfold D0; rw [if_pos rfl], fun s hs hd => ?_, fun s c q => ?_⟩
  · unfold D0 at hd ⊢
    by_cases c : s = fr
    · rw [if_pos c] at hd ⊢
      exact ⟨0, Nat.le_refl _, c, rfl⟩
    · rw [if_neg c] at hd
      exact absurd rfl hd
  · unfold D0
    rw [if_pos q.1, q.2]
    exact Nat.le_refl _
theorem up_X (h : Rel u v) {fr hh : Nat} (hf : fr < nN u) (h1 : hh ≤ 1000) : ∃ w, fX1_spreadUpset u (nI fr) (nI hh) = some w ∧ HX u w (itX (nN u) fr (PN u) (LG u) (D0 fr hh) (nN u)) := by
  have hn := h.nle
  obtain ⟨w, e, q1, q2⟩ := su2 (u := u) 5 0 FU u (by omega) (by unfold FU; omega) sameX.rfl (fun s hs => by omega)
  have hh0 : HX u (xst w 13 fr (nI hh)) (D0 fr hh) := by
    refine ⟨xst_same13 q1, fun s hs => ?_⟩
    unfold D0
    by_cases c : s = fr
    · subst c; rw [xst_at, if_pos rfl, eh_fin (by omega)]
    · rw [xst_nj c, if_neg c, q2 s hs]; rfl
  obtain ⟨d0, s0, c0⟩ := D0_ok (n := nN u) (fr := fr) (hh := hh) (P := PN u) (lg := LG u)
  obtain ⟨w', e', q'⟩ := su30 h hf h1 d0 s0 c0 (nN u) 0 FU _ (by omega) (fu5 h) hh0
  refine ⟨w', ?_, q'⟩
  unfold fX1_spreadUpset
  rw [show (0 : Int32) = nI 0 from rfl, bnd e, gd_t (vin_nI (show fr < 5 by omega) (by decide)), cl_nI (by omega), bnd e']
/-! the reference -/
theorem hm38 (h : Rel u v) {fr hh : Nat} (hf : fr < nN u) : ∀ (k i f : Nat) (w : UM), i + k = nN u → k < f → sameM v w → (∀ s, s < i → w.1 8 s = nI (D0 fr hh s)) → ∃ w', fX8_hit_38 (nI fr) (nI hh) f (nI i) w = some w' ∧ HM v w' (nN u) (D0 fr hh) := by
  have hn := h.nle
  intro k
  induction k with
  | zero =>
    intro i f w hi hf' q1 q2
    obtain ⟨f, rfl⟩ := fuel1 hf'
    rw [fX8_hit_38, show w.2.2.2.1 = v.2.2.2.1 by rw [q1.2], if_pos ((h.lM (by omega)).mpr (by omega))]
    rw [show i = nN u by omega] at q2
    exact ⟨w, rfl, q1, q2⟩
  | succ k ih =>
    intro i f w hi hf' q1 q2
    obtain ⟨f, rfl⟩ := fuel1 hf'
    rw [fX8_hit_38, show w.2.2.2.1 = v.2.2.2.1 by rw [q1.2], if_neg (fun c => by have := (h.lM (by omega)).mp c; omega), gd_t (vin_nI (show i < 5 by omega) (by decide)), gd_t (vin_nI (show i < 5 by omega) (by decide)), cl_nI (by omega), nI_1]
    by_cases c : i = fr
    · rw [if_pos (by rw [c])]
      refine ih (i + 1) f _ (by omega) (by omega) (mst_same8 q1) (fun s hs => ?_)
      by_cases z : s = i
      · subst z
        rw [mst_at]
        unfold D0
        rw [if_pos c]
      · rw [mst_nj z]; exact q2 s (by omega)
    · rw [if_neg (fun g => c ((nI_eq (by omega) (by omega)).mp g))]
      refine ih (i + 1) f _ (by omega) (by omega) (mst_same8 q1) (fun s hs => ?_)
      by_cases z : s = i
      · subst z
        rw [mst_at]
        unfold D0
        rw [if_neg c]
        rfl
      · rw [mst_nj z]; exact q2 s (by omega)
theorem hm96s (h : Rel u v) {fr : Nat} (hf : fr < nN u) {w : UM} {D : Nat → Nat} (q : HM v w (nN u) D) : ∀ (k i f : Nat), i + k = nN u → k < f → fX8_hit_96 (nI fr) (nI fr) f (nI i) w = some w := by
  have hn := h.nle
  intro k
  induction k with
  | zero =>
    intro i f hi hf'
    obtain ⟨f, rfl⟩ := fuel1 hf'
    rw [fX8_hit_96, q.n, if_pos ((h.lM (by omega)).mpr (by omega))]
  | succ k ih =>
    intro i f hi hf'
    obtain ⟨f, rfl⟩ := fuel1 hf'
    rw [fX8_hit_96, q.n, if_neg (fun c => by have := (h.lM (by omega)).mp c; omega), if_pos rfl, nI_1]
    exact ih (i + 1) f (by omega) (by omega)
theorem hm96 (h : Rel u v) {fr hh : Nat} {D : Nat → Nat} {s m : Nat} (hs : s < nN u) (hsf : s ≠ fr) (hf : fr < nN u) (s0 : So (nN u) fr hh (PN u) (LG u) D m) (l0 : Le5 (nN u) D) : ∀ (k i f : Nat) (w : UM), i + k = nN u → k < f → HM v w (nN u) (rl (PN u) (LG u) D s i) → ∃ w', fX8_hit_96 (nI fr) (nI s) f (nI i) w = some w' ∧ HM v w' (nN u) (rl (PN u) (LG u) D s (nN u)) := by
  have hn := h.nle
  have hg := h.G hs
  intro k
  induction k with
  | zero =>
    intro i f w hi hf' q
    obtain ⟨f, rfl⟩ := fuel1 hf'
    rw [fX8_hit_96, q.n, if_pos ((h.lM (by omega)).mpr (by omega))]
    rw [show i = nN u by omega] at q
    exact ⟨w, rfl, q⟩
  | succ k ih =>
    intro i f w hi hf' q
    obtain ⟨f, rfl⟩ := fuel1 hf'
    have x5 := ix5' (show i < 5 by omega) (show s < 5 by omega)
    have hp := h.P (show i < 5 by omega) (show s < 5 by omega)
    obtain ⟨e0, e1, -, -⟩ := rl_ok (fr := fr) (h := hh) (fun s hs => (h.G hs).2.2) hs hsf ((h.P (show s < 5 by omega) (show s < 5 by omega)).2.2.2 rfl) s0 l0 i (by omega)
    have ls := l0 s hs
    have li := l0 i (show i < nN u by omega)
    have hbi : rl (PN u) (LG u) D s i i ≤ 100000 := by
      by_cases z : i = s
      · rw [z] at li ⊢; subst z; omega
      · rw [e0 i z]; exact li
    rw [fX8_hit_96, q.n, if_neg (fun c => by have := (h.lM (by omega)).mp c; omega), if_neg (fun g => hsf ((nI_eq (by omega) (by omega)).mp g)), gd_t x5.1, x5.2, q.p (show 6 < 7 by decide), q.p (show 3 < 7 by decide), hp.2.1, gd_t (vin_nI (show i < 5 by omega) (by decide)), gd_t (vin_nI (show s < 5 by omega) (by decide)), cl_nI (by omega), cl_nI (by omega), q.2 s hs, q.2 i (by omega), hg.2.1, nI_add, nI_1]
    by_cases c1 : PN u i s = 0
    · rw [if_pos ((nI_le0 (by omega)).mpr c1)]
      refine ih (i + 1) f w (by omega) (by omega) ?_
      rw [rl, if_pos c1]
      exact q
    · rw [if_neg (fun g => c1 ((nI_le0 (by omega)).mp g))]
      by_cases c2 : rl (PN u) (LG u) D s i s ≤ rl (PN u) (LG u) D s i i + LG u s
      · rw [if_pos ((nI_leI (by omega) (by omega)).mpr c2)]
        refine ih (i + 1) f w (by omega) (by omega) ?_
        rw [rl, if_neg c1, if_pos c2]
        exact q
      · rw [if_neg (fun g => c2 ((nI_leI (by omega) (by omega)).mp g))]
        refine ih (i + 1) f _ (by omega) (by omega) ?_
        rw [rl, if_neg c1, if_neg c2]
        exact q.put
theorem hm84 (h : Rel u v) {fr hh : Nat} (hf : fr < nN u) {D : Nat → Nat} {m t : Nat} (d0 : D fr = hh) (s0 : So (nN u) fr hh (PN u) (LG u) D m) (l0 : Le5 (nN u) D) (c0 : Co (nN u) fr hh (PN u) (LG u) D t) : ∀ (k i f : Nat) (w : UM), i + k = nN u → k < f → HM v w (nN u) (swM (nN u) fr (PN u) (LG u) D i) → ∃ w', fX8_hit_84 (nI fr) f (nI i) w = some w' ∧ HM v w' (nN u) (swM (nN u) fr (PN u) (LG u) D (nN u)) := by
  have hn := h.nle
  intro k
  induction k with
  | zero =>
    intro i f w hi hf' q
    obtain ⟨f, rfl⟩ := fuel1 hf'
    rw [fX8_hit_84, q.n, if_pos ((h.lM (by omega)).mpr (by omega))]
    rw [show i = nN u by omega] at q
    exact ⟨w, rfl, q⟩
  | succ k ih =>
    intro i f w hi hf' q
    obtain ⟨f, rfl⟩ := fuel1 hf'
    rw [fX8_hit_84, q.n, if_neg (fun c => by have := (h.lM (by omega)).mp c; omega), nI_1]
    by_cases c : i = fr
    · have z : fX8_hit_96 (nI fr) (nI i) FU 0 w = some w := by rw [c]; exact hm96s h hf q (nN u) 0 FU (by omega) (fu5 h)
      rw [bnd z]
      refine ih (i + 1) f w (by omega) (by omega) ?_
      rw [swM, if_pos c]
      exact q
    · obtain ⟨e0, e1, e2, e3, -⟩ := swM_ok hf (fun s hs => (h.G hs).2.2) (fun s hs => (h.P (show s < 5 by omega) (show s < 5 by omega)).2.2.2 rfl) d0 s0 l0 c0 i (by omega)
      obtain ⟨w', z1, z2⟩ := hm96 h (show i < nN u by omega) c hf e1 e2 (nN u) 0 FU w (by omega) (fu5 h) q
      rw [show (0 : Int32) = nI 0 from rfl, bnd z1]
      refine ih (i + 1) f w' (by omega) (by omega) ?_
      rw [swM, if_neg c]
      exact z2
theorem hm75 (h : Rel u v) {fr hh : Nat} (hf : fr < nN u) {D : Nat → Nat} (d0 : D fr = hh) (s0 : So (nN u) fr hh (PN u) (LG u) D 0) (l0 : Le5 (nN u) D) (c0 : Co (nN u) fr hh (PN u) (LG u) D 0) : ∀ (k i f : Nat) (w : UM), i + k = 5 → k < f → HM v w (nN u) (itM (nN u) fr (PN u) (LG u) D i) → ∃ w', fX8_hit_75 (nI fr) f (nI i) w = some w' ∧ HM v w' (nN u) (itM (nN u) fr (PN u) (LG u) D 5) := by
  have hn := h.nle
  intro k
  induction k with
  | zero =>
    intro i f w hi hf' q
    obtain ⟨f, rfl⟩ := fuel1 hf'
    rw [fX8_hit_75, show i = 5 by omega, if_pos (show (5 : Int32) ≤ nI 5 by decide)]
    rw [show i = 5 by omega] at q
    exact ⟨w, rfl, q⟩
  | succ k ih =>
    intro i f w hi hf' q
    obtain ⟨f, rfl⟩ := fuel1 hf'
    obtain ⟨e0, e1, e2, e3⟩ := itM_ok hf (fun s hs => (h.G hs).2.2) (fun s hs => (h.P (show s < 5 by omega) (show s < 5 by omega)).2.2.2 rfl) d0 s0 l0 c0 i
    obtain ⟨w', z1, z2⟩ := hm84 h hf e0 e1 e2 e3 (nN u) 0 FU w (by omega) (fu5 h) q
    rw [fX8_hit_75, if_neg (show ¬ (5 : Int32) ≤ nI i from fun c => by rw [show (5 : Int32) = nI 5 from rfl, nI_leI (by decide) (by omega)] at c; omega), nI_1, show (0 : Int32) = nI 0 from rfl, bnd z1]
    exact ih (i + 1) f w' (by omega) (by omega) z2
theorem sim_hit (h : Rel u v) (a1 a2 a3 : Int32) : Sm (fX7_hit u a1 a2 a3) (fX8_hit v a1 a2 a3) := by
  have hn := h.nle
  unfold fX7_hit fX8_hit
  refine sh (P := Sm) h (Sm_some h) (fun fr hf ef => ?_)
  refine sw (P := Sm) (lo := 0) (hi := 1000) (by decide) (by decide) (Sm_some h) (fun q1 q2 => ?_)
  refine sh (P := Sm) h (Sm_some h) (fun s hs es => ?_)
  obtain ⟨hh, rfl, -, h1⟩ := bd_ex (bd_of 0 1000 (by decide) (by decide) q1 q2)
  subst ef
  subst es
  have hf : fr < nN u := hf
  have hs : s < nN u := hs
  obtain ⟨w, eX, qX⟩ := up_X h hf h1
  obtain ⟨w1, e1, z1⟩ := hm38 h (hh := hh) hf (nN u) 0 FU v (by omega) (fu5 h) sameM.rfl (fun s hs => by omega)
  obtain ⟨d0, s0, c0⟩ := D0_ok (n := nN u) (fr := fr) (hh := hh) (P := PN u) (lg := LG u)
  have l0 : Le5 (nN u) (D0 fr hh) := fun s hs => by unfold D0; split <;> omega
  obtain ⟨w2, e2, z2⟩ := hm75 h hf d0 s0 l0 c0 5 0 FU w1 (by omega) (by unfold FU; omega) z1
  have gX := itX_ok hf (fun s hs => (h.G hs).2.2) hn h1 d0 s0 c0 (nN u) hn
  have gM := itM_ok hf (fun s hs => (h.G hs).2.2) (fun s hs => (h.P (show s < 5 by omega) (show s < 5 by omega)).2.2.2 rfl) d0 s0 l0 c0 5
  obtain ⟨ee, eb⟩ := up_eq hf (fun s hs => (h.G hs).2.2) hn h1 (t := nN u) (t' := 5) (by omega) (by omega) gX.2.1 gX.2.2 gM.2.1 gM.2.2.2 hs
  have hR : Rel w w2 := h.same qX.1 z2.1
  rw [show (0 : Int32) = nI 0 from rfl, bnd eX, bnd e1, bnd e2, gd_t (vin_nI (show s < 5 by omega) (by decide)), gd_t (vin_nI (show s < 5 by omega) (by decide)), cl_nI (by omega), qX.2 s (by omega), z2.2 s hs, ← ee]
  by_cases c : itX (nN u) fr (PN u) (LG u) (D0 fr hh) (nN u) s = 100000
  · rw [c, if_neg (show ¬ nI 100000 < 100000 by decide)]
    exact Sm_some hR
  · have hlt : itX (nN u) fr (PN u) (LG u) (D0 fr hh) (nN u) s < 100000 := by omega
    rw [if_pos (show nI (itX (nN u) fr (PN u) (LG u) (D0 fr hh) (nN u) s) < 100000 from nI_lt (b := 100000) hlt (by decide)), eh_fin c]
    exact Sm_some hR
end SH
