/-! the steps taken, in the class's rows -/
def OrdOk (w : UX) : List Nat → Prop
  | [] => True
  | s :: o => w.1 12 o.length = nI s ∧ OrdOk w o
def TX (u w : UX) (o : List Nat) : Prop := sameX u w ∧ (∀ x, x < 5 → w.1 11 x = if x ∈ o then 1 else 0) ∧ OrdOk w o
theorem OrdOk.put {w : UX} {j : Nat} {x : Int32} : ∀ {o : List Nat}, o.length ≤ j → OrdOk w o → OrdOk (xst w 12 j x) o
  | [], _, _ => trivial
  | s :: o, hj, h => by
    rw [List.length_cons] at hj
    exact ⟨by rw [xst_nj (by omega)]; exact h.1, OrdOk.put (by omega) h.2⟩
theorem OrdOk.eq {w w' : UX} (e : w'.1 12 = w.1 12) : ∀ {o : List Nat}, OrdOk w o → OrdOk w' o
  | [], _ => trivial
  | s :: o, h => ⟨by rw [e]; exact h.1, OrdOk.eq e h.2⟩
theorem OrdOk.drop {w : UX} : ∀ {o : List Nat} (k : Nat), OrdOk w o → OrdOk w (o.drop k)
  | o, 0, h => by rw [List.drop_zero]; exact h
  | [], k + 1, h => by rw [List.drop_nil]; trivial
  | s :: o, k + 1, h => by rw [List.drop_succ_cons]; exact OrdOk.drop k h.2
theorem Gd.drop {n : Nat} {P : Nat → Nat → Nat} : ∀ {o : List Nat} (k : Nat), Gd n P o → Gd n P (o.drop k)
  | o, 0, h => by rw [List.drop_zero]; exact h
  | [], k + 1, h => by rw [List.drop_nil]; trivial
  | s :: o, k + 1, h => by rw [List.drop_succ_cons]; exact Gd.drop k h.2.2.2
section SJ
variable {u : UX} {v : UM}
theorem in01 {c : Prop} [Decidable c] : ((if c then (1 : Int32) else 0) = 0) ↔ ¬ c := by
  by_cases h : c
  · rw [if_pos h]; exact ⟨fun q => absurd q (by decide), fun q => absurd h q⟩
  · rw [if_neg h]; exact ⟨fun _ => h, fun _ => rfl⟩
theorem TX.n {w : UX} {o : List Nat} (q : TX u w o) : w.2.2.1 = u.2.2.1 := by rw [q.1.2]
theorem ho1 (h : Rel u v) {w : UX} {o : List Nat} (q : TX u w o) {s : Nat} (hs : s < 5) (ha : ∀ r, r < nN u → PN u r s ≠ 0 → r ∈ o) : ∀ (k i f : Nat), i + k = nN u → k < f → fX1_hasOnlyOfTaken_2 (nI s) w f (nI i) = some 1 := by
  have hn := h.nle
  intro k
  induction k with
  | zero =>
    intro i f hi hf
    obtain ⟨f, rfl⟩ := fuel1 hf
    rw [fX1_hasOnlyOfTaken_2, q.n, if_pos ((h.lX (by omega)).mpr (by omega))]
  | succ k ih =>
    intro i f hi hf
    obtain ⟨f, rfl⟩ := fuel1 hf
    have hp := h.P (show i < 5 by omega) hs
    rw [fX1_hasOnlyOfTaken_2, q.n, if_neg (fun c => by have := (h.lX (by omega)).mp c; omega), gd_t (vin_nI (show i < 5 by omega) (by decide)), gd_t (vin_nI hs (by decide)), cl_nI (by omega), cl_nI (by omega), q.1.1 (6 + i) (by omega) (by omega) (by omega), hp.1, q.2.1 i (by omega), nI_1]
    by_cases c : PN u i s = 0
    · rw [if_pos ((nI_le0 (by omega)).mpr c)]
      exact ih (i + 1) f (by omega) (by omega)
    · rw [if_neg (fun z => c ((nI_le0 (by omega)).mp z)), if_neg (fun z => in01.mp z (ha i (by omega) c))]
      exact ih (i + 1) f (by omega) (by omega)
theorem ho0 (h : Rel u v) {w : UX} {o : List Nat} (q : TX u w o) {s r : Nat} (hs : s < 5) (hr : r < nN u) (hp0 : PN u r s ≠ 0) (hno : r ∉ o) : ∀ (k i f : Nat), i + k = r → k < f → fX1_hasOnlyOfTaken_2 (nI s) w f (nI i) = some 0 := by
  have hn := h.nle
  intro k
  induction k with
  | zero =>
    intro i f hi hf
    obtain ⟨f, rfl⟩ := fuel1 hf
    have e : i = r := by omega
    subst e
    have hp := h.P (show i < 5 by omega) hs
    rw [fX1_hasOnlyOfTaken_2, q.n, if_neg (fun c => by have := (h.lX (by omega)).mp c; omega), gd_t (vin_nI (show i < 5 by omega) (by decide)), gd_t (vin_nI hs (by decide)), cl_nI (by omega), cl_nI (by omega), q.1.1 (6 + i) (by omega) (by omega) (by omega), hp.1, q.2.1 i (by omega), if_neg (fun z => hp0 ((nI_le0 (by omega)).mp z)), if_pos (in01.mpr hno)]
  | succ k ih =>
    intro i f hi hf
    obtain ⟨f, rfl⟩ := fuel1 hf
    have hp := h.P (show i < 5 by omega) hs
    rw [fX1_hasOnlyOfTaken_2, q.n, if_neg (fun c => by have := (h.lX (by omega)).mp c; omega), gd_t (vin_nI (show i < 5 by omega) (by decide)), gd_t (vin_nI hs (by decide)), cl_nI (by omega), cl_nI (by omega), q.1.1 (6 + i) (by omega) (by omega) (by omega), hp.1, q.2.1 i (by omega), nI_1]
    by_cases c : PN u i s = 0
    · rw [if_pos ((nI_le0 (by omega)).mpr c)]
      exact ih (i + 1) f (by omega) (by omega)
    · rw [if_neg (fun z => c ((nI_le0 (by omega)).mp z))]
      by_cases d : i ∈ o
      · rw [if_neg (fun z => in01.mp z d)]
        exact ih (i + 1) f (by omega) (by omega)
      · rw [if_pos (in01.mpr d)]
theorem not_may {n : Nat} {P : Nat → Nat → Nat} {o : List Nat} {s : Nat} (c : ¬ mayB n P o s = true) : ∃ r, r < n ∧ P r s ≠ 0 ∧ r ∉ o := by
  refine Classical.byContradiction fun q => c (mayB_iff.mpr (fun r hr hp => Classical.byContradiction fun z => q ⟨r, hr, hp, z⟩))
theorem ho_X (h : Rel u v) {w : UX} {o : List Nat} (q : TX u w o) {s : Nat} (hs : s < 5) : fX1_hasOnlyOfTaken w (nI s) = some (if mayB (nN u) (PN u) o s = true then 1 else 0) := by
  have hn := h.nle
  unfold fX1_hasOnlyOfTaken
  by_cases c : mayB (nN u) (PN u) o s = true
  · rw [if_pos c]
    exact ho1 h q hs (mayB_iff.mp c) (nN u) 0 FU (by omega) (fu5 h)
  · rw [if_neg c]
    obtain ⟨r, hr, hp, hno⟩ := not_may c
    exact ho0 h q hs hr hp hno r 0 FU (by omega) (by unfold FU; omega)
theorem TX.put {w : UX} {o : List Nat} (q : TX u w o) {s : Nat} : TX u (xst (xst w 11 s 1) 12 o.length (nI s)) (s :: o) := by
  refine ⟨⟨fun k a b c => ?_, q.1.2⟩, fun x hx => ?_, ?_, ?_⟩
  · show (if k = 12 then _ else (if k = 11 then _ else w.1 k)) = u.1 k
    rw [if_neg b, if_neg a]
    exact q.1.1 k a b c
  · rw [xst_ne (by decide)]
    by_cases c : x = s
    · subst c
      rw [xst_at, if_pos (List.mem_cons.mpr (Or.inl rfl))]
    · rw [xst_nj c, q.2.1 x hx]
      by_cases d : x ∈ o
      · rw [if_pos d, if_pos (List.mem_cons.mpr (Or.inr d))]
      · rw [if_neg d, if_neg (fun z => d ((List.mem_cons.mp z).resolve_left c))]
  · rw [xst_at]
  · exact OrdOk.put (Nat.le_refl _) (OrdOk.eq (w := w) (funext fun j => xst_ne (by decide)) q.2.2)
theorem ti37 (h : Rel u v) {o : List Nat} (g : Gd (nN u) (PN u) o) : ∀ (k i f : Nat) (w : UX), i + k = nN u → k < f → TX u w (swp (nN u) (PN u) o i) → ∃ w', fX1_takeInOrder_37 f (nI (swp (nN u) (PN u) o i).length) (nI i) w = some (nI (swp (nN u) (PN u) o (nN u)).length, w') ∧ TX u w' (swp (nN u) (PN u) o (nN u)) := by
  have hn := h.nle
  intro k
  induction k with
  | zero =>
    intro i f w hi hf q
    obtain ⟨f, rfl⟩ := fuel1 hf
    rw [fX1_takeInOrder_37, q.n, if_pos ((h.lX (by omega)).mpr (by omega))]
    rw [show i = nN u by omega] at q ⊢
    exact ⟨w, rfl, q⟩
  | succ k ih =>
    intro i f w hi hf q
    obtain ⟨f, rfl⟩ := fuel1 hf
    have gi := swp_Gd g i (by omega)
    have z := ih (i + 1) f
    rw [swp] at z
    rw [fX1_takeInOrder_37, q.n, if_neg (fun c => by have := (h.lX (by omega)).mp c; omega), gd_t (vin_nI (show i < 5 by omega) (by decide)), cl_nI (by omega), q.2.1 i (by omega), nI_1, nI_1]
    generalize hp : swp (nN u) (PN u) o i = p at *
    unfold sw1 at z
    by_cases c : i ∈ p
    · rw [if_pos c] at z
      rw [if_neg (fun y => in01.mp y c)]
      exact z w (by omega) (by omega) q
    · rw [if_neg c] at z
      have room := gi.room (show i < nN u by omega) c
      rw [if_pos (in01.mpr c), if_neg (show ¬ Int32.ofNat (la 12) ≤ nI p.length from fun y => by have := (nI_leI (a := 5) (by decide) (by omega)).mp y; omega), bnd (ho_X h q (show i < 5 by omega))]
      by_cases d : mayB (nN u) (PN u) p i = true
      · rw [if_pos d] at z ⊢
        rw [if_neg (show ¬ (1 : Int32) = 0 by decide), gd_t (vin_nI (show p.length < 5 by omega) (by decide)), cl_nI (by omega)]
        rw [List.length_cons] at z
        exact z _ (by omega) (by omega) q.put
      · rw [if_neg d] at z ⊢
        rw [if_pos rfl]
        exact z w (by omega) (by omega) q
theorem ti24 (h : Rel u v) : ∀ (k i f : Nat) (w : UX), i + k = nN u → k < f → TX u w (itO (nN u) (PN u) i) → ∃ w', fX1_takeInOrder_24 f (nI (itO (nN u) (PN u) i).length) (nI i) w = some w' ∧ TX u w' (itO (nN u) (PN u) (nN u)) := by
  have hn := h.nle
  intro k
  induction k with
  | zero =>
    intro i f w hi hf q
    obtain ⟨f, rfl⟩ := fuel1 hf
    rw [fX1_takeInOrder_24, q.n, if_pos ((h.lX (by omega)).mpr (by omega))]
    rw [show i = nN u by omega] at q
    exact ⟨w, rfl, q⟩
  | succ k ih =>
    intro i f w hi hf q
    obtain ⟨f, rfl⟩ := fuel1 hf
    obtain ⟨w', z1, z2⟩ := ti37 h (itO_Gd i) (nN u) 0 FU w (by omega) (fu5 h) q
    rw [fX1_takeInOrder_24, q.n, if_neg (fun c => by have := (h.lX (by omega)).mp c; omega), nI_1, show (0 : Int32) = nI 0 from rfl]
    have z1 : fX1_takeInOrder_37 FU (nI (itO (nN u) (PN u) i).length) (nI 0) w = some (nI (swp (nN u) (PN u) (itO (nN u) (PN u) i) (nN u)).length, w') := z1
    rw [bnd z1]
    exact ih (i + 1) f w' (by omega) (by omega) z2
theorem ti2 : ∀ (k i f : Nat) (w : UX), i + k = 5 → k < f → sameX u w → (∀ s, s < i → w.1 11 s = 0) → ∃ w', fX1_takeInOrder_2 f (nI i) w = some w' ∧ TX u w' [] := by
  intro k
  induction k with
  | zero =>
    intro i f w hi hf q1 q2
    obtain ⟨f, rfl⟩ := fuel1 hf
    rw [fX1_takeInOrder_2, show i = 5 by omega, if_pos (show (5 : Int32) ≤ nI 5 by decide)]
    rw [show i = 5 by omega] at q2
    exact ⟨w, rfl, q1, fun x hx => by rw [q2 x hx, if_neg List.not_mem_nil], trivial⟩
  | succ k ih =>
    intro i f w hi hf q1 q2
    obtain ⟨f, rfl⟩ := fuel1 hf
    rw [fX1_takeInOrder_2, if_neg (show ¬ (5 : Int32) ≤ nI i from fun c => by rw [show (5 : Int32) = nI 5 from rfl, nI_leI (by decide) (by omega)] at c; omega), gd_t (vin_nI (show i < 5 by omega) (by decide)), cl_nI (by omega), nI_1]
    refine ih (i + 1) f _ (by omega) (by omega) ⟨fun k a b c => ?_, q1.2⟩ (fun s hs => ?_)
    · show (if k = 11 then _ else w.1 k) = u.1 k
      rw [if_neg a]
      exact q1.1 k a b c
    · by_cases c : s = i
      · subst c; rw [xst_at]
      · rw [xst_nj c]; exact q2 s (by omega)
theorem take_X (h : Rel u v) : ∃ w, fX1_takeInOrder u = some w ∧ TX u w (itO (nN u) (PN u) (nN u)) := by
  obtain ⟨w1, e1, q1⟩ := ti2 (u := u) 5 0 FU u (by omega) (by unfold FU; omega) sameX.rfl (fun s hs => by omega)
  obtain ⟨w2, e2, q2⟩ := ti24 h (nN u) 0 FU w1 (by omega) (fu5 h) q1
  have e2 : fX1_takeInOrder_24 FU (nI 0) (nI 0) w1 = some w2 := e2
  refine ⟨w2, ?_, q2⟩
  unfold fX1_takeInOrder
  rw [show (0 : Int32) = nI 0 from rfl, bnd e1, bnd e2]
/-! the reference -/
theorem FM.n {z : UM} {o : List Nat} (q : FM u v z o) : z.2.2.2.1 = v.2.2.2.1 := by rw [q.1.2]
theorem mz0 (h : Rel u v) {z : UM} {o : List Nat} (q : FM u v z o) {s : Nat} (hs : s < nN u) : ∀ (k i f : Nat), i + k = nN u → k < f → fX8_failsFirst_122 (nI s) z f 0 (nI i) = some 0 := by
  have hn := h.nle
  intro k
  induction k with
  | zero =>
    intro i f hi hf
    obtain ⟨f, rfl⟩ := fuel1 hf
    rw [fX8_failsFirst_122, q.n, if_pos ((h.lM (by omega)).mpr (by omega))]
  | succ k ih =>
    intro i f hi hf
    obtain ⟨f, rfl⟩ := fuel1 hf
    have hp := h.P (show i < 5 by omega) (show s < 5 by omega)
    have x5 := ix5' (show i < 5 by omega) (show s < 5 by omega)
    rw [fX8_failsFirst_122, q.n, if_neg (fun c => by have := (h.lM (by omega)).mp c; omega), gd_t x5.1, x5.2, q.1.1 6 (by decide) (by decide), hp.2.1, gd_t (vin_nI (show i < 5 by omega) (by decide)), cl_nI (by omega), nI_1, show (0 : Int32) &&& 1 = 0 by decide, show (0 : Int32) &&& 0 = 0 by decide, ih (i + 1) f (by omega) (by omega)]
    split
    · rfl
    · split <;> rfl
theorem nI_z {x : Nat} (hx : x < 2 ^ 31) : nI x = 0 ↔ x = 0 := by
  rw [show (0 : Int32) = nI 0 from rfl, nI_eq hx (by decide)]
theorem my1 (h : Rel u v) {z : UM} {o : List Nat} (q : FM u v z o) {s : Nat} (hs : s < nN u) (ha : ∀ r, r < nN u → PN u r s ≠ 0 → r ∈ o) : ∀ (k i f : Nat), i + k = nN u → k < f → fX8_failsFirst_122 (nI s) z f 1 (nI i) = some 1 := by
  have hn := h.nle
  intro k
  induction k with
  | zero =>
    intro i f hi hf
    obtain ⟨f, rfl⟩ := fuel1 hf
    rw [fX8_failsFirst_122, q.n, if_pos ((h.lM (by omega)).mpr (by omega))]
  | succ k ih =>
    intro i f hi hf
    obtain ⟨f, rfl⟩ := fuel1 hf
    have hp := h.P (show i < 5 by omega) (show s < 5 by omega)
    have x5 := ix5' (show i < 5 by omega) (show s < 5 by omega)
    rw [fX8_failsFirst_122, q.n, if_neg (fun c => by have := (h.lM (by omega)).mp c; omega), gd_t x5.1, x5.2, q.1.1 6 (by decide) (by decide), hp.2.1, gd_t (vin_nI (show i < 5 by omega) (by decide)), cl_nI (by omega), q.2.1 i (by omega), nI_1, show (1 : Int32) &&& 1 = 1 by decide, ih (i + 1) f (by omega) (by omega)]
    by_cases c : PN u i s = 0
    · rw [if_pos ((nI_z (by omega)).mpr c)]
    · rw [if_neg (fun y => c ((nI_z (by omega)).mp y)), if_neg (fun y => in01.mp y (ha i (by omega) c))]
theorem my0 (h : Rel u v) {z : UM} {o : List Nat} (q : FM u v z o) {s r : Nat} (hs : s < nN u) (hr : r < nN u) (hp0 : PN u r s ≠ 0) (hno : r ∉ o) : ∀ (k i f : Nat), i + k = r → nN u < f + i → fX8_failsFirst_122 (nI s) z f 1 (nI i) = some 0 := by
  have hn := h.nle
  intro k
  induction k with
  | zero =>
    intro i f hi hf
    obtain ⟨f, rfl⟩ : ∃ g, f = g + 1 := ⟨f - 1, by omega⟩
    have e : i = r := by omega
    subst e
    have hp := h.P (show i < 5 by omega) (show s < 5 by omega)
    have x5 := ix5' (show i < 5 by omega) (show s < 5 by omega)
    rw [fX8_failsFirst_122, q.n, if_neg (fun c => by have := (h.lM (by omega)).mp c; omega), gd_t x5.1, x5.2, q.1.1 6 (by decide) (by decide), hp.2.1, gd_t (vin_nI (show i < 5 by omega) (by decide)), cl_nI (by omega), q.2.1 i (by omega), nI_1, if_neg (fun y => hp0 ((nI_z (by omega)).mp y)), if_pos (in01.mpr hno), show (1 : Int32) &&& 0 = 0 by decide]
    exact mz0 h q hs (nN u - (i + 1)) (i + 1) f (by omega) (by omega)
  | succ k ih =>
    intro i f hi hf
    obtain ⟨f, rfl⟩ : ∃ g, f = g + 1 := ⟨f - 1, by omega⟩
    have hp := h.P (show i < 5 by omega) (show s < 5 by omega)
    have x5 := ix5' (show i < 5 by omega) (show s < 5 by omega)
    rw [fX8_failsFirst_122, q.n, if_neg (fun c => by have := (h.lM (by omega)).mp c; omega), gd_t x5.1, x5.2, q.1.1 6 (by decide) (by decide), hp.2.1, gd_t (vin_nI (show i < 5 by omega) (by decide)), cl_nI (by omega), q.2.1 i (by omega), nI_1, show (1 : Int32) &&& 1 = 1 by decide, show (1 : Int32) &&& 0 = 0 by decide, ih (i + 1) f (by omega) (by omega), mz0 h q hs (nN u - (i + 1)) (i + 1) f (by omega) (by omega)]
    split
    · rfl
    · split <;> rfl
theorem may_M (h : Rel u v) {z : UM} {o : List Nat} (q : FM u v z o) {s : Nat} (hs : s < nN u) : fX8_failsFirst_122 (nI s) z FU 1 0 = some (if mayB (nN u) (PN u) o s = true then 1 else 0) := by
  have hn := h.nle
  by_cases c : mayB (nN u) (PN u) o s = true
  · rw [if_pos c]
    exact my1 h q hs (mayB_iff.mp c) (nN u) 0 FU (by omega) (fu5 h)
  · rw [if_neg c]
    obtain ⟨r, hr, hp, hno⟩ := not_may c
    exact my0 h q hs hr hp hno r 0 FU (by omega) (by unfold FU; omega)
def mf (n : Nat) (P : Nat → Nat → Nat) (o : List Nat) (i : Nat) : Nat := if (swp n P o i).length = o.length then 0 else 1
theorem ff96 (h : Rel u v) (hw : Wet u) {o : List Nat} (g : Gd (nN u) (PN u) o) : ∀ (k i f : Nat) (z : UM), i + k = nN u → k < f → FM u v z (swp (nN u) (PN u) o i) → ∃ z', fX8_failsFirst_96 f (nI (mf (nN u) (PN u) o i)) (nI i) z = some (nI (mf (nN u) (PN u) o (nN u)), z') ∧ FM u v z' (swp (nN u) (PN u) o (nN u)) := by
  have hn := h.nle
  intro k
  induction k with
  | zero =>
    intro i f z hi hf q
    obtain ⟨f, rfl⟩ := fuel1 hf
    rw [fX8_failsFirst_96, q.n, if_pos ((h.lM (by omega)).mpr (by omega))]
    rw [show i = nN u by omega] at q ⊢
    exact ⟨z, rfl, q⟩
  | succ k ih =>
    intro i f z hi hf q
    obtain ⟨f, rfl⟩ := fuel1 hf
    have gi := swp_Gd g i (by omega)
    have gi' := swp_Gd g (i + 1) (by omega)
    have y := ih (i + 1) f
    have le := (swp_len (n := nN u) (P := PN u) (o := o) i).1
    have em : mf (nN u) (PN u) o i = if (swp (nN u) (PN u) o i).length = o.length then 0 else 1 := rfl
    have em' : mf (nN u) (PN u) o (i + 1) = if (swp (nN u) (PN u) o (i + 1)).length = o.length then 0 else 1 := rfl
    rw [em'] at y
    rw [swp] at y gi'
    rw [fX8_failsFirst_96, q.n, if_neg (fun c => by have := (h.lM (by omega)).mp c; omega), gd_t (vin_nI (show i < 5 by omega) (by decide)), cl_nI (by omega), q.2.1 i (by omega), nI_1, em]
    generalize hp : swp (nN u) (PN u) o i = p at *
    unfold sw1 at y gi'
    by_cases c : i ∈ p
    · rw [if_pos c] at y
      have e0 : (if (if i ∈ p then (1 : Int32) else 0) = 0 then some (1 : Int32) else some 0) = some 0 := by rw [if_neg (fun t => in01.mp t c)]
      have e1 : fX8_failsFirst_122 (nI i) z FU 0 0 = some 0 := mz0 h q (show i < nN u by omega) (nN u) 0 FU (by omega) (fu5 h)
      rw [bnd e0, bnd e1, if_pos rfl]
      exact y z (by omega) (by omega) q
    · rw [if_neg c] at y gi'
      have e0 : (if (if i ∈ p then (1 : Int32) else 0) = 0 then some (1 : Int32) else some 0) = some 1 := by rw [if_pos (in01.mpr c)]
      rw [bnd e0, bnd (may_M h q (show i < nN u by omega))]
      by_cases d : mayB (nN u) (PN u) p i = true
      · rw [if_pos d] at y gi' ⊢
        obtain ⟨z', t1, t2⟩ := takes_M h hw gi' q
        rw [if_neg (show ¬ (1 : Int32) = 0 by decide), bnd t1]
        rw [if_neg (show ¬ (i :: p).length = o.length by rw [List.length_cons]; omega)] at y
        exact y z' (by omega) (by omega) t2
      · rw [if_neg d] at y ⊢
        rw [if_pos rfl]
        exact y z (by omega) (by omega) q
theorem ff88 (h : Rel u v) (hw : Wet u) : ∀ (m k f : Nat) (z : UM), nN u - (itO (nN u) (PN u) k).length ≤ m → m + 1 < f → FM u v z (itO (nN u) (PN u) k) → ∃ z', fX8_failsFirst_88 f 1 z = some z' ∧ FM u v z' (itO (nN u) (PN u) (nN u)) := by
  have hn := h.nle
  intro m
  induction m with
  | zero =>
    intro k f z hm hf q
    obtain ⟨f, rfl⟩ : ∃ g, f = g + 1 + 1 := ⟨f - 2, by omega⟩
    obtain ⟨z', t1, t2⟩ := ff96 h hw (itO_Gd k) (nN u) 0 FU z (by omega) (fu5 h) q
    have gk := itO_Gd (n := nN u) (P := PN u) k
    have gl := gk.len
    have e : swp (nN u) (PN u) (itO (nN u) (PN u) k) (nN u) = itO (nN u) (PN u) k := swp_full (gk.full (by omega)) (nN u) (Nat.le_refl _)
    have e0 : mf (nN u) (PN u) (itO (nN u) (PN u) k) 0 = 0 := if_pos rfl
    have e1 : mf (nN u) (PN u) (itO (nN u) (PN u) k) (nN u) = 0 := if_pos (by rw [e])
    rw [e0, e1] at t1
    rw [fX8_failsFirst_88, if_neg (show ¬ (1 : Int32) = 0 by decide), show (0 : Int32) = nI 0 from rfl, bnd t1, fX8_failsFirst_88, if_pos (show nI 0 = 0 from rfl)]
    refine ⟨z', rfl, ?_⟩
    rw [e, itO_same (j := k) e] at t2
    exact t2
  | succ m ih =>
    intro k f z hm hf q
    obtain ⟨f, rfl⟩ : ∃ g, f = g + 1 + 1 := ⟨f - 2, by omega⟩
    obtain ⟨z', t1, t2⟩ := ff96 h hw (itO_Gd k) (nN u) 0 FU z (by omega) (fu5 h) q
    have e0 : mf (nN u) (PN u) (itO (nN u) (PN u) k) 0 = 0 := if_pos rfl
    have sl := swp_len (n := nN u) (P := PN u) (o := itO (nN u) (PN u) k) (nN u)
    by_cases c : (swp (nN u) (PN u) (itO (nN u) (PN u) k) (nN u)).length = (itO (nN u) (PN u) k).length
    · have e := sl.2 c
      have e1 : mf (nN u) (PN u) (itO (nN u) (PN u) k) (nN u) = 0 := if_pos c
      rw [e0, e1] at t1
      rw [fX8_failsFirst_88, if_neg (show ¬ (1 : Int32) = 0 by decide), show (0 : Int32) = nI 0 from rfl, bnd t1, fX8_failsFirst_88, if_pos (show nI 0 = 0 from rfl)]
      refine ⟨z', rfl, ?_⟩
      rw [e, itO_same (j := k) e] at t2
      exact t2
    · have e1 : mf (nN u) (PN u) (itO (nN u) (PN u) k) (nN u) = 1 := if_neg c
      rw [e0, e1] at t1
      rw [fX8_failsFirst_88, if_neg (show ¬ (1 : Int32) = 0 by decide), show (0 : Int32) = nI 0 from rfl, bnd t1]
      refine ih (k + 1) (f + 1) z' ?_ (by omega) t2
      rw [itO]
      omega
theorem ff65 (h : Rel u v) : ∀ (k i f : Nat) (z : UM), i + k = nN u → k < f → sameM v z → (∀ s, s < i → z.1 7 s = 0) → ∃ z', fX8_failsFirst_65 f (nI i) z = some z' ∧ FM u v z' [] := by
  have hn := h.nle
  intro k
  induction k with
  | zero =>
    intro i f z hi hf q1 q2
    obtain ⟨f, rfl⟩ := fuel1 hf
    rw [fX8_failsFirst_65, show z.2.2.2.1 = v.2.2.2.1 by rw [q1.2], if_pos ((h.lM (by omega)).mpr (by omega))]
    rw [show i = nN u by omega] at q2
    exact ⟨z, rfl, q1, fun x hx => by rw [q2 x hx, if_neg List.not_mem_nil], fun x hx => absurd hx List.not_mem_nil⟩
  | succ k ih =>
    intro i f z hi hf q1 q2
    obtain ⟨f, rfl⟩ := fuel1 hf
    rw [fX8_failsFirst_65, show z.2.2.2.1 = v.2.2.2.1 by rw [q1.2], if_neg (fun c => by have := (h.lM (by omega)).mp c; omega), gd_t (vin_nI (show i < 5 by omega) (by decide)), cl_nI (by omega), nI_1]
    refine ih (i + 1) f _ (by omega) (by omega) ⟨fun k a b => ?_, q1.2⟩ (fun s hs => ?_)
    · show (if k = 7 then _ else z.1 k) = v.1 k
      rw [if_neg a]
      exact q1.1 k a b
    · by_cases c : s = i
      · subst c; rw [mst_at]
      · rw [mst_nj c]; exact q2 s (by omega)
/-- where a flaw of flow is sought: both find the same one, or none and all steps are taken -/
def Fl (u : UX) (v : UM) (x : Option (Int32 × UX)) (y : Option (Int32 × UM)) : Prop := ∃ r w z, x = some (r, w) ∧ y = some (r, z) ∧ sameX u w ∧ sameM v z ∧ (0 < r ∨ (r = 0 ∧ Wet u ∧ ∃ o, Gd (nN u) (PN u) o ∧ (∀ s, s < nN u → s ∈ o) ∧ TX u w o ∧ FM u v z o))
theorem pos_add {c i : Nat} (hc : 0 < c) (h : c + i < 2 ^ 31) : (0 : Int32) < nI (c + i) := nI_lt (a := 0) (by omega) h
theorem ff75 (h : Rel u v) (hw : Wet u) {w : UX} {z : UM} {o : List Nat} (g : Gd (nN u) (PN u) o) (q : TX u w o) (p : FM u v z o) : ∀ (k i f f' : Nat), i + k = nN u → k < f → k < f' → (∀ s, s < i → s ∈ o) → Fl u v (fX1_flawOfFlow_75 w f (nI i)) (fX8_failsFirst_191 z f' (nI i)) := by
  have hn := h.nle
  intro k
  induction k with
  | zero =>
    intro i f f' hi hf hf' ha
    obtain ⟨f, rfl⟩ := fuel1 hf
    obtain ⟨f', rfl⟩ := fuel1 hf'
    rw [fX1_flawOfFlow_75, fX8_failsFirst_191, q.n, p.n, if_pos ((h.lX (by omega)).mpr (by omega)), if_pos ((h.lM (by omega)).mpr (by omega))]
    exact ⟨0, w, z, rfl, rfl, q.1, p.1, Or.inr ⟨rfl, hw, o, g, fun s hs => ha s (by omega), q, p⟩⟩
  | succ k ih =>
    intro i f f' hi hf hf' ha
    obtain ⟨f, rfl⟩ := fuel1 hf
    obtain ⟨f', rfl⟩ := fuel1 hf'
    rw [fX1_flawOfFlow_75, fX8_failsFirst_191, q.n, p.n, if_neg (show ¬ u.2.2.1 ≤ nI i from fun c => by have := (h.lX (by omega)).mp c; omega), if_neg (show ¬ v.2.2.2.1 ≤ nI i from fun c => by have := (h.lM (by omega)).mp c; omega), gd_t (vin_nI (show i < 5 by omega) (by decide)), gd_t (vin_nI (show i < 5 by omega) (by decide)), cl_nI (by omega), q.2.1 i (by omega), p.2.1 i (by omega), nI_1, show (30 : Int32) = nI 30 from rfl, nI_add]
    by_cases c : i ∈ o
    · rw [if_neg (fun t => in01.mp t c), if_neg (fun t => in01.mp t c)]
      refine ih (i + 1) f f' (by omega) (by omega) (by omega) (fun s hs => ?_)
      by_cases e : s = i
      · rw [e]; exact c
      · exact ha s (by omega)
    · rw [if_pos (in01.mpr c), if_pos (in01.mpr c)]
      exact ⟨_, w, z, rfl, rfl, q.1, p.1, Or.inl (pos_add (by decide) (by omega))⟩
theorem GN_le (h : Rel u v) {s : Nat} (hs : s < nN u) : GN u s ≤ 500 := by
  have hn := h.nle
  have b := fb_sm_bound (f := fun r => PN u s r) (c := 100) (n := nN u) (fun r hr => (h.P (show s < 5 by omega) (show r < 5 by omega)).2.2.1)
  have b2 : nN u * 100 ≤ 5 * 100 := Nat.mul_le_mul_right _ hn
  unfold GN
  omega
theorem ff34 (h : Rel u v) (hw : Wet u) : ∀ (k i f f' : Nat), i + k = nN u → k < f → k < f' → Fl u v (fX1_flawOfFlow_34 u f (nI i)) (fX8_failsFirst_31 v f' (nI i)) := by
  have hn := h.nle
  intro k
  induction k with
  | zero =>
    intro i f f' hi hf hf'
    obtain ⟨f, rfl⟩ := fuel1 hf
    obtain ⟨f', rfl⟩ := fuel1 hf'
    rw [fX1_flawOfFlow_34, fX8_failsFirst_31, if_pos ((h.lX (by omega)).mpr (by omega)), if_pos ((h.lM (by omega)).mpr (by omega))]
    obtain ⟨w, e1, q⟩ := take_X h
    obtain ⟨z1, e2, q2⟩ := ff65 h (nN u) 0 FU v (by omega) (fu5 h) sameM.rfl (fun s hs => by omega)
    obtain ⟨z2, e3, q3⟩ := ff88 h hw (nN u) 0 FU z1 (Nat.sub_le _ _) (by unfold FU; omega) q2
    rw [show (0 : Int32) = nI 0 from rfl, bnd e1, bnd e2, bnd e3]
    exact ff75 h hw (itO_Gd _) q q3 (nN u) 0 FU FU (by omega) (fu5 h) (fu5 h) (fun s hs => by omega)
  | succ k ih =>
    intro i f f' hi hf hf'
    obtain ⟨f, rfl⟩ := fuel1 hf
    obtain ⟨f', rfl⟩ := fuel1 hf'
    have gl := GN_le h (show i < nN u by omega)
    have wl := (WN_le h (show i < nN u by omega)).1
    rw [fX1_flawOfFlow_34, fX8_failsFirst_31, if_neg (show ¬ u.2.2.1 ≤ nI i from fun c => by have := (h.lX (by omega)).mp c; omega), if_neg (show ¬ v.2.2.2.1 ≤ nI i from fun c => by have := (h.lM (by omega)).mp c; omega), bnd (go_X h (show i < 5 by omega)), bnd (go_M h (show i < 5 by omega)), bnd (com_X h (show i < 5 by omega)), bnd (com_M h (show i < 5 by omega)), nI_1, show (20 : Int32) = nI 20 from rfl, nI_add]
    by_cases c : nI (GN u i) ≤ nI (WN u i)
    · rw [if_pos c, if_pos c]
      exact ih (i + 1) f f' (by omega) (by omega) (by omega)
    · rw [if_neg c, if_neg c]
      exact ⟨_, u, v, rfl, rfl, sameX.rfl, sameM.rfl, Or.inl (pos_add (by decide) (by omega))⟩
theorem ff2 (h : Rel u v) : ∀ (k i f f' : Nat), i + k = nN u → k < f → k < f' → (∀ s, s < i → 0 < WN u s) → Fl u v (fX1_flawOfFlow_2 u f (nI i)) (fX8_failsFirst_2 v f' (nI i)) := by
  have hn := h.nle
  intro k
  induction k with
  | zero =>
    intro i f f' hi hf hf' ha
    obtain ⟨f, rfl⟩ := fuel1 hf
    obtain ⟨f', rfl⟩ := fuel1 hf'
    rw [fX1_flawOfFlow_2, fX8_failsFirst_2, if_pos ((h.lX (by omega)).mpr (by omega)), if_pos ((h.lM (by omega)).mpr (by omega))]
    exact ff34 h (fun s hs => ha s (by omega)) (nN u) 0 FU FU (by omega) (fu5 h) (fu5 h)
  | succ k ih =>
    intro i f f' hi hf hf' ha
    obtain ⟨f, rfl⟩ := fuel1 hf
    obtain ⟨f', rfl⟩ := fuel1 hf'
    have wl := (WN_le h (show i < nN u by omega)).1
    rw [fX1_flawOfFlow_2, fX8_failsFirst_2, if_neg (show ¬ u.2.2.1 ≤ nI i from fun c => by have := (h.lX (by omega)).mp c; omega), if_neg (show ¬ v.2.2.2.1 ≤ nI i from fun c => by have := (h.lM (by omega)).mp c; omega), bnd (com_X h (show i < 5 by omega)), bnd (com_M h (show i < 5 by omega)), nI_1, show (10 : Int32) = nI 10 from rfl, nI_add]
    by_cases c : nI (WN u i) = 0
    · rw [if_pos c, if_pos c]
      exact ⟨_, u, v, rfl, rfl, sameX.rfl, sameM.rfl, Or.inl (pos_add (by decide) (by omega))⟩
    · rw [if_neg c, if_neg c]
      refine ih (i + 1) f f' (by omega) (by omega) (by omega) (fun s hs => ?_)
      by_cases e : s = i
      · rw [e]
        rcases Nat.eq_zero_or_pos (WN u i) with z | z
        · exact absurd ((nI_z (by omega)).mpr z) c
        · exact z
      · exact ha s (by omega)
theorem flow_eq (h : Rel u v) : Fl u v (fX1_flawOfFlow u) (fX8_failsFirst v) := by
  unfold fX1_flawOfFlow fX8_failsFirst
  exact ff2 h (nN u) 0 FU FU (by omega) (fu5 h) (fu5 h) (fun s hs => by omega)
/-! dirt along the order -/
theorem sd2 (h : Rel u v) (hw : Wet u) {o : List Nat} (g : Gd (nN u) (PN u) o) (hl : o.length = nN u) : ∀ (k f : Nat) (w : UX), k ≤ o.length → k < f → OrdOk w o → FX u w (o.drop k) → ∃ w', fX1_spreadDirt_2 f (nI (o.length - k)) w = some w' ∧ FX u w' o := by
  have hn := h.nle
  intro k
  induction k with
  | zero =>
    intro f w hk hf q p
    obtain ⟨f, rfl⟩ := fuel1 hf
    rw [fX1_spreadDirt_2, show w.2.2.1 = u.2.2.1 by rw [p.1.2], if_pos ((h.lX (by omega)).mpr (by omega))]
    rw [List.drop_zero] at p
    exact ⟨w, rfl, p⟩
  | succ k ih =>
    intro f w hk hf q p
    obtain ⟨f, rfl⟩ := fuel1 hf
    have e : o.drop k = o[k] :: o.drop (k + 1) := List.drop_eq_getElem_cons (by omega)
    have gd := g.drop k
    have od := q.drop k
    rw [e] at gd od
    have ln : (o.drop (k + 1)).length = o.length - (k + 1) := List.length_drop
    obtain ⟨w', t1, t2, t3⟩ := soil_X h hw gd p
    have eo : w.1 12 (o.length - (k + 1)) = nI o[k] := by rw [← ln]; exact od.1
    rw [fX1_spreadDirt_2, show w.2.2.1 = u.2.2.1 by rw [p.1.2], if_neg (fun c => by have := (h.lX (by omega)).mp c; omega), gd_t (vin_nI (show o.length - (k + 1) < 5 by omega) (by decide)), cl_nI (by omega), eo, bnd t1, nI_1, show o.length - (k + 1) + 1 = o.length - k by omega]
    refine ih f w' (by omega) (by omega) (q.eq (by rw [t3])) ?_
    rw [e]
    exact t2
theorem spread_X (h : Rel u v) (hw : Wet u) {o : List Nat} (g : Gd (nN u) (PN u) o) (ha : ∀ s, s < nN u → s ∈ o) {w : UX} (q : TX u w o) : ∃ w', fX1_spreadDirt w = some w' ∧ FX u w' o := by
  have hl := g.all ha
  have p : FX u w (o.drop o.length) := by
    rw [List.drop_length]
    exact ⟨q.1, fun x hx => absurd hx List.not_mem_nil⟩
  obtain ⟨w', t1, t2⟩ := sd2 h hw g hl o.length FU w (Nat.le_refl _) (by rw [hl]; exact fu5 h) q.2.2 p
  rw [Nat.sub_self] at t1
  refine ⟨w', ?_, t2⟩
  unfold fX1_spreadDirt
  rw [show (0 : Int32) = nI 0 from rfl, bnd t1]
theorem sim_at (h : Rel u v) (a1 a2 : Int32) : Sm (fX7_at u a1 a2) (fX8_at v a1 a2) := by
  have hn := h.nle
  unfold fX7_at fX8_at
  refine sh (P := Sm) h (Sm_some h) (fun j hj ej => ?_)
  refine sp (P := Sm) (Sm_some h) (fun hp => ?_)
  subst ej
  have hj : j < nN u := hj
  obtain ⟨r, w, z, e1, e2, s1, s2, hr⟩ := flow_eq h
  rw [bnd e1, bnd e2]
  rcases hr with hr | ⟨hr, hw, o, g, ha, q, p⟩
  · rw [if_neg (show ¬ r = 0 from fun c => by rw [c] at hr; exact absurd hr (by decide)), if_neg (show ¬ r ≤ 0 from fun c => absurd hr (Int32.not_lt.mpr c))]
    exact Sm_some (h.same s1 s2)
  · obtain ⟨w', t1, t2⟩ := spread_X h hw g ha q
    have f1 := (t2.2 j (ha j hj)).1
    obtain ⟨m1, m2, -, -⟩ := p.2.2 j (ha j hj)
    have R := h.same t2.1 s2
    rw [if_pos (show r = 0 from hr), if_pos (show r ≤ 0 by rw [hr]; decide), bnd t1, gd_t (vin_nI (show j < 5 by omega) (by decide)), gd_t (vin_nI (show j < 5 by omega) (by decide)), gd_t (vin_nI (show j < 5 by omega) (by decide)), cl_nI (by omega), m1, m2]
    rcases hp with rfl | rfl
    · show Sm (some ((w'.2.1 (24 + j)).1, w')) (some (lN (phX u o j).1, z))
      rw [f1]
      exact Sm_some R
    · show Sm (some ((w'.2.1 (24 + j)).2, w')) (some (lN (phX u o j).2, z))
      rw [f1]
      exact Sm_some R
theorem same_lim (h : Rel u v) {w : UX} {z : UM} (s1 : sameX u w) (s2 : sameM v z) {j : Nat} (hj : j < nN u) : ∃ L, fX3_atHand w = some (w.1 4 2) ∧ fX3_by w (w.1 4 2) (nI j) = some L ∧ fX8_limitOf z (z.1 4 2) (nI j) = some L := by
  have R := h.same s1 s2
  have b : bd (w.1 4 2) 0 2 := R.ok (k := 4) (j := 2) (stc_lt (by decide)) (show 2 < 3 by decide)
  have e : z.1 4 2 = w.1 4 2 := R.at (k := 4) (j := 2) (stc_lt (by decide)) (show 2 < 3 by decide)
  obtain ⟨k, ek, -, hk⟩ := bd_ex b
  obtain ⟨L, l1, l2⟩ := lim_eq R hk (show j < w.2.2.1.toNatClampNeg by rw [s1.2]; exact hj)
  exact ⟨L, rfl, by rw [ek]; exact l1, by rw [e, ek]; exact l2⟩
theorem fa51 (h : Rel u v) {w : UX} {z : UM} {o : List Nat} {r : Int32} (ha : ∀ s, s < nN u → s ∈ o) (q : FX u w o) (p : FM u v z o) : ∀ (k i f f' : Nat), i + k = nN u → k < f → k < f' → Sm (fX1_flawOfDirt_51 w f (nI i)) (fX8_fails_63 (r, z) f' (nI i)) := by
  have hn := h.nle
  have R := h.same q.1 p.1
  intro k
  induction k with
  | zero =>
    intro i f f' hi hf hf'
    obtain ⟨f, rfl⟩ := fuel1 hf
    obtain ⟨f', rfl⟩ := fuel1 hf'
    rw [fX1_flawOfDirt_51, fX8_fails_63, show w.2.2.1 = u.2.2.1 by rw [q.1.2], show (r, z).2.2.2.2.1 = v.2.2.2.1 from p.n, if_pos ((h.lX (by omega)).mpr (by omega)), if_pos ((h.lM (by omega)).mpr (by omega))]
    exact Sm_some R
  | succ k ih =>
    intro i f f' hi hf hf'
    obtain ⟨f, rfl⟩ := fuel1 hf
    obtain ⟨f', rfl⟩ := fuel1 hf'
    obtain ⟨L, l0, l1, l2⟩ := same_lim h q.1 p.1 (show i < nN u by omega)
    have f1 := (q.2 i (ha i (by omega))).1
    obtain ⟨m1, m2, -, -⟩ := p.2.2 i (ha i (by omega))
    have l2 : fX8_limitOf (r, z).2 ((r, z).2.1 4 (2 : Int32).toNatClampNeg) (nI i) = some L := l2
    have m1 : (r, z).2.2.1 12 i = lN (phX u o i).1 := m1
    have m2 : (r, z).2.2.1 13 i = lN (phX u o i).2 := m2
    rw [fX1_flawOfDirt_51, fX8_fails_63, show w.2.2.1 = u.2.2.1 by rw [q.1.2], show (r, z).2.2.2.2.1 = v.2.2.2.1 from p.n, if_neg (show ¬ u.2.2.1 ≤ nI i from fun c => by have := (h.lX (by omega)).mp c; omega), if_neg (show ¬ v.2.2.2.1 ≤ nI i from fun c => by have := (h.lM (by omega)).mp c; omega), gd_t (vin_nI (show i < 5 by omega) (by decide)), gd_t (vin_nI (show i < 5 by omega) (by decide)), gd_t (show vin 2 3 = true from rfl), cl_nI (by omega), bnd l0, bnd l1, bnd l2, m1, m2, nI_1]
    unfold fX2_isAbove
    rw [f1]
    by_cases c : lN (phX u o i).1 ≤ L.toInt64 * lN (phX u o i).2
    · rw [if_pos c, if_pos c]
      exact ih (i + 1) f f' (by omega) (by omega) (by omega)
    · rw [if_neg c, if_neg c]
      exact Sm_some R
theorem fa6 (h : Rel u v) {w : UX} {z : UM} {o : List Nat} {r : Int32} (ha : ∀ s, s < nN u → s ∈ o) (q : FX u w o) (p : FM u v z o) : ∀ (k i f f' : Nat), i + k = nN u → k < f → k < f' → Sm (fX1_flawOfDirt_6 w f (nI i)) (fX8_fails_18 (r, z) f' (nI i)) := by
  have hn := h.nle
  have R := h.same q.1 p.1
  intro k
  induction k with
  | zero =>
    intro i f f' hi hf hf'
    obtain ⟨f, rfl⟩ := fuel1 hf
    obtain ⟨f', rfl⟩ := fuel1 hf'
    rw [fX1_flawOfDirt_6, fX8_fails_18, show w.2.2.1 = u.2.2.1 by rw [q.1.2], show (r, z).2.2.2.2.1 = v.2.2.2.1 from p.n, if_pos ((h.lX (by omega)).mpr (by omega)), if_pos ((h.lM (by omega)).mpr (by omega))]
    exact fa51 h ha q p (nN u) 0 FU FU (by omega) (fu5 h) (fu5 h)
  | succ k ih =>
    intro i f f' hi hf hf'
    obtain ⟨f, rfl⟩ := fuel1 hf
    obtain ⟨f', rfl⟩ := fuel1 hf'
    have f1 := (q.2 i (ha i (by omega))).2
    obtain ⟨-, -, m1, m2⟩ := p.2.2 i (ha i (by omega))
    have m1 : (r, z).2.2.1 14 i = lN (chX u o i).1 := m1
    have m2 : (r, z).2.2.1 15 i = lN (chX u o i).2 := m2
    have a := h.A (show i < nN u by omega)
    have c1 : w.1 1 i = nI (CI u i) := by rw [q.1.1 1 (by decide) (by decide) (by decide)]; exact a.2.1.1
    have c2 : (r, z).2.1 1 i = nI (CI u i) := by
      show z.1 1 i = _
      rw [p.1.1 1 (by decide) (by decide)]; exact a.2.1.2.1
    rw [fX1_flawOfDirt_6, fX8_fails_18, show w.2.2.1 = u.2.2.1 by rw [q.1.2], show (r, z).2.2.2.2.1 = v.2.2.2.1 from p.n, if_neg (show ¬ u.2.2.1 ≤ nI i from fun c => by have := (h.lX (by omega)).mp c; omega), if_neg (show ¬ v.2.2.2.1 ≤ nI i from fun c => by have := (h.lM (by omega)).mp c; omega), gd_t (vin_nI (show i < 5 by omega) (by decide)), gd_t (vin_nI (show i < 5 by omega) (by decide)), cl_nI (by omega), m1, m2, c1, c2, nI_1]
    unfold fX2_isAbove
    rw [f1]
    by_cases c : lN (chX u o i).1 ≤ (nI (CI u i)).toInt64 * lN (chX u o i).2
    · rw [if_pos c, if_pos c]
      exact ih (i + 1) f f' (by omega) (by omega) (by omega)
    · rw [if_neg c, if_neg c]
      exact Sm_some R
theorem sim_fails (h : Rel u v) : Sm (fX7_fails u) (fX8_fails v) := by
  have hn := h.nle
  unfold fX7_fails fX8_fails
  obtain ⟨r, w, z, e1, e2, s1, s2, hr⟩ := flow_eq h
  rw [bnd e1, bnd e2]
  rcases hr with hr | ⟨hr, hw, o, g, ha, q, p⟩
  · rw [if_neg (show ¬ r = 0 from fun c => by rw [c] at hr; exact absurd hr (by decide)), if_neg (show ¬ r ≤ 0 from fun c => absurd hr (Int32.not_lt.mpr c))]
    exact Sm_some (h.same s1 s2)
  · obtain ⟨w', t1, t2⟩ := spread_X h hw g ha q
    rw [if_pos (show r = 0 from hr), if_pos (show r ≤ 0 by rw [hr]; decide)]
    unfold fX1_flawOfDirt
    rw [bnd t1]
    obtain ⟨r2, u2, v2, y1, y2, y3⟩ := fa6 h (r := r) ha t2 p (nN u) 0 FU FU (by omega) (fu5 h) (fu5 h)
    rw [show (0 : Int32) = nI 0 from rfl, bnd y1, y2]
    exact Sm_some y3
end SJ
