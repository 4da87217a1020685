/-! the numbers of a state -/
def nN (u : UX) : Nat := u.2.2.1.toNatClampNeg
def mN (u : UX) : Nat := u.2.2.2.1.toNatClampNeg
def PN (u : UX) (r s : Nat) : Nat := (u.1 (6 + r) s).toNatClampNeg
def FN (u : UX) (s : Nat) : Nat := (u.1 5 s).toNatClampNeg
theorem fuel1 {k f : Nat} (h : k < f) : ∃ g, f = g + 1 := ⟨f - 1, by omega⟩
section SC
variable {u : UX} {v : UM}
theorem Rel.nle (h : Rel u v) : nN u ≤ 5 := h.1.2.2
theorem Rel.mle (h : Rel u v) : mN u ≤ 8 := h.2.1.2.2
theorem Rel.lX (h : Rel u v) {i : Nat} (hi : i < 2 ^ 31) : u.2.2.1 ≤ nI i ↔ nN u ≤ i := by
  have := h.nle
  rw [h.1.1]
  exact nI_leI (by unfold nN at this; omega) hi
theorem Rel.lM (h : Rel u v) {i : Nat} (hi : i < 2 ^ 31) : v.2.2.2.1 ≤ nI i ↔ nN u ≤ i := by
  rw [h.2.2.1]; exact h.lX hi
theorem Rel.mX (h : Rel u v) {i : Nat} (hi : i < 2 ^ 31) : u.2.2.2.1 ≤ nI i ↔ mN u ≤ i := by
  have := h.mle
  rw [h.2.1.1]
  exact nI_leI (by unfold mN at this; omega) hi
theorem Rel.mM (h : Rel u v) {i : Nat} (hi : i < 2 ^ 31) : v.2.2.2.2 ≤ nI i ↔ mN u ≤ i := by
  rw [h.2.2.2.1]; exact h.mX hi
theorem Rel.P (h : Rel u v) {r s : Nat} (hr : r < 5) (hs : s < 5) : u.1 (6 + r) s = nI (PN u r s) ∧ v.1 6 (5 * r + s) = nI (PN u r s) ∧ PN u r s ≤ 100 ∧ (r = s → PN u r s = 0) := by
  have hl := la_row hr
  have ha := h.at (k := 6 + r) (j := s) (stc_lt (by omega)) (by omega)
  have ho := h.ok (k := 6 + r) (j := s) (stc_lt (by omega)) (by omega)
  have ek : mk (6 + r) = 6 := by unfold mk; rw [if_neg (by omega), if_pos (by omega)]
  have ej : mj (6 + r) s = 5 * r + s := by unfold mj; rw [if_neg (by omega), if_pos (by omega)]; omega
  rw [ek, ej] at ha
  unfold okA at ho
  rw [if_neg (by omega), if_neg (by omega), if_neg (by omega), if_neg (by omega), if_neg (by omega), if_neg (by omega), if_pos (by omega)] at ho
  refine ⟨ho.1.1, ha.trans ho.1.1, ho.1.2.2, fun e => ?_⟩
  unfold PN
  rw [ho.2 (by omega)]
  rfl
theorem Rel.F (h : Rel u v) {s : Nat} (hs : s < 5) : u.1 5 s = nI (FN u s) ∧ v.1 5 s = nI (FN u s) ∧ FN u s ≤ 100 := by
  have ha : v.1 5 s = u.1 5 s := h.at (k := 5) (j := s) (stc_lt (by decide)) hs
  have ho : bd (u.1 5 s) 0 100 := h.ok (k := 5) (j := s) (stc_lt (by decide)) hs
  exact ⟨ho.1, ha.trans ho.1, ho.2.2⟩
theorem ix5 (r s : Nat) : (5 : Int32) * nI r + nI s = nI (5 * r + s) := by
  rw [show (5 : Int32) = nI 5 from rfl, pk_mul, nI_add]
theorem ix5' {r s : Nat} (hr : r < 5) (hs : s < 5) : vin ((5 : Int32) * nI r + nI s) 25 = true ∧ ((5 : Int32) * nI r + nI s).toNatClampNeg = 5 * r + s := by
  rw [ix5]
  exact ⟨vin_nI (by omega) (by decide), cl_nI (by omega)⟩
/-- what comes to a step, what goes from it -/
def WN (u : UX) (s : Nat) : Nat := FN u s + fb_sm (fun r => PN u r s) (nN u)
def GN (u : UX) (s : Nat) : Nat := fb_sm (fun r => PN u s r) (nN u)
theorem comX (h : Rel u v) {s : Nat} (hs : s < 5) : ∀ (k i f : Nat), i + k = nN u → k < f → fX1_comingTo_9 (nI s) u f (nI (FN u s + fb_sm (fun r => PN u r s) i)) (nI i) = some (nI (WN u s)) := by
  have hn := h.nle
  intro k
  induction k with
  | zero =>
    intro i f hi hf
    obtain ⟨f, rfl⟩ := fuel1 hf
    rw [fX1_comingTo_9, if_pos ((h.lX (by omega)).mpr (by omega)), show i = nN u by omega]
    rfl
  | succ k ih =>
    intro i f hi hf
    obtain ⟨f, rfl⟩ := fuel1 hf
    have q := ih (i + 1) f (by omega) (by omega)
    rw [fb_sm_succ, ← Nat.add_assoc] at q
    rw [fX1_comingTo_9, if_neg (fun c => by have := (h.lX (by omega)).mp c; omega), gd_t (vin_nI (show i < 5 by omega) (by decide)), cl_nI (by omega), cl_nI (by omega), (h.P (show i < 5 by omega) hs).1, nI_add, nI_1]
    exact q
theorem comM (h : Rel u v) {s : Nat} (hs : s < 5) : ∀ (k i f : Nat), i + k = nN u → k < f → fX8_comes_9 (nI s) v f (nI (FN u s + fb_sm (fun r => PN u r s) i)) (nI i) = some (nI (WN u s)) := by
  have hn := h.nle
  intro k
  induction k with
  | zero =>
    intro i f hi hf
    obtain ⟨f, rfl⟩ := fuel1 hf
    rw [fX8_comes_9, if_pos ((h.lM (by omega)).mpr (by omega)), show i = nN u by omega]
    rfl
  | succ k ih =>
    intro i f hi hf
    obtain ⟨f, rfl⟩ := fuel1 hf
    have q := ih (i + 1) f (by omega) (by omega)
    rw [fb_sm_succ, ← Nat.add_assoc] at q
    have x5 := ix5' (show i < 5 by omega) hs
    rw [fX8_comes_9, if_neg (fun c => by have := (h.lM (by omega)).mp c; omega), gd_t x5.1, x5.2, (h.P (show i < 5 by omega) hs).2.1, nI_add, nI_1]
    exact q
theorem goX (h : Rel u v) {s : Nat} (hs : s < 5) : ∀ (k i f : Nat), i + k = nN u → k < f → fX1_goingFrom_4 (nI s) u f (nI (fb_sm (fun r => PN u s r) i)) (nI i) = some (nI (GN u s)) := by
  have hn := h.nle
  intro k
  induction k with
  | zero =>
    intro i f hi hf
    obtain ⟨f, rfl⟩ := fuel1 hf
    rw [fX1_goingFrom_4, if_pos ((h.lX (by omega)).mpr (by omega)), show i = nN u by omega]
    rfl
  | succ k ih =>
    intro i f hi hf
    obtain ⟨f, rfl⟩ := fuel1 hf
    have q := ih (i + 1) f (by omega) (by omega)
    rw [fb_sm_succ] at q
    rw [fX1_goingFrom_4, if_neg (fun c => by have := (h.lX (by omega)).mp c; omega), gd_t (vin_nI hs (by decide)), gd_t (vin_nI (show i < 5 by omega) (by decide)), cl_nI (by omega), cl_nI (by omega), (h.P hs (show i < 5 by omega)).1, nI_add, nI_1]
    exact q
theorem goM (h : Rel u v) {s : Nat} (hs : s < 5) : ∀ (k i f : Nat), i + k = nN u → k < f → fX8_goes_4 (nI s) v f (nI (fb_sm (fun r => PN u s r) i)) (nI i) = some (nI (GN u s)) := by
  have hn := h.nle
  intro k
  induction k with
  | zero =>
    intro i f hi hf
    obtain ⟨f, rfl⟩ := fuel1 hf
    rw [fX8_goes_4, if_pos ((h.lM (by omega)).mpr (by omega)), show i = nN u by omega]
    rfl
  | succ k ih =>
    intro i f hi hf
    obtain ⟨f, rfl⟩ := fuel1 hf
    have q := ih (i + 1) f (by omega) (by omega)
    rw [fb_sm_succ] at q
    have x5 := ix5' hs (show i < 5 by omega)
    rw [fX8_goes_4, if_neg (fun c => by have := (h.lM (by omega)).mp c; omega), gd_t x5.1, x5.2, (h.P hs (show i < 5 by omega)).2.1, nI_add, nI_1]
    exact q
theorem bnd {α β : Type} {x : Option α} {y : α} {f : α → Option β} (h : x = some y) : x.bind f = f y := by rw [h]; rfl
theorem fu5 (h : Rel u v) : nN u < FU := by have := h.nle; unfold FU; omega
theorem com_X (h : Rel u v) {s : Nat} (hs : s < 5) : fX1_comingTo u (nI s) = some (nI (WN u s)) := by
  unfold fX1_comingTo
  rw [gd_t (vin_nI hs (by decide)), cl_nI (by omega), (h.F hs).1]
  exact bnd (comX h hs (nN u) 0 FU (by omega) (fu5 h))
theorem com_M (h : Rel u v) {s : Nat} (hs : s < 5) : fX8_comes v (nI s) = some (nI (WN u s)) := by
  unfold fX8_comes
  rw [gd_t (vin_nI hs (by decide)), cl_nI (by omega), (h.F hs).2.1]
  exact bnd (comM h hs (nN u) 0 FU (by omega) (fu5 h))
theorem go_X (h : Rel u v) {s : Nat} (hs : s < 5) : fX1_goingFrom u (nI s) = some (nI (GN u s)) := by
  unfold fX1_goingFrom
  exact bnd (goX h hs (nN u) 0 FU (by omega) (fu5 h))
theorem go_M (h : Rel u v) {s : Nat} (hs : s < 5) : fX8_goes v (nI s) = some (nI (GN u s)) := by
  unfold fX8_goes
  exact bnd (goM h hs (nN u) 0 FU (by omega) (fu5 h))
theorem sim_water (h : Rel u v) (a1 a2 : Int32) : Sr (fX7_water u a1 a2) (fX8_water v a1 a2) := by
  unfold fX7_water fX8_water
  refine sh (P := Sr) h Sr_some (fun j hj ej => ?_)
  refine sw (P := Sr) (lo := 0) (hi := 1) (by decide) (by decide) Sr_some (fun _ _ => ?_)
  subst ej
  have h5 := h.j5 hj
  rw [com_X h h5, com_M h h5, go_X h h5, go_M h h5]
  exact s_ite (P := Sr) (fun _ => Sr_some) (fun _ => Sr_some)
/-! count -/
def one (x : Nat) : Nat := if x = 0 then 0 else 1
theorem nI_le0 {x : Nat} (hx : x < 2 ^ 31) : nI x ≤ 0 ↔ x = 0 := by
  rw [show (0 : Int32) = nI 0 from rfl, nI_leI hx (by decide)]
  omega
theorem frX (h : Rel u v) : ∀ (k i f : Nat), i + k = nN u → k < f → fX1_allFresh_4 u f (nI (fb_sm (FN u) i)) (nI i) = some (nI (fb_sm (FN u) (nN u))) := by
  have hn := h.nle
  intro k
  induction k with
  | zero =>
    intro i f hi hf
    obtain ⟨f, rfl⟩ := fuel1 hf
    rw [fX1_allFresh_4, if_pos ((h.lX (by omega)).mpr (by omega)), show i = nN u by omega]
  | succ k ih =>
    intro i f hi hf
    obtain ⟨f, rfl⟩ := fuel1 hf
    have q := ih (i + 1) f (by omega) (by omega)
    rw [fb_sm_succ] at q
    rw [fX1_allFresh_4, if_neg (fun c => by have := (h.lX (by omega)).mp c; omega), gd_t (vin_nI (show i < 5 by omega) (by decide)), cl_nI (by omega), (h.F (show i < 5 by omega)).1, nI_add, nI_1]
    exact q
theorem piX (h : Rel u v) {s : Nat} (hs : s < 5) (c : Nat) : ∀ (k i f : Nat), i + k = nN u → k < f → fX1_pipesInUse_34 u (nI s) f (nI (c + fb_sm (fun r => one (PN u s r)) i)) (nI i) = some (nI (c + fb_sm (fun r => one (PN u s r)) (nN u))) := by
  have hn := h.nle
  intro k
  induction k with
  | zero =>
    intro i f hi hf
    obtain ⟨f, rfl⟩ := fuel1 hf
    rw [fX1_pipesInUse_34, if_pos ((h.lX (by omega)).mpr (by omega)), show i = nN u by omega]
  | succ k ih =>
    intro i f hi hf
    obtain ⟨f, rfl⟩ := fuel1 hf
    have q := ih (i + 1) f (by omega) (by omega)
    rw [fb_sm_succ, ← Nat.add_assoc] at q
    have hp := h.P hs (show i < 5 by omega)
    rw [fX1_pipesInUse_34, if_neg (fun c => by have := (h.lX (by omega)).mp c; omega), gd_t (vin_nI (show i < 5 by omega) (by decide)), cl_nI (by omega), cl_nI (by omega), hp.1]
    by_cases z : PN u s i = 0
    · rw [if_pos ((nI_le0 (by omega)).mpr z), show (0 : Int32) = nI 0 from rfl, nI_add, nI_1]
      rw [show one (PN u s i) = 0 by unfold one; rw [if_pos z]] at q
      exact q
    · rw [if_neg (fun c => z ((nI_le0 (by omega)).mp c)), nI_1, nI_1]
      rw [show one (PN u s i) = 1 by unfold one; rw [if_neg z]] at q
      exact q
theorem piM (h : Rel u v) {s : Nat} (hs : s < 5) (c : Nat) : ∀ (k i f : Nat), i + k = nN u → k < f → fX8_count_52 v (nI s) f (nI (c + fb_sm (fun r => one (PN u s r)) i)) (nI i) = some (nI (c + fb_sm (fun r => one (PN u s r)) (nN u))) := by
  have hn := h.nle
  intro k
  induction k with
  | zero =>
    intro i f hi hf
    obtain ⟨f, rfl⟩ := fuel1 hf
    rw [fX8_count_52, if_pos ((h.lM (by omega)).mpr (by omega)), show i = nN u by omega]
  | succ k ih =>
    intro i f hi hf
    obtain ⟨f, rfl⟩ := fuel1 hf
    have q := ih (i + 1) f (by omega) (by omega)
    rw [fb_sm_succ, ← Nat.add_assoc] at q
    have hp := h.P hs (show i < 5 by omega)
    have x5 := ix5' hs (show i < 5 by omega)
    rw [fX8_count_52, if_neg (fun c => by have := (h.lM (by omega)).mp c; omega), gd_t x5.1, x5.2, hp.2.1]
    by_cases z : PN u s i = 0
    · rw [if_pos ((nI_le0 (by omega)).mpr z), show (0 : Int32) = nI 0 from rfl, nI_add, nI_1]
      rw [show one (PN u s i) = 0 by unfold one; rw [if_pos z]] at q
      exact q
    · rw [if_neg (fun c => z ((nI_le0 (by omega)).mp c)), nI_1, nI_1]
      rw [show one (PN u s i) = 1 by unfold one; rw [if_neg z]] at q
      exact q
def usN (u : UX) (s : Nat) : Nat := one (FN u s) + fb_sm (fun r => one (PN u s r)) (nN u)
theorem usX (h : Rel u v) : ∀ (k i f : Nat), i + k = nN u → k < f → fX1_pipesInUse_4 u f (nI (fb_sm (usN u) i)) (nI i) = some (nI (fb_sm (usN u) (nN u))) := by
  have hn := h.nle
  intro k
  induction k with
  | zero =>
    intro i f hi hf
    obtain ⟨f, rfl⟩ := fuel1 hf
    rw [fX1_pipesInUse_4, if_pos ((h.lX (by omega)).mpr (by omega)), show i = nN u by omega]
  | succ k ih =>
    intro i f hi hf
    obtain ⟨f, rfl⟩ := fuel1 hf
    have q := ih (i + 1) f (by omega) (by omega)
    rw [fb_sm_succ] at q
    have hF := h.F (show i < 5 by omega)
    have e : (if nI (FN u i) ≤ 0 then some (0 : Int32) else some 1) = some (nI (one (FN u i))) := by
      unfold one
      by_cases z : FN u i = 0
      · rw [if_pos ((nI_le0 (by omega)).mpr z), if_pos z]; rfl
      · rw [if_neg (fun c => z ((nI_le0 (by omega)).mp c)), if_neg z]; rfl
    rw [fX1_pipesInUse_4, if_neg (fun c => by have := (h.lX (by omega)).mp c; omega), gd_t (vin_nI (show i < 5 by omega) (by decide)), cl_nI (by omega), hF.1, bnd e, nI_add]
    have p := piX h (show i < 5 by omega) (fb_sm (usN u) i + one (FN u i)) (nN u) 0 FU (by omega) (fu5 h)
    rw [show fb_sm (fun r => one (PN u i r)) 0 = 0 from rfl, Nat.add_zero] at p
    rw [show (0 : Int32) = nI 0 from rfl, bnd p, nI_1, Nat.add_assoc]
    exact q
theorem usM (h : Rel u v) : ∀ (k i f : Nat), i + k = nN u → k < f → fX8_count_12 v f (nI (fb_sm (FN u) i)) (nI (fb_sm (usN u) i)) (nI i) = some (nI (fb_sm (FN u) (nN u)), nI (fb_sm (usN u) (nN u))) := by
  have hn := h.nle
  intro k
  induction k with
  | zero =>
    intro i f hi hf
    obtain ⟨f, rfl⟩ := fuel1 hf
    rw [fX8_count_12, if_pos ((h.lM (by omega)).mpr (by omega)), show i = nN u by omega]
  | succ k ih =>
    intro i f hi hf
    obtain ⟨f, rfl⟩ := fuel1 hf
    have q := ih (i + 1) f (by omega) (by omega)
    rw [fb_sm_succ, fb_sm_succ] at q
    have hF := h.F (show i < 5 by omega)
    have e : (if nI (FN u i) ≤ 0 then some (0 : Int32) else some 1) = some (nI (one (FN u i))) := by
      unfold one
      by_cases z : FN u i = 0
      · rw [if_pos ((nI_le0 (by omega)).mpr z), if_pos z]; rfl
      · rw [if_neg (fun c => z ((nI_le0 (by omega)).mp c)), if_neg z]; rfl
    rw [fX8_count_12, if_neg (fun c => by have := (h.lM (by omega)).mp c; omega), gd_t (vin_nI (show i < 5 by omega) (by decide)), cl_nI (by omega), hF.2.1, bnd e, nI_add]
    have p := piM h (show i < 5 by omega) (fb_sm (usN u) i + one (FN u i)) (nN u) 0 FU (by omega) (fu5 h)
    rw [show fb_sm (fun r => one (PN u i r)) 0 = 0 from rfl, Nat.add_zero] at p
    rw [show (0 : Int32) = nI 0 from rfl, bnd p, nI_1, nI_add, Nat.add_assoc]
    exact q
theorem sim_count (h : Rel u v) (a1 : Int32) : Sr (fX7_count u a1) (fX8_count v a1) := by
  unfold fX7_count fX8_count
  have e1 : fX8_count_12 v FU 0 0 0 = some (nI (fb_sm (FN u) (nN u)), nI (fb_sm (usN u) (nN u))) := usM h (nN u) 0 FU (by omega) (fu5 h)
  have e2 : fX1_allFresh u = some (nI (fb_sm (FN u) (nN u))) := bnd (frX h (nN u) 0 FU (by omega) (fu5 h))
  have e3 : fX1_pipesInUse u = some (nI (fb_sm (usN u) (nN u))) := bnd (usX h (nN u) 0 FU (by omega) (fu5 h))
  rw [bnd e1, e2, e3]
  have r4 : ∀ j, j < 3 → v.1 4 j = u.1 4 j := fun j hj => h.at (k := 4) (j := j) (stc_lt (by decide)) hj
  refine s_ite (P := Sr) (fun _ => ?_) (fun _ => ?_)
  · rw [h.2.2.1]; exact Sr_some
  refine s_ite (P := Sr) (fun _ => Sr_some) (fun _ => ?_)
  refine s_ite (P := Sr) (fun _ => Sr_some) (fun _ => ?_)
  refine s_ite (P := Sr) (fun _ => ?_) (fun _ => ?_)
  · rw [h.2.2.2.1]; exact Sr_some
  refine s_ite (P := Sr) (fun c => ?_) (fun _ => ?_)
  · subst c
    show Sr (some (u.1 4 0)) (some (v.1 4 0))
    rw [r4 0 (by decide)]; exact Sr_some
  refine s_ite (P := Sr) (fun c => ?_) (fun _ => ?_)
  · subst c
    show Sr (some (u.1 4 1)) (some (v.1 4 1))
    rw [r4 1 (by decide)]; exact Sr_some
  refine s_ite (P := Sr) (fun c => ?_) (fun _ => Sr_some)
  · subst c
    show Sr (some (u.1 4 2)) (some (v.1 4 2))
    rw [r4 2 (by decide)]; exact Sr_some
end SC
