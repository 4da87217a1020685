/-! the two worlds as the constructors leave them -/
def u0 : UX := (fun k => if k = 4 then upd (fun _ => 0) 0 10 else fun _ => 0, fun _ => (0, 1), 0, 0, 0)
def v0 : UM := (fun k => if k = 4 then upd (fun _ => 0) 0 10 else fun _ => 0, fun _ _ => 0, 0, 0, 0)
theorem Rel0 : Rel u0 v0 := by
  have b0 : ∀ hi, bd 0 0 hi := fun hi => ⟨by decide, Nat.zero_le _, Nat.zero_le _⟩
  refine ⟨b0 5, b0 8, rfl, rfl, rfl, fun k j hk hj => ?_, fun j hj => absurd hj (Nat.not_lt_zero j)⟩
  by_cases c : k = 4
  · subst c
    refine ⟨?_, rfl⟩
    show okA 0 0 4 j (upd (fun _ => 0) 0 10 j)
    have hj : j < 3 := hj
    rcases (show j = 0 ∨ j = 1 ∨ j = 2 by omega) with rfl | rfl | rfl
    · show bd 10 0 100
      exact ⟨by decide, by decide, by decide⟩
    · show bd 0 0 40
      exact b0 40
    · show bd 0 0 2
      exact b0 2
  · have e1 : u0.1 k j = 0 := by unfold u0; simp [c]
    have e2 : v0.1 (mk k) (mj k j) = 0 := by
      have hq : ¬ mk k = 4 := by
        unfold stc at hk
        unfold mk
        repeat' split
        all_goals omega
      unfold v0
      simp [hq]
    rw [e1, e2]
    refine ⟨?_, rfl⟩
    show okA 0 0 k j 0
    unfold okA
    repeat' split
    all_goals first | exact fun q => absurd q (Nat.not_lt_zero j) | exact b0 _ | exact ⟨b0 _, fun _ => rfl⟩
theorem at_q {D : va_G} {a n : Nat} {cA : ClassId} {f g : Nat → Option Nat} {H : Heap} (h : va_at D vwCl (a, .inl (cA, n, .inr (.inr (.inr (.inr f))))) H) (e : ∀ j, j < n → f j = g j) : va_at D vwCl (a, .inl (cA, n, .inr (.inr (.inr (.inr g))))) H := by
  have h1 : H[a]? = some (vp_cell cA (n, .inr (.inr (.inr (.inr f))))) := h
  show H[a]? = some (vp_cell cA (n, .inr (.inr (.inr (.inr g)))))
  rw [h1, vp_cell_q, vp_cell_q]
  unfold arrV
  congr 3
  funext j
  show va_rf (f j.val) = va_rf (g j.val)
  rw [e j.val j.isLt]
theorem dis_of {A : Nat → Prop} {ws : va_W} {aa : Nat → Nat} {n : Nat} (ps : List Nat) (hD : va_D A ws) (hn : ps.Nodup) (hl : ps.length = n) (e : ps.map (fun i => (ws[i]?).map Prod.fst) = (List.range n).map (fun k => some (aa k))) : (∀ i j, i < n → j < n → aa i = aa j → i = j) ∧ ∀ i, i < n → A (aa i) := by
  have g : ∀ i, i < n → ∃ (q : Nat) (x : Nat × va_E), ps[i]? = some q ∧ ws[q]? = some x ∧ x.1 = aa i := by
    intro i hi
    have e1 : (ps.map (fun i => (ws[i]?).map Prod.fst))[i]? = ((List.range n).map (fun k => some (aa k)))[i]? := by rw [e]
    rw [List.getElem?_map, List.getElem?_map, List.getElem?_range hi] at e1
    cases hq : ps[i]? with
    | none => rw [hq] at e1; cases e1
    | some q =>
      rw [hq] at e1
      have e2 : (ws[q]?).map Prod.fst = some (aa i) := Option.some.inj e1
      cases hw : ws[q]? with
      | none => rw [hw] at e2; cases e2
      | some x => rw [hw] at e2; exact ⟨q, x, rfl, hw, Option.some.inj e2⟩
  refine ⟨fun i j hi hj hij => ?_, fun i hi => ?_⟩
  · obtain ⟨q, x, a1, a2, a3⟩ := g i hi
    obtain ⟨r, y, b1, b2, b3⟩ := g j hj
    have e3 := hD.1 q r x y a2 b2 (by rw [a3, b3, hij])
    exact (List.getElem?_inj (show i < ps.length by omega) hn).mp (by rw [a1, b1, e3])
  · obtain ⟨q, x, a1, a2, a3⟩ := g i hi
    rw [← a3]
    exact hD.2 q x a2
abbrev S7 : Type := (Nat × (Nat → Nat) × Nat × (Nat → Nat) × Nat × (Nat → Nat) × Nat × (Nat → Nat) × Nat × (Nat → Nat) × Nat)
def LX7 (cs : Nat → ClassId) (h0 : Nat) (u : S7) : va_W := [(h0, .inr (6, [.ref u.1, .ref u.2.2.1, .ref u.2.2.2.2.1, .ref u.2.2.2.2.2.2.1, .ref u.2.2.2.2.2.2.2.2.1, .ref u.2.2.2.2.2.2.2.2.2.2, .long 0])), (u.1, .inr (4, [.ref (u.2.1 0), .ref (u.2.1 1), .ref (u.2.1 2), .ref (u.2.1 3), .int 0])), ((u.2.1 0), .inl (cs 0, 5, .inl (fun _ => 0))), ((u.2.1 1), .inl (cs 0, 5, .inl (fun _ => 0))), ((u.2.1 2), .inl (cs 0, 5, .inl (fun _ => 0))), ((u.2.1 3), .inl (cs 0, 5, .inl (fun _ => 0))), (u.2.2.1, .inr (2, [.ref u.1, .ref (u.2.2.2.1 0)])), ((u.2.2.2.1 0), .inl (cs 0, 3, .inl (upd (fun _ => 0) 0 10))), (u.2.2.2.2.1, .inr (0, [.ref u.1, .ref (u.2.2.2.2.2.1 0), .ref (u.2.2.2.2.2.1 1), .ref (u.2.2.2.2.2.1 7), .ref (u.2.2.2.2.2.1 8), .ref (u.2.2.2.2.2.1 9), .ref (u.2.2.2.2.2.1 10), .ref (u.2.2.2.2.2.1 11)])), ((u.2.2.2.2.2.1 0), .inl (cs 0, 5, .inl (fun _ => 0))), ((u.2.2.2.2.2.1 1), .inl (cs 2, 5, .inr (.inr (.inr (.inr (fun i => [some (u.2.2.2.2.2.1 2), some (u.2.2.2.2.2.1 3), some (u.2.2.2.2.2.1 4), some (u.2.2.2.2.2.1 5), some (u.2.2.2.2.2.1 6)].getD i none)))))), ((u.2.2.2.2.2.1 2), .inl (cs 0, 5, .inl (fun _ => 0))), ((u.2.2.2.2.2.1 3), .inl (cs 0, 5, .inl (fun _ => 0))), ((u.2.2.2.2.2.1 4), .inl (cs 0, 5, .inl (fun _ => 0))), ((u.2.2.2.2.2.1 5), .inl (cs 0, 5, .inl (fun _ => 0))), ((u.2.2.2.2.2.1 6), .inl (cs 0, 5, .inl (fun _ => 0))), ((u.2.2.2.2.2.1 7), .inl (cs 1, 5, .inl (fun _ => 0))), ((u.2.2.2.2.2.1 8), .inl (cs 0, 5, .inl (fun _ => 0))), ((u.2.2.2.2.2.1 9), .inl (cs 3, 5, .inr (.inr (.inr (.inr (va_up (va_up (va_up (va_up (va_up (fun _ => none) 0 (some (u.2.2.2.2.2.1 12))) 1 (some (u.2.2.2.2.2.1 14))) 2 (some (u.2.2.2.2.2.1 16))) 3 (some (u.2.2.2.2.2.1 18))) 4 (some (u.2.2.2.2.2.1 20)))))))), ((u.2.2.2.2.2.1 10), .inl (cs 3, 5, .inr (.inr (.inr (.inr (va_up (va_up (va_up (va_up (va_up (fun _ => none) 0 (some (u.2.2.2.2.2.1 13))) 1 (some (u.2.2.2.2.2.1 15))) 2 (some (u.2.2.2.2.2.1 17))) 3 (some (u.2.2.2.2.2.1 19))) 4 (some (u.2.2.2.2.2.1 21)))))))), ((u.2.2.2.2.2.1 11), .inl (cs 0, 5, .inl (fun _ => 0))), ((u.2.2.2.2.2.1 12), .inr (1, [.long 0, .long 1])), ((u.2.2.2.2.2.1 13), .inr (1, [.long 0, .long 1])), ((u.2.2.2.2.2.1 14), .inr (1, [.long 0, .long 1])), ((u.2.2.2.2.2.1 15), .inr (1, [.long 0, .long 1])), ((u.2.2.2.2.2.1 16), .inr (1, [.long 0, .long 1])), ((u.2.2.2.2.2.1 17), .inr (1, [.long 0, .long 1])), ((u.2.2.2.2.2.1 18), .inr (1, [.long 0, .long 1])), ((u.2.2.2.2.2.1 19), .inr (1, [.long 0, .long 1])), ((u.2.2.2.2.2.1 20), .inr (1, [.long 0, .long 1])), ((u.2.2.2.2.2.1 21), .inr (1, [.long 0, .long 1])), (u.2.2.2.2.2.2.1, .inr (5, [.ref (u.2.2.2.2.2.2.2.1 0), .ref (u.2.2.2.2.2.2.2.1 1)])), ((u.2.2.2.2.2.2.2.1 0), .inl (cs 0, 24, .inl (fun _ => 0))), ((u.2.2.2.2.2.2.2.1 1), .inl (cs 0, 24, .inl (fun _ => 0))), (u.2.2.2.2.2.2.2.2.1, .inr (3, [.ref (u.2.2.2.2.2.2.2.2.2.1 0), .ref (u.2.2.2.2.2.2.2.2.2.1 1), .int 0])), ((u.2.2.2.2.2.2.2.2.2.1 0), .inl (cs 0, 8, .inl (fun _ => 0))), ((u.2.2.2.2.2.2.2.2.2.1 1), .inl (cs 0, 8, .inl (fun _ => 0))), (u.2.2.2.2.2.2.2.2.2.2, .inr (1, [.long 0, .long 1]))]
def LX8 (cs : Nat → ClassId) (h0 : Nat) (u : Nat → Nat) : va_W := [(h0, .inr (7, [.int 0, .long 0, .int 0, .ref (u 0), .ref (u 1), .ref (u 2), .ref (u 3), .ref (u 4), .ref (u 5), .ref (u 6), .ref (u 7), .ref (u 8), .ref (u 9), .ref (u 10), .ref (u 11), .ref (u 12), .ref (u 13), .int 0, .ref (u 14), .ref (u 15)])), ((u 0), .inl (cs 0, 5, .inl (fun _ => 0))), ((u 1), .inl (cs 0, 5, .inl (fun _ => 0))), ((u 2), .inl (cs 0, 5, .inl (fun _ => 0))), ((u 3), .inl (cs 0, 5, .inl (fun _ => 0))), ((u 4), .inl (cs 0, 3, .inl (upd (fun _ => 0) 0 10))), ((u 5), .inl (cs 0, 5, .inl (fun _ => 0))), ((u 6), .inl (cs 0, 25, .inl (fun _ => 0))), ((u 7), .inl (cs 4, 5, .inr (.inl (fun _ => 0)))), ((u 8), .inl (cs 4, 5, .inr (.inl (fun _ => 0)))), ((u 9), .inl (cs 4, 5, .inr (.inl (fun _ => 0)))), ((u 10), .inl (cs 4, 5, .inr (.inl (fun _ => 0)))), ((u 11), .inl (cs 1, 5, .inl (fun _ => 0))), ((u 12), .inl (cs 0, 5, .inl (fun _ => 0))), ((u 13), .inl (cs 0, 48, .inl (fun _ => 0))), ((u 14), .inl (cs 0, 8, .inl (fun _ => 0))), ((u 15), .inl (cs 0, 8, .inl (fun _ => 0)))]
def ad7 (h0 : Nat) (u : S7) : Nat → Nat := fun k => [(u.2.1 0), (u.2.1 1), (u.2.1 2), (u.2.1 3), (u.2.2.2.1 0), (u.2.2.2.2.2.1 0), (u.2.2.2.2.2.1 2), (u.2.2.2.2.2.1 3), (u.2.2.2.2.2.1 4), (u.2.2.2.2.2.1 5), (u.2.2.2.2.2.1 6), (u.2.2.2.2.2.1 7), (u.2.2.2.2.2.1 8), (u.2.2.2.2.2.1 11), (u.2.2.2.2.2.2.2.1 0), (u.2.2.2.2.2.2.2.1 1), (u.2.2.2.2.2.2.2.2.2.1 0), (u.2.2.2.2.2.2.2.2.2.1 1), u.2.2.2.2.2.2.2.2.2.2, (u.2.2.2.2.2.1 12), (u.2.2.2.2.2.1 14), (u.2.2.2.2.2.1 16), (u.2.2.2.2.2.1 18), (u.2.2.2.2.2.1 20), (u.2.2.2.2.2.1 13), (u.2.2.2.2.2.1 15), (u.2.2.2.2.2.1 17), (u.2.2.2.2.2.1 19), (u.2.2.2.2.2.1 21), h0, u.1, u.2.2.1, u.2.2.2.2.1, u.2.2.2.2.2.2.1, u.2.2.2.2.2.2.2.2.1, (u.2.2.2.2.2.1 1), (u.2.2.2.2.2.1 9), (u.2.2.2.2.2.1 10)].getD k 0
def am8 (h0 : Nat) (u : Nat → Nat) : Nat → Nat := fun k => [(u 0), (u 1), (u 2), (u 3), (u 4), (u 5), (u 6), (u 11), (u 12), (u 13), (u 14), (u 15), (u 7), (u 8), (u 9), (u 10), h0].getD k 0
def cm8 (cs : Nat → ClassId) : Nat → ClassId := fun k => if k = 0 then cs 0 else if k = 1 then cs 1 else cs 4
section ASM
variable {D : va_G} {cs : Nat → ClassId} {h0 g0 : Nat} {u : S7} {w : Nat → Nat} {H : Heap}
theorem in7 {k : Nat} {x : Nat × va_E} (hP : va_P D vwCl (LX7 cs h0 u ++ LX8 cs g0 w) H) (h : (LX7 cs h0 u)[k]? = some x) : va_at D vwCl x H := hP k x (by rw [List.getElem?_append_left (List.getElem?_eq_some_iff.mp h).1]; exact h)
theorem in8 {k : Nat} {x : Nat × va_E} (hP : va_P D vwCl (LX7 cs h0 u ++ LX8 cs g0 w) H) (h : (LX8 cs g0 w)[k]? = some x) : va_at D vwCl x H := hP (38 + k) x (by rw [List.getElem?_append_right (show 38 ≤ 38 + k by omega)]; exact (congrArg (fun j => (LX8 cs g0 w)[j]?) (show 38 + k - 38 = k by omega)).trans h)
set_option maxHeartbeats 4000000 in
set_option maxRecDepth 100000 in
theorem asmX (hP : va_P D vwCl (LX7 cs h0 u ++ LX8 cs g0 w) H) : va_P D vwCl (wX (ad7 h0 u) cs u0) H := by
  intro k q hk
  obtain ⟨h1, rfl⟩ := wX_of hk
  match k, h1 with
  | 0, _ => exact in7 (k := 2) hP rfl
  | 1, _ => exact in7 (k := 3) hP rfl
  | 2, _ => exact in7 (k := 4) hP rfl
  | 3, _ => exact in7 (k := 5) hP rfl
  | 4, _ => exact in7 (k := 7) hP rfl
  | 5, _ => exact in7 (k := 9) hP rfl
  | 6, _ => exact in7 (k := 11) hP rfl
  | 7, _ => exact in7 (k := 12) hP rfl
  | 8, _ => exact in7 (k := 13) hP rfl
  | 9, _ => exact in7 (k := 14) hP rfl
  | 10, _ => exact in7 (k := 15) hP rfl
  | 11, _ => exact in7 (k := 16) hP rfl
  | 12, _ => exact in7 (k := 17) hP rfl
  | 13, _ => exact in7 (k := 20) hP rfl
  | 14, _ => exact in7 (k := 32) hP rfl
  | 15, _ => exact in7 (k := 33) hP rfl
  | 16, _ => exact in7 (k := 35) hP rfl
  | 17, _ => exact in7 (k := 36) hP rfl
  | 18, _ => exact in7 (k := 37) hP rfl
  | 19, _ => exact in7 (k := 21) hP rfl
  | 20, _ => exact in7 (k := 23) hP rfl
  | 21, _ => exact in7 (k := 25) hP rfl
  | 22, _ => exact in7 (k := 27) hP rfl
  | 23, _ => exact in7 (k := 29) hP rfl
  | 24, _ => exact in7 (k := 22) hP rfl
  | 25, _ => exact in7 (k := 24) hP rfl
  | 26, _ => exact in7 (k := 26) hP rfl
  | 27, _ => exact in7 (k := 28) hP rfl
  | 28, _ => exact in7 (k := 30) hP rfl
  | 29, _ => exact in7 (k := 0) hP rfl
  | 30, _ => exact in7 (k := 1) hP rfl
  | 31, _ => exact in7 (k := 6) hP rfl
  | 32, _ => exact in7 (k := 8) hP rfl
  | 33, _ => exact in7 (k := 31) hP rfl
  | 34, _ => exact in7 (k := 34) hP rfl
  | 35, _ => exact at_q (in7 (k := 10) hP rfl) (fun j hj => by rcases (show j = 0 ∨ j = 1 ∨ j = 2 ∨ j = 3 ∨ j = 4 by omega) with rfl | rfl | rfl | rfl | rfl <;> rfl)
  | 36, _ => exact at_q (in7 (k := 18) hP rfl) (fun j hj => by rcases (show j = 0 ∨ j = 1 ∨ j = 2 ∨ j = 3 ∨ j = 4 by omega) with rfl | rfl | rfl | rfl | rfl <;> rfl)
  | 37, _ => exact at_q (in7 (k := 19) hP rfl) (fun j hj => by rcases (show j = 0 ∨ j = 1 ∨ j = 2 ∨ j = 3 ∨ j = 4 by omega) with rfl | rfl | rfl | rfl | rfl <;> rfl)
  | k + 38, h => exact absurd h (by omega)
set_option maxHeartbeats 4000000 in
set_option maxRecDepth 100000 in
theorem asmM (hP : va_P D vwCl (LX7 cs h0 u ++ LX8 cs g0 w) H) : va_P D vwCl (wM (am8 g0 w) (cm8 cs) v0) H := by
  intro k q hk
  obtain ⟨h1, rfl⟩ := wM_of hk
  match k, h1 with
  | 0, _ => exact in8 (k := 1) hP rfl
  | 1, _ => exact in8 (k := 2) hP rfl
  | 2, _ => exact in8 (k := 3) hP rfl
  | 3, _ => exact in8 (k := 4) hP rfl
  | 4, _ => exact in8 (k := 5) hP rfl
  | 5, _ => exact in8 (k := 6) hP rfl
  | 6, _ => exact in8 (k := 7) hP rfl
  | 7, _ => exact in8 (k := 12) hP rfl
  | 8, _ => exact in8 (k := 13) hP rfl
  | 9, _ => exact in8 (k := 14) hP rfl
  | 10, _ => exact in8 (k := 15) hP rfl
  | 11, _ => exact in8 (k := 16) hP rfl
  | 12, _ => exact in8 (k := 8) hP rfl
  | 13, _ => exact in8 (k := 9) hP rfl
  | 14, _ => exact in8 (k := 10) hP rfl
  | 15, _ => exact in8 (k := 11) hP rfl
  | 16, _ => exact in8 (k := 0) hP rfl
  | k + 17, h => exact absurd h (by omega)
set_option maxHeartbeats 4000000 in
set_option maxRecDepth 100000 in
theorem asmD {A : Nat → Prop} (hD : va_D A (LX7 cs h0 u ++ LX8 cs g0 w)) : XJ (ad7 h0 u) ∧ MJ (am8 g0 w) ∧ (∀ i j, i < 38 → j < 17 → ad7 h0 u i ≠ am8 g0 w j) ∧ (∀ i, i < 38 → A (ad7 h0 u i)) ∧ ∀ i, i < 17 → A (am8 g0 w i) := by
  obtain ⟨h1, h2⟩ := dis_of (aa := fun k => if k < 38 then ad7 h0 u k else am8 g0 w (k - 38)) (n := 55) [2, 3, 4, 5, 7, 9, 11, 12, 13, 14, 15, 16, 17, 20, 32, 33, 35, 36, 37, 21, 23, 25, 27, 29, 22, 24, 26, 28, 30, 0, 1, 6, 8, 31, 34, 10, 18, 19, 39, 40, 41, 42, 43, 44, 45, 50, 51, 52, 53, 54, 46, 47, 48, 49, 38] hD (by decide) rfl rfl
  have ex : ∀ i, i < 38 → (if i < 38 then ad7 h0 u i else am8 g0 w (i - 38)) = ad7 h0 u i := fun i hi => if_pos hi
  have em : ∀ i, (if 38 + i < 38 then ad7 h0 u (38 + i) else am8 g0 w (38 + i - 38)) = am8 g0 w i := fun i => by rw [if_neg (by omega), Nat.add_sub_cancel_left]
  refine ⟨fun i j hi hj e => h1 i j (by omega) (by omega) (by show (if _ then _ else _) = (if _ then _ else _); rw [ex i hi, ex j hj, e]), fun i j hi hj e => ?_, fun i j hi hj e => ?_, fun i hi => ?_, fun i hi => ?_⟩
  · have := h1 (38 + i) (38 + j) (by omega) (by omega) (by show (if _ then _ else _) = (if _ then _ else _); rw [em i, em j, e])
    omega
  · have := h1 i (38 + j) (by omega) (by omega) (by show (if _ then _ else _) = (if _ then _ else _); rw [ex i hi, em j, e])
    omega
  · have := h2 i (by omega)
    rw [← ex i hi]; exact this
  · have := h2 (38 + i) (by omega)
    rw [← em i]; exact this
end ASM
theorem start_C {s : State} {b : Nat} (hts : ∀ w ∈ lw_tbl, w.before #[Value.ref b] s = true) : ∃ (D : va_G) (cs : Nat → ClassId), kC D cs s.heap.size s := by
  have hg : ∀ w ∈ wsG, w.before #[Value.ref b] s = true := fun w h => hts w (List.mem_filter.mp h).1
  obtain ⟨c1, i1, n1⟩ := u_known (C := RX1) (T := TX1) (N := 8) (n := 8) hg inG_X1 (hg _ kw_87)
  obtain ⟨c2, i2, n2⟩ := u_known (C := RX2) (T := TX2) (N := 2) (n := 2) hg inG_X2 (hg _ kw_96)
  obtain ⟨c3, i3, n3⟩ := u_known (C := RX3) (T := TX3) (N := 2) (n := 2) hg inG_X3 (hg _ kw_73)
  obtain ⟨c4, i4, n4⟩ := u_known (C := RX4) (T := TX4) (N := 3) (n := 3) hg inG_X4 (hg _ kw_156)
  obtain ⟨c5, i5, n5⟩ := u_known (C := RX5) (T := TX5) (N := 5) (n := 5) hg inG_X5 (hg _ kw_41)
  obtain ⟨c6, i6, n6⟩ := u_known (C := RX6) (T := TX6) (N := 2) (n := 2) hg inG_X6 (hg _ kw_141)
  obtain ⟨c7, i7, n7⟩ := u_known (C := RX7) (T := TX7) (N := 7) (n := 7) hg inG_X7 (hg _ kw_33)
  obtain ⟨c8, i8, n8⟩ := u_known (C := RX8) (T := TX8) (N := 20) (n := 20) hg inG_X8 (hg _ kw_495)
  obtain ⟨a0, ka0, co0, f0, g0, r0⟩ := Cond.arrayClass_spec (hg _ kw_71)
  obtain ⟨a1, ka1, co1, f1, g1, r1⟩ := Cond.arrayClass_spec (hg _ kw_110)
  obtain ⟨co2, a2, ka2, f2, _, g2, r2, s2⟩ := va_AOA.spec (U := s) (ty := .int) (hts _ kt_93)
  obtain ⟨co3, a3, ka3, f3, _, g3, r3, s3⟩ := Cond.arrayOver_spec (hts _ kt_95)
  obtain ⟨a4, ka4, co4, f4, g4, r4⟩ := Cond.arrayClass_spec (hg _ kw_561)
  refine ⟨(fun k => [c1, c2, c3, c4, c5, c6, c7, c8].getD k c1, fun k => [i1, i2, i3, i4, i5, i6, i7, i8].getD k i1), fun k => [a0, a1, a2, a3, a4].getD k a0, ⟨fun k q hq => ?_, fun k q hq => ?_⟩, fun w hw => ?_, va_AO.of (hts _ kt_95), hts _ kt_93, Nat.le_refl _⟩
  · match k, hq with
    | 0, hq => cases hq; exact n1
    | 1, hq => cases hq; exact n2
    | 2, hq => cases hq; exact n3
    | 3, hq => cases hq; exact n4
    | 4, hq => cases hq; exact n5
    | 5, hq => cases hq; exact n6
    | 6, hq => cases hq; exact n7
    | 7, hq => cases hq; exact n8
    | k + 8, hq => simp [vwCl] at hq
  · match k, hq with
    | 0, hq => cases hq; exact ⟨fun n z => ⟨fun k h => (by cases h), ka0, g0, co0, r0⟩, f0⟩
    | 1, hq => cases hq; exact ⟨fun n z => ⟨fun k h => (by cases h), ka1, g1, co1, r1⟩, f1⟩
    | 2, hq => cases hq; exact ⟨fun n z => ⟨fun k h => (by cases h), ka2, g2, co2, r2⟩, s2⟩
    | 3, hq => cases hq; exact ⟨fun n z => ⟨fun k h => (by cases h), ka3, g3, co3, r3⟩, ka3, co3, g3, r3, f3, s3⟩
    | 4, hq => cases hq; exact ⟨fun n z => ⟨fun k h => (by cases h), ka4, g4, co4, r4⟩, f4⟩
    | k + 5, hq => simp [tyC] at hq
  · have key : w.onTables = true := by
      simp only [nestW, List.mem_cons, List.not_mem_nil, or_false] at hw
      rcases hw with e | e | e | e | e | e | e | e | e | e | e | e | e | e | e | e | e | e | e | e | e | e | e | e | e | e <;> subst e <;> rfl
    exact va_Nw.of key (hts _ (nestW_tbl w hw))
theorem start_T {s : State} {b : Nat} {A : Nat → Prop} (hts : ∀ w ∈ lw_tbl, w.before #[Value.ref b] s = true) (hgv : (Jvm.Cond.and given_1 narrow_1).before #[Value.ref b] s = true) (hA : ∀ a : Nat, a < s.heap.size → ¬ A a) : ∃ tM, va_Z RX3 "MOST" "[I" (.ref tM) A s s.heap ∧ va_T .int tM 3 mostV A s s.heap := by
  have hs := flat_of_before _ hgv
  have k1 : (Cond.arrayOf (.static "WaterTwice$Limits" "MOST" "[I") .int).before #[Value.ref b] s = true := hs _ (by decide +kernel)
  have k2 : (Cond.eq (.length (.static "WaterTwice$Limits" "MOST" "[I")) (.int 3)).before #[Value.ref b] s = true := hs _ (by decide +kernel)
  have k3 : (Cond.eq (.elem (.static "WaterTwice$Limits" "MOST" "[I") (.int 0)) (.int 100)).before #[Value.ref b] s = true := hs _ (by decide +kernel)
  have k4 : (Cond.eq (.elem (.static "WaterTwice$Limits" "MOST" "[I") (.int 1)) (.int 40)).before #[Value.ref b] s = true := hs _ (by decide +kernel)
  have k5 : (Cond.eq (.elem (.static "WaterTwice$Limits" "MOST" "[I") (.int 2)) (.int 2)).before #[Value.ref b] s = true := hs _ (by decide +kernel)
  obtain ⟨tM, ht, hT⟩ := va_Tof (N := 3) (f := mostV) (A := A) (by decide) k1 (va_eqt k2) (fun j hj => by
    rcases (show j = 0 ∨ j = 1 ∨ j = 2 by omega) with rfl | rfl | rfl
    · exact va_eqt k3
    · exact va_eqt k4
    · exact va_eqt k5) hA
  exact ⟨tM, va_Zref (hts _ kt_227) (hts _ (List.mem_filter.mp kw_23).1) ht hA, hT⟩
