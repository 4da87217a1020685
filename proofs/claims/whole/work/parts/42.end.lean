set_option maxHeartbeats 4000000 in
set_option maxRecDepth 100000 in
/-- from the entry, for every script of at most 3072 ints, the law comes to its end with true -/
theorem whole_start {p : Program} {e : Env} {s : State} {m : MethodId} {below : List Frame} {meth : Method} {c : Code} (l : Launch) {b L : Nat} {xs : Nat → Int32} (hL : L ≤ 3072) (C0 : lw_At p s m meth c b L xs) : W p l e room_1 s m #[Value.ref b] below meth c s.heap [] 0 0 (lw_Z below #[Value.ref b] s) (entryFrame m ([Value.ref b] : List Value).toArray 4) := by
  obtain ⟨hx, hb, hr, hml, hown, hts, hX, hbl, hlocks, hgv⟩ := C0
  have hg : ∀ w ∈ wsG, w.before #[Value.ref b] s = true := fun w h => hts w (List.mem_filter.mp h).1
  obtain ⟨D, cs, hC⟩ := start_C hts
  have hS : va_S (kA s.heap.size) s.heap s.heap [] := va_S.rf
  have hP : va_P D vwCl ([] ++ []) s.heap := fun k q h => by simp at h
  have hD : va_D (kA s.heap.size) ([] ++ []) := ⟨fun i j p q h => by simp at h, fun k q h => by simp at h⟩
  have hl := lv_entry ([.ref b]) (n := 4) (Nat.le_of_ble_eq_true rfl)
  rw [lg_entry_eq]
  generalize (lg_sl ([.ref b]) ++ List.replicate (4 - (lg_sl ([.ref b])).length) Slot.unset).toArray = ls at hl ⊢
  have hl : lv_has ls 4 [(0, .ref b)] := hl
  refine k_new (ci := 6) (fs := [.null, .null, .null, .null, .null, .null, .long 0]) (C := RX7) (T := TX7) (N := 7) hx hb hg inG_X7 tyX7 tyX7_ok hown (hg _ kw_32) (hg _ kw_33) (hg _ kw_21) hC hP hD hS rfl (fun j hj => nd7 j hj) (Nat.le_of_ble_eq_true rfl) (Nat.le_of_ble_eq_true rfl) dL_law_0 (fun h0 H hP hD hS => ?_)
  have hP : va_P D vwCl ([] ++ [(h0, .inr (6, [.null, .null, .null, .null, .null, .null, .long 0]))]) H := hP
  have hD : va_D (kA s.heap.size) ([] ++ [(h0, .inr (6, [.null, .null, .null, .null, .null, .null, .long 0]))]) := hD
  refine lv_dup hx hb dL_law_3 rfl ?_
  refine kcI (As := []) (rest := [.ref h0]) 0 hC ⟨hx, hb, hml, hown, hts⟩ (mX7_init l D cs s.heap.size [] h0) (gGl kw_36) kw_34 kw_35 kw_21 rfl (by decide +kernel) ⟨rfl, rfl⟩ ⟨Nat.le_of_ble_eq_true rfl, Nat.le_of_ble_eq_true rfl⟩ hP hD hS ⟨Nat.le_of_ble_eq_true rfl, Nat.le_of_ble_eq_true rfl⟩ rfl hl.1 rfl (Nat.le_of_ble_eq_true rfl) dL_law_4 (fun u H locs hP hD hS => ?_)
  have hP : va_P D vwCl (LX7 cs h0 u) H := hP
  have hD : va_D (kA s.heap.size) (LX7 cs h0 u) := hD
  have hP : va_P D vwCl (LX7 cs h0 u ++ []) H := by rw [List.append_nil]; exact hP
  have hD : va_D (kA s.heap.size) (LX7 cs h0 u ++ []) := by rw [List.append_nil]; exact hD
  refine lv_astore_n (lv' := [(1, .ref h0), (0, .ref b)]) hx hb dL_law_7 rfl hl (by decide) rfl (fun ls hl => ?_)
  refine k_new (ci := 7) (fs := [.int 0, .long 0, .int 0, .null, .null, .null, .null, .null, .null, .null, .null, .null, .null, .null, .null, .null, .null, .int 0, .null, .null]) (C := RX8) (T := TX8) (N := 20) hx hb hg inG_X8 tyX8 tyX8_ok hown (hg _ kw_494) (hg _ kw_495) (hg _ kw_28) hC hP hD hS rfl (fun j hj => nd8 j hj) (Nat.le_of_ble_eq_true rfl) (Nat.le_of_ble_eq_true rfl) dL_law_8 (fun g0 H hP hD hS => ?_)
  have hP : va_P D vwCl (LX7 cs h0 u ++ [(g0, .inr (7, [.int 0, .long 0, .int 0, .null, .null, .null, .null, .null, .null, .null, .null, .null, .null, .null, .null, .null, .null, .int 0, .null, .null]))]) H := hP
  have hD : va_D (kA s.heap.size) (LX7 cs h0 u ++ [(g0, .inr (7, [.int 0, .long 0, .int 0, .null, .null, .null, .null, .null, .null, .null, .null, .null, .null, .null, .null, .null, .null, .int 0, .null, .null]))]) := hD
  refine lv_dup hx hb dL_law_11 rfl ?_
  refine kcI (As := []) (rest := [.ref g0]) 0 hC ⟨hx, hb, hml, hown, hts⟩ (mX8_init l D cs s.heap.size (LX7 cs h0 u) g0) (gGl kw_498) kw_496 kw_497 kw_28 rfl (by decide +kernel) ⟨rfl, rfl⟩ ⟨Nat.le_of_ble_eq_true rfl, Nat.le_of_ble_eq_true rfl⟩ hP hD hS ⟨Nat.le_of_ble_eq_true rfl, Nat.le_of_ble_eq_true rfl⟩ rfl hl.1 rfl (Nat.le_of_ble_eq_true rfl) dL_law_12 (fun w H locs hP hD hS => ?_)
  have hP : va_P D vwCl (LX7 cs h0 u ++ LX8 cs g0 w) H := hP
  have hD : va_D (kA s.heap.size) (LX7 cs h0 u ++ LX8 cs g0 w) := hD
  refine lv_astore_n (lv' := [(2, .ref g0), (1, .ref h0), (0, .ref b)]) hx hb dL_law_15 rfl hl (by decide) rfl (fun ls hl => ?_)
  refine lv_iconst (v := 0) hx hb dL_law_16 (by decide) ?_
  refine lv_istore_n (lv' := [(3, .int 0), (2, .ref g0), (1, .ref h0), (0, .ref b)]) hx hb dL_law_17 rfl hl (by decide) rfl (fun ls hl => ?_)
  obtain ⟨hJx, hJm, hdis, gx, gm⟩ := asmD hD
  obtain ⟨tM, hZ, hT⟩ := start_T (A := AX (ad7 h0 u)) hts hgv (fun a ha ⟨k, hk, e⟩ => by have := gx k hk; unfold kA at this; omega)
  refine W.widen (k := 600000) (n := 7302250) (Nat.le_of_ble_eq_true rfl) (Nat.le_of_ble_eq_true rfl) ?_
  exact lw_loop (D := D) (ad := ad7 h0 u) (cs := cs) (tM := tM) (am := am8 g0 w) (cm := cm8 cs) ⟨hx, hb, hml, hown, hts, hX, hbl, ⟨hC.1.sub [0, 1, 2, 3] rfl, hJx, hC.2.1, hZ, hT⟩, ⟨hC.1.sub [0, 1, 4] rfl, hJm⟩, gx, gm, hdis⟩ hr hlocks hL L 0 u0 v0 H locs ls (by omega) (by omega) Rel0 hl (asmX hP) (asmM hP) hS
