section LWC
variable {p : Program} {l : Launch} {e : Env} {s : State} {m : MethodId} {below : List Frame} {meth : Method} {c : Code} {H : Heap} {locs : List Loc} {Q : State → Prop}
variable {b L : Nat} {xs : Nat → Int32} {D : va_G} {ad : Nat → Nat} {cs : Nat → ClassId} {tM : Nat} {am : Nat → Nat} {cm : Nat → ClassId} {u : UX} {v : UM} {i : Int32} {ls : Array Slot}
set_option maxHeartbeats 4000000 in
set_option maxRecDepth 100000 in
/-- step -/
theorem lw_c0 (F : lwF p s m c b L xs D ad cs tM am cm) (h : Rel u v) (hl : lv_has ls 4 [(3, .int i), (2, .ref (am 16)), (1, .ref (ad 29)), (0, .ref b)]) (h1 : vp_in (i + 1) L) (h2 : vp_in (i + 2) L) (h3 : vp_in (i + 3) L) (h4 : vp_in (i + 4) L) (h5 : vp_in (i + 5) L)
    (hPx : va_P D vwCl (wX ad cs u) H) (hPm : va_P D vwCl (wM am cm v) H) (hS : va_S (kA s.heap.size) s.heap H locs)
    (kk : ∀ (u : UX) (v : UM) (H : Heap) (locs : List Loc), Rel u v → va_P D vwCl (wX ad cs u) H → va_P D vwCl (wM am cm v) H → va_S (kA s.heap.size) s.heap H locs → W p l e room_1 s m #[Value.ref b] below meth c H locs 600000 7302250 Q (F0 m 821 ls [])) : W p l e room_1 s m #[Value.ref b] below meth c H locs 600000 7302250 Q (F0 m 132 ls []) := by
  obtain ⟨hx, hb, hml, hown, hts, hX, hbl, hCx, hCm, gx, gm, hdis⟩ := F
  have hJx := hCx.2.1
  have hJm := hCm.2
  have hbA : ¬ kA s.heap.size b := fun q => by unfold kA at q; omega
  have hAx : ∀ q, AX ad q → kA s.heap.size q := fun q ⟨k, hk, e⟩ => by rw [e]; exact gx k hk
  have hAm : ∀ q, AM am q → kA s.heap.size q := fun q ⟨k, hk, e⟩ => by rw [e]; exact gm k hk
  obtain ⟨r, u1, v1, e1, e2, hr⟩ := sim_step h (xs (i + 1).toNatClampNeg) (xs (i + 2).toNatClampNeg) (xs (i + 3).toNatClampNeg)
  refine lv_aload_n hx hb dL_law_132 rfl (lv_at hl 2 rfl) ?_
  refine lv_aload_n hx hb dL_law_133 rfl (lv_at hl 3 rfl) ?_
  refine lv_iload_n hx hb dL_law_134 rfl (lv_at hl 0 rfl) ?_
  refine lv_iconst (v := 1) hx hb dL_law_135 (by decide) ?_
  refine lv_iadd hx hb dL_law_136 ?_
  refine va_sld hx hb hX hbl hbA hS h1 dL_law_137 ?_
  refine lv_aload_n hx hb dL_law_138 rfl (lv_at hl 3 rfl) ?_
  refine lv_iload_n hx hb dL_law_139 rfl (lv_at hl 0 rfl) ?_
  refine lv_iconst (v := 2) hx hb dL_law_140 (by decide) ?_
  refine lv_iadd hx hb dL_law_141 ?_
  refine va_sld hx hb hX hbl hbA hS h2 dL_law_142 ?_
  refine lv_aload_n hx hb dL_law_143 rfl (lv_at hl 3 rfl) ?_
  refine lv_iload_n hx hb dL_law_144 rfl (lv_at hl 0 rfl) ?_
  refine lv_iconst (v := 3) hx hb dL_law_145 (by decide) ?_
  refine lv_iadd hx hb dL_law_146 ?_
  refine va_sld hx hb hX hbl hbA hS h3 dL_law_147 ?_
  refine lcVi (r0 := r) (u1 := u1) (As := [.int (xs (i + 1).toNatClampNeg), .int (xs (i + 2).toNatClampNeg), .int (xs (i + 3).toNatClampNeg)]) (rest := []) 3 (xC_ok D ad cs tM hJx) hCx ⟨hx, hb, hml, hown, hts⟩ (mX7_step l D ad cs tM u (xs (i + 1).toNatClampNeg) (xs (i + 2).toNatClampNeg) (xs (i + 3).toNatClampNeg) _ e1) (gGl kw_200) kw_197 kw_198 kw_199 kw_21 hX7_step ⟨rfl, rfl⟩ ⟨Nat.le_of_ble_eq_true rfl, Nat.le_of_ble_eq_true rfl⟩ (x_rec (C := RX7) (T := TX7) (N := 7) (ci := 6) hCx.1 hPx rfl x_o29) hPx hS hAx hPm (lw_disX hdis) ⟨Nat.le_refl _, Nat.le_refl _⟩ rfl hl.1 rfl (Nat.le_of_ble_eq_true rfl) dL_law_148 (fun H locs hPx hPm hS => ?_)
  refine lv_aload_n hx hb dL_law_151 rfl (lv_at hl 1 rfl) ?_
  refine lv_aload_n hx hb dL_law_152 rfl (lv_at hl 3 rfl) ?_
  refine lv_iload_n hx hb dL_law_153 rfl (lv_at hl 0 rfl) ?_
  refine lv_iconst (v := 1) hx hb dL_law_154 (by decide) ?_
  refine lv_iadd hx hb dL_law_155 ?_
  refine va_sld hx hb hX hbl hbA hS h1 dL_law_156 ?_
  refine lv_aload_n hx hb dL_law_157 rfl (lv_at hl 3 rfl) ?_
  refine lv_iload_n hx hb dL_law_158 rfl (lv_at hl 0 rfl) ?_
  refine lv_iconst (v := 2) hx hb dL_law_159 (by decide) ?_
  refine lv_iadd hx hb dL_law_160 ?_
  refine va_sld hx hb hX hbl hbA hS h2 dL_law_161 ?_
  refine lv_aload_n hx hb dL_law_162 rfl (lv_at hl 3 rfl) ?_
  refine lv_iload_n hx hb dL_law_163 rfl (lv_at hl 0 rfl) ?_
  refine lv_iconst (v := 3) hx hb dL_law_164 (by decide) ?_
  refine lv_iadd hx hb dL_law_165 ?_
  refine va_sld hx hb hX hbl hbA hS h3 dL_law_166 ?_
  refine lcVi (r0 := r) (u1 := v1) (As := [.int (xs (i + 1).toNatClampNeg), .int (xs (i + 2).toNatClampNeg), .int (xs (i + 3).toNatClampNeg)]) (rest := [.int r]) 3 (mC_ok D am cm hJm) hCm ⟨hx, hb, hml, hown, hts⟩ (mX8_step l D am cm v (xs (i + 1).toNatClampNeg) (xs (i + 2).toNatClampNeg) (xs (i + 3).toNatClampNeg) _ e2) (gGl kw_565) kw_562 kw_563 kw_564 kw_28 hX8_step ⟨rfl, rfl⟩ ⟨Nat.le_of_ble_eq_true rfl, Nat.le_of_ble_eq_true rfl⟩ (x_rec (C := RX8) (T := TX8) (N := 20) (ci := 7) hCm.1 hPm rfl m_o16) hPm hS hAm hPx (lw_disM hdis) ⟨Nat.le_refl _, Nat.le_refl _⟩ rfl hl.1 rfl (Nat.le_of_ble_eq_true rfl) dL_law_167 (fun H locs hPm hPx hS => ?_)
  refine lv_icmp_eq (tgt := 821) hx hb dL_law_170 (by decide) (fun _ => ?_) (fun cq => absurd rfl cq)
  exact kk _ _ _ _ hr hPx hPm hS
set_option maxHeartbeats 4000000 in
set_option maxRecDepth 100000 in
/-- change -/
theorem lw_c1 (F : lwF p s m c b L xs D ad cs tM am cm) (h : Rel u v) (hl : lv_has ls 4 [(3, .int i), (2, .ref (am 16)), (1, .ref (ad 29)), (0, .ref b)]) (h1 : vp_in (i + 1) L) (h2 : vp_in (i + 2) L) (h3 : vp_in (i + 3) L) (h4 : vp_in (i + 4) L) (h5 : vp_in (i + 5) L)
    (hPx : va_P D vwCl (wX ad cs u) H) (hPm : va_P D vwCl (wM am cm v) H) (hS : va_S (kA s.heap.size) s.heap H locs)
    (kk : ∀ (u : UX) (v : UM) (H : Heap) (locs : List Loc), Rel u v → va_P D vwCl (wX ad cs u) H → va_P D vwCl (wM am cm v) H → va_S (kA s.heap.size) s.heap H locs → W p l e room_1 s m #[Value.ref b] below meth c H locs 600000 7302250 Q (F0 m 821 ls [])) : W p l e room_1 s m #[Value.ref b] below meth c H locs 600000 7302250 Q (F0 m 175 ls []) := by
  obtain ⟨hx, hb, hml, hown, hts, hX, hbl, hCx, hCm, gx, gm, hdis⟩ := F
  have hJx := hCx.2.1
  have hJm := hCm.2
  have hbA : ¬ kA s.heap.size b := fun q => by unfold kA at q; omega
  have hAx : ∀ q, AX ad q → kA s.heap.size q := fun q ⟨k, hk, e⟩ => by rw [e]; exact gx k hk
  have hAm : ∀ q, AM am q → kA s.heap.size q := fun q ⟨k, hk, e⟩ => by rw [e]; exact gm k hk
  obtain ⟨r, u1, v1, e1, e2, hr⟩ := sim_change h (xs (i + 1).toNatClampNeg) (xs (i + 2).toNatClampNeg) (xs (i + 3).toNatClampNeg)
  refine lv_aload_n hx hb dL_law_175 rfl (lv_at hl 2 rfl) ?_
  refine lv_aload_n hx hb dL_law_176 rfl (lv_at hl 3 rfl) ?_
  refine lv_iload_n hx hb dL_law_177 rfl (lv_at hl 0 rfl) ?_
  refine lv_iconst (v := 1) hx hb dL_law_178 (by decide) ?_
  refine lv_iadd hx hb dL_law_179 ?_
  refine va_sld hx hb hX hbl hbA hS h1 dL_law_180 ?_
  refine lv_aload_n hx hb dL_law_181 rfl (lv_at hl 3 rfl) ?_
  refine lv_iload_n hx hb dL_law_182 rfl (lv_at hl 0 rfl) ?_
  refine lv_iconst (v := 2) hx hb dL_law_183 (by decide) ?_
  refine lv_iadd hx hb dL_law_184 ?_
  refine va_sld hx hb hX hbl hbA hS h2 dL_law_185 ?_
  refine lv_aload_n hx hb dL_law_186 rfl (lv_at hl 3 rfl) ?_
  refine lv_iload_n hx hb dL_law_187 rfl (lv_at hl 0 rfl) ?_
  refine lv_iconst (v := 3) hx hb dL_law_188 (by decide) ?_
  refine lv_iadd hx hb dL_law_189 ?_
  refine va_sld hx hb hX hbl hbA hS h3 dL_law_190 ?_
  refine lcVi (r0 := r) (u1 := u1) (As := [.int (xs (i + 1).toNatClampNeg), .int (xs (i + 2).toNatClampNeg), .int (xs (i + 3).toNatClampNeg)]) (rest := []) 3 (xC_ok D ad cs tM hJx) hCx ⟨hx, hb, hml, hown, hts⟩ (mX7_change l D ad cs tM u (xs (i + 1).toNatClampNeg) (xs (i + 2).toNatClampNeg) (xs (i + 3).toNatClampNeg) _ e1) (gGl kw_211) kw_208 kw_209 kw_210 kw_21 hX7_change ⟨rfl, rfl⟩ ⟨Nat.le_of_ble_eq_true rfl, Nat.le_of_ble_eq_true rfl⟩ (x_rec (C := RX7) (T := TX7) (N := 7) (ci := 6) hCx.1 hPx rfl x_o29) hPx hS hAx hPm (lw_disX hdis) ⟨Nat.le_refl _, Nat.le_refl _⟩ rfl hl.1 rfl (Nat.le_of_ble_eq_true rfl) dL_law_191 (fun H locs hPx hPm hS => ?_)
  refine lv_aload_n hx hb dL_law_194 rfl (lv_at hl 1 rfl) ?_
  refine lv_aload_n hx hb dL_law_195 rfl (lv_at hl 3 rfl) ?_
  refine lv_iload_n hx hb dL_law_196 rfl (lv_at hl 0 rfl) ?_
  refine lv_iconst (v := 1) hx hb dL_law_197 (by decide) ?_
  refine lv_iadd hx hb dL_law_198 ?_
  refine va_sld hx hb hX hbl hbA hS h1 dL_law_199 ?_
  refine lv_aload_n hx hb dL_law_200 rfl (lv_at hl 3 rfl) ?_
  refine lv_iload_n hx hb dL_law_201 rfl (lv_at hl 0 rfl) ?_
  refine lv_iconst (v := 2) hx hb dL_law_202 (by decide) ?_
  refine lv_iadd hx hb dL_law_203 ?_
  refine va_sld hx hb hX hbl hbA hS h2 dL_law_204 ?_
  refine lv_aload_n hx hb dL_law_205 rfl (lv_at hl 3 rfl) ?_
  refine lv_iload_n hx hb dL_law_206 rfl (lv_at hl 0 rfl) ?_
  refine lv_iconst (v := 3) hx hb dL_law_207 (by decide) ?_
  refine lv_iadd hx hb dL_law_208 ?_
  refine va_sld hx hb hX hbl hbA hS h3 dL_law_209 ?_
  refine lcVi (r0 := r) (u1 := v1) (As := [.int (xs (i + 1).toNatClampNeg), .int (xs (i + 2).toNatClampNeg), .int (xs (i + 3).toNatClampNeg)]) (rest := [.int r]) 3 (mC_ok D am cm hJm) hCm ⟨hx, hb, hml, hown, hts⟩ (mX8_change l D am cm v (xs (i + 1).toNatClampNeg) (xs (i + 2).toNatClampNeg) (xs (i + 3).toNatClampNeg) _ e2) (gGl kw_575) kw_572 kw_573 kw_574 kw_28 hX8_change ⟨rfl, rfl⟩ ⟨Nat.le_of_ble_eq_true rfl, Nat.le_of_ble_eq_true rfl⟩ (x_rec (C := RX8) (T := TX8) (N := 20) (ci := 7) hCm.1 hPm rfl m_o16) hPm hS hAm hPx (lw_disM hdis) ⟨Nat.le_refl _, Nat.le_refl _⟩ rfl hl.1 rfl (Nat.le_of_ble_eq_true rfl) dL_law_210 (fun H locs hPm hPx hS => ?_)
  refine lv_icmp_eq (tgt := 821) hx hb dL_law_213 (by decide) (fun _ => ?_) (fun cq => absurd rfl cq)
  exact kk _ _ _ _ hr hPx hPm hS
set_option maxHeartbeats 4000000 in
set_option maxRecDepth 100000 in
/-- set -/
theorem lw_c2 (F : lwF p s m c b L xs D ad cs tM am cm) (h : Rel u v) (hl : lv_has ls 4 [(3, .int i), (2, .ref (am 16)), (1, .ref (ad 29)), (0, .ref b)]) (h1 : vp_in (i + 1) L) (h2 : vp_in (i + 2) L) (h3 : vp_in (i + 3) L) (h4 : vp_in (i + 4) L) (h5 : vp_in (i + 5) L)
    (hPx : va_P D vwCl (wX ad cs u) H) (hPm : va_P D vwCl (wM am cm v) H) (hS : va_S (kA s.heap.size) s.heap H locs)
    (kk : ∀ (u : UX) (v : UM) (H : Heap) (locs : List Loc), Rel u v → va_P D vwCl (wX ad cs u) H → va_P D vwCl (wM am cm v) H → va_S (kA s.heap.size) s.heap H locs → W p l e room_1 s m #[Value.ref b] below meth c H locs 600000 7302250 Q (F0 m 821 ls [])) : W p l e room_1 s m #[Value.ref b] below meth c H locs 600000 7302250 Q (F0 m 218 ls []) := by
  obtain ⟨hx, hb, hml, hown, hts, hX, hbl, hCx, hCm, gx, gm, hdis⟩ := F
  have hJx := hCx.2.1
  have hJm := hCm.2
  have hbA : ¬ kA s.heap.size b := fun q => by unfold kA at q; omega
  have hAx : ∀ q, AX ad q → kA s.heap.size q := fun q ⟨k, hk, e⟩ => by rw [e]; exact gx k hk
  have hAm : ∀ q, AM am q → kA s.heap.size q := fun q ⟨k, hk, e⟩ => by rw [e]; exact gm k hk
  obtain ⟨r, u1, v1, e1, e2, hr⟩ := sim_set h (xs (i + 1).toNatClampNeg) (xs (i + 2).toNatClampNeg)
  refine lv_aload_n hx hb dL_law_218 rfl (lv_at hl 2 rfl) ?_
  refine lv_aload_n hx hb dL_law_219 rfl (lv_at hl 3 rfl) ?_
  refine lv_iload_n hx hb dL_law_220 rfl (lv_at hl 0 rfl) ?_
  refine lv_iconst (v := 1) hx hb dL_law_221 (by decide) ?_
  refine lv_iadd hx hb dL_law_222 ?_
  refine va_sld hx hb hX hbl hbA hS h1 dL_law_223 ?_
  refine lv_aload_n hx hb dL_law_224 rfl (lv_at hl 3 rfl) ?_
  refine lv_iload_n hx hb dL_law_225 rfl (lv_at hl 0 rfl) ?_
  refine lv_iconst (v := 2) hx hb dL_law_226 (by decide) ?_
  refine lv_iadd hx hb dL_law_227 ?_
  refine va_sld hx hb hX hbl hbA hS h2 dL_law_228 ?_
  refine lcVi (r0 := r) (u1 := u1) (As := [.int (xs (i + 1).toNatClampNeg), .int (xs (i + 2).toNatClampNeg)]) (rest := []) 2 (xC_ok D ad cs tM hJx) hCx ⟨hx, hb, hml, hown, hts⟩ (mX7_set l D ad cs tM u (xs (i + 1).toNatClampNeg) (xs (i + 2).toNatClampNeg) _ e1) (gGl kw_222) kw_219 kw_220 kw_221 kw_21 hX7_set ⟨rfl, rfl⟩ ⟨Nat.le_of_ble_eq_true rfl, Nat.le_of_ble_eq_true rfl⟩ (x_rec (C := RX7) (T := TX7) (N := 7) (ci := 6) hCx.1 hPx rfl x_o29) hPx hS hAx hPm (lw_disX hdis) ⟨Nat.le_refl _, Nat.le_refl _⟩ rfl hl.1 rfl (Nat.le_of_ble_eq_true rfl) dL_law_229 (fun H locs hPx hPm hS => ?_)
  refine lv_aload_n hx hb dL_law_232 rfl (lv_at hl 1 rfl) ?_
  refine lv_aload_n hx hb dL_law_233 rfl (lv_at hl 3 rfl) ?_
  refine lv_iload_n hx hb dL_law_234 rfl (lv_at hl 0 rfl) ?_
  refine lv_iconst (v := 1) hx hb dL_law_235 (by decide) ?_
  refine lv_iadd hx hb dL_law_236 ?_
  refine va_sld hx hb hX hbl hbA hS h1 dL_law_237 ?_
  refine lv_aload_n hx hb dL_law_238 rfl (lv_at hl 3 rfl) ?_
  refine lv_iload_n hx hb dL_law_239 rfl (lv_at hl 0 rfl) ?_
  refine lv_iconst (v := 2) hx hb dL_law_240 (by decide) ?_
  refine lv_iadd hx hb dL_law_241 ?_
  refine va_sld hx hb hX hbl hbA hS h2 dL_law_242 ?_
  refine lcVi (r0 := r) (u1 := v1) (As := [.int (xs (i + 1).toNatClampNeg), .int (xs (i + 2).toNatClampNeg)]) (rest := [.int r]) 2 (mC_ok D am cm hJm) hCm ⟨hx, hb, hml, hown, hts⟩ (mX8_set l D am cm v (xs (i + 1).toNatClampNeg) (xs (i + 2).toNatClampNeg) _ e2) (gGl kw_584) kw_581 kw_582 kw_583 kw_28 hX8_set ⟨rfl, rfl⟩ ⟨Nat.le_of_ble_eq_true rfl, Nat.le_of_ble_eq_true rfl⟩ (x_rec (C := RX8) (T := TX8) (N := 20) (ci := 7) hCm.1 hPm rfl m_o16) hPm hS hAm hPx (lw_disM hdis) ⟨Nat.le_refl _, Nat.le_refl _⟩ rfl hl.1 rfl (Nat.le_of_ble_eq_true rfl) dL_law_243 (fun H locs hPm hPx hS => ?_)
  refine lv_icmp_eq (tgt := 821) hx hb dL_law_246 (by decide) (fun _ => ?_) (fun cq => absurd rfl cq)
  exact kk _ _ _ _ hr hPx hPm hS
set_option maxHeartbeats 4000000 in
set_option maxRecDepth 100000 in
/-- limit -/
theorem lw_c3 (F : lwF p s m c b L xs D ad cs tM am cm) (h : Rel u v) (hl : lv_has ls 4 [(3, .int i), (2, .ref (am 16)), (1, .ref (ad 29)), (0, .ref b)]) (h1 : vp_in (i + 1) L) (h2 : vp_in (i + 2) L) (h3 : vp_in (i + 3) L) (h4 : vp_in (i + 4) L) (h5 : vp_in (i + 5) L)
    (hPx : va_P D vwCl (wX ad cs u) H) (hPm : va_P D vwCl (wM am cm v) H) (hS : va_S (kA s.heap.size) s.heap H locs)
    (kk : ∀ (u : UX) (v : UM) (H : Heap) (locs : List Loc), Rel u v → va_P D vwCl (wX ad cs u) H → va_P D vwCl (wM am cm v) H → va_S (kA s.heap.size) s.heap H locs → W p l e room_1 s m #[Value.ref b] below meth c H locs 600000 7302250 Q (F0 m 821 ls [])) : W p l e room_1 s m #[Value.ref b] below meth c H locs 600000 7302250 Q (F0 m 251 ls []) := by
  obtain ⟨hx, hb, hml, hown, hts, hX, hbl, hCx, hCm, gx, gm, hdis⟩ := F
  have hJx := hCx.2.1
  have hJm := hCm.2
  have hbA : ¬ kA s.heap.size b := fun q => by unfold kA at q; omega
  have hAx : ∀ q, AX ad q → kA s.heap.size q := fun q ⟨k, hk, e⟩ => by rw [e]; exact gx k hk
  have hAm : ∀ q, AM am q → kA s.heap.size q := fun q ⟨k, hk, e⟩ => by rw [e]; exact gm k hk
  obtain ⟨r, u1, v1, e1, e2, hr⟩ := sim_limit h (xs (i + 1).toNatClampNeg) (xs (i + 2).toNatClampNeg)
  refine lv_aload_n hx hb dL_law_251 rfl (lv_at hl 2 rfl) ?_
  refine lv_aload_n hx hb dL_law_252 rfl (lv_at hl 3 rfl) ?_
  refine lv_iload_n hx hb dL_law_253 rfl (lv_at hl 0 rfl) ?_
  refine lv_iconst (v := 1) hx hb dL_law_254 (by decide) ?_
  refine lv_iadd hx hb dL_law_255 ?_
  refine va_sld hx hb hX hbl hbA hS h1 dL_law_256 ?_
  refine lv_aload_n hx hb dL_law_257 rfl (lv_at hl 3 rfl) ?_
  refine lv_iload_n hx hb dL_law_258 rfl (lv_at hl 0 rfl) ?_
  refine lv_iconst (v := 2) hx hb dL_law_259 (by decide) ?_
  refine lv_iadd hx hb dL_law_260 ?_
  refine va_sld hx hb hX hbl hbA hS h2 dL_law_261 ?_
  refine lcVi (r0 := r) (u1 := u1) (As := [.int (xs (i + 1).toNatClampNeg), .int (xs (i + 2).toNatClampNeg)]) (rest := []) 2 (xC_ok D ad cs tM hJx) hCx ⟨hx, hb, hml, hown, hts⟩ (mX7_limit l D ad cs tM u (xs (i + 1).toNatClampNeg) (xs (i + 2).toNatClampNeg) _ e1) (gGl kw_232) kw_229 kw_230 kw_231 kw_21 hX7_limit ⟨rfl, rfl⟩ ⟨Nat.le_of_ble_eq_true rfl, Nat.le_of_ble_eq_true rfl⟩ (x_rec (C := RX7) (T := TX7) (N := 7) (ci := 6) hCx.1 hPx rfl x_o29) hPx hS hAx hPm (lw_disX hdis) ⟨Nat.le_refl _, Nat.le_refl _⟩ rfl hl.1 rfl (Nat.le_of_ble_eq_true rfl) dL_law_262 (fun H locs hPx hPm hS => ?_)
  refine lv_aload_n hx hb dL_law_265 rfl (lv_at hl 1 rfl) ?_
  refine lv_aload_n hx hb dL_law_266 rfl (lv_at hl 3 rfl) ?_
  refine lv_iload_n hx hb dL_law_267 rfl (lv_at hl 0 rfl) ?_
  refine lv_iconst (v := 1) hx hb dL_law_268 (by decide) ?_
  refine lv_iadd hx hb dL_law_269 ?_
  refine va_sld hx hb hX hbl hbA hS h1 dL_law_270 ?_
  refine lv_aload_n hx hb dL_law_271 rfl (lv_at hl 3 rfl) ?_
  refine lv_iload_n hx hb dL_law_272 rfl (lv_at hl 0 rfl) ?_
  refine lv_iconst (v := 2) hx hb dL_law_273 (by decide) ?_
  refine lv_iadd hx hb dL_law_274 ?_
  refine va_sld hx hb hX hbl hbA hS h2 dL_law_275 ?_
  refine lcVi (r0 := r) (u1 := v1) (As := [.int (xs (i + 1).toNatClampNeg), .int (xs (i + 2).toNatClampNeg)]) (rest := [.int r]) 2 (mC_ok D am cm hJm) hCm ⟨hx, hb, hml, hown, hts⟩ (mX8_limit l D am cm v (xs (i + 1).toNatClampNeg) (xs (i + 2).toNatClampNeg) _ e2) (gGl kw_591) kw_588 kw_589 kw_590 kw_28 hX8_limit ⟨rfl, rfl⟩ ⟨Nat.le_of_ble_eq_true rfl, Nat.le_of_ble_eq_true rfl⟩ (x_rec (C := RX8) (T := TX8) (N := 20) (ci := 7) hCm.1 hPm rfl m_o16) hPm hS hAm hPx (lw_disM hdis) ⟨Nat.le_refl _, Nat.le_refl _⟩ rfl hl.1 rfl (Nat.le_of_ble_eq_true rfl) dL_law_276 (fun H locs hPm hPx hS => ?_)
  refine lv_icmp_eq (tgt := 821) hx hb dL_law_279 (by decide) (fun _ => ?_) (fun cq => absurd rfl cq)
  exact kk _ _ _ _ hr hPx hPm hS
set_option maxHeartbeats 4000000 in
set_option maxRecDepth 100000 in
/-- dirt -/
theorem lw_c4 (F : lwF p s m c b L xs D ad cs tM am cm) (h : Rel u v) (hl : lv_has ls 4 [(3, .int i), (2, .ref (am 16)), (1, .ref (ad 29)), (0, .ref b)]) (h1 : vp_in (i + 1) L) (h2 : vp_in (i + 2) L) (h3 : vp_in (i + 3) L) (h4 : vp_in (i + 4) L) (h5 : vp_in (i + 5) L)
    (hPx : va_P D vwCl (wX ad cs u) H) (hPm : va_P D vwCl (wM am cm v) H) (hS : va_S (kA s.heap.size) s.heap H locs)
    (kk : ∀ (u : UX) (v : UM) (H : Heap) (locs : List Loc), Rel u v → va_P D vwCl (wX ad cs u) H → va_P D vwCl (wM am cm v) H → va_S (kA s.heap.size) s.heap H locs → W p l e room_1 s m #[Value.ref b] below meth c H locs 600000 7302250 Q (F0 m 821 ls [])) : W p l e room_1 s m #[Value.ref b] below meth c H locs 600000 7302250 Q (F0 m 284 ls []) := by
  obtain ⟨hx, hb, hml, hown, hts, hX, hbl, hCx, hCm, gx, gm, hdis⟩ := F
  have hJx := hCx.2.1
  have hJm := hCm.2
  have hbA : ¬ kA s.heap.size b := fun q => by unfold kA at q; omega
  have hAx : ∀ q, AX ad q → kA s.heap.size q := fun q ⟨k, hk, e⟩ => by rw [e]; exact gx k hk
  have hAm : ∀ q, AM am q → kA s.heap.size q := fun q ⟨k, hk, e⟩ => by rw [e]; exact gm k hk
  obtain ⟨r, u1, e1, e2, hr⟩ := sim_dirt h (xs (i + 1).toNatClampNeg) (xs (i + 2).toNatClampNeg)
  refine lv_aload_n hx hb dL_law_284 rfl (lv_at hl 2 rfl) ?_
  refine lv_aload_n hx hb dL_law_285 rfl (lv_at hl 3 rfl) ?_
  refine lv_iload_n hx hb dL_law_286 rfl (lv_at hl 0 rfl) ?_
  refine lv_iconst (v := 1) hx hb dL_law_287 (by decide) ?_
  refine lv_iadd hx hb dL_law_288 ?_
  refine va_sld hx hb hX hbl hbA hS h1 dL_law_289 ?_
  refine lv_aload_n hx hb dL_law_290 rfl (lv_at hl 3 rfl) ?_
  refine lv_iload_n hx hb dL_law_291 rfl (lv_at hl 0 rfl) ?_
  refine lv_iconst (v := 2) hx hb dL_law_292 (by decide) ?_
  refine lv_iadd hx hb dL_law_293 ?_
  refine va_sld hx hb hX hbl hbA hS h2 dL_law_294 ?_
  refine lcVl (r0 := r) (u1 := u1) (As := [.int (xs (i + 1).toNatClampNeg), .int (xs (i + 2).toNatClampNeg)]) (rest := []) 2 (xC_ok D ad cs tM hJx) hCx ⟨hx, hb, hml, hown, hts⟩ (mX7_dirt l D ad cs tM u (xs (i + 1).toNatClampNeg) (xs (i + 2).toNatClampNeg) _ e1) (gGl kw_246) kw_243 kw_244 kw_245 kw_21 hX7_dirt ⟨rfl, rfl⟩ ⟨Nat.le_of_ble_eq_true rfl, Nat.le_of_ble_eq_true rfl⟩ (x_rec (C := RX7) (T := TX7) (N := 7) (ci := 6) hCx.1 hPx rfl x_o29) hPx hS hAx hPm (lw_disX hdis) ⟨Nat.le_refl _, Nat.le_refl _⟩ rfl hl.1 rfl (Nat.le_of_ble_eq_true rfl) dL_law_295 (fun H locs hPx hPm hS => ?_)
  refine lv_aload_n hx hb dL_law_298 rfl (lv_at hl 1 rfl) ?_
  refine lv_aload_n hx hb dL_law_299 rfl (lv_at hl 3 rfl) ?_
  refine lv_iload_n hx hb dL_law_300 rfl (lv_at hl 0 rfl) ?_
  refine lv_iconst (v := 1) hx hb dL_law_301 (by decide) ?_
  refine lv_iadd hx hb dL_law_302 ?_
  refine va_sld hx hb hX hbl hbA hS h1 dL_law_303 ?_
  refine lv_aload_n hx hb dL_law_304 rfl (lv_at hl 3 rfl) ?_
  refine lv_iload_n hx hb dL_law_305 rfl (lv_at hl 0 rfl) ?_
  refine lv_iconst (v := 2) hx hb dL_law_306 (by decide) ?_
  refine lv_iadd hx hb dL_law_307 ?_
  refine va_sld hx hb hX hbl hbA hS h2 dL_law_308 ?_
  refine lcVl (r0 := r) (u1 := v) (As := [.int (xs (i + 1).toNatClampNeg), .int (xs (i + 2).toNatClampNeg)]) (rest := [.long r]) 2 (mC_ok D am cm hJm) hCm ⟨hx, hb, hml, hown, hts⟩ (mX8_dirt l D am cm v (xs (i + 1).toNatClampNeg) (xs (i + 2).toNatClampNeg) _ e2) (gGl kw_601) kw_598 kw_599 kw_600 kw_28 hX8_dirt ⟨rfl, rfl⟩ ⟨Nat.le_of_ble_eq_true rfl, Nat.le_of_ble_eq_true rfl⟩ (x_rec (C := RX8) (T := TX8) (N := 20) (ci := 7) hCm.1 hPm rfl m_o16) hPm hS hAm hPx (lw_disM hdis) ⟨Nat.le_refl _, Nat.le_refl _⟩ rfl hl.1 rfl (Nat.le_of_ble_eq_true rfl) dL_law_309 (fun H locs hPm hPx hS => ?_)
  refine W.lcmp hx hb dL_law_312 ?_
  refine lv_if_eq (tgt := 821) hx hb dL_law_313 (by decide) (fun _ => ?_) (fun cq => absurd (lc_eq.mpr rfl) cq)
  exact kk _ _ _ _ hr hPx hPm hS
set_option maxHeartbeats 4000000 in
set_option maxRecDepth 100000 in
/-- least -/
theorem lw_c5 (F : lwF p s m c b L xs D ad cs tM am cm) (h : Rel u v) (hl : lv_has ls 4 [(3, .int i), (2, .ref (am 16)), (1, .ref (ad 29)), (0, .ref b)]) (h1 : vp_in (i + 1) L) (h2 : vp_in (i + 2) L) (h3 : vp_in (i + 3) L) (h4 : vp_in (i + 4) L) (h5 : vp_in (i + 5) L)
    (hPx : va_P D vwCl (wX ad cs u) H) (hPm : va_P D vwCl (wM am cm v) H) (hS : va_S (kA s.heap.size) s.heap H locs)
    (kk : ∀ (u : UX) (v : UM) (H : Heap) (locs : List Loc), Rel u v → va_P D vwCl (wX ad cs u) H → va_P D vwCl (wM am cm v) H → va_S (kA s.heap.size) s.heap H locs → W p l e room_1 s m #[Value.ref b] below meth c H locs 600000 7302250 Q (F0 m 821 ls [])) : W p l e room_1 s m #[Value.ref b] below meth c H locs 600000 7302250 Q (F0 m 318 ls []) := by
  obtain ⟨hx, hb, hml, hown, hts, hX, hbl, hCx, hCm, gx, gm, hdis⟩ := F
  have hJx := hCx.2.1
  have hJm := hCm.2
  have hbA : ¬ kA s.heap.size b := fun q => by unfold kA at q; omega
  have hAx : ∀ q, AX ad q → kA s.heap.size q := fun q ⟨k, hk, e⟩ => by rw [e]; exact gx k hk
  have hAm : ∀ q, AM am q → kA s.heap.size q := fun q ⟨k, hk, e⟩ => by rw [e]; exact gm k hk
  obtain ⟨r, u1, e1, e2, hr⟩ := sim_least h (xs (i + 1).toNatClampNeg)
  refine lv_aload_n hx hb dL_law_318 rfl (lv_at hl 2 rfl) ?_
  refine lv_aload_n hx hb dL_law_319 rfl (lv_at hl 3 rfl) ?_
  refine lv_iload_n hx hb dL_law_320 rfl (lv_at hl 0 rfl) ?_
  refine lv_iconst (v := 1) hx hb dL_law_321 (by decide) ?_
  refine lv_iadd hx hb dL_law_322 ?_
  refine va_sld hx hb hX hbl hbA hS h1 dL_law_323 ?_
  refine lcVl (r0 := r) (u1 := u1) (As := [.int (xs (i + 1).toNatClampNeg)]) (rest := []) 1 (xC_ok D ad cs tM hJx) hCx ⟨hx, hb, hml, hown, hts⟩ (mX7_least l D ad cs tM u (xs (i + 1).toNatClampNeg) _ e1) (gGl kw_288) kw_285 kw_286 kw_287 kw_21 hX7_least ⟨rfl, rfl⟩ ⟨Nat.le_of_ble_eq_true rfl, Nat.le_of_ble_eq_true rfl⟩ (x_rec (C := RX7) (T := TX7) (N := 7) (ci := 6) hCx.1 hPx rfl x_o29) hPx hS hAx hPm (lw_disX hdis) ⟨Nat.le_refl _, Nat.le_refl _⟩ rfl hl.1 rfl (Nat.le_of_ble_eq_true rfl) dL_law_324 (fun H locs hPx hPm hS => ?_)
  refine lv_aload_n hx hb dL_law_327 rfl (lv_at hl 1 rfl) ?_
  refine lv_aload_n hx hb dL_law_328 rfl (lv_at hl 3 rfl) ?_
  refine lv_iload_n hx hb dL_law_329 rfl (lv_at hl 0 rfl) ?_
  refine lv_iconst (v := 1) hx hb dL_law_330 (by decide) ?_
  refine lv_iadd hx hb dL_law_331 ?_
  refine va_sld hx hb hX hbl hbA hS h1 dL_law_332 ?_
  refine lcVl (r0 := r) (u1 := v) (As := [.int (xs (i + 1).toNatClampNeg)]) (rest := [.long r]) 1 (mC_ok D am cm hJm) hCm ⟨hx, hb, hml, hown, hts⟩ (mX8_least l D am cm v (xs (i + 1).toNatClampNeg) _ e2) (gGl kw_617) kw_614 kw_615 kw_616 kw_28 hX8_least ⟨rfl, rfl⟩ ⟨Nat.le_of_ble_eq_true rfl, Nat.le_of_ble_eq_true rfl⟩ (x_rec (C := RX8) (T := TX8) (N := 20) (ci := 7) hCm.1 hPm rfl m_o16) hPm hS hAm hPx (lw_disM hdis) ⟨Nat.le_refl _, Nat.le_refl _⟩ rfl hl.1 rfl (Nat.le_of_ble_eq_true rfl) dL_law_333 (fun H locs hPm hPx hS => ?_)
  refine W.lcmp hx hb dL_law_336 ?_
  refine lv_if_eq (tgt := 821) hx hb dL_law_337 (by decide) (fun _ => ?_) (fun cq => absurd (lc_eq.mpr rfl) cq)
  exact kk _ _ _ _ hr hPx hPm hS
set_option maxHeartbeats 4000000 in
set_option maxRecDepth 100000 in
/-- fresh -/
theorem lw_c6 (F : lwF p s m c b L xs D ad cs tM am cm) (h : Rel u v) (hl : lv_has ls 4 [(3, .int i), (2, .ref (am 16)), (1, .ref (ad 29)), (0, .ref b)]) (h1 : vp_in (i + 1) L) (h2 : vp_in (i + 2) L) (h3 : vp_in (i + 3) L) (h4 : vp_in (i + 4) L) (h5 : vp_in (i + 5) L)
    (hPx : va_P D vwCl (wX ad cs u) H) (hPm : va_P D vwCl (wM am cm v) H) (hS : va_S (kA s.heap.size) s.heap H locs)
    (kk : ∀ (u : UX) (v : UM) (H : Heap) (locs : List Loc), Rel u v → va_P D vwCl (wX ad cs u) H → va_P D vwCl (wM am cm v) H → va_S (kA s.heap.size) s.heap H locs → W p l e room_1 s m #[Value.ref b] below meth c H locs 600000 7302250 Q (F0 m 821 ls [])) : W p l e room_1 s m #[Value.ref b] below meth c H locs 600000 7302250 Q (F0 m 342 ls []) := by
  obtain ⟨hx, hb, hml, hown, hts, hX, hbl, hCx, hCm, gx, gm, hdis⟩ := F
  have hJx := hCx.2.1
  have hJm := hCm.2
  have hbA : ¬ kA s.heap.size b := fun q => by unfold kA at q; omega
  have hAx : ∀ q, AX ad q → kA s.heap.size q := fun q ⟨k, hk, e⟩ => by rw [e]; exact gx k hk
  have hAm : ∀ q, AM am q → kA s.heap.size q := fun q ⟨k, hk, e⟩ => by rw [e]; exact gm k hk
  obtain ⟨r, u1, v1, e1, e2, hr⟩ := sim_fresh h (xs (i + 1).toNatClampNeg) (xs (i + 2).toNatClampNeg)
  refine lv_aload_n hx hb dL_law_342 rfl (lv_at hl 2 rfl) ?_
  refine lv_aload_n hx hb dL_law_343 rfl (lv_at hl 3 rfl) ?_
  refine lv_iload_n hx hb dL_law_344 rfl (lv_at hl 0 rfl) ?_
  refine lv_iconst (v := 1) hx hb dL_law_345 (by decide) ?_
  refine lv_iadd hx hb dL_law_346 ?_
  refine va_sld hx hb hX hbl hbA hS h1 dL_law_347 ?_
  refine lv_aload_n hx hb dL_law_348 rfl (lv_at hl 3 rfl) ?_
  refine lv_iload_n hx hb dL_law_349 rfl (lv_at hl 0 rfl) ?_
  refine lv_iconst (v := 2) hx hb dL_law_350 (by decide) ?_
  refine lv_iadd hx hb dL_law_351 ?_
  refine va_sld hx hb hX hbl hbA hS h2 dL_law_352 ?_
  refine lcVi (r0 := r) (u1 := u1) (As := [.int (xs (i + 1).toNatClampNeg), .int (xs (i + 2).toNatClampNeg)]) (rest := []) 2 (xC_ok D ad cs tM hJx) hCx ⟨hx, hb, hml, hown, hts⟩ (mX7_fresh l D ad cs tM u (xs (i + 1).toNatClampNeg) (xs (i + 2).toNatClampNeg) _ e1) (gGl kw_313) kw_310 kw_311 kw_312 kw_21 hX7_fresh ⟨rfl, rfl⟩ ⟨Nat.le_of_ble_eq_true rfl, Nat.le_of_ble_eq_true rfl⟩ (x_rec (C := RX7) (T := TX7) (N := 7) (ci := 6) hCx.1 hPx rfl x_o29) hPx hS hAx hPm (lw_disX hdis) ⟨Nat.le_refl _, Nat.le_refl _⟩ rfl hl.1 rfl (Nat.le_of_ble_eq_true rfl) dL_law_353 (fun H locs hPx hPm hS => ?_)
  refine lv_aload_n hx hb dL_law_356 rfl (lv_at hl 1 rfl) ?_
  refine lv_aload_n hx hb dL_law_357 rfl (lv_at hl 3 rfl) ?_
  refine lv_iload_n hx hb dL_law_358 rfl (lv_at hl 0 rfl) ?_
  refine lv_iconst (v := 1) hx hb dL_law_359 (by decide) ?_
  refine lv_iadd hx hb dL_law_360 ?_
  refine va_sld hx hb hX hbl hbA hS h1 dL_law_361 ?_
  refine lv_aload_n hx hb dL_law_362 rfl (lv_at hl 3 rfl) ?_
  refine lv_iload_n hx hb dL_law_363 rfl (lv_at hl 0 rfl) ?_
  refine lv_iconst (v := 2) hx hb dL_law_364 (by decide) ?_
  refine lv_iadd hx hb dL_law_365 ?_
  refine va_sld hx hb hX hbl hbA hS h2 dL_law_366 ?_
  refine lcVi (r0 := r) (u1 := v1) (As := [.int (xs (i + 1).toNatClampNeg), .int (xs (i + 2).toNatClampNeg)]) (rest := [.int r]) 2 (mC_ok D am cm hJm) hCm ⟨hx, hb, hml, hown, hts⟩ (mX8_fresh l D am cm v (xs (i + 1).toNatClampNeg) (xs (i + 2).toNatClampNeg) _ e2) (gGl kw_625) kw_622 kw_623 kw_624 kw_28 hX8_fresh ⟨rfl, rfl⟩ ⟨Nat.le_of_ble_eq_true rfl, Nat.le_of_ble_eq_true rfl⟩ (x_rec (C := RX8) (T := TX8) (N := 20) (ci := 7) hCm.1 hPm rfl m_o16) hPm hS hAm hPx (lw_disM hdis) ⟨Nat.le_refl _, Nat.le_refl _⟩ rfl hl.1 rfl (Nat.le_of_ble_eq_true rfl) dL_law_367 (fun H locs hPm hPx hS => ?_)
  refine lv_icmp_eq (tgt := 821) hx hb dL_law_370 (by decide) (fun _ => ?_) (fun cq => absurd rfl cq)
  exact kk _ _ _ _ hr hPx hPm hS
set_option maxHeartbeats 4000000 in
set_option maxRecDepth 100000 in
/-- pipe -/
theorem lw_c7 (F : lwF p s m c b L xs D ad cs tM am cm) (h : Rel u v) (hl : lv_has ls 4 [(3, .int i), (2, .ref (am 16)), (1, .ref (ad 29)), (0, .ref b)]) (h1 : vp_in (i + 1) L) (h2 : vp_in (i + 2) L) (h3 : vp_in (i + 3) L) (h4 : vp_in (i + 4) L) (h5 : vp_in (i + 5) L)
    (hPx : va_P D vwCl (wX ad cs u) H) (hPm : va_P D vwCl (wM am cm v) H) (hS : va_S (kA s.heap.size) s.heap H locs)
    (kk : ∀ (u : UX) (v : UM) (H : Heap) (locs : List Loc), Rel u v → va_P D vwCl (wX ad cs u) H → va_P D vwCl (wM am cm v) H → va_S (kA s.heap.size) s.heap H locs → W p l e room_1 s m #[Value.ref b] below meth c H locs 600000 7302250 Q (F0 m 821 ls [])) : W p l e room_1 s m #[Value.ref b] below meth c H locs 600000 7302250 Q (F0 m 375 ls []) := by
  obtain ⟨hx, hb, hml, hown, hts, hX, hbl, hCx, hCm, gx, gm, hdis⟩ := F
  have hJx := hCx.2.1
  have hJm := hCm.2
  have hbA : ¬ kA s.heap.size b := fun q => by unfold kA at q; omega
  have hAx : ∀ q, AX ad q → kA s.heap.size q := fun q ⟨k, hk, e⟩ => by rw [e]; exact gx k hk
  have hAm : ∀ q, AM am q → kA s.heap.size q := fun q ⟨k, hk, e⟩ => by rw [e]; exact gm k hk
  obtain ⟨r, u1, v1, e1, e2, hr⟩ := sim_pipe h (xs (i + 1).toNatClampNeg) (xs (i + 2).toNatClampNeg) (xs (i + 3).toNatClampNeg)
  refine lv_aload_n hx hb dL_law_375 rfl (lv_at hl 2 rfl) ?_
  refine lv_aload_n hx hb dL_law_376 rfl (lv_at hl 3 rfl) ?_
  refine lv_iload_n hx hb dL_law_377 rfl (lv_at hl 0 rfl) ?_
  refine lv_iconst (v := 1) hx hb dL_law_378 (by decide) ?_
  refine lv_iadd hx hb dL_law_379 ?_
  refine va_sld hx hb hX hbl hbA hS h1 dL_law_380 ?_
  refine lv_aload_n hx hb dL_law_381 rfl (lv_at hl 3 rfl) ?_
  refine lv_iload_n hx hb dL_law_382 rfl (lv_at hl 0 rfl) ?_
  refine lv_iconst (v := 2) hx hb dL_law_383 (by decide) ?_
  refine lv_iadd hx hb dL_law_384 ?_
  refine va_sld hx hb hX hbl hbA hS h2 dL_law_385 ?_
  refine lv_aload_n hx hb dL_law_386 rfl (lv_at hl 3 rfl) ?_
  refine lv_iload_n hx hb dL_law_387 rfl (lv_at hl 0 rfl) ?_
  refine lv_iconst (v := 3) hx hb dL_law_388 (by decide) ?_
  refine lv_iadd hx hb dL_law_389 ?_
  refine va_sld hx hb hX hbl hbA hS h3 dL_law_390 ?_
  refine lcVi (r0 := r) (u1 := u1) (As := [.int (xs (i + 1).toNatClampNeg), .int (xs (i + 2).toNatClampNeg), .int (xs (i + 3).toNatClampNeg)]) (rest := []) 3 (xC_ok D ad cs tM hJx) hCx ⟨hx, hb, hml, hown, hts⟩ (mX7_pipe l D ad cs tM u (xs (i + 1).toNatClampNeg) (xs (i + 2).toNatClampNeg) (xs (i + 3).toNatClampNeg) _ e1) (gGl kw_317) kw_314 kw_315 kw_316 kw_21 hX7_pipe ⟨rfl, rfl⟩ ⟨Nat.le_of_ble_eq_true rfl, Nat.le_of_ble_eq_true rfl⟩ (x_rec (C := RX7) (T := TX7) (N := 7) (ci := 6) hCx.1 hPx rfl x_o29) hPx hS hAx hPm (lw_disX hdis) ⟨Nat.le_refl _, Nat.le_refl _⟩ rfl hl.1 rfl (Nat.le_of_ble_eq_true rfl) dL_law_391 (fun H locs hPx hPm hS => ?_)
  refine lv_aload_n hx hb dL_law_394 rfl (lv_at hl 1 rfl) ?_
  refine lv_aload_n hx hb dL_law_395 rfl (lv_at hl 3 rfl) ?_
  refine lv_iload_n hx hb dL_law_396 rfl (lv_at hl 0 rfl) ?_
  refine lv_iconst (v := 1) hx hb dL_law_397 (by decide) ?_
  refine lv_iadd hx hb dL_law_398 ?_
  refine va_sld hx hb hX hbl hbA hS h1 dL_law_399 ?_
  refine lv_aload_n hx hb dL_law_400 rfl (lv_at hl 3 rfl) ?_
  refine lv_iload_n hx hb dL_law_401 rfl (lv_at hl 0 rfl) ?_
  refine lv_iconst (v := 2) hx hb dL_law_402 (by decide) ?_
  refine lv_iadd hx hb dL_law_403 ?_
  refine va_sld hx hb hX hbl hbA hS h2 dL_law_404 ?_
  refine lv_aload_n hx hb dL_law_405 rfl (lv_at hl 3 rfl) ?_
  refine lv_iload_n hx hb dL_law_406 rfl (lv_at hl 0 rfl) ?_
  refine lv_iconst (v := 3) hx hb dL_law_407 (by decide) ?_
  refine lv_iadd hx hb dL_law_408 ?_
  refine va_sld hx hb hX hbl hbA hS h3 dL_law_409 ?_
  refine lcVi (r0 := r) (u1 := v1) (As := [.int (xs (i + 1).toNatClampNeg), .int (xs (i + 2).toNatClampNeg), .int (xs (i + 3).toNatClampNeg)]) (rest := [.int r]) 3 (mC_ok D am cm hJm) hCm ⟨hx, hb, hml, hown, hts⟩ (mX8_pipe l D am cm v (xs (i + 1).toNatClampNeg) (xs (i + 2).toNatClampNeg) (xs (i + 3).toNatClampNeg) _ e2) (gGl kw_629) kw_626 kw_627 kw_628 kw_28 hX8_pipe ⟨rfl, rfl⟩ ⟨Nat.le_of_ble_eq_true rfl, Nat.le_of_ble_eq_true rfl⟩ (x_rec (C := RX8) (T := TX8) (N := 20) (ci := 7) hCm.1 hPm rfl m_o16) hPm hS hAm hPx (lw_disM hdis) ⟨Nat.le_refl _, Nat.le_refl _⟩ rfl hl.1 rfl (Nat.le_of_ble_eq_true rfl) dL_law_410 (fun H locs hPm hPx hS => ?_)
  refine lv_icmp_eq (tgt := 821) hx hb dL_law_413 (by decide) (fun _ => ?_) (fun cq => absurd rfl cq)
  exact kk _ _ _ _ hr hPx hPm hS
set_option maxHeartbeats 4000000 in
set_option maxRecDepth 100000 in
/-- water -/
theorem lw_c8 (F : lwF p s m c b L xs D ad cs tM am cm) (h : Rel u v) (hl : lv_has ls 4 [(3, .int i), (2, .ref (am 16)), (1, .ref (ad 29)), (0, .ref b)]) (h1 : vp_in (i + 1) L) (h2 : vp_in (i + 2) L) (h3 : vp_in (i + 3) L) (h4 : vp_in (i + 4) L) (h5 : vp_in (i + 5) L)
    (hPx : va_P D vwCl (wX ad cs u) H) (hPm : va_P D vwCl (wM am cm v) H) (hS : va_S (kA s.heap.size) s.heap H locs)
    (kk : ∀ (u : UX) (v : UM) (H : Heap) (locs : List Loc), Rel u v → va_P D vwCl (wX ad cs u) H → va_P D vwCl (wM am cm v) H → va_S (kA s.heap.size) s.heap H locs → W p l e room_1 s m #[Value.ref b] below meth c H locs 600000 7302250 Q (F0 m 821 ls [])) : W p l e room_1 s m #[Value.ref b] below meth c H locs 600000 7302250 Q (F0 m 418 ls []) := by
  obtain ⟨hx, hb, hml, hown, hts, hX, hbl, hCx, hCm, gx, gm, hdis⟩ := F
  have hJx := hCx.2.1
  have hJm := hCm.2
  have hbA : ¬ kA s.heap.size b := fun q => by unfold kA at q; omega
  have hAx : ∀ q, AX ad q → kA s.heap.size q := fun q ⟨k, hk, e⟩ => by rw [e]; exact gx k hk
  have hAm : ∀ q, AM am q → kA s.heap.size q := fun q ⟨k, hk, e⟩ => by rw [e]; exact gm k hk
  obtain ⟨r, e1, e2⟩ := sim_water h (xs (i + 1).toNatClampNeg) (xs (i + 2).toNatClampNeg)
  have hr := h
  refine lv_aload_n hx hb dL_law_418 rfl (lv_at hl 2 rfl) ?_
  refine lv_aload_n hx hb dL_law_419 rfl (lv_at hl 3 rfl) ?_
  refine lv_iload_n hx hb dL_law_420 rfl (lv_at hl 0 rfl) ?_
  refine lv_iconst (v := 1) hx hb dL_law_421 (by decide) ?_
  refine lv_iadd hx hb dL_law_422 ?_
  refine va_sld hx hb hX hbl hbA hS h1 dL_law_423 ?_
  refine lv_aload_n hx hb dL_law_424 rfl (lv_at hl 3 rfl) ?_
  refine lv_iload_n hx hb dL_law_425 rfl (lv_at hl 0 rfl) ?_
  refine lv_iconst (v := 2) hx hb dL_law_426 (by decide) ?_
  refine lv_iadd hx hb dL_law_427 ?_
  refine va_sld hx hb hX hbl hbA hS h2 dL_law_428 ?_
  refine lcVi (r0 := r) (u1 := u) (As := [.int (xs (i + 1).toNatClampNeg), .int (xs (i + 2).toNatClampNeg)]) (rest := []) 2 (xC_ok D ad cs tM hJx) hCx ⟨hx, hb, hml, hown, hts⟩ (mX7_water l D ad cs tM u (xs (i + 1).toNatClampNeg) (xs (i + 2).toNatClampNeg) _ e1) (gGl kw_321) kw_318 kw_319 kw_320 kw_21 hX7_water ⟨rfl, rfl⟩ ⟨Nat.le_of_ble_eq_true rfl, Nat.le_of_ble_eq_true rfl⟩ (x_rec (C := RX7) (T := TX7) (N := 7) (ci := 6) hCx.1 hPx rfl x_o29) hPx hS hAx hPm (lw_disX hdis) ⟨Nat.le_refl _, Nat.le_refl _⟩ rfl hl.1 rfl (Nat.le_of_ble_eq_true rfl) dL_law_429 (fun H locs hPx hPm hS => ?_)
  refine lv_aload_n hx hb dL_law_432 rfl (lv_at hl 1 rfl) ?_
  refine lv_aload_n hx hb dL_law_433 rfl (lv_at hl 3 rfl) ?_
  refine lv_iload_n hx hb dL_law_434 rfl (lv_at hl 0 rfl) ?_
  refine lv_iconst (v := 1) hx hb dL_law_435 (by decide) ?_
  refine lv_iadd hx hb dL_law_436 ?_
  refine va_sld hx hb hX hbl hbA hS h1 dL_law_437 ?_
  refine lv_aload_n hx hb dL_law_438 rfl (lv_at hl 3 rfl) ?_
  refine lv_iload_n hx hb dL_law_439 rfl (lv_at hl 0 rfl) ?_
  refine lv_iconst (v := 2) hx hb dL_law_440 (by decide) ?_
  refine lv_iadd hx hb dL_law_441 ?_
  refine va_sld hx hb hX hbl hbA hS h2 dL_law_442 ?_
  refine lcVi (r0 := r) (u1 := v) (As := [.int (xs (i + 1).toNatClampNeg), .int (xs (i + 2).toNatClampNeg)]) (rest := [.int r]) 2 (mC_ok D am cm hJm) hCm ⟨hx, hb, hml, hown, hts⟩ (mX8_water l D am cm v (xs (i + 1).toNatClampNeg) (xs (i + 2).toNatClampNeg) _ e2) (gGl kw_633) kw_630 kw_631 kw_632 kw_28 hX8_water ⟨rfl, rfl⟩ ⟨Nat.le_of_ble_eq_true rfl, Nat.le_of_ble_eq_true rfl⟩ (x_rec (C := RX8) (T := TX8) (N := 20) (ci := 7) hCm.1 hPm rfl m_o16) hPm hS hAm hPx (lw_disM hdis) ⟨Nat.le_refl _, Nat.le_refl _⟩ rfl hl.1 rfl (Nat.le_of_ble_eq_true rfl) dL_law_443 (fun H locs hPm hPx hS => ?_)
  refine lv_icmp_eq (tgt := 821) hx hb dL_law_446 (by decide) (fun _ => ?_) (fun cq => absurd rfl cq)
  exact kk _ _ _ _ hr hPx hPm hS
set_option maxHeartbeats 4000000 in
set_option maxRecDepth 100000 in
/-- fails -/
theorem lw_c9 (F : lwF p s m c b L xs D ad cs tM am cm) (h : Rel u v) (hl : lv_has ls 4 [(3, .int i), (2, .ref (am 16)), (1, .ref (ad 29)), (0, .ref b)]) (h1 : vp_in (i + 1) L) (h2 : vp_in (i + 2) L) (h3 : vp_in (i + 3) L) (h4 : vp_in (i + 4) L) (h5 : vp_in (i + 5) L)
    (hPx : va_P D vwCl (wX ad cs u) H) (hPm : va_P D vwCl (wM am cm v) H) (hS : va_S (kA s.heap.size) s.heap H locs)
    (kk : ∀ (u : UX) (v : UM) (H : Heap) (locs : List Loc), Rel u v → va_P D vwCl (wX ad cs u) H → va_P D vwCl (wM am cm v) H → va_S (kA s.heap.size) s.heap H locs → W p l e room_1 s m #[Value.ref b] below meth c H locs 600000 7302250 Q (F0 m 821 ls [])) : W p l e room_1 s m #[Value.ref b] below meth c H locs 600000 7302250 Q (F0 m 451 ls []) := by
  obtain ⟨hx, hb, hml, hown, hts, hX, hbl, hCx, hCm, gx, gm, hdis⟩ := F
  have hJx := hCx.2.1
  have hJm := hCm.2
  have hbA : ¬ kA s.heap.size b := fun q => by unfold kA at q; omega
  have hAx : ∀ q, AX ad q → kA s.heap.size q := fun q ⟨k, hk, e⟩ => by rw [e]; exact gx k hk
  have hAm : ∀ q, AM am q → kA s.heap.size q := fun q ⟨k, hk, e⟩ => by rw [e]; exact gm k hk
  obtain ⟨r, u1, v1, e1, e2, hr⟩ := sim_fails h 
  refine lv_aload_n hx hb dL_law_451 rfl (lv_at hl 2 rfl) ?_
  refine lcVi (r0 := r) (u1 := u1) (As := []) (rest := []) 0 (xC_ok D ad cs tM hJx) hCx ⟨hx, hb, hml, hown, hts⟩ (mX7_fails l D ad cs tM u  _ e1) (gGl kw_333) kw_330 kw_331 kw_332 kw_21 hX7_fails ⟨rfl, rfl⟩ ⟨Nat.le_of_ble_eq_true rfl, Nat.le_of_ble_eq_true rfl⟩ (x_rec (C := RX7) (T := TX7) (N := 7) (ci := 6) hCx.1 hPx rfl x_o29) hPx hS hAx hPm (lw_disX hdis) ⟨Nat.le_refl _, Nat.le_refl _⟩ rfl hl.1 rfl (Nat.le_of_ble_eq_true rfl) dL_law_452 (fun H locs hPx hPm hS => ?_)
  refine lv_aload_n hx hb dL_law_455 rfl (lv_at hl 1 rfl) ?_
  refine lcVi (r0 := r) (u1 := v1) (As := []) (rest := [.int r]) 0 (mC_ok D am cm hJm) hCm ⟨hx, hb, hml, hown, hts⟩ (mX8_fails l D am cm v  _ e2) (gGl kw_645) kw_642 kw_643 kw_644 kw_28 hX8_fails ⟨rfl, rfl⟩ ⟨Nat.le_of_ble_eq_true rfl, Nat.le_of_ble_eq_true rfl⟩ (x_rec (C := RX8) (T := TX8) (N := 20) (ci := 7) hCm.1 hPm rfl m_o16) hPm hS hAm hPx (lw_disM hdis) ⟨Nat.le_refl _, Nat.le_refl _⟩ rfl hl.1 rfl (Nat.le_of_ble_eq_true rfl) dL_law_456 (fun H locs hPm hPx hS => ?_)
  refine lv_icmp_eq (tgt := 821) hx hb dL_law_459 (by decide) (fun _ => ?_) (fun cq => absurd rfl cq)
  exact kk _ _ _ _ hr hPx hPm hS
set_option maxHeartbeats 4000000 in
set_option maxRecDepth 100000 in
/-- at -/
theorem lw_c10 (F : lwF p s m c b L xs D ad cs tM am cm) (h : Rel u v) (hl : lv_has ls 4 [(3, .int i), (2, .ref (am 16)), (1, .ref (ad 29)), (0, .ref b)]) (h1 : vp_in (i + 1) L) (h2 : vp_in (i + 2) L) (h3 : vp_in (i + 3) L) (h4 : vp_in (i + 4) L) (h5 : vp_in (i + 5) L)
    (hPx : va_P D vwCl (wX ad cs u) H) (hPm : va_P D vwCl (wM am cm v) H) (hS : va_S (kA s.heap.size) s.heap H locs)
    (kk : ∀ (u : UX) (v : UM) (H : Heap) (locs : List Loc), Rel u v → va_P D vwCl (wX ad cs u) H → va_P D vwCl (wM am cm v) H → va_S (kA s.heap.size) s.heap H locs → W p l e room_1 s m #[Value.ref b] below meth c H locs 600000 7302250 Q (F0 m 821 ls [])) : W p l e room_1 s m #[Value.ref b] below meth c H locs 600000 7302250 Q (F0 m 464 ls []) := by
  obtain ⟨hx, hb, hml, hown, hts, hX, hbl, hCx, hCm, gx, gm, hdis⟩ := F
  have hJx := hCx.2.1
  have hJm := hCm.2
  have hbA : ¬ kA s.heap.size b := fun q => by unfold kA at q; omega
  have hAx : ∀ q, AX ad q → kA s.heap.size q := fun q ⟨k, hk, e⟩ => by rw [e]; exact gx k hk
  have hAm : ∀ q, AM am q → kA s.heap.size q := fun q ⟨k, hk, e⟩ => by rw [e]; exact gm k hk
  obtain ⟨r, u1, v1, e1, e2, hr⟩ := sim_at h (xs (i + 1).toNatClampNeg) (xs (i + 2).toNatClampNeg)
  refine lv_aload_n hx hb dL_law_464 rfl (lv_at hl 2 rfl) ?_
  refine lv_aload_n hx hb dL_law_465 rfl (lv_at hl 3 rfl) ?_
  refine lv_iload_n hx hb dL_law_466 rfl (lv_at hl 0 rfl) ?_
  refine lv_iconst (v := 1) hx hb dL_law_467 (by decide) ?_
  refine lv_iadd hx hb dL_law_468 ?_
  refine va_sld hx hb hX hbl hbA hS h1 dL_law_469 ?_
  refine lv_aload_n hx hb dL_law_470 rfl (lv_at hl 3 rfl) ?_
  refine lv_iload_n hx hb dL_law_471 rfl (lv_at hl 0 rfl) ?_
  refine lv_iconst (v := 2) hx hb dL_law_472 (by decide) ?_
  refine lv_iadd hx hb dL_law_473 ?_
  refine va_sld hx hb hX hbl hbA hS h2 dL_law_474 ?_
  refine lcVl (r0 := r) (u1 := u1) (As := [.int (xs (i + 1).toNatClampNeg), .int (xs (i + 2).toNatClampNeg)]) (rest := []) 2 (xC_ok D ad cs tM hJx) hCx ⟨hx, hb, hml, hown, hts⟩ (mX7_at l D ad cs tM u (xs (i + 1).toNatClampNeg) (xs (i + 2).toNatClampNeg) _ e1) (gGl kw_382) kw_379 kw_380 kw_381 kw_21 hX7_at ⟨rfl, rfl⟩ ⟨Nat.le_of_ble_eq_true rfl, Nat.le_of_ble_eq_true rfl⟩ (x_rec (C := RX7) (T := TX7) (N := 7) (ci := 6) hCx.1 hPx rfl x_o29) hPx hS hAx hPm (lw_disX hdis) ⟨Nat.le_refl _, Nat.le_refl _⟩ rfl hl.1 rfl (Nat.le_of_ble_eq_true rfl) dL_law_475 (fun H locs hPx hPm hS => ?_)
  refine lv_aload_n hx hb dL_law_478 rfl (lv_at hl 1 rfl) ?_
  refine lv_aload_n hx hb dL_law_479 rfl (lv_at hl 3 rfl) ?_
  refine lv_iload_n hx hb dL_law_480 rfl (lv_at hl 0 rfl) ?_
  refine lv_iconst (v := 1) hx hb dL_law_481 (by decide) ?_
  refine lv_iadd hx hb dL_law_482 ?_
  refine va_sld hx hb hX hbl hbA hS h1 dL_law_483 ?_
  refine lv_aload_n hx hb dL_law_484 rfl (lv_at hl 3 rfl) ?_
  refine lv_iload_n hx hb dL_law_485 rfl (lv_at hl 0 rfl) ?_
  refine lv_iconst (v := 2) hx hb dL_law_486 (by decide) ?_
  refine lv_iadd hx hb dL_law_487 ?_
  refine va_sld hx hb hX hbl hbA hS h2 dL_law_488 ?_
  refine lcVl (r0 := r) (u1 := v1) (As := [.int (xs (i + 1).toNatClampNeg), .int (xs (i + 2).toNatClampNeg)]) (rest := [.long r]) 2 (mC_ok D am cm hJm) hCm ⟨hx, hb, hml, hown, hts⟩ (mX8_at l D am cm v (xs (i + 1).toNatClampNeg) (xs (i + 2).toNatClampNeg) _ e2) (gGl kw_657) kw_654 kw_655 kw_656 kw_28 hX8_at ⟨rfl, rfl⟩ ⟨Nat.le_of_ble_eq_true rfl, Nat.le_of_ble_eq_true rfl⟩ (x_rec (C := RX8) (T := TX8) (N := 20) (ci := 7) hCm.1 hPm rfl m_o16) hPm hS hAm hPx (lw_disM hdis) ⟨Nat.le_refl _, Nat.le_refl _⟩ rfl hl.1 rfl (Nat.le_of_ble_eq_true rfl) dL_law_489 (fun H locs hPm hPx hS => ?_)
  refine W.lcmp hx hb dL_law_492 ?_
  refine lv_if_eq (tgt := 821) hx hb dL_law_493 (by decide) (fun _ => ?_) (fun cq => absurd (lc_eq.mpr rfl) cq)
  exact kk _ _ _ _ hr hPx hPm hS
set_option maxHeartbeats 4000000 in
set_option maxRecDepth 100000 in
/-- hit -/
theorem lw_c11 (F : lwF p s m c b L xs D ad cs tM am cm) (h : Rel u v) (hl : lv_has ls 4 [(3, .int i), (2, .ref (am 16)), (1, .ref (ad 29)), (0, .ref b)]) (h1 : vp_in (i + 1) L) (h2 : vp_in (i + 2) L) (h3 : vp_in (i + 3) L) (h4 : vp_in (i + 4) L) (h5 : vp_in (i + 5) L)
    (hPx : va_P D vwCl (wX ad cs u) H) (hPm : va_P D vwCl (wM am cm v) H) (hS : va_S (kA s.heap.size) s.heap H locs)
    (kk : ∀ (u : UX) (v : UM) (H : Heap) (locs : List Loc), Rel u v → va_P D vwCl (wX ad cs u) H → va_P D vwCl (wM am cm v) H → va_S (kA s.heap.size) s.heap H locs → W p l e room_1 s m #[Value.ref b] below meth c H locs 600000 7302250 Q (F0 m 821 ls [])) : W p l e room_1 s m #[Value.ref b] below meth c H locs 600000 7302250 Q (F0 m 498 ls []) := by
  obtain ⟨hx, hb, hml, hown, hts, hX, hbl, hCx, hCm, gx, gm, hdis⟩ := F
  have hJx := hCx.2.1
  have hJm := hCm.2
  have hbA : ¬ kA s.heap.size b := fun q => by unfold kA at q; omega
  have hAx : ∀ q, AX ad q → kA s.heap.size q := fun q ⟨k, hk, e⟩ => by rw [e]; exact gx k hk
  have hAm : ∀ q, AM am q → kA s.heap.size q := fun q ⟨k, hk, e⟩ => by rw [e]; exact gm k hk
  obtain ⟨r, u1, v1, e1, e2, hr⟩ := sim_hit h (xs (i + 1).toNatClampNeg) (xs (i + 2).toNatClampNeg) (xs (i + 3).toNatClampNeg)
  refine lv_aload_n hx hb dL_law_498 rfl (lv_at hl 2 rfl) ?_
  refine lv_aload_n hx hb dL_law_499 rfl (lv_at hl 3 rfl) ?_
  refine lv_iload_n hx hb dL_law_500 rfl (lv_at hl 0 rfl) ?_
  refine lv_iconst (v := 1) hx hb dL_law_501 (by decide) ?_
  refine lv_iadd hx hb dL_law_502 ?_
  refine va_sld hx hb hX hbl hbA hS h1 dL_law_503 ?_
  refine lv_aload_n hx hb dL_law_504 rfl (lv_at hl 3 rfl) ?_
  refine lv_iload_n hx hb dL_law_505 rfl (lv_at hl 0 rfl) ?_
  refine lv_iconst (v := 2) hx hb dL_law_506 (by decide) ?_
  refine lv_iadd hx hb dL_law_507 ?_
  refine va_sld hx hb hX hbl hbA hS h2 dL_law_508 ?_
  refine lv_aload_n hx hb dL_law_509 rfl (lv_at hl 3 rfl) ?_
  refine lv_iload_n hx hb dL_law_510 rfl (lv_at hl 0 rfl) ?_
  refine lv_iconst (v := 3) hx hb dL_law_511 (by decide) ?_
  refine lv_iadd hx hb dL_law_512 ?_
  refine va_sld hx hb hX hbl hbA hS h3 dL_law_513 ?_
  refine lcVi (r0 := r) (u1 := u1) (As := [.int (xs (i + 1).toNatClampNeg), .int (xs (i + 2).toNatClampNeg), .int (xs (i + 3).toNatClampNeg)]) (rest := []) 3 (xC_ok D ad cs tM hJx) hCx ⟨hx, hb, hml, hown, hts⟩ (mX7_hit l D ad cs tM u (xs (i + 1).toNatClampNeg) (xs (i + 2).toNatClampNeg) (xs (i + 3).toNatClampNeg) _ e1) (gGl kw_388) kw_385 kw_386 kw_387 kw_21 hX7_hit ⟨rfl, rfl⟩ ⟨Nat.le_of_ble_eq_true rfl, Nat.le_of_ble_eq_true rfl⟩ (x_rec (C := RX7) (T := TX7) (N := 7) (ci := 6) hCx.1 hPx rfl x_o29) hPx hS hAx hPm (lw_disX hdis) ⟨Nat.le_refl _, Nat.le_refl _⟩ rfl hl.1 rfl (Nat.le_of_ble_eq_true rfl) dL_law_514 (fun H locs hPx hPm hS => ?_)
  refine lv_aload_n hx hb dL_law_517 rfl (lv_at hl 1 rfl) ?_
  refine lv_aload_n hx hb dL_law_518 rfl (lv_at hl 3 rfl) ?_
  refine lv_iload_n hx hb dL_law_519 rfl (lv_at hl 0 rfl) ?_
  refine lv_iconst (v := 1) hx hb dL_law_520 (by decide) ?_
  refine lv_iadd hx hb dL_law_521 ?_
  refine va_sld hx hb hX hbl hbA hS h1 dL_law_522 ?_
  refine lv_aload_n hx hb dL_law_523 rfl (lv_at hl 3 rfl) ?_
  refine lv_iload_n hx hb dL_law_524 rfl (lv_at hl 0 rfl) ?_
  refine lv_iconst (v := 2) hx hb dL_law_525 (by decide) ?_
  refine lv_iadd hx hb dL_law_526 ?_
  refine va_sld hx hb hX hbl hbA hS h2 dL_law_527 ?_
  refine lv_aload_n hx hb dL_law_528 rfl (lv_at hl 3 rfl) ?_
  refine lv_iload_n hx hb dL_law_529 rfl (lv_at hl 0 rfl) ?_
  refine lv_iconst (v := 3) hx hb dL_law_530 (by decide) ?_
  refine lv_iadd hx hb dL_law_531 ?_
  refine va_sld hx hb hX hbl hbA hS h3 dL_law_532 ?_
  refine lcVi (r0 := r) (u1 := v1) (As := [.int (xs (i + 1).toNatClampNeg), .int (xs (i + 2).toNatClampNeg), .int (xs (i + 3).toNatClampNeg)]) (rest := [.int r]) 3 (mC_ok D am cm hJm) hCm ⟨hx, hb, hml, hown, hts⟩ (mX8_hit l D am cm v (xs (i + 1).toNatClampNeg) (xs (i + 2).toNatClampNeg) (xs (i + 3).toNatClampNeg) _ e2) (gGl kw_662) kw_659 kw_660 kw_661 kw_28 hX8_hit ⟨rfl, rfl⟩ ⟨Nat.le_of_ble_eq_true rfl, Nat.le_of_ble_eq_true rfl⟩ (x_rec (C := RX8) (T := TX8) (N := 20) (ci := 7) hCm.1 hPm rfl m_o16) hPm hS hAm hPx (lw_disM hdis) ⟨Nat.le_refl _, Nat.le_refl _⟩ rfl hl.1 rfl (Nat.le_of_ble_eq_true rfl) dL_law_533 (fun H locs hPm hPx hS => ?_)
  refine lv_icmp_eq (tgt := 821) hx hb dL_law_536 (by decide) (fun _ => ?_) (fun cq => absurd rfl cq)
  exact kk _ _ _ _ hr hPx hPm hS
set_option maxHeartbeats 4000000 in
set_option maxRecDepth 100000 in
/-- steady -/
theorem lw_c12 (F : lwF p s m c b L xs D ad cs tM am cm) (h : Rel u v) (hl : lv_has ls 4 [(3, .int i), (2, .ref (am 16)), (1, .ref (ad 29)), (0, .ref b)]) (h1 : vp_in (i + 1) L) (h2 : vp_in (i + 2) L) (h3 : vp_in (i + 3) L) (h4 : vp_in (i + 4) L) (h5 : vp_in (i + 5) L)
    (hPx : va_P D vwCl (wX ad cs u) H) (hPm : va_P D vwCl (wM am cm v) H) (hS : va_S (kA s.heap.size) s.heap H locs)
    (kk : ∀ (u : UX) (v : UM) (H : Heap) (locs : List Loc), Rel u v → va_P D vwCl (wX ad cs u) H → va_P D vwCl (wM am cm v) H → va_S (kA s.heap.size) s.heap H locs → W p l e room_1 s m #[Value.ref b] below meth c H locs 600000 7302250 Q (F0 m 821 ls [])) : W p l e room_1 s m #[Value.ref b] below meth c H locs 600000 7302250 Q (F0 m 541 ls []) := by
  obtain ⟨hx, hb, hml, hown, hts, hX, hbl, hCx, hCm, gx, gm, hdis⟩ := F
  have hJx := hCx.2.1
  have hJm := hCm.2
  have hbA : ¬ kA s.heap.size b := fun q => by unfold kA at q; omega
  have hAx : ∀ q, AX ad q → kA s.heap.size q := fun q ⟨k, hk, e⟩ => by rw [e]; exact gx k hk
  have hAm : ∀ q, AM am q → kA s.heap.size q := fun q ⟨k, hk, e⟩ => by rw [e]; exact gm k hk
  obtain ⟨r, e1, e2⟩ := sim_steady (u := u) (v := v) (xs (i + 1).toNatClampNeg) (xs (i + 2).toNatClampNeg) (xs (i + 3).toNatClampNeg) (xs (i + 4).toNatClampNeg) (xs (i + 5).toNatClampNeg)
  have hr := h
  refine lv_aload_n hx hb dL_law_541 rfl (lv_at hl 2 rfl) ?_
  refine lv_aload_n hx hb dL_law_542 rfl (lv_at hl 3 rfl) ?_
  refine lv_iload_n hx hb dL_law_543 rfl (lv_at hl 0 rfl) ?_
  refine lv_iconst (v := 1) hx hb dL_law_544 (by decide) ?_
  refine lv_iadd hx hb dL_law_545 ?_
  refine va_sld hx hb hX hbl hbA hS h1 dL_law_546 ?_
  refine lv_aload_n hx hb dL_law_547 rfl (lv_at hl 3 rfl) ?_
  refine lv_iload_n hx hb dL_law_548 rfl (lv_at hl 0 rfl) ?_
  refine lv_iconst (v := 2) hx hb dL_law_549 (by decide) ?_
  refine lv_iadd hx hb dL_law_550 ?_
  refine va_sld hx hb hX hbl hbA hS h2 dL_law_551 ?_
  refine lv_aload_n hx hb dL_law_552 rfl (lv_at hl 3 rfl) ?_
  refine lv_iload_n hx hb dL_law_553 rfl (lv_at hl 0 rfl) ?_
  refine lv_iconst (v := 3) hx hb dL_law_554 (by decide) ?_
  refine lv_iadd hx hb dL_law_555 ?_
  refine va_sld hx hb hX hbl hbA hS h3 dL_law_556 ?_
  refine lv_aload_n hx hb dL_law_557 rfl (lv_at hl 3 rfl) ?_
  refine lv_iload_n hx hb dL_law_558 rfl (lv_at hl 0 rfl) ?_
  refine lv_iconst (v := 4) hx hb dL_law_559 (by decide) ?_
  refine lv_iadd hx hb dL_law_560 ?_
  refine va_sld hx hb hX hbl hbA hS h4 dL_law_561 ?_
  refine lv_aload_n hx hb dL_law_562 rfl (lv_at hl 3 rfl) ?_
  refine lv_iload_n hx hb dL_law_563 rfl (lv_at hl 0 rfl) ?_
  refine lv_iconst (v := 5) hx hb dL_law_564 (by decide) ?_
  refine lv_iadd hx hb dL_law_565 ?_
  refine va_sld hx hb hX hbl hbA hS h5 dL_law_566 ?_
  refine lcVi (r0 := r) (u1 := u) (As := [.int (xs (i + 1).toNatClampNeg), .int (xs (i + 2).toNatClampNeg), .int (xs (i + 3).toNatClampNeg), .int (xs (i + 4).toNatClampNeg), .int (xs (i + 5).toNatClampNeg)]) (rest := []) 5 (xC_ok D ad cs tM hJx) hCx ⟨hx, hb, hml, hown, hts⟩ (mX7_steady l D ad cs tM u (xs (i + 1).toNatClampNeg) (xs (i + 2).toNatClampNeg) (xs (i + 3).toNatClampNeg) (xs (i + 4).toNatClampNeg) (xs (i + 5).toNatClampNeg) _ e1) (gGl kw_400) kw_397 kw_398 kw_399 kw_21 hX7_steady ⟨rfl, rfl⟩ ⟨Nat.le_of_ble_eq_true rfl, Nat.le_of_ble_eq_true rfl⟩ (x_rec (C := RX7) (T := TX7) (N := 7) (ci := 6) hCx.1 hPx rfl x_o29) hPx hS hAx hPm (lw_disX hdis) ⟨Nat.le_refl _, Nat.le_refl _⟩ rfl hl.1 rfl (Nat.le_of_ble_eq_true rfl) dL_law_567 (fun H locs hPx hPm hS => ?_)
  refine lv_aload_n hx hb dL_law_570 rfl (lv_at hl 1 rfl) ?_
  refine lv_aload_n hx hb dL_law_571 rfl (lv_at hl 3 rfl) ?_
  refine lv_iload_n hx hb dL_law_572 rfl (lv_at hl 0 rfl) ?_
  refine lv_iconst (v := 1) hx hb dL_law_573 (by decide) ?_
  refine lv_iadd hx hb dL_law_574 ?_
  refine va_sld hx hb hX hbl hbA hS h1 dL_law_575 ?_
  refine lv_aload_n hx hb dL_law_576 rfl (lv_at hl 3 rfl) ?_
  refine lv_iload_n hx hb dL_law_577 rfl (lv_at hl 0 rfl) ?_
  refine lv_iconst (v := 2) hx hb dL_law_578 (by decide) ?_
  refine lv_iadd hx hb dL_law_579 ?_
  refine va_sld hx hb hX hbl hbA hS h2 dL_law_580 ?_
  refine lv_aload_n hx hb dL_law_581 rfl (lv_at hl 3 rfl) ?_
  refine lv_iload_n hx hb dL_law_582 rfl (lv_at hl 0 rfl) ?_
  refine lv_iconst (v := 3) hx hb dL_law_583 (by decide) ?_
  refine lv_iadd hx hb dL_law_584 ?_
  refine va_sld hx hb hX hbl hbA hS h3 dL_law_585 ?_
  refine lv_aload_n hx hb dL_law_586 rfl (lv_at hl 3 rfl) ?_
  refine lv_iload_n hx hb dL_law_587 rfl (lv_at hl 0 rfl) ?_
  refine lv_iconst (v := 4) hx hb dL_law_588 (by decide) ?_
  refine lv_iadd hx hb dL_law_589 ?_
  refine va_sld hx hb hX hbl hbA hS h4 dL_law_590 ?_
  refine lv_aload_n hx hb dL_law_591 rfl (lv_at hl 3 rfl) ?_
  refine lv_iload_n hx hb dL_law_592 rfl (lv_at hl 0 rfl) ?_
  refine lv_iconst (v := 5) hx hb dL_law_593 (by decide) ?_
  refine lv_iadd hx hb dL_law_594 ?_
  refine va_sld hx hb hX hbl hbA hS h5 dL_law_595 ?_
  refine lcVi (r0 := r) (u1 := v) (As := [.int (xs (i + 1).toNatClampNeg), .int (xs (i + 2).toNatClampNeg), .int (xs (i + 3).toNatClampNeg), .int (xs (i + 4).toNatClampNeg), .int (xs (i + 5).toNatClampNeg)]) (rest := [.int r]) 5 (mC_ok D am cm hJm) hCm ⟨hx, hb, hml, hown, hts⟩ (mX8_steady l D am cm v (xs (i + 1).toNatClampNeg) (xs (i + 2).toNatClampNeg) (xs (i + 3).toNatClampNeg) (xs (i + 4).toNatClampNeg) (xs (i + 5).toNatClampNeg) _ e2) (gGl kw_667) kw_664 kw_665 kw_666 kw_28 hX8_steady ⟨rfl, rfl⟩ ⟨Nat.le_of_ble_eq_true rfl, Nat.le_of_ble_eq_true rfl⟩ (x_rec (C := RX8) (T := TX8) (N := 20) (ci := 7) hCm.1 hPm rfl m_o16) hPm hS hAm hPx (lw_disM hdis) ⟨Nat.le_refl _, Nat.le_refl _⟩ rfl hl.1 rfl (Nat.le_of_ble_eq_true rfl) dL_law_596 (fun H locs hPm hPx hS => ?_)
  refine lv_icmp_eq (tgt := 821) hx hb dL_law_599 (by decide) (fun _ => ?_) (fun cq => absurd rfl cq)
  exact kk _ _ _ _ hr hPx hPm hS
set_option maxHeartbeats 4000000 in
set_option maxRecDepth 100000 in
/-- store -/
theorem lw_c13 (F : lwF p s m c b L xs D ad cs tM am cm) (h : Rel u v) (hl : lv_has ls 4 [(3, .int i), (2, .ref (am 16)), (1, .ref (ad 29)), (0, .ref b)]) (h1 : vp_in (i + 1) L) (h2 : vp_in (i + 2) L) (h3 : vp_in (i + 3) L) (h4 : vp_in (i + 4) L) (h5 : vp_in (i + 5) L)
    (hPx : va_P D vwCl (wX ad cs u) H) (hPm : va_P D vwCl (wM am cm v) H) (hS : va_S (kA s.heap.size) s.heap H locs)
    (kk : ∀ (u : UX) (v : UM) (H : Heap) (locs : List Loc), Rel u v → va_P D vwCl (wX ad cs u) H → va_P D vwCl (wM am cm v) H → va_S (kA s.heap.size) s.heap H locs → W p l e room_1 s m #[Value.ref b] below meth c H locs 600000 7302250 Q (F0 m 821 ls [])) : W p l e room_1 s m #[Value.ref b] below meth c H locs 600000 7302250 Q (F0 m 604 ls []) := by
  obtain ⟨hx, hb, hml, hown, hts, hX, hbl, hCx, hCm, gx, gm, hdis⟩ := F
  have hJx := hCx.2.1
  have hJm := hCm.2
  have hbA : ¬ kA s.heap.size b := fun q => by unfold kA at q; omega
  have hAx : ∀ q, AX ad q → kA s.heap.size q := fun q ⟨k, hk, e⟩ => by rw [e]; exact gx k hk
  have hAm : ∀ q, AM am q → kA s.heap.size q := fun q ⟨k, hk, e⟩ => by rw [e]; exact gm k hk
  obtain ⟨r, u1, v1, e1, e2, hr⟩ := sim_store h (xs (i + 1).toNatClampNeg) (xs (i + 2).toNatClampNeg) (xs (i + 3).toNatClampNeg)
  refine lv_aload_n hx hb dL_law_604 rfl (lv_at hl 2 rfl) ?_
  refine lv_aload_n hx hb dL_law_605 rfl (lv_at hl 3 rfl) ?_
  refine lv_iload_n hx hb dL_law_606 rfl (lv_at hl 0 rfl) ?_
  refine lv_iconst (v := 1) hx hb dL_law_607 (by decide) ?_
  refine lv_iadd hx hb dL_law_608 ?_
  refine va_sld hx hb hX hbl hbA hS h1 dL_law_609 ?_
  refine lv_aload_n hx hb dL_law_610 rfl (lv_at hl 3 rfl) ?_
  refine lv_iload_n hx hb dL_law_611 rfl (lv_at hl 0 rfl) ?_
  refine lv_iconst (v := 2) hx hb dL_law_612 (by decide) ?_
  refine lv_iadd hx hb dL_law_613 ?_
  refine va_sld hx hb hX hbl hbA hS h2 dL_law_614 ?_
  refine lv_aload_n hx hb dL_law_615 rfl (lv_at hl 3 rfl) ?_
  refine lv_iload_n hx hb dL_law_616 rfl (lv_at hl 0 rfl) ?_
  refine lv_iconst (v := 3) hx hb dL_law_617 (by decide) ?_
  refine lv_iadd hx hb dL_law_618 ?_
  refine va_sld hx hb hX hbl hbA hS h3 dL_law_619 ?_
  refine lcVi (r0 := r) (u1 := u1) (As := [.int (xs (i + 1).toNatClampNeg), .int (xs (i + 2).toNatClampNeg), .int (xs (i + 3).toNatClampNeg)]) (rest := []) 3 (xC_ok D ad cs tM hJx) hCx ⟨hx, hb, hml, hown, hts⟩ (mX7_store l D ad cs tM u (xs (i + 1).toNatClampNeg) (xs (i + 2).toNatClampNeg) (xs (i + 3).toNatClampNeg) _ e1) (gGl kw_411) kw_408 kw_409 kw_410 kw_21 hX7_store ⟨rfl, rfl⟩ ⟨Nat.le_of_ble_eq_true rfl, Nat.le_of_ble_eq_true rfl⟩ (x_rec (C := RX7) (T := TX7) (N := 7) (ci := 6) hCx.1 hPx rfl x_o29) hPx hS hAx hPm (lw_disX hdis) ⟨Nat.le_refl _, Nat.le_refl _⟩ rfl hl.1 rfl (Nat.le_of_ble_eq_true rfl) dL_law_620 (fun H locs hPx hPm hS => ?_)
  refine lv_aload_n hx hb dL_law_623 rfl (lv_at hl 1 rfl) ?_
  refine lv_aload_n hx hb dL_law_624 rfl (lv_at hl 3 rfl) ?_
  refine lv_iload_n hx hb dL_law_625 rfl (lv_at hl 0 rfl) ?_
  refine lv_iconst (v := 1) hx hb dL_law_626 (by decide) ?_
  refine lv_iadd hx hb dL_law_627 ?_
  refine va_sld hx hb hX hbl hbA hS h1 dL_law_628 ?_
  refine lv_aload_n hx hb dL_law_629 rfl (lv_at hl 3 rfl) ?_
  refine lv_iload_n hx hb dL_law_630 rfl (lv_at hl 0 rfl) ?_
  refine lv_iconst (v := 2) hx hb dL_law_631 (by decide) ?_
  refine lv_iadd hx hb dL_law_632 ?_
  refine va_sld hx hb hX hbl hbA hS h2 dL_law_633 ?_
  refine lv_aload_n hx hb dL_law_634 rfl (lv_at hl 3 rfl) ?_
  refine lv_iload_n hx hb dL_law_635 rfl (lv_at hl 0 rfl) ?_
  refine lv_iconst (v := 3) hx hb dL_law_636 (by decide) ?_
  refine lv_iadd hx hb dL_law_637 ?_
  refine va_sld hx hb hX hbl hbA hS h3 dL_law_638 ?_
  refine lcVi (r0 := r) (u1 := v1) (As := [.int (xs (i + 1).toNatClampNeg), .int (xs (i + 2).toNatClampNeg), .int (xs (i + 3).toNatClampNeg)]) (rest := [.int r]) 3 (mC_ok D am cm hJm) hCm ⟨hx, hb, hml, hown, hts⟩ (mX8_store l D am cm v (xs (i + 1).toNatClampNeg) (xs (i + 2).toNatClampNeg) (xs (i + 3).toNatClampNeg) _ e2) (gGl kw_675) kw_672 kw_673 kw_674 kw_28 hX8_store ⟨rfl, rfl⟩ ⟨Nat.le_of_ble_eq_true rfl, Nat.le_of_ble_eq_true rfl⟩ (x_rec (C := RX8) (T := TX8) (N := 20) (ci := 7) hCm.1 hPm rfl m_o16) hPm hS hAm hPx (lw_disM hdis) ⟨Nat.le_refl _, Nat.le_refl _⟩ rfl hl.1 rfl (Nat.le_of_ble_eq_true rfl) dL_law_639 (fun H locs hPm hPx hS => ?_)
  refine lv_icmp_eq (tgt := 821) hx hb dL_law_642 (by decide) (fun _ => ?_) (fun cq => absurd rfl cq)
  exact kk _ _ _ _ hr hPx hPm hS
set_option maxHeartbeats 4000000 in
set_option maxRecDepth 100000 in
/-- room -/
theorem lw_c14 (F : lwF p s m c b L xs D ad cs tM am cm) (h : Rel u v) (hl : lv_has ls 4 [(3, .int i), (2, .ref (am 16)), (1, .ref (ad 29)), (0, .ref b)]) (h1 : vp_in (i + 1) L) (h2 : vp_in (i + 2) L) (h3 : vp_in (i + 3) L) (h4 : vp_in (i + 4) L) (h5 : vp_in (i + 5) L)
    (hPx : va_P D vwCl (wX ad cs u) H) (hPm : va_P D vwCl (wM am cm v) H) (hS : va_S (kA s.heap.size) s.heap H locs)
    (kk : ∀ (u : UX) (v : UM) (H : Heap) (locs : List Loc), Rel u v → va_P D vwCl (wX ad cs u) H → va_P D vwCl (wM am cm v) H → va_S (kA s.heap.size) s.heap H locs → W p l e room_1 s m #[Value.ref b] below meth c H locs 600000 7302250 Q (F0 m 821 ls [])) : W p l e room_1 s m #[Value.ref b] below meth c H locs 600000 7302250 Q (F0 m 647 ls []) := by
  obtain ⟨hx, hb, hml, hown, hts, hX, hbl, hCx, hCm, gx, gm, hdis⟩ := F
  have hJx := hCx.2.1
  have hJm := hCm.2
  have hbA : ¬ kA s.heap.size b := fun q => by unfold kA at q; omega
  have hAx : ∀ q, AX ad q → kA s.heap.size q := fun q ⟨k, hk, e⟩ => by rw [e]; exact gx k hk
  have hAm : ∀ q, AM am q → kA s.heap.size q := fun q ⟨k, hk, e⟩ => by rw [e]; exact gm k hk
  obtain ⟨r, e1, e2⟩ := sim_room h (xs (i + 1).toNatClampNeg)
  have hr := h
  refine lv_aload_n hx hb dL_law_647 rfl (lv_at hl 2 rfl) ?_
  refine lv_aload_n hx hb dL_law_648 rfl (lv_at hl 3 rfl) ?_
  refine lv_iload_n hx hb dL_law_649 rfl (lv_at hl 0 rfl) ?_
  refine lv_iconst (v := 1) hx hb dL_law_650 (by decide) ?_
  refine lv_iadd hx hb dL_law_651 ?_
  refine va_sld hx hb hX hbl hbA hS h1 dL_law_652 ?_
  refine lcVi (r0 := r) (u1 := u) (As := [.int (xs (i + 1).toNatClampNeg)]) (rest := []) 1 (xC_ok D ad cs tM hJx) hCx ⟨hx, hb, hml, hown, hts⟩ (mX7_room l D ad cs tM u (xs (i + 1).toNatClampNeg) _ e1) (gGl kw_415) kw_412 kw_413 kw_414 kw_21 hX7_room ⟨rfl, rfl⟩ ⟨Nat.le_of_ble_eq_true rfl, Nat.le_of_ble_eq_true rfl⟩ (x_rec (C := RX7) (T := TX7) (N := 7) (ci := 6) hCx.1 hPx rfl x_o29) hPx hS hAx hPm (lw_disX hdis) ⟨Nat.le_refl _, Nat.le_refl _⟩ rfl hl.1 rfl (Nat.le_of_ble_eq_true rfl) dL_law_653 (fun H locs hPx hPm hS => ?_)
  refine lv_aload_n hx hb dL_law_656 rfl (lv_at hl 1 rfl) ?_
  refine lv_aload_n hx hb dL_law_657 rfl (lv_at hl 3 rfl) ?_
  refine lv_iload_n hx hb dL_law_658 rfl (lv_at hl 0 rfl) ?_
  refine lv_iconst (v := 1) hx hb dL_law_659 (by decide) ?_
  refine lv_iadd hx hb dL_law_660 ?_
  refine va_sld hx hb hX hbl hbA hS h1 dL_law_661 ?_
  refine lcVi (r0 := r) (u1 := v) (As := [.int (xs (i + 1).toNatClampNeg)]) (rest := [.int r]) 1 (mC_ok D am cm hJm) hCm ⟨hx, hb, hml, hown, hts⟩ (mX8_room l D am cm v (xs (i + 1).toNatClampNeg) _ e2) (gGl kw_680) kw_677 kw_678 kw_679 kw_28 hX8_room ⟨rfl, rfl⟩ ⟨Nat.le_of_ble_eq_true rfl, Nat.le_of_ble_eq_true rfl⟩ (x_rec (C := RX8) (T := TX8) (N := 20) (ci := 7) hCm.1 hPm rfl m_o16) hPm hS hAm hPx (lw_disM hdis) ⟨Nat.le_refl _, Nat.le_refl _⟩ rfl hl.1 rfl (Nat.le_of_ble_eq_true rfl) dL_law_662 (fun H locs hPm hPx hS => ?_)
  refine lv_icmp_eq (tgt := 821) hx hb dL_law_665 (by decide) (fun _ => ?_) (fun cq => absurd rfl cq)
  exact kk _ _ _ _ hr hPx hPm hS
set_option maxHeartbeats 4000000 in
set_option maxRecDepth 100000 in
/-- meter -/
theorem lw_c15 (F : lwF p s m c b L xs D ad cs tM am cm) (h : Rel u v) (hl : lv_has ls 4 [(3, .int i), (2, .ref (am 16)), (1, .ref (ad 29)), (0, .ref b)]) (h1 : vp_in (i + 1) L) (h2 : vp_in (i + 2) L) (h3 : vp_in (i + 3) L) (h4 : vp_in (i + 4) L) (h5 : vp_in (i + 5) L)
    (hPx : va_P D vwCl (wX ad cs u) H) (hPm : va_P D vwCl (wM am cm v) H) (hS : va_S (kA s.heap.size) s.heap H locs)
    (kk : ∀ (u : UX) (v : UM) (H : Heap) (locs : List Loc), Rel u v → va_P D vwCl (wX ad cs u) H → va_P D vwCl (wM am cm v) H → va_S (kA s.heap.size) s.heap H locs → W p l e room_1 s m #[Value.ref b] below meth c H locs 600000 7302250 Q (F0 m 821 ls [])) : W p l e room_1 s m #[Value.ref b] below meth c H locs 600000 7302250 Q (F0 m 670 ls []) := by
  obtain ⟨hx, hb, hml, hown, hts, hX, hbl, hCx, hCm, gx, gm, hdis⟩ := F
  have hJx := hCx.2.1
  have hJm := hCm.2
  have hbA : ¬ kA s.heap.size b := fun q => by unfold kA at q; omega
  have hAx : ∀ q, AX ad q → kA s.heap.size q := fun q ⟨k, hk, e⟩ => by rw [e]; exact gx k hk
  have hAm : ∀ q, AM am q → kA s.heap.size q := fun q ⟨k, hk, e⟩ => by rw [e]; exact gm k hk
  obtain ⟨r, u1, v1, e1, e2, hr⟩ := sim_meter h (xs (i + 1).toNatClampNeg)
  refine lv_aload_n hx hb dL_law_670 rfl (lv_at hl 2 rfl) ?_
  refine lv_aload_n hx hb dL_law_671 rfl (lv_at hl 3 rfl) ?_
  refine lv_iload_n hx hb dL_law_672 rfl (lv_at hl 0 rfl) ?_
  refine lv_iconst (v := 1) hx hb dL_law_673 (by decide) ?_
  refine lv_iadd hx hb dL_law_674 ?_
  refine va_sld hx hb hX hbl hbA hS h1 dL_law_675 ?_
  refine lcVi (r0 := r) (u1 := u1) (As := [.int (xs (i + 1).toNatClampNeg)]) (rest := []) 1 (xC_ok D ad cs tM hJx) hCx ⟨hx, hb, hml, hown, hts⟩ (mX7_meter l D ad cs tM u (xs (i + 1).toNatClampNeg) _ e1) (gGl kw_429) kw_426 kw_427 kw_428 kw_21 hX7_meter ⟨rfl, rfl⟩ ⟨Nat.le_of_ble_eq_true rfl, Nat.le_of_ble_eq_true rfl⟩ (x_rec (C := RX7) (T := TX7) (N := 7) (ci := 6) hCx.1 hPx rfl x_o29) hPx hS hAx hPm (lw_disX hdis) ⟨Nat.le_refl _, Nat.le_refl _⟩ rfl hl.1 rfl (Nat.le_of_ble_eq_true rfl) dL_law_676 (fun H locs hPx hPm hS => ?_)
  refine lv_aload_n hx hb dL_law_679 rfl (lv_at hl 1 rfl) ?_
  refine lv_aload_n hx hb dL_law_680 rfl (lv_at hl 3 rfl) ?_
  refine lv_iload_n hx hb dL_law_681 rfl (lv_at hl 0 rfl) ?_
  refine lv_iconst (v := 1) hx hb dL_law_682 (by decide) ?_
  refine lv_iadd hx hb dL_law_683 ?_
  refine va_sld hx hb hX hbl hbA hS h1 dL_law_684 ?_
  refine lcVi (r0 := r) (u1 := v1) (As := [.int (xs (i + 1).toNatClampNeg)]) (rest := [.int r]) 1 (mC_ok D am cm hJm) hCm ⟨hx, hb, hml, hown, hts⟩ (mX8_meter l D am cm v (xs (i + 1).toNatClampNeg) _ e2) (gGl kw_684) kw_681 kw_682 kw_683 kw_28 hX8_meter ⟨rfl, rfl⟩ ⟨Nat.le_of_ble_eq_true rfl, Nat.le_of_ble_eq_true rfl⟩ (x_rec (C := RX8) (T := TX8) (N := 20) (ci := 7) hCm.1 hPm rfl m_o16) hPm hS hAm hPx (lw_disM hdis) ⟨Nat.le_refl _, Nat.le_refl _⟩ rfl hl.1 rfl (Nat.le_of_ble_eq_true rfl) dL_law_685 (fun H locs hPm hPx hS => ?_)
  refine lv_icmp_eq (tgt := 821) hx hb dL_law_688 (by decide) (fun _ => ?_) (fun cq => absurd rfl cq)
  exact kk _ _ _ _ hr hPx hPm hS
set_option maxHeartbeats 4000000 in
set_option maxRecDepth 100000 in
/-- read -/
theorem lw_c16 (F : lwF p s m c b L xs D ad cs tM am cm) (h : Rel u v) (hl : lv_has ls 4 [(3, .int i), (2, .ref (am 16)), (1, .ref (ad 29)), (0, .ref b)]) (h1 : vp_in (i + 1) L) (h2 : vp_in (i + 2) L) (h3 : vp_in (i + 3) L) (h4 : vp_in (i + 4) L) (h5 : vp_in (i + 5) L)
    (hPx : va_P D vwCl (wX ad cs u) H) (hPm : va_P D vwCl (wM am cm v) H) (hS : va_S (kA s.heap.size) s.heap H locs)
    (kk : ∀ (u : UX) (v : UM) (H : Heap) (locs : List Loc), Rel u v → va_P D vwCl (wX ad cs u) H → va_P D vwCl (wM am cm v) H → va_S (kA s.heap.size) s.heap H locs → W p l e room_1 s m #[Value.ref b] below meth c H locs 600000 7302250 Q (F0 m 821 ls [])) : W p l e room_1 s m #[Value.ref b] below meth c H locs 600000 7302250 Q (F0 m 693 ls []) := by
  obtain ⟨hx, hb, hml, hown, hts, hX, hbl, hCx, hCm, gx, gm, hdis⟩ := F
  have hJx := hCx.2.1
  have hJm := hCm.2
  have hbA : ¬ kA s.heap.size b := fun q => by unfold kA at q; omega
  have hAx : ∀ q, AX ad q → kA s.heap.size q := fun q ⟨k, hk, e⟩ => by rw [e]; exact gx k hk
  have hAm : ∀ q, AM am q → kA s.heap.size q := fun q ⟨k, hk, e⟩ => by rw [e]; exact gm k hk
  obtain ⟨r, u1, v1, e1, e2, hr⟩ := sim_read h (xs (i + 1).toNatClampNeg) (xs (i + 2).toNatClampNeg)
  refine lv_aload_n hx hb dL_law_693 rfl (lv_at hl 2 rfl) ?_
  refine lv_aload_n hx hb dL_law_694 rfl (lv_at hl 3 rfl) ?_
  refine lv_iload_n hx hb dL_law_695 rfl (lv_at hl 0 rfl) ?_
  refine lv_iconst (v := 1) hx hb dL_law_696 (by decide) ?_
  refine lv_iadd hx hb dL_law_697 ?_
  refine va_sld hx hb hX hbl hbA hS h1 dL_law_698 ?_
  refine lv_aload_n hx hb dL_law_699 rfl (lv_at hl 3 rfl) ?_
  refine lv_iload_n hx hb dL_law_700 rfl (lv_at hl 0 rfl) ?_
  refine lv_iconst (v := 2) hx hb dL_law_701 (by decide) ?_
  refine lv_iadd hx hb dL_law_702 ?_
  refine va_sld hx hb hX hbl hbA hS h2 dL_law_703 ?_
  refine lcVi (r0 := r) (u1 := u1) (As := [.int (xs (i + 1).toNatClampNeg), .int (xs (i + 2).toNatClampNeg)]) (rest := []) 2 (xC_ok D ad cs tM hJx) hCx ⟨hx, hb, hml, hown, hts⟩ (mX7_read l D ad cs tM u (xs (i + 1).toNatClampNeg) (xs (i + 2).toNatClampNeg) _ e1) (gGl kw_437) kw_434 kw_435 kw_436 kw_21 hX7_read ⟨rfl, rfl⟩ ⟨Nat.le_of_ble_eq_true rfl, Nat.le_of_ble_eq_true rfl⟩ (x_rec (C := RX7) (T := TX7) (N := 7) (ci := 6) hCx.1 hPx rfl x_o29) hPx hS hAx hPm (lw_disX hdis) ⟨Nat.le_refl _, Nat.le_refl _⟩ rfl hl.1 rfl (Nat.le_of_ble_eq_true rfl) dL_law_704 (fun H locs hPx hPm hS => ?_)
  refine lv_aload_n hx hb dL_law_707 rfl (lv_at hl 1 rfl) ?_
  refine lv_aload_n hx hb dL_law_708 rfl (lv_at hl 3 rfl) ?_
  refine lv_iload_n hx hb dL_law_709 rfl (lv_at hl 0 rfl) ?_
  refine lv_iconst (v := 1) hx hb dL_law_710 (by decide) ?_
  refine lv_iadd hx hb dL_law_711 ?_
  refine va_sld hx hb hX hbl hbA hS h1 dL_law_712 ?_
  refine lv_aload_n hx hb dL_law_713 rfl (lv_at hl 3 rfl) ?_
  refine lv_iload_n hx hb dL_law_714 rfl (lv_at hl 0 rfl) ?_
  refine lv_iconst (v := 2) hx hb dL_law_715 (by decide) ?_
  refine lv_iadd hx hb dL_law_716 ?_
  refine va_sld hx hb hX hbl hbA hS h2 dL_law_717 ?_
  refine lcVi (r0 := r) (u1 := v1) (As := [.int (xs (i + 1).toNatClampNeg), .int (xs (i + 2).toNatClampNeg)]) (rest := [.int r]) 2 (mC_ok D am cm hJm) hCm ⟨hx, hb, hml, hown, hts⟩ (mX8_read l D am cm v (xs (i + 1).toNatClampNeg) (xs (i + 2).toNatClampNeg) _ e2) (gGl kw_688) kw_685 kw_686 kw_687 kw_28 hX8_read ⟨rfl, rfl⟩ ⟨Nat.le_of_ble_eq_true rfl, Nat.le_of_ble_eq_true rfl⟩ (x_rec (C := RX8) (T := TX8) (N := 20) (ci := 7) hCm.1 hPm rfl m_o16) hPm hS hAm hPx (lw_disM hdis) ⟨Nat.le_refl _, Nat.le_refl _⟩ rfl hl.1 rfl (Nat.le_of_ble_eq_true rfl) dL_law_718 (fun H locs hPm hPx hS => ?_)
  refine lv_icmp_eq (tgt := 821) hx hb dL_law_721 (by decide) (fun _ => ?_) (fun cq => absurd rfl cq)
  exact kk _ _ _ _ hr hPx hPm hS
set_option maxHeartbeats 4000000 in
set_option maxRecDepth 100000 in
/-- gap -/
theorem lw_c17 (F : lwF p s m c b L xs D ad cs tM am cm) (h : Rel u v) (hl : lv_has ls 4 [(3, .int i), (2, .ref (am 16)), (1, .ref (ad 29)), (0, .ref b)]) (h1 : vp_in (i + 1) L) (h2 : vp_in (i + 2) L) (h3 : vp_in (i + 3) L) (h4 : vp_in (i + 4) L) (h5 : vp_in (i + 5) L)
    (hPx : va_P D vwCl (wX ad cs u) H) (hPm : va_P D vwCl (wM am cm v) H) (hS : va_S (kA s.heap.size) s.heap H locs)
    (kk : ∀ (u : UX) (v : UM) (H : Heap) (locs : List Loc), Rel u v → va_P D vwCl (wX ad cs u) H → va_P D vwCl (wM am cm v) H → va_S (kA s.heap.size) s.heap H locs → W p l e room_1 s m #[Value.ref b] below meth c H locs 600000 7302250 Q (F0 m 821 ls [])) : W p l e room_1 s m #[Value.ref b] below meth c H locs 600000 7302250 Q (F0 m 726 ls []) := by
  obtain ⟨hx, hb, hml, hown, hts, hX, hbl, hCx, hCm, gx, gm, hdis⟩ := F
  have hJx := hCx.2.1
  have hJm := hCm.2
  have hbA : ¬ kA s.heap.size b := fun q => by unfold kA at q; omega
  have hAx : ∀ q, AX ad q → kA s.heap.size q := fun q ⟨k, hk, e⟩ => by rw [e]; exact gx k hk
  have hAm : ∀ q, AM am q → kA s.heap.size q := fun q ⟨k, hk, e⟩ => by rw [e]; exact gm k hk
  obtain ⟨r, e1, e2⟩ := sim_gap h (xs (i + 1).toNatClampNeg)
  have hr := h
  refine lv_aload_n hx hb dL_law_726 rfl (lv_at hl 2 rfl) ?_
  refine lv_aload_n hx hb dL_law_727 rfl (lv_at hl 3 rfl) ?_
  refine lv_iload_n hx hb dL_law_728 rfl (lv_at hl 0 rfl) ?_
  refine lv_iconst (v := 1) hx hb dL_law_729 (by decide) ?_
  refine lv_iadd hx hb dL_law_730 ?_
  refine va_sld hx hb hX hbl hbA hS h1 dL_law_731 ?_
  refine lcVl (r0 := r) (u1 := u) (As := [.int (xs (i + 1).toNatClampNeg)]) (rest := []) 1 (xC_ok D ad cs tM hJx) hCx ⟨hx, hb, hml, hown, hts⟩ (mX7_gap l D ad cs tM u (xs (i + 1).toNatClampNeg) _ e1) (gGl kw_446) kw_443 kw_444 kw_445 kw_21 hX7_gap ⟨rfl, rfl⟩ ⟨Nat.le_of_ble_eq_true rfl, Nat.le_of_ble_eq_true rfl⟩ (x_rec (C := RX7) (T := TX7) (N := 7) (ci := 6) hCx.1 hPx rfl x_o29) hPx hS hAx hPm (lw_disX hdis) ⟨Nat.le_refl _, Nat.le_refl _⟩ rfl hl.1 rfl (Nat.le_of_ble_eq_true rfl) dL_law_732 (fun H locs hPx hPm hS => ?_)
  refine lv_aload_n hx hb dL_law_735 rfl (lv_at hl 1 rfl) ?_
  refine lv_aload_n hx hb dL_law_736 rfl (lv_at hl 3 rfl) ?_
  refine lv_iload_n hx hb dL_law_737 rfl (lv_at hl 0 rfl) ?_
  refine lv_iconst (v := 1) hx hb dL_law_738 (by decide) ?_
  refine lv_iadd hx hb dL_law_739 ?_
  refine va_sld hx hb hX hbl hbA hS h1 dL_law_740 ?_
  refine lcVl (r0 := r) (u1 := v) (As := [.int (xs (i + 1).toNatClampNeg)]) (rest := [.long r]) 1 (mC_ok D am cm hJm) hCm ⟨hx, hb, hml, hown, hts⟩ (mX8_gap l D am cm v (xs (i + 1).toNatClampNeg) _ e2) (gGl kw_697) kw_694 kw_695 kw_696 kw_28 hX8_gap ⟨rfl, rfl⟩ ⟨Nat.le_of_ble_eq_true rfl, Nat.le_of_ble_eq_true rfl⟩ (x_rec (C := RX8) (T := TX8) (N := 20) (ci := 7) hCm.1 hPm rfl m_o16) hPm hS hAm hPx (lw_disM hdis) ⟨Nat.le_refl _, Nat.le_refl _⟩ rfl hl.1 rfl (Nat.le_of_ble_eq_true rfl) dL_law_741 (fun H locs hPm hPx hS => ?_)
  refine W.lcmp hx hb dL_law_744 ?_
  refine lv_if_eq (tgt := 821) hx hb dL_law_745 (by decide) (fun _ => ?_) (fun cq => absurd (lc_eq.mpr rfl) cq)
  exact kk _ _ _ _ hr hPx hPm hS
set_option maxHeartbeats 4000000 in
set_option maxRecDepth 100000 in
/-- mended -/
theorem lw_c18 (F : lwF p s m c b L xs D ad cs tM am cm) (h : Rel u v) (hl : lv_has ls 4 [(3, .int i), (2, .ref (am 16)), (1, .ref (ad 29)), (0, .ref b)]) (h1 : vp_in (i + 1) L) (h2 : vp_in (i + 2) L) (h3 : vp_in (i + 3) L) (h4 : vp_in (i + 4) L) (h5 : vp_in (i + 5) L)
    (hPx : va_P D vwCl (wX ad cs u) H) (hPm : va_P D vwCl (wM am cm v) H) (hS : va_S (kA s.heap.size) s.heap H locs)
    (kk : ∀ (u : UX) (v : UM) (H : Heap) (locs : List Loc), Rel u v → va_P D vwCl (wX ad cs u) H → va_P D vwCl (wM am cm v) H → va_S (kA s.heap.size) s.heap H locs → W p l e room_1 s m #[Value.ref b] below meth c H locs 600000 7302250 Q (F0 m 821 ls [])) : W p l e room_1 s m #[Value.ref b] below meth c H locs 600000 7302250 Q (F0 m 750 ls []) := by
  obtain ⟨hx, hb, hml, hown, hts, hX, hbl, hCx, hCm, gx, gm, hdis⟩ := F
  have hJx := hCx.2.1
  have hJm := hCm.2
  have hbA : ¬ kA s.heap.size b := fun q => by unfold kA at q; omega
  have hAx : ∀ q, AX ad q → kA s.heap.size q := fun q ⟨k, hk, e⟩ => by rw [e]; exact gx k hk
  have hAm : ∀ q, AM am q → kA s.heap.size q := fun q ⟨k, hk, e⟩ => by rw [e]; exact gm k hk
  obtain ⟨r, u1, e1, e2, hr⟩ := sim_mended h (xs (i + 1).toNatClampNeg) (xs (i + 2).toNatClampNeg)
  refine lv_aload_n hx hb dL_law_750 rfl (lv_at hl 2 rfl) ?_
  refine lv_aload_n hx hb dL_law_751 rfl (lv_at hl 3 rfl) ?_
  refine lv_iload_n hx hb dL_law_752 rfl (lv_at hl 0 rfl) ?_
  refine lv_iconst (v := 1) hx hb dL_law_753 (by decide) ?_
  refine lv_iadd hx hb dL_law_754 ?_
  refine va_sld hx hb hX hbl hbA hS h1 dL_law_755 ?_
  refine lv_aload_n hx hb dL_law_756 rfl (lv_at hl 3 rfl) ?_
  refine lv_iload_n hx hb dL_law_757 rfl (lv_at hl 0 rfl) ?_
  refine lv_iconst (v := 2) hx hb dL_law_758 (by decide) ?_
  refine lv_iadd hx hb dL_law_759 ?_
  refine va_sld hx hb hX hbl hbA hS h2 dL_law_760 ?_
  refine lcVl (r0 := r) (u1 := u1) (As := [.int (xs (i + 1).toNatClampNeg), .int (xs (i + 2).toNatClampNeg)]) (rest := []) 2 (xC_ok D ad cs tM hJx) hCx ⟨hx, hb, hml, hown, hts⟩ (mX7_mended l D ad cs tM u (xs (i + 1).toNatClampNeg) (xs (i + 2).toNatClampNeg) _ e1) (gGl kw_471) kw_468 kw_469 kw_470 kw_21 hX7_mended ⟨rfl, rfl⟩ ⟨Nat.le_of_ble_eq_true rfl, Nat.le_of_ble_eq_true rfl⟩ (x_rec (C := RX7) (T := TX7) (N := 7) (ci := 6) hCx.1 hPx rfl x_o29) hPx hS hAx hPm (lw_disX hdis) ⟨Nat.le_refl _, Nat.le_refl _⟩ rfl hl.1 rfl (Nat.le_of_ble_eq_true rfl) dL_law_761 (fun H locs hPx hPm hS => ?_)
  refine lv_aload_n hx hb dL_law_764 rfl (lv_at hl 1 rfl) ?_
  refine lv_aload_n hx hb dL_law_765 rfl (lv_at hl 3 rfl) ?_
  refine lv_iload_n hx hb dL_law_766 rfl (lv_at hl 0 rfl) ?_
  refine lv_iconst (v := 1) hx hb dL_law_767 (by decide) ?_
  refine lv_iadd hx hb dL_law_768 ?_
  refine va_sld hx hb hX hbl hbA hS h1 dL_law_769 ?_
  refine lv_aload_n hx hb dL_law_770 rfl (lv_at hl 3 rfl) ?_
  refine lv_iload_n hx hb dL_law_771 rfl (lv_at hl 0 rfl) ?_
  refine lv_iconst (v := 2) hx hb dL_law_772 (by decide) ?_
  refine lv_iadd hx hb dL_law_773 ?_
  refine va_sld hx hb hX hbl hbA hS h2 dL_law_774 ?_
  refine lcVl (r0 := r) (u1 := v) (As := [.int (xs (i + 1).toNatClampNeg), .int (xs (i + 2).toNatClampNeg)]) (rest := [.long r]) 2 (mC_ok D am cm hJm) hCm ⟨hx, hb, hml, hown, hts⟩ (mX8_mended l D am cm v (xs (i + 1).toNatClampNeg) (xs (i + 2).toNatClampNeg) _ e2) (gGl kw_711) kw_708 kw_709 kw_710 kw_28 hX8_mended ⟨rfl, rfl⟩ ⟨Nat.le_of_ble_eq_true rfl, Nat.le_of_ble_eq_true rfl⟩ (x_rec (C := RX8) (T := TX8) (N := 20) (ci := 7) hCm.1 hPm rfl m_o16) hPm hS hAm hPx (lw_disM hdis) ⟨Nat.le_refl _, Nat.le_refl _⟩ rfl hl.1 rfl (Nat.le_of_ble_eq_true rfl) dL_law_775 (fun H locs hPm hPx hS => ?_)
  refine W.lcmp hx hb dL_law_778 ?_
  refine lv_if_eq (tgt := 821) hx hb dL_law_779 (by decide) (fun _ => ?_) (fun cq => absurd (lc_eq.mpr rfl) cq)
  exact kk _ _ _ _ hr hPx hPm hS
set_option maxHeartbeats 4000000 in
set_option maxRecDepth 100000 in
/-- count -/
theorem lw_c19 (F : lwF p s m c b L xs D ad cs tM am cm) (h : Rel u v) (hl : lv_has ls 4 [(3, .int i), (2, .ref (am 16)), (1, .ref (ad 29)), (0, .ref b)]) (h1 : vp_in (i + 1) L) (h2 : vp_in (i + 2) L) (h3 : vp_in (i + 3) L) (h4 : vp_in (i + 4) L) (h5 : vp_in (i + 5) L)
    (hPx : va_P D vwCl (wX ad cs u) H) (hPm : va_P D vwCl (wM am cm v) H) (hS : va_S (kA s.heap.size) s.heap H locs)
    (kk : ∀ (u : UX) (v : UM) (H : Heap) (locs : List Loc), Rel u v → va_P D vwCl (wX ad cs u) H → va_P D vwCl (wM am cm v) H → va_S (kA s.heap.size) s.heap H locs → W p l e room_1 s m #[Value.ref b] below meth c H locs 600000 7302250 Q (F0 m 821 ls [])) : W p l e room_1 s m #[Value.ref b] below meth c H locs 600000 7302250 Q (F0 m 784 ls []) := by
  obtain ⟨hx, hb, hml, hown, hts, hX, hbl, hCx, hCm, gx, gm, hdis⟩ := F
  have hJx := hCx.2.1
  have hJm := hCm.2
  have hbA : ¬ kA s.heap.size b := fun q => by unfold kA at q; omega
  have hAx : ∀ q, AX ad q → kA s.heap.size q := fun q ⟨k, hk, e⟩ => by rw [e]; exact gx k hk
  have hAm : ∀ q, AM am q → kA s.heap.size q := fun q ⟨k, hk, e⟩ => by rw [e]; exact gm k hk
  obtain ⟨r, e1, e2⟩ := sim_count h (xs (i + 1).toNatClampNeg)
  have hr := h
  refine lv_aload_n hx hb dL_law_784 rfl (lv_at hl 2 rfl) ?_
  refine lv_aload_n hx hb dL_law_785 rfl (lv_at hl 3 rfl) ?_
  refine lv_iload_n hx hb dL_law_786 rfl (lv_at hl 0 rfl) ?_
  refine lv_iconst (v := 1) hx hb dL_law_787 (by decide) ?_
  refine lv_iadd hx hb dL_law_788 ?_
  refine va_sld hx hb hX hbl hbA hS h1 dL_law_789 ?_
  refine lcVi (r0 := r) (u1 := u) (As := [.int (xs (i + 1).toNatClampNeg)]) (rest := []) 1 (xC_ok D ad cs tM hJx) hCx ⟨hx, hb, hml, hown, hts⟩ (mX7_count l D ad cs tM u (xs (i + 1).toNatClampNeg) _ e1) (gGl kw_481) kw_478 kw_479 kw_480 kw_21 hX7_count ⟨rfl, rfl⟩ ⟨Nat.le_of_ble_eq_true rfl, Nat.le_of_ble_eq_true rfl⟩ (x_rec (C := RX7) (T := TX7) (N := 7) (ci := 6) hCx.1 hPx rfl x_o29) hPx hS hAx hPm (lw_disX hdis) ⟨Nat.le_refl _, Nat.le_refl _⟩ rfl hl.1 rfl (Nat.le_of_ble_eq_true rfl) dL_law_790 (fun H locs hPx hPm hS => ?_)
  refine lv_aload_n hx hb dL_law_793 rfl (lv_at hl 1 rfl) ?_
  refine lv_aload_n hx hb dL_law_794 rfl (lv_at hl 3 rfl) ?_
  refine lv_iload_n hx hb dL_law_795 rfl (lv_at hl 0 rfl) ?_
  refine lv_iconst (v := 1) hx hb dL_law_796 (by decide) ?_
  refine lv_iadd hx hb dL_law_797 ?_
  refine va_sld hx hb hX hbl hbA hS h1 dL_law_798 ?_
  refine lcVi (r0 := r) (u1 := v) (As := [.int (xs (i + 1).toNatClampNeg)]) (rest := [.int r]) 1 (mC_ok D am cm hJm) hCm ⟨hx, hb, hml, hown, hts⟩ (mX8_count l D am cm v (xs (i + 1).toNatClampNeg) _ e2) (gGl kw_716) kw_713 kw_714 kw_715 kw_28 hX8_count ⟨rfl, rfl⟩ ⟨Nat.le_of_ble_eq_true rfl, Nat.le_of_ble_eq_true rfl⟩ (x_rec (C := RX8) (T := TX8) (N := 20) (ci := 7) hCm.1 hPm rfl m_o16) hPm hS hAm hPx (lw_disM hdis) ⟨Nat.le_refl _, Nat.le_refl _⟩ rfl hl.1 rfl (Nat.le_of_ble_eq_true rfl) dL_law_799 (fun H locs hPm hPx hS => ?_)
  refine lv_icmp_eq (tgt := 821) hx hb dL_law_802 (by decide) (fun _ => ?_) (fun cq => absurd rfl cq)
  exact kk _ _ _ _ hr hPx hPm hS
set_option maxHeartbeats 4000000 in
set_option maxRecDepth 100000 in
/-- trace -/
theorem lw_c20 (F : lwF p s m c b L xs D ad cs tM am cm) (h : Rel u v) (hl : lv_has ls 4 [(3, .int i), (2, .ref (am 16)), (1, .ref (ad 29)), (0, .ref b)]) (h1 : vp_in (i + 1) L) (h2 : vp_in (i + 2) L) (h3 : vp_in (i + 3) L) (h4 : vp_in (i + 4) L) (h5 : vp_in (i + 5) L)
    (hPx : va_P D vwCl (wX ad cs u) H) (hPm : va_P D vwCl (wM am cm v) H) (hS : va_S (kA s.heap.size) s.heap H locs)
    (kk : ∀ (u : UX) (v : UM) (H : Heap) (locs : List Loc), Rel u v → va_P D vwCl (wX ad cs u) H → va_P D vwCl (wM am cm v) H → va_S (kA s.heap.size) s.heap H locs → W p l e room_1 s m #[Value.ref b] below meth c H locs 600000 7302250 Q (F0 m 821 ls [])) : W p l e room_1 s m #[Value.ref b] below meth c H locs 600000 7302250 Q (F0 m 807 ls []) := by
  obtain ⟨hx, hb, hml, hown, hts, hX, hbl, hCx, hCm, gx, gm, hdis⟩ := F
  have hJx := hCx.2.1
  have hJm := hCm.2
  have hbA : ¬ kA s.heap.size b := fun q => by unfold kA at q; omega
  have hAx : ∀ q, AX ad q → kA s.heap.size q := fun q ⟨k, hk, e⟩ => by rw [e]; exact gx k hk
  have hAm : ∀ q, AM am q → kA s.heap.size q := fun q ⟨k, hk, e⟩ => by rw [e]; exact gm k hk
  obtain ⟨r, e1, e2⟩ := sim_trace h 
  have hr := h
  refine lv_aload_n hx hb dL_law_807 rfl (lv_at hl 2 rfl) ?_
  refine lcVl (r0 := r) (u1 := u) (As := []) (rest := []) 0 (xC_ok D ad cs tM hJx) hCx ⟨hx, hb, hml, hown, hts⟩ (mX7_trace l D ad cs tM u  _ e1) (gGl kw_493) kw_490 kw_491 kw_492 kw_21 hX7_trace ⟨rfl, rfl⟩ ⟨Nat.le_of_ble_eq_true rfl, Nat.le_of_ble_eq_true rfl⟩ (x_rec (C := RX7) (T := TX7) (N := 7) (ci := 6) hCx.1 hPx rfl x_o29) hPx hS hAx hPm (lw_disX hdis) ⟨Nat.le_refl _, Nat.le_refl _⟩ rfl hl.1 rfl (Nat.le_of_ble_eq_true rfl) dL_law_808 (fun H locs hPx hPm hS => ?_)
  refine lv_aload_n hx hb dL_law_811 rfl (lv_at hl 1 rfl) ?_
  refine lcVl (r0 := r) (u1 := v) (As := []) (rest := [.long r]) 0 (mC_ok D am cm hJm) hCm ⟨hx, hb, hml, hown, hts⟩ (mX8_trace l D am cm v  _ e2) (gGl kw_720) kw_717 kw_718 kw_719 kw_28 hX8_trace ⟨rfl, rfl⟩ ⟨Nat.le_of_ble_eq_true rfl, Nat.le_of_ble_eq_true rfl⟩ (x_rec (C := RX8) (T := TX8) (N := 20) (ci := 7) hCm.1 hPm rfl m_o16) hPm hS hAm hPx (lw_disM hdis) ⟨Nat.le_refl _, Nat.le_refl _⟩ rfl hl.1 rfl (Nat.le_of_ble_eq_true rfl) dL_law_812 (fun H locs hPm hPx hS => ?_)
  refine W.lcmp hx hb dL_law_815 ?_
  refine lv_if_eq (tgt := 821) hx hb dL_law_816 (by decide) (fun _ => ?_) (fun cq => absurd (lc_eq.mpr rfl) cq)
  exact kk _ _ _ _ hr hPx hPm hS
end LWC
