abbrev rX2_become : Room := { frames := 1, cells := 0, slots := 0, locals := 30 }
theorem hX2_become : yX2_become.cls ≠ "java/lang/invoke/MethodHandle" ∧ yX2_become.cls ≠ "java/lang/invoke/VarHandle" ∧ (parseMethodDescriptor yX2_become.desc).map (fun d => d.parameters.length) = some 2 := by decide +kernel
set_option maxHeartbeats 4000000 in
set_option maxRecDepth 100000 in
theorem mX2_become (l : Launch) (D : va_G) (ad : Nat → Nat) (cs : Nat → ClassId) (tM : Nat) (u : UX) (q0 : Nat) (a1 : Int64) (a3 : Int64) (hq0a : 18 ≤ q0) (hq0b : q0 < 29) (ru : UX) (hok : fX2_become u q0 a1 a3 = some ru) : Met l yX2_become (Cond.code yX2_become cX2_become 7 none :: wsG) rX2_become (va_Pc [.ref (ad q0), .long a1, .long a3] (wI D (wX ad cs) (xC D ad cs tM) u)) (va_Qv (fun (u' : UX) => u' = ru) (wB D (wX ad cs)) (AX ad)) 0 0 (AX ad) := by
  refine Met.ofW (cc := cX2_become) (maxL := 7) (ret := none) (by decide) rfl ?_
  intro p e s m args below meth c s₁ B hml hv
  have hx := B.exec
  have hb := B.bytes
  have hr := B.returns
  have hts := atoms_spec (ws := (Cond.code yX2_become cX2_become 7 none :: wsG)) B.pre
  have hg : ∀ w ∈ wsG, w.before args s = true := fun w h => hts w (List.mem_cons_of_mem _ h)
  have hown : s.vm.findClass RX2 = some m.cls := findClass_of_methodNamed B.named
  have hlocks := B.notSynchronized
  obtain ⟨ha, hP, hC⟩ := hv
  obtain ⟨hK, hJ, hN, hZ, hT⟩ := id hC
  have hS : va_S (AX ad) s.heap s.heap [] := va_S.rf
  refine W.eq (show entryFrame m args 7 = entryFrame m ([.ref (ad q0), .long a1, .long a3] : List Value).toArray 7 by rw [ha]) ?_
  have hl := lv_entry ([.ref (ad q0), .long a1, .long a3]) (n := 7) (Nat.le_of_ble_eq_true rfl)
  rw [lg_entry_eq]
  generalize (lg_sl ([.ref (ad q0), .long a1, .long a3]) ++ List.replicate (7 - (lg_sl ([.ref (ad q0), .long a1, .long a3])).length) Slot.unset).toArray = ls at hl ⊢
  have hl : lv_has ls 7 [(0, .ref (ad q0)), (1, .long a1), (3, .long a3)] := hl
  show W p l e rX2_become s m args below meth c s.heap [] 0 0 (MQ below (va_Qv (fun (u' : UX) => u' = ru) (wB D (wX ad cs)) (AX ad)) args s 0 0 (AX ad)) (F0 m 0 ls [])
  have hf := hok
  unfold fX2_become at hf
  refine lv_lload_n hx hb dX2_become_0 rfl (lv_at hl 1 rfl) ?_
  refine va_mabs_long hx hb (hml.trans hl.1.symm) hown (hg _ kw_275) (hg _ kw_276) (hg _ kw_29) (hg _ kw_277) (Nat.le_of_ble_eq_true rfl) (Nat.le_of_ble_eq_true rfl) (Nat.zero_le _) (Nat.zero_le _) dX2_become_1 ?_
  refine lv_lload_n hx hb dX2_become_4 rfl (lv_at hl 2 rfl) ?_
  obtain ⟨r_1, hc_2, hf⟩ := bd_ok hf
  refine gcFl 2 ⟨hx, hb, hml, hown, hts⟩ (mX2_commonDivisor l (if 0 < a1 then a1 else -a1) a3 r_1 hc_2) (gG kw_280) kw_278 kw_279 kw_25 hX2_commonDivisor ⟨rfl, rfl⟩ ⟨Nat.le_of_ble_eq_true rfl, Nat.le_of_ble_eq_true rfl⟩ ⟨Nat.zero_le _, Nat.zero_le _⟩ rfl hl.1 rfl (Nat.le_of_ble_eq_true rfl) dX2_become_5 ?_
  refine lv_lstore (lv' := [(5, .long r_1), (0, .ref (ad q0)), (1, .long a1), (3, .long a3)]) hx hb dX2_become_8 hl (by decide) rfl (fun ls hl => ?_)
  refine lv_aload_n hx hb dX2_become_10 rfl (lv_at hl 1 rfl) ?_
  refine lv_lload_n hx hb dX2_become_11 rfl (lv_at hl 2 rfl) ?_
  refine lv_lload hx hb dX2_become_12 (lv_at hl 0 rfl) ?_
  obtain ⟨hb_3, hf⟩ := gd_ok hf
  refine lv_ldiv hx hb dX2_become_14 (nz8_ok hb_3) ?_
  refine x_putU hx hb hg hown hK hP hJ hS hq0a hq0b (hg _ kw_101) dX2_become_15 (fun H locs hP hS => ?_)
  refine lv_aload_n hx hb dX2_become_18 rfl (lv_at hl 1 rfl) ?_
  refine lv_lload_n hx hb dX2_become_19 rfl (lv_at hl 3 rfl) ?_
  refine lv_lload hx hb dX2_become_20 (lv_at hl 0 rfl) ?_
  refine lv_ldiv hx hb dX2_become_22 (nz8_ok hb_3) ?_
  refine x_putL hx hb hg hown hK hP hJ hS hq0a hq0b (hg _ kw_103) dX2_become_23 (fun H locs hP hS => ?_)
  exact grV hx hb hr hlocks hP hS dX2_become_26 (Option.some.inj hf)
abbrev rX2_part : Room := { frames := 0, cells := 0, slots := 0, locals := 0 }
theorem hX2_part : yX2_part.cls ≠ "java/lang/invoke/MethodHandle" ∧ yX2_part.cls ≠ "java/lang/invoke/VarHandle" ∧ (parseMethodDescriptor yX2_part.desc).map (fun d => d.parameters.length) = some 1 := by decide +kernel
set_option maxHeartbeats 4000000 in
set_option maxRecDepth 100000 in
theorem mX2_part (l : Launch) (D : va_G) (ad : Nat → Nat) (cs : Nat → ClassId) (tM : Nat) (u : UX) (q0 : Nat) (a1 : Int32) (hq0a : 18 ≤ q0) (hq0b : q0 < 29) (r0 : Int64) (hok : fX2_part u q0 a1 = some r0) : Met l yX2_part (Cond.code yX2_part cX2_part 2 (some .long) :: wsG) rX2_part (va_Pc [.ref (ad q0), .int a1] (wI D (wX ad cs) (xC D ad cs tM) u)) (va_Ql (fun (r : Int64) (u' : UX) => r = r0 ∧ u' = u) (wB D (wX ad cs)) (AX ad)) 0 0 (AX ad) := by
  refine Met.ofW (cc := cX2_part) (maxL := 2) (ret := (some .long)) (by decide) rfl ?_
  intro p e s m args below meth c s₁ B hml hv
  have hx := B.exec
  have hb := B.bytes
  have hr := B.returns
  have hts := atoms_spec (ws := (Cond.code yX2_part cX2_part 2 (some .long) :: wsG)) B.pre
  have hg : ∀ w ∈ wsG, w.before args s = true := fun w h => hts w (List.mem_cons_of_mem _ h)
  have hown : s.vm.findClass RX2 = some m.cls := findClass_of_methodNamed B.named
  have hlocks := B.notSynchronized
  obtain ⟨ha, hP, hC⟩ := hv
  obtain ⟨hK, hJ, hN, hZ, hT⟩ := id hC
  have hS : va_S (AX ad) s.heap s.heap [] := va_S.rf
  refine W.eq (show entryFrame m args 2 = entryFrame m ([.ref (ad q0), .int a1] : List Value).toArray 2 by rw [ha]) ?_
  have hl := lv_entry ([.ref (ad q0), .int a1]) (n := 2) (Nat.le_of_ble_eq_true rfl)
  rw [lg_entry_eq]
  generalize (lg_sl ([.ref (ad q0), .int a1]) ++ List.replicate (2 - (lg_sl ([.ref (ad q0), .int a1])).length) Slot.unset).toArray = ls at hl ⊢
  have hl : lv_has ls 2 [(0, .ref (ad q0)), (1, .int a1)] := hl
  show W p l e rX2_part s m args below meth c s.heap [] 0 0 (MQ below (va_Ql (fun (r : Int64) (u' : UX) => r = r0 ∧ u' = u) (wB D (wX ad cs)) (AX ad)) args s 0 0 (AX ad)) (F0 m 0 ls [])
  have hf := hok
  unfold fX2_part at hf
  refine lv_iload_n hx hb dX2_part_0 rfl (lv_at hl 1 rfl) ?_
  refine lv_if_ne (tgt := 11) hx hb dX2_part_1 (by decide) (fun c_1 => ?_) (fun c_1 => ?_)
  · skip
    replace hf := it_f c_1 hf
    refine lv_aload_n hx hb dX2_part_11 rfl (lv_at hl 0 rfl) ?_
    refine va_get (D := D) (ci := 1) (v := .long ((u.2.1 q0).2)) (C := RX2) (T := TX2) (N := 2) hx hb hg inG_X2 hown hK hP q0 (x_fra hq0a hq0b) rfl 1 (by decide) (hg _ kw_103) (fun _ h9 => h9) rfl dX2_part_12 ?_
    exact grL hx hb hr hlocks hP hS dX2_part_15 (Option.some.inj hf) rfl
  · skip
    replace hf := it_t c_1 hf
    refine lv_aload_n hx hb dX2_part_4 rfl (lv_at hl 0 rfl) ?_
    refine va_get (D := D) (ci := 1) (v := .long ((u.2.1 q0).1)) (C := RX2) (T := TX2) (N := 2) hx hb hg inG_X2 hown hK hP q0 (x_fra hq0a hq0b) rfl 0 (by decide) (hg _ kw_101) (fun _ h9 => h9) rfl dX2_part_5 ?_
    refine lv_goto (tgt := 15) hx hb dX2_part_8 (by decide) ?_
    exact grL hx hb hr hlocks hP hS dX2_part_15 (Option.some.inj hf) rfl
abbrev rX2_divideBy : Room := { frames := 2, cells := 0, slots := 0, locals := 56 }
theorem hX2_divideBy : yX2_divideBy.cls ≠ "java/lang/invoke/MethodHandle" ∧ yX2_divideBy.cls ≠ "java/lang/invoke/VarHandle" ∧ (parseMethodDescriptor yX2_divideBy.desc).map (fun d => d.parameters.length) = some 1 := by decide +kernel
set_option maxHeartbeats 4000000 in
set_option maxRecDepth 100000 in
theorem mX2_divideBy (l : Launch) (D : va_G) (ad : Nat → Nat) (cs : Nat → ClassId) (tM : Nat) (u : UX) (q0 : Nat) (a1 : Int32) (hq0a : 18 ≤ q0) (hq0b : q0 < 29) (ru : UX) (hok : fX2_divideBy u q0 a1 = some ru) : Met l yX2_divideBy (Cond.code yX2_divideBy cX2_divideBy 2 none :: wsG) rX2_divideBy (va_Pc [.ref (ad q0), .int a1] (wI D (wX ad cs) (xC D ad cs tM) u)) (va_Qv (fun (u' : UX) => u' = ru) (wB D (wX ad cs)) (AX ad)) 0 0 (AX ad) := by
  refine Met.ofW (cc := cX2_divideBy) (maxL := 2) (ret := none) (by decide) rfl ?_
  intro p e s m args below meth c s₁ B hml hv
  have hx := B.exec
  have hb := B.bytes
  have hr := B.returns
  have hts := atoms_spec (ws := (Cond.code yX2_divideBy cX2_divideBy 2 none :: wsG)) B.pre
  have hg : ∀ w ∈ wsG, w.before args s = true := fun w h => hts w (List.mem_cons_of_mem _ h)
  have hown : s.vm.findClass RX2 = some m.cls := findClass_of_methodNamed B.named
  have hlocks := B.notSynchronized
  obtain ⟨ha, hP, hC⟩ := hv
  obtain ⟨hK, hJ, hN, hZ, hT⟩ := id hC
  have hS : va_S (AX ad) s.heap s.heap [] := va_S.rf
  refine W.eq (show entryFrame m args 2 = entryFrame m ([.ref (ad q0), .int a1] : List Value).toArray 2 by rw [ha]) ?_
  have hl := lv_entry ([.ref (ad q0), .int a1]) (n := 2) (Nat.le_of_ble_eq_true rfl)
  rw [lg_entry_eq]
  generalize (lg_sl ([.ref (ad q0), .int a1]) ++ List.replicate (2 - (lg_sl ([.ref (ad q0), .int a1])).length) Slot.unset).toArray = ls at hl ⊢
  have hl : lv_has ls 2 [(0, .ref (ad q0)), (1, .int a1)] := hl
  show W p l e rX2_divideBy s m args below meth c s.heap [] 0 0 (MQ below (va_Qv (fun (u' : UX) => u' = ru) (wB D (wX ad cs)) (AX ad)) args s 0 0 (AX ad)) (F0 m 0 ls [])
  have hf := hok
  unfold fX2_divideBy at hf
  refine lv_iload_n hx hb dX2_divideBy_0 rfl (lv_at hl 1 rfl) ?_
  refine lv_if_le (tgt := 19) hx hb dX2_divideBy_1 (by decide) (fun c_1 => ?_) (fun c_1 => ?_)
  · skip
    replace hf := it_t c_1 hf
    exact grV hx hb hr hlocks hP hS dX2_divideBy_19 (Option.some.inj hf)
  · skip
    replace hf := it_f c_1 hf
    refine lv_aload_n hx hb dX2_divideBy_4 rfl (lv_at hl 0 rfl) ?_
    refine lv_aload_n hx hb dX2_divideBy_5 rfl (lv_at hl 0 rfl) ?_
    refine va_get (D := D) (ci := 1) (v := .long ((u.2.1 q0).1)) (C := RX2) (T := TX2) (N := 2) hx hb hg inG_X2 hown hK hP q0 (x_fra hq0a hq0b) rfl 0 (by decide) (hg _ kw_101) (fun _ h9 => h9) rfl dX2_divideBy_6 ?_
    refine lv_aload_n hx hb dX2_divideBy_9 rfl (lv_at hl 0 rfl) ?_
    refine va_get (D := D) (ci := 1) (v := .long ((u.2.1 q0).2)) (C := RX2) (T := TX2) (N := 2) hx hb hg inG_X2 hown hK hP q0 (x_fra hq0a hq0b) rfl 1 (by decide) (hg _ kw_103) (fun _ h9 => h9) rfl dX2_divideBy_10 ?_
    refine lv_iload_n hx hb dX2_divideBy_13 rfl (lv_at hl 1 rfl) ?_
    refine lv_i2l hx hb dX2_divideBy_14 rfl ?_
    refine lv_lmul hx hb dX2_divideBy_15 ?_
    obtain ⟨r_2, hc_3, hf⟩ := bd_ok hf
    refine gcVv 2 (xC_ok D ad cs tM hJ) hC ⟨hx, hb, hml, hown, hts⟩ (mX2_become l D ad cs tM u q0 ((u.2.1 q0).1) (((u.2.1 q0).2) * a1.toInt64) hq0a hq0b r_2 hc_3) (gG kw_274) kw_309 kw_272 kw_273 kw_25 hX2_become ⟨rfl, rfl⟩ ⟨Nat.le_of_ble_eq_true rfl, Nat.le_of_ble_eq_true rfl⟩ (x_rec (C := RX2) (T := TX2) (N := 2) (ci := 1) hK hP rfl (x_fra hq0a hq0b)) hP hS ⟨Nat.zero_le _, Nat.zero_le _⟩ rfl hl.1 rfl (Nat.le_of_ble_eq_true rfl) dX2_divideBy_16 (fun H locs hP hS => ?_)
    exact grV hx hb hr hlocks hP hS dX2_divideBy_19 (Option.some.inj hf)
abbrev rX2_addTimes : Room := { frames := 2, cells := 0, slots := 0, locals := 56 }
theorem hX2_addTimes : yX2_addTimes.cls ≠ "java/lang/invoke/MethodHandle" ∧ yX2_addTimes.cls ≠ "java/lang/invoke/VarHandle" ∧ (parseMethodDescriptor yX2_addTimes.desc).map (fun d => d.parameters.length) = some 2 := by decide +kernel
set_option maxHeartbeats 4000000 in
set_option maxRecDepth 100000 in
theorem mX2_addTimes (l : Launch) (D : va_G) (ad : Nat → Nat) (cs : Nat → ClassId) (tM : Nat) (u : UX) (q0 : Nat) (q1 : Nat) (a2 : Int32) (hq0a : 18 ≤ q0) (hq0b : q0 < 29) (hq1a : 18 ≤ q1) (hq1b : q1 < 29) (ru : UX) (hok : fX2_addTimes u q0 q1 a2 = some ru) : Met l yX2_addTimes (Cond.code yX2_addTimes cX2_addTimes 9 none :: wsG) rX2_addTimes (va_Pc [.ref (ad q0), .ref (ad q1), .int a2] (wI D (wX ad cs) (xC D ad cs tM) u)) (va_Qv (fun (u' : UX) => u' = ru) (wB D (wX ad cs)) (AX ad)) 0 0 (AX ad) := by
  refine Met.ofW (cc := cX2_addTimes) (maxL := 9) (ret := none) (by decide) rfl ?_
  intro p e s m args below meth c s₁ B hml hv
  have hx := B.exec
  have hb := B.bytes
  have hr := B.returns
  have hts := atoms_spec (ws := (Cond.code yX2_addTimes cX2_addTimes 9 none :: wsG)) B.pre
  have hg : ∀ w ∈ wsG, w.before args s = true := fun w h => hts w (List.mem_cons_of_mem _ h)
  have hown : s.vm.findClass RX2 = some m.cls := findClass_of_methodNamed B.named
  have hlocks := B.notSynchronized
  obtain ⟨ha, hP, hC⟩ := hv
  obtain ⟨hK, hJ, hN, hZ, hT⟩ := id hC
  have hS : va_S (AX ad) s.heap s.heap [] := va_S.rf
  refine W.eq (show entryFrame m args 9 = entryFrame m ([.ref (ad q0), .ref (ad q1), .int a2] : List Value).toArray 9 by rw [ha]) ?_
  have hl := lv_entry ([.ref (ad q0), .ref (ad q1), .int a2]) (n := 9) (Nat.le_of_ble_eq_true rfl)
  rw [lg_entry_eq]
  generalize (lg_sl ([.ref (ad q0), .ref (ad q1), .int a2]) ++ List.replicate (9 - (lg_sl ([.ref (ad q0), .ref (ad q1), .int a2])).length) Slot.unset).toArray = ls at hl ⊢
  have hl : lv_has ls 9 [(0, .ref (ad q0)), (1, .ref (ad q1)), (2, .int a2)] := hl
  show W p l e rX2_addTimes s m args below meth c s.heap [] 0 0 (MQ below (va_Qv (fun (u' : UX) => u' = ru) (wB D (wX ad cs)) (AX ad)) args s 0 0 (AX ad)) (F0 m 0 ls [])
  have hf := hok
  unfold fX2_addTimes at hf
  refine lv_aload_n hx hb dX2_addTimes_0 rfl (lv_at hl 0 rfl) ?_
  refine va_get (D := D) (ci := 1) (v := .long ((u.2.1 q0).2)) (C := RX2) (T := TX2) (N := 2) hx hb hg inG_X2 hown hK hP q0 (x_fra hq0a hq0b) rfl 1 (by decide) (hg _ kw_103) (fun _ h9 => h9) rfl dX2_addTimes_1 ?_
  refine lv_aload_n hx hb dX2_addTimes_4 rfl (lv_at hl 1 rfl) ?_
  refine va_get (D := D) (ci := 1) (v := .long ((u.2.1 q1).2)) (C := RX2) (T := TX2) (N := 2) hx hb hg inG_X2 hown hK hP q1 (x_fra hq1a hq1b) rfl 1 (by decide) (hg _ kw_103) (fun _ h9 => h9) rfl dX2_addTimes_5 ?_
  obtain ⟨r_1, hc_2, hf⟩ := bd_ok hf
  refine gcFl 2 ⟨hx, hb, hml, hown, hts⟩ (mX2_commonDivisor l ((u.2.1 q0).2) ((u.2.1 q1).2) r_1 hc_2) (gG kw_280) kw_278 kw_279 kw_25 hX2_commonDivisor ⟨rfl, rfl⟩ ⟨Nat.le_of_ble_eq_true rfl, Nat.le_of_ble_eq_true rfl⟩ ⟨Nat.zero_le _, Nat.zero_le _⟩ rfl hl.1 rfl (Nat.le_of_ble_eq_true rfl) dX2_addTimes_8 ?_
  refine lv_lstore_n (lv' := [(3, .long r_1), (0, .ref (ad q0)), (1, .ref (ad q1)), (2, .int a2)]) hx hb dX2_addTimes_11 rfl hl (by decide) rfl (fun ls hl => ?_)
  refine lv_aload_n hx hb dX2_addTimes_12 rfl (lv_at hl 2 rfl) ?_
  refine va_get (D := D) (ci := 1) (v := .long ((u.2.1 q1).2)) (C := RX2) (T := TX2) (N := 2) hx hb hg inG_X2 hown hK hP q1 (x_fra hq1a hq1b) rfl 1 (by decide) (hg _ kw_103) (fun _ h9 => h9) rfl dX2_addTimes_13 ?_
  refine lv_lload_n hx hb dX2_addTimes_16 rfl (lv_at hl 0 rfl) ?_
  obtain ⟨hb_3, hf⟩ := gd_ok hf
  refine lv_ldiv hx hb dX2_addTimes_17 (nz8_ok hb_3) ?_
  refine lv_lstore (lv' := [(5, .long (((u.2.1 q1).2) / r_1)), (3, .long r_1), (0, .ref (ad q0)), (1, .ref (ad q1)), (2, .int a2)]) hx hb dX2_addTimes_18 hl (by decide) rfl (fun ls hl => ?_)
  refine lv_aload_n hx hb dX2_addTimes_20 rfl (lv_at hl 2 rfl) ?_
  refine va_get (D := D) (ci := 1) (v := .long ((u.2.1 q0).2)) (C := RX2) (T := TX2) (N := 2) hx hb hg inG_X2 hown hK hP q0 (x_fra hq0a hq0b) rfl 1 (by decide) (hg _ kw_103) (fun _ h9 => h9) rfl dX2_addTimes_21 ?_
  refine lv_lload_n hx hb dX2_addTimes_24 rfl (lv_at hl 1 rfl) ?_
  refine lv_ldiv hx hb dX2_addTimes_25 (nz8_ok hb_3) ?_
  refine lv_lstore (lv' := [(7, .long (((u.2.1 q0).2) / r_1)), (5, .long (((u.2.1 q1).2) / r_1)), (3, .long r_1), (0, .ref (ad q0)), (1, .ref (ad q1)), (2, .int a2)]) hx hb dX2_addTimes_26 hl (by decide) rfl (fun ls hl => ?_)
  refine lv_aload_n hx hb dX2_addTimes_28 rfl (lv_at hl 3 rfl) ?_
  refine lv_aload_n hx hb dX2_addTimes_29 rfl (lv_at hl 3 rfl) ?_
  refine va_get (D := D) (ci := 1) (v := .long ((u.2.1 q0).1)) (C := RX2) (T := TX2) (N := 2) hx hb hg inG_X2 hown hK hP q0 (x_fra hq0a hq0b) rfl 0 (by decide) (hg _ kw_101) (fun _ h9 => h9) rfl dX2_addTimes_30 ?_
  refine lv_lload hx hb dX2_addTimes_33 (lv_at hl 1 rfl) ?_
  refine lv_lmul hx hb dX2_addTimes_35 ?_
  refine lv_aload_n hx hb dX2_addTimes_36 rfl (lv_at hl 4 rfl) ?_
  refine va_get (D := D) (ci := 1) (v := .long ((u.2.1 q1).1)) (C := RX2) (T := TX2) (N := 2) hx hb hg inG_X2 hown hK hP q1 (x_fra hq1a hq1b) rfl 0 (by decide) (hg _ kw_101) (fun _ h9 => h9) rfl dX2_addTimes_37 ?_
  refine lv_iload_n hx hb dX2_addTimes_40 rfl (lv_at hl 5 rfl) ?_
  refine lv_i2l hx hb dX2_addTimes_41 rfl ?_
  refine lv_lmul hx hb dX2_addTimes_42 ?_
  refine lv_lload hx hb dX2_addTimes_43 (lv_at hl 0 rfl) ?_
  refine lv_lmul hx hb dX2_addTimes_45 ?_
  refine lv_ladd hx hb dX2_addTimes_46 ?_
  refine lv_aload_n hx hb dX2_addTimes_47 rfl (lv_at hl 3 rfl) ?_
  refine va_get (D := D) (ci := 1) (v := .long ((u.2.1 q0).2)) (C := RX2) (T := TX2) (N := 2) hx hb hg inG_X2 hown hK hP q0 (x_fra hq0a hq0b) rfl 1 (by decide) (hg _ kw_103) (fun _ h9 => h9) rfl dX2_addTimes_48 ?_
  refine lv_lload hx hb dX2_addTimes_51 (lv_at hl 1 rfl) ?_
  refine lv_lmul hx hb dX2_addTimes_53 ?_
  obtain ⟨r_4, hc_5, hf⟩ := bd_ok hf
  refine gcVv 2 (xC_ok D ad cs tM hJ) hC ⟨hx, hb, hml, hown, hts⟩ (mX2_become l D ad cs tM u q0 ((((u.2.1 q0).1) * (((u.2.1 q1).2) / r_1)) + ((((u.2.1 q1).1) * a2.toInt64) * (((u.2.1 q0).2) / r_1))) (((u.2.1 q0).2) * (((u.2.1 q1).2) / r_1)) hq0a hq0b r_4 hc_5) (gG kw_274) kw_309 kw_272 kw_273 kw_25 hX2_become ⟨rfl, rfl⟩ ⟨Nat.le_of_ble_eq_true rfl, Nat.le_of_ble_eq_true rfl⟩ (x_rec (C := RX2) (T := TX2) (N := 2) (ci := 1) hK hP rfl (x_fra hq0a hq0b)) hP hS ⟨Nat.zero_le _, Nat.zero_le _⟩ rfl hl.1 rfl (Nat.le_of_ble_eq_true rfl) dX2_addTimes_54 (fun H locs hP hS => ?_)
  exact grV hx hb hr hlocks hP hS dX2_addTimes_57 (Option.some.inj hf)
abbrev rX2_addWhole : Room := { frames := 0, cells := 0, slots := 0, locals := 0 }
theorem hX2_addWhole : yX2_addWhole.cls ≠ "java/lang/invoke/MethodHandle" ∧ yX2_addWhole.cls ≠ "java/lang/invoke/VarHandle" ∧ (parseMethodDescriptor yX2_addWhole.desc).map (fun d => d.parameters.length) = some 1 := by decide +kernel
set_option maxHeartbeats 4000000 in
set_option maxRecDepth 100000 in
theorem mX2_addWhole (l : Launch) (D : va_G) (ad : Nat → Nat) (cs : Nat → ClassId) (tM : Nat) (u : UX) (q0 : Nat) (a1 : Int32) (hq0a : 18 ≤ q0) (hq0b : q0 < 29) (ru : UX) (hok : fX2_addWhole u q0 a1 = some ru) : Met l yX2_addWhole (Cond.code yX2_addWhole cX2_addWhole 2 none :: wsG) rX2_addWhole (va_Pc [.ref (ad q0), .int a1] (wI D (wX ad cs) (xC D ad cs tM) u)) (va_Qv (fun (u' : UX) => u' = ru) (wB D (wX ad cs)) (AX ad)) 0 0 (AX ad) := by
  refine Met.ofW (cc := cX2_addWhole) (maxL := 2) (ret := none) (by decide) rfl ?_
  intro p e s m args below meth c s₁ B hml hv
  have hx := B.exec
  have hb := B.bytes
  have hr := B.returns
  have hts := atoms_spec (ws := (Cond.code yX2_addWhole cX2_addWhole 2 none :: wsG)) B.pre
  have hg : ∀ w ∈ wsG, w.before args s = true := fun w h => hts w (List.mem_cons_of_mem _ h)
  have hown : s.vm.findClass RX2 = some m.cls := findClass_of_methodNamed B.named
  have hlocks := B.notSynchronized
  obtain ⟨ha, hP, hC⟩ := hv
  obtain ⟨hK, hJ, hN, hZ, hT⟩ := id hC
  have hS : va_S (AX ad) s.heap s.heap [] := va_S.rf
  refine W.eq (show entryFrame m args 2 = entryFrame m ([.ref (ad q0), .int a1] : List Value).toArray 2 by rw [ha]) ?_
  have hl := lv_entry ([.ref (ad q0), .int a1]) (n := 2) (Nat.le_of_ble_eq_true rfl)
  rw [lg_entry_eq]
  generalize (lg_sl ([.ref (ad q0), .int a1]) ++ List.replicate (2 - (lg_sl ([.ref (ad q0), .int a1])).length) Slot.unset).toArray = ls at hl ⊢
  have hl : lv_has ls 2 [(0, .ref (ad q0)), (1, .int a1)] := hl
  show W p l e rX2_addWhole s m args below meth c s.heap [] 0 0 (MQ below (va_Qv (fun (u' : UX) => u' = ru) (wB D (wX ad cs)) (AX ad)) args s 0 0 (AX ad)) (F0 m 0 ls [])
  have hf := hok
  unfold fX2_addWhole at hf
  refine lv_aload_n hx hb dX2_addWhole_0 rfl (lv_at hl 0 rfl) ?_
  refine lv_dup hx hb dX2_addWhole_1 rfl ?_
  refine va_get (D := D) (ci := 1) (v := .long ((u.2.1 q0).1)) (C := RX2) (T := TX2) (N := 2) hx hb hg inG_X2 hown hK hP q0 (x_fra hq0a hq0b) rfl 0 (by decide) (hg _ kw_101) (fun _ h9 => h9) rfl dX2_addWhole_2 ?_
  refine lv_iload_n hx hb dX2_addWhole_5 rfl (lv_at hl 1 rfl) ?_
  refine lv_i2l hx hb dX2_addWhole_6 rfl ?_
  refine lv_aload_n hx hb dX2_addWhole_7 rfl (lv_at hl 0 rfl) ?_
  refine va_get (D := D) (ci := 1) (v := .long ((u.2.1 q0).2)) (C := RX2) (T := TX2) (N := 2) hx hb hg inG_X2 hown hK hP q0 (x_fra hq0a hq0b) rfl 1 (by decide) (hg _ kw_103) (fun _ h9 => h9) rfl dX2_addWhole_8 ?_
  refine lv_lmul hx hb dX2_addWhole_11 ?_
  refine lv_ladd hx hb dX2_addWhole_12 ?_
  refine x_putU hx hb hg hown hK hP hJ hS hq0a hq0b (hg _ kw_101) dX2_addWhole_13 (fun H locs hP hS => ?_)
  exact grV hx hb hr hlocks hP hS dX2_addWhole_16 (Option.some.inj hf)
abbrev rX2_isAbove : Room := { frames := 0, cells := 0, slots := 0, locals := 0 }
theorem hX2_isAbove : yX2_isAbove.cls ≠ "java/lang/invoke/MethodHandle" ∧ yX2_isAbove.cls ≠ "java/lang/invoke/VarHandle" ∧ (parseMethodDescriptor yX2_isAbove.desc).map (fun d => d.parameters.length) = some 1 := by decide +kernel
set_option maxHeartbeats 4000000 in
set_option maxRecDepth 100000 in
theorem mX2_isAbove (l : Launch) (D : va_G) (ad : Nat → Nat) (cs : Nat → ClassId) (tM : Nat) (u : UX) (q0 : Nat) (a1 : Int32) (hq0a : 18 ≤ q0) (hq0b : q0 < 29) (r0 : Int32) (hok : fX2_isAbove u q0 a1 = some r0) : Met l yX2_isAbove (Cond.code yX2_isAbove cX2_isAbove 2 (some .boolean) :: wsG) rX2_isAbove (va_Pc [.ref (ad q0), .int a1] (wI D (wX ad cs) (xC D ad cs tM) u)) (va_Qi (fun (r : Int32) (u' : UX) => r = r0 ∧ u' = u) (wB D (wX ad cs)) (AX ad)) 0 0 (AX ad) := by
  refine Met.ofW (cc := cX2_isAbove) (maxL := 2) (ret := (some .boolean)) (by decide) rfl ?_
  intro p e s m args below meth c s₁ B hml hv
  have hx := B.exec
  have hb := B.bytes
  have hr := B.returns
  have hts := atoms_spec (ws := (Cond.code yX2_isAbove cX2_isAbove 2 (some .boolean) :: wsG)) B.pre
  have hg : ∀ w ∈ wsG, w.before args s = true := fun w h => hts w (List.mem_cons_of_mem _ h)
  have hown : s.vm.findClass RX2 = some m.cls := findClass_of_methodNamed B.named
  have hlocks := B.notSynchronized
  obtain ⟨ha, hP, hC⟩ := hv
  obtain ⟨hK, hJ, hN, hZ, hT⟩ := id hC
  have hS : va_S (AX ad) s.heap s.heap [] := va_S.rf
  refine W.eq (show entryFrame m args 2 = entryFrame m ([.ref (ad q0), .int a1] : List Value).toArray 2 by rw [ha]) ?_
  have hl := lv_entry ([.ref (ad q0), .int a1]) (n := 2) (Nat.le_of_ble_eq_true rfl)
  rw [lg_entry_eq]
  generalize (lg_sl ([.ref (ad q0), .int a1]) ++ List.replicate (2 - (lg_sl ([.ref (ad q0), .int a1])).length) Slot.unset).toArray = ls at hl ⊢
  have hl : lv_has ls 2 [(0, .ref (ad q0)), (1, .int a1)] := hl
  show W p l e rX2_isAbove s m args below meth c s.heap [] 0 0 (MQ below (va_Qi (fun (r : Int32) (u' : UX) => r = r0 ∧ u' = u) (wB D (wX ad cs)) (AX ad)) args s 0 0 (AX ad)) (F0 m 0 ls [])
  have hf := hok
  unfold fX2_isAbove at hf
  refine lv_aload_n hx hb dX2_isAbove_0 rfl (lv_at hl 0 rfl) ?_
  refine va_get (D := D) (ci := 1) (v := .long ((u.2.1 q0).1)) (C := RX2) (T := TX2) (N := 2) hx hb hg inG_X2 hown hK hP q0 (x_fra hq0a hq0b) rfl 0 (by decide) (hg _ kw_101) (fun _ h9 => h9) rfl dX2_isAbove_1 ?_
  refine lv_iload_n hx hb dX2_isAbove_4 rfl (lv_at hl 1 rfl) ?_
  refine lv_i2l hx hb dX2_isAbove_5 rfl ?_
  refine lv_aload_n hx hb dX2_isAbove_6 rfl (lv_at hl 0 rfl) ?_
  refine va_get (D := D) (ci := 1) (v := .long ((u.2.1 q0).2)) (C := RX2) (T := TX2) (N := 2) hx hb hg inG_X2 hown hK hP q0 (x_fra hq0a hq0b) rfl 1 (by decide) (hg _ kw_103) (fun _ h9 => h9) rfl dX2_isAbove_7 ?_
  refine lv_lmul hx hb dX2_isAbove_10 ?_
  refine W.lcmp hx hb dX2_isAbove_11 ?_
  refine lv_if_le (tgt := 19) hx hb dX2_isAbove_12 (by decide) (fun c_1 => ?_) (fun c_1 => ?_)
  · replace c_1 := lc_le.mp c_1
    replace hf := it_t c_1 hf
    refine lv_iconst (v := 0) hx hb dX2_isAbove_19 (by decide) ?_
    exact grZ hx hb hr hlocks (by decide) hP hS dX2_isAbove_20 (Option.some.inj hf) rfl
  · replace c_1 := fun q => c_1 (lc_le.mpr q)
    replace hf := it_f c_1 hf
    refine lv_iconst (v := 1) hx hb dX2_isAbove_15 (by decide) ?_
    refine lv_goto (tgt := 20) hx hb dX2_isAbove_16 (by decide) ?_
    exact grZ hx hb hr hlocks (by decide) hP hS dX2_isAbove_20 (Option.some.inj hf) rfl
