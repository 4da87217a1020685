abbrev rX5_append : Room := { frames := 0, cells := 0, slots := 0, locals := 0 }
theorem hX5_append : yX5_append.cls ≠ "java/lang/invoke/MethodHandle" ∧ yX5_append.cls ≠ "java/lang/invoke/VarHandle" ∧ (parseMethodDescriptor yX5_append.desc).map (fun d => d.parameters.length) = some 3 := by decide +kernel
set_option maxHeartbeats 4000000 in
set_option maxRecDepth 100000 in
theorem mX5_append (l : Launch) (D : va_G) (ad : Nat → Nat) (cs : Nat → ClassId) (tM : Nat) (u : UX) (a1 : Int32) (a2 : Int32) (a3 : Int32)  (ru : Int32 × UX) (hok : fX5_append u a1 a2 a3 = some ru) : Met l yX5_append (Cond.code yX5_append cX5_append 5 (some .int) :: wsG) rX5_append (va_Pc [.ref (ad 30), .int a1, .int a2, .int a3] (wI D (wX ad cs) (xC D ad cs tM) u)) (va_Qi (fun (r : Int32) (u' : UX) => r = ru.1 ∧ u' = ru.2) (wB D (wX ad cs)) (AX ad)) 0 0 (AX ad) := by
  refine Met.ofW (cc := cX5_append) (maxL := 5) (ret := (some .int)) (by decide) rfl ?_
  intro p e s m args below meth c s₁ B hml hv
  have hx := B.exec
  have hb := B.bytes
  have hr := B.returns
  have hts := atoms_spec (ws := (Cond.code yX5_append cX5_append 5 (some .int) :: wsG)) B.pre
  have hg : ∀ w ∈ wsG, w.before args s = true := fun w h => hts w (List.mem_cons_of_mem _ h)
  have hown : s.vm.findClass RX5 = some m.cls := findClass_of_methodNamed B.named
  have hlocks := B.notSynchronized
  obtain ⟨ha, hP, hC⟩ := hv
  obtain ⟨hK, hJ, hN, hZ, hT⟩ := id hC
  have hS : va_S (AX ad) s.heap s.heap [] := va_S.rf
  refine W.eq (show entryFrame m args 5 = entryFrame m ([.ref (ad 30), .int a1, .int a2, .int a3] : List Value).toArray 5 by rw [ha]) ?_
  have hl := lv_entry ([.ref (ad 30), .int a1, .int a2, .int a3]) (n := 5) (Nat.le_of_ble_eq_true rfl)
  rw [lg_entry_eq]
  generalize (lg_sl ([.ref (ad 30), .int a1, .int a2, .int a3]) ++ List.replicate (5 - (lg_sl ([.ref (ad 30), .int a1, .int a2, .int a3])).length) Slot.unset).toArray = ls at hl ⊢
  have hl : lv_has ls 5 [(0, .ref (ad 30)), (1, .int a1), (2, .int a2), (3, .int a3)] := hl
  show W p l e rX5_append s m args below meth c s.heap [] 0 0 (MQ below (va_Qi (fun (r : Int32) (u' : UX) => r = ru.1 ∧ u' = ru.2) (wB D (wX ad cs)) (AX ad)) args s 0 0 (AX ad)) (F0 m 0 ls [])
  have hf := hok
  unfold fX5_append at hf
  refine lv_aload_n hx hb dX5_append_0 rfl (lv_at hl 0 rfl) ?_
  refine va_get (D := D) (ci := 4) (v := .int u.2.2.1) (C := RX5) (T := TX5) (N := 5) hx hb hg inG_X5 hown hK hP 30 x_o30 rfl 4 (by decide) (hg _ kw_57) (fun _ h9 => h9) rfl dX5_append_1 ?_
  refine lv_istore (lv' := [(4, .int u.2.2.1), (0, .ref (ad 30)), (1, .int a1), (2, .int a2), (3, .int a3)]) hx hb dX5_append_4 hl (by decide) rfl (fun ls hl => ?_)
  refine lv_iload hx hb dX5_append_6 (lv_at hl 0 rfl) ?_
  refine lv_iconst (v := 5) hx hb dX5_append_8 (by decide) ?_
  refine lv_icmp_lt (tgt := 15) hx hb dX5_append_9 (by decide) (fun c_1 => ?_) (fun c_1 => ?_)
  · skip
    replace hf := it_t c_1 hf
    refine lv_aload_n hx hb dX5_append_15 rfl (lv_at hl 1 rfl) ?_
    refine va_get (D := D) (ci := 4) (v := .ref (ad 0)) (C := RX5) (T := TX5) (N := 5) hx hb hg inG_X5 hown hK hP 30 x_o30 rfl 0 (by decide) (hg _ kw_46) (fun _ h9 => h9) rfl dX5_append_16 ?_
    refine lv_iload hx hb dX5_append_19 (lv_at hl 0 rfl) ?_
    refine lv_iload_n hx hb dX5_append_21 rfl (lv_at hl 2 rfl) ?_
    obtain ⟨hb_2, hf⟩ := gd_ok hf
    refine x_iast hx hb hK hP hJ hS (by decide) (by decide) rfl hb_2 dX5_append_22 (fun H locs hP hS => ?_)
    refine lv_aload_n hx hb dX5_append_23 rfl (lv_at hl 1 rfl) ?_
    refine va_get (D := D) (ci := 4) (v := .ref (ad 1)) (C := RX5) (T := TX5) (N := 5) hx hb hg inG_X5 hown hK hP 30 x_o30 rfl 1 (by decide) (hg _ kw_49) (fun _ h9 => h9) rfl dX5_append_24 ?_
    refine lv_iload hx hb dX5_append_27 (lv_at hl 0 rfl) ?_
    refine lv_iload_n hx hb dX5_append_29 rfl (lv_at hl 3 rfl) ?_
    refine x_iast hx hb hK hP hJ hS (by decide) (by decide) rfl hb_2 dX5_append_30 (fun H locs hP hS => ?_)
    refine lv_aload_n hx hb dX5_append_31 rfl (lv_at hl 1 rfl) ?_
    refine va_get (D := D) (ci := 4) (v := .ref (ad 2)) (C := RX5) (T := TX5) (N := 5) hx hb hg inG_X5 hown hK hP 30 x_o30 rfl 2 (by decide) (hg _ kw_52) (fun _ h9 => h9) rfl dX5_append_32 ?_
    refine lv_iload hx hb dX5_append_35 (lv_at hl 0 rfl) ?_
    refine lv_iload_n hx hb dX5_append_37 rfl (lv_at hl 4 rfl) ?_
    refine x_iast hx hb hK hP hJ hS (by decide) (by decide) rfl hb_2 dX5_append_38 (fun H locs hP hS => ?_)
    refine lv_aload_n hx hb dX5_append_39 rfl (lv_at hl 1 rfl) ?_
    refine va_get (D := D) (ci := 4) (v := .ref (ad 3)) (C := RX5) (T := TX5) (N := 5) hx hb hg inG_X5 hown hK hP 30 x_o30 rfl 3 (by decide) (hg _ kw_54) (fun _ h9 => h9) rfl dX5_append_40 ?_
    refine lv_iload hx hb dX5_append_43 (lv_at hl 0 rfl) ?_
    refine lv_iconst (v := 1) hx hb dX5_append_45 (by decide) ?_
    refine x_iast hx hb hK hP hJ hS (by decide) (by decide) rfl hb_2 dX5_append_46 (fun H locs hP hS => ?_)
    refine lv_aload_n hx hb dX5_append_47 rfl (lv_at hl 1 rfl) ?_
    refine lv_dup hx hb dX5_append_48 rfl ?_
    refine va_get (D := D) (ci := 4) (v := .int ((xst (xst (xst (xst u 0 u.2.2.1.toNatClampNeg a1) 1 u.2.2.1.toNatClampNeg a2) 2 u.2.2.1.toNatClampNeg a3) 3 u.2.2.1.toNatClampNeg ((1 : Int32))).2.2.1)) (C := RX5) (T := TX5) (N := 5) hx hb hg inG_X5 hown hK hP 30 x_o30 rfl 4 (by decide) (hg _ kw_57) (fun _ h9 => h9) rfl dX5_append_49 ?_
    refine lv_iconst (v := 1) hx hb dX5_append_52 (by decide) ?_
    refine lv_iadd hx hb dX5_append_53 ?_
    refine x_putN hx hb hg hown hK hP hJ hS (hg _ kw_57) dX5_append_54 (fun H locs hP hS => ?_)
    refine lv_iload hx hb dX5_append_57 (lv_at hl 0 rfl) ?_
    exact grI hx hb hr hlocks hP hS dX5_append_59 (pf1 hf) (pf2 hf)
  · skip
    replace hf := it_f c_1 hf
    refine lv_bipush (v := -3) hx hb dX5_append_12 (by decide) ?_
    exact grI hx hb hr hlocks hP hS dX5_append_14 (pf1 hf) (pf2 hf)
abbrev rX5_has : Room := { frames := 0, cells := 0, slots := 0, locals := 0 }
theorem hX5_has : yX5_has.cls ≠ "java/lang/invoke/MethodHandle" ∧ yX5_has.cls ≠ "java/lang/invoke/VarHandle" ∧ (parseMethodDescriptor yX5_has.desc).map (fun d => d.parameters.length) = some 1 := by decide +kernel
set_option maxHeartbeats 4000000 in
set_option maxRecDepth 100000 in
theorem mX5_has (l : Launch) (D : va_G) (ad : Nat → Nat) (cs : Nat → ClassId) (tM : Nat) (u : UX) (a1 : Int32)  (r0 : Int32) (hok : fX5_has u a1 = some r0) : Met l yX5_has (Cond.code yX5_has cX5_has 2 (some .boolean) :: wsG) rX5_has (va_Pc [.ref (ad 30), .int a1] (wI D (wX ad cs) (xC D ad cs tM) u)) (va_Qi (fun (r : Int32) (u' : UX) => r = r0 ∧ u' = u) (wB D (wX ad cs)) (AX ad)) 0 0 (AX ad) := by
  refine Met.ofW (cc := cX5_has) (maxL := 2) (ret := (some .boolean)) (by decide) rfl ?_
  intro p e s m args below meth c s₁ B hml hv
  have hx := B.exec
  have hb := B.bytes
  have hr := B.returns
  have hts := atoms_spec (ws := (Cond.code yX5_has cX5_has 2 (some .boolean) :: wsG)) B.pre
  have hg : ∀ w ∈ wsG, w.before args s = true := fun w h => hts w (List.mem_cons_of_mem _ h)
  have hown : s.vm.findClass RX5 = some m.cls := findClass_of_methodNamed B.named
  have hlocks := B.notSynchronized
  obtain ⟨ha, hP, hC⟩ := hv
  obtain ⟨hK, hJ, hN, hZ, hT⟩ := id hC
  have hS : va_S (AX ad) s.heap s.heap [] := va_S.rf
  refine W.eq (show entryFrame m args 2 = entryFrame m ([.ref (ad 30), .int a1] : List Value).toArray 2 by rw [ha]) ?_
  have hl := lv_entry ([.ref (ad 30), .int a1]) (n := 2) (Nat.le_of_ble_eq_true rfl)
  rw [lg_entry_eq]
  generalize (lg_sl ([.ref (ad 30), .int a1]) ++ List.replicate (2 - (lg_sl ([.ref (ad 30), .int a1])).length) Slot.unset).toArray = ls at hl ⊢
  have hl : lv_has ls 2 [(0, .ref (ad 30)), (1, .int a1)] := hl
  show W p l e rX5_has s m args below meth c s.heap [] 0 0 (MQ below (va_Qi (fun (r : Int32) (u' : UX) => r = r0 ∧ u' = u) (wB D (wX ad cs)) (AX ad)) args s 0 0 (AX ad)) (F0 m 0 ls [])
  have hf := hok
  unfold fX5_has at hf
  refine lv_iload_n hx hb dX5_has_0 rfl (lv_at hl 1 rfl) ?_
  refine lv_if_lt (tgt := 16) hx hb dX5_has_1 (by decide) (fun c_1 => ?_) (fun c_1 => ?_)
  · skip
    replace hf := it_t c_1 hf
    refine lv_iconst (v := 0) hx hb dX5_has_16 (by decide) ?_
    exact grZ hx hb hr hlocks (by decide) hP hS dX5_has_17 (Option.some.inj hf) rfl
  · skip
    replace hf := it_f c_1 hf
    refine lv_iload_n hx hb dX5_has_4 rfl (lv_at hl 1 rfl) ?_
    refine lv_aload_n hx hb dX5_has_5 rfl (lv_at hl 0 rfl) ?_
    refine va_get (D := D) (ci := 4) (v := .int u.2.2.1) (C := RX5) (T := TX5) (N := 5) hx hb hg inG_X5 hown hK hP 30 x_o30 rfl 4 (by decide) (hg _ kw_57) (fun _ h9 => h9) rfl dX5_has_6 ?_
    refine lv_icmp_ge (tgt := 16) hx hb dX5_has_9 (by decide) (fun c_2 => ?_) (fun c_2 => ?_)
    · skip
      replace hf := it_t c_2 hf
      refine lv_iconst (v := 0) hx hb dX5_has_16 (by decide) ?_
      exact grZ hx hb hr hlocks (by decide) hP hS dX5_has_17 (Option.some.inj hf) rfl
    · skip
      replace hf := it_f c_2 hf
      refine lv_iconst (v := 1) hx hb dX5_has_12 (by decide) ?_
      refine lv_goto (tgt := 17) hx hb dX5_has_13 (by decide) ?_
      exact grZ hx hb hr hlocks (by decide) hP hS dX5_has_17 (Option.some.inj hf) rfl
abbrev rX5_span : Room := { frames := 1, cells := 0, slots := 0, locals := 23 }
theorem hX5_span : yX5_span.cls ≠ "java/lang/invoke/MethodHandle" ∧ yX5_span.cls ≠ "java/lang/invoke/VarHandle" ∧ (parseMethodDescriptor yX5_span.desc).map (fun d => d.parameters.length) = some 1 := by decide +kernel
set_option maxHeartbeats 4000000 in
set_option maxRecDepth 100000 in
theorem mX5_span (l : Launch) (D : va_G) (ad : Nat → Nat) (cs : Nat → ClassId) (tM : Nat) (u : UX) (a1 : Int32)  (r0 : Int32) (hok : fX5_span u a1 = some r0) : Met l yX5_span (Cond.code yX5_span cX5_span 2 (some .int) :: wsG) rX5_span (va_Pc [.ref (ad 30), .int a1] (wI D (wX ad cs) (xC D ad cs tM) u)) (va_Qi (fun (r : Int32) (u' : UX) => r = r0 ∧ u' = u) (wB D (wX ad cs)) (AX ad)) 0 0 (AX ad) := by
  refine Met.ofW (cc := cX5_span) (maxL := 2) (ret := (some .int)) (by decide) rfl ?_
  intro p e s m args below meth c s₁ B hml hv
  have hx := B.exec
  have hb := B.bytes
  have hr := B.returns
  have hts := atoms_spec (ws := (Cond.code yX5_span cX5_span 2 (some .int) :: wsG)) B.pre
  have hg : ∀ w ∈ wsG, w.before args s = true := fun w h => hts w (List.mem_cons_of_mem _ h)
  have hown : s.vm.findClass RX5 = some m.cls := findClass_of_methodNamed B.named
  have hlocks := B.notSynchronized
  obtain ⟨ha, hP, hC⟩ := hv
  obtain ⟨hK, hJ, hN, hZ, hT⟩ := id hC
  have hS : va_S (AX ad) s.heap s.heap [] := va_S.rf
  refine W.eq (show entryFrame m args 2 = entryFrame m ([.ref (ad 30), .int a1] : List Value).toArray 2 by rw [ha]) ?_
  have hl := lv_entry ([.ref (ad 30), .int a1]) (n := 2) (Nat.le_of_ble_eq_true rfl)
  rw [lg_entry_eq]
  generalize (lg_sl ([.ref (ad 30), .int a1]) ++ List.replicate (2 - (lg_sl ([.ref (ad 30), .int a1])).length) Slot.unset).toArray = ls at hl ⊢
  have hl : lv_has ls 2 [(0, .ref (ad 30)), (1, .int a1)] := hl
  show W p l e rX5_span s m args below meth c s.heap [] 0 0 (MQ below (va_Qi (fun (r : Int32) (u' : UX) => r = r0 ∧ u' = u) (wB D (wX ad cs)) (AX ad)) args s 0 0 (AX ad)) (F0 m 0 ls [])
  have hf := hok
  unfold fX5_span at hf
  refine lv_iconst (v := 1) hx hb dX5_span_0 (by decide) ?_
  refine lv_aload_n hx hb dX5_span_1 rfl (lv_at hl 0 rfl) ?_
  refine va_get (D := D) (ci := 4) (v := .ref (ad 2)) (C := RX5) (T := TX5) (N := 5) hx hb hg inG_X5 hown hK hP 30 x_o30 rfl 2 (by decide) (hg _ kw_52) (fun _ h9 => h9) rfl dX5_span_2 ?_
  refine lv_iload_n hx hb dX5_span_5 rfl (lv_at hl 1 rfl) ?_
  obtain ⟨hb_1, hf⟩ := gd_ok hf
  refine x_iald hx hb hK hP (by decide) (by decide) rfl hb_1 dX5_span_6 ?_
  refine lv_aload_n hx hb dX5_span_7 rfl (lv_at hl 0 rfl) ?_
  refine va_get (D := D) (ci := 4) (v := .ref (ad 1)) (C := RX5) (T := TX5) (N := 5) hx hb hg inG_X5 hown hK hP 30 x_o30 rfl 1 (by decide) (hg _ kw_49) (fun _ h9 => h9) rfl dX5_span_8 ?_
  refine lv_iload_n hx hb dX5_span_11 rfl (lv_at hl 1 rfl) ?_
  refine x_iald hx hb hK hP (by decide) (by decide) rfl hb_1 dX5_span_12 ?_
  refine lv_isub hx hb dX5_span_13 ?_
  refine va_mmax hx hb (hml.trans hl.1.symm) hown (hg _ kw_263) (hg _ kw_241) (hg _ kw_29) (hg _ kw_242) (Nat.le_of_ble_eq_true rfl) (Nat.le_of_ble_eq_true rfl) (Nat.zero_le _) (Nat.zero_le _) dX5_span_14 ?_
  exact grI hx hb hr hlocks hP hS dX5_span_17 (Option.some.inj hf) rfl
abbrev rX5_commonLower : Room := { frames := 2, cells := 0, slots := 0, locals := 44 }
theorem hX5_commonLower : yX5_commonLower.cls ≠ "java/lang/invoke/MethodHandle" ∧ yX5_commonLower.cls ≠ "java/lang/invoke/VarHandle" ∧ (parseMethodDescriptor yX5_commonLower.desc).map (fun d => d.parameters.length) = some 0 := by decide +kernel
set_option maxHeartbeats 4000000 in
set_option maxRecDepth 100000 in
theorem mX5_commonLower (l : Launch) (D : va_G) (ad : Nat → Nat) (cs : Nat → ClassId) (tM : Nat) (u : UX)   (r0 : Int64) (hok : fX5_commonLower u = some r0) : Met l yX5_commonLower (Cond.code yX5_commonLower cX5_commonLower 4 (some .long) :: wsG) rX5_commonLower (va_Pc [.ref (ad 30)] (wI D (wX ad cs) (xC D ad cs tM) u)) (va_Ql (fun (r : Int64) (u' : UX) => r = r0 ∧ u' = u) (wB D (wX ad cs)) (AX ad)) 0 0 (AX ad) := by
  refine Met.ofW (cc := cX5_commonLower) (maxL := 4) (ret := (some .long)) (by decide) rfl ?_
  intro p e s m args below meth c s₁ B hml hv
  have hx := B.exec
  have hb := B.bytes
  have hr := B.returns
  have hts := atoms_spec (ws := (Cond.code yX5_commonLower cX5_commonLower 4 (some .long) :: wsG)) B.pre
  have hg : ∀ w ∈ wsG, w.before args s = true := fun w h => hts w (List.mem_cons_of_mem _ h)
  have hown : s.vm.findClass RX5 = some m.cls := findClass_of_methodNamed B.named
  have hlocks := B.notSynchronized
  obtain ⟨ha, hP, hC⟩ := hv
  obtain ⟨hK, hJ, hN, hZ, hT⟩ := id hC
  have hS : va_S (AX ad) s.heap s.heap [] := va_S.rf
  refine W.eq (show entryFrame m args 4 = entryFrame m ([.ref (ad 30)] : List Value).toArray 4 by rw [ha]) ?_
  have hl := lv_entry ([.ref (ad 30)]) (n := 4) (Nat.le_of_ble_eq_true rfl)
  rw [lg_entry_eq]
  generalize (lg_sl ([.ref (ad 30)]) ++ List.replicate (4 - (lg_sl ([.ref (ad 30)])).length) Slot.unset).toArray = ls at hl ⊢
  have hl : lv_has ls 4 [(0, .ref (ad 30))] := hl
  show W p l e rX5_commonLower s m args below meth c s.heap [] 0 0 (MQ below (va_Ql (fun (r : Int64) (u' : UX) => r = r0 ∧ u' = u) (wB D (wX ad cs)) (AX ad)) args s 0 0 (AX ad)) (F0 m 0 ls [])
  have hf := hok
  unfold fX5_commonLower at hf
  refine lv_lconst (v := 1) hx hb dX5_commonLower_0 (by decide) ?_
  refine lv_lstore_n (lv' := [(1, .long ((1 : Int64))), (0, .ref (ad 30))]) hx hb dX5_commonLower_1 rfl hl (by decide) rfl (fun ls hl => ?_)
  refine lv_iconst (v := 0) hx hb dX5_commonLower_2 (by decide) ?_
  refine lv_istore_n (lv' := [(3, .int ((0 : Int32))), (1, .long ((1 : Int64))), (0, .ref (ad 30))]) hx hb dX5_commonLower_3 rfl hl (by decide) rfl (fun ls hl => ?_)
  have hL_2 : ∀ (nf : Nat) (y1_k_1 : Int64) (y3_k_1 : Int32) (H : Heap) (locs : List Loc) (ls : Array Slot) (t : Int64), va_P D vwCl (wX ad cs u) H → va_S (AX ad) s.heap H locs → lv_has ls 4 [(0, .ref (ad 30)), (1, .long y1_k_1), (3, .int y3_k_1)] → fX5_commonLower_4 u nf y1_k_1 y3_k_1 = some t → (∀ (H : Heap) (locs : List Loc) (ls : Array Slot), va_P D vwCl (wX ad cs u) H → va_S (AX ad) s.heap H locs → lv_has ls 4 [(1, .long t)] → W p l e rX5_commonLower s m args below meth c H locs 0 0 (MQ below (va_Ql (fun (r : Int64) (u' : UX) => r = r0 ∧ u' = u) (wB D (wX ad cs)) (AX ad)) args s 0 0 (AX ad)) (F0 m 27 ls [])) → W p l e rX5_commonLower s m args below meth c H locs 0 0 (MQ below (va_Ql (fun (r : Int64) (u' : UX) => r = r0 ∧ u' = u) (wB D (wX ad cs)) (AX ad)) args s 0 0 (AX ad)) (F0 m 4 ls []) := by
    intro nf
    induction nf with
    | zero => intro y1_k_1 y3_k_1 H locs ls t hP hS hl hf hK'; rw [fX5_commonLower_4] at hf; cases hf
    | succ nf ih =>
      intro y1_k_1 y3_k_1 H locs ls t hP hS hl hf hK'
      rw [fX5_commonLower_4] at hf
      refine lv_iload_n hx hb dX5_commonLower_4 rfl (lv_at hl 2 rfl) ?_
      refine lv_aload_n hx hb dX5_commonLower_5 rfl (lv_at hl 0 rfl) ?_
      refine va_get (D := D) (ci := 4) (v := .int u.2.2.1) (C := RX5) (T := TX5) (N := 5) hx hb hg inG_X5 hown hK hP 30 x_o30 rfl 4 (by decide) (hg _ kw_57) (fun _ h9 => h9) rfl dX5_commonLower_6 ?_
      refine lv_icmp_ge (tgt := 27) hx hb dX5_commonLower_9 (by decide) (fun c_3 => ?_) (fun c_3 => ?_)
      · skip
        replace hf := it_t c_3 hf
        have ht := Option.some.inj hf
        subst ht
        exact hK' _ _ _ hP hS (lv_sub hl [1] rfl)
      · skip
        replace hf := it_f c_3 hf
        refine lv_lload_n hx hb dX5_commonLower_12 rfl (lv_at hl 1 rfl) ?_
        refine lv_aload_n hx hb dX5_commonLower_13 rfl (lv_at hl 0 rfl) ?_
        refine lv_iload_n hx hb dX5_commonLower_14 rfl (lv_at hl 2 rfl) ?_
        obtain ⟨r_4, hc_5, hf⟩ := bd_ok hf
        refine gcVi 1 (xC_ok D ad cs tM hJ) hC ⟨hx, hb, hml, hown, hts⟩ (mX5_span l D ad cs tM u y3_k_1 r_4 hc_5) (gG kw_262) kw_259 kw_261 kw_1 kw_22 hX5_span ⟨rfl, rfl⟩ ⟨Nat.le_of_ble_eq_true rfl, Nat.le_of_ble_eq_true rfl⟩ (x_rec (C := RX5) (T := TX5) (N := 5) (ci := 4) hK hP rfl x_o30) hP hS ⟨Nat.zero_le _, Nat.zero_le _⟩ rfl hl.1 rfl (Nat.le_of_ble_eq_true rfl) dX5_commonLower_15 (fun H locs hP hS => ?_)
        refine lv_i2l hx hb dX5_commonLower_18 rfl ?_
        refine lv_lmul hx hb dX5_commonLower_19 ?_
        refine lv_lstore_n (lv' := [(1, .long (y1_k_1 * r_4.toInt64)), (0, .ref (ad 30)), (3, .int y3_k_1)]) hx hb dX5_commonLower_20 rfl hl (by decide) rfl (fun ls hl => ?_)
        refine lv_iinc (v := y3_k_1 + 1) (lv' := [(3, .int (y3_k_1 + 1)), (1, .long (y1_k_1 * r_4.toInt64)), (0, .ref (ad 30))]) hx hb dX5_commonLower_21 hl (k := 2) rfl rfl (by decide) rfl (fun ls hl => ?_)
        refine lv_goto (tgt := 4) hx hb dX5_commonLower_24 (by decide) ?_
        exact ih _ _ _ _ _ t hP hS (lv_sub hl [2, 1, 0] rfl) hf hK'
  obtain ⟨t_6, hq_7, hf⟩ := bd_ok hf
  refine hL_2 FU _ _ _ _ _ t_6 hP hS (lv_sub hl [2, 1, 0] rfl) hq_7 (fun H locs ls hP hS hl => ?_)
  refine lv_lload_n hx hb dX5_commonLower_27 rfl (lv_at hl 0 rfl) ?_
  exact grL hx hb hr hlocks hP hS dX5_commonLower_28 (Option.some.inj hf) rfl
abbrev rX5_dirtBelow : Room := { frames := 2, cells := 0, slots := 0, locals := 44 }
theorem hX5_dirtBelow : yX5_dirtBelow.cls ≠ "java/lang/invoke/MethodHandle" ∧ yX5_dirtBelow.cls ≠ "java/lang/invoke/VarHandle" ∧ (parseMethodDescriptor yX5_dirtBelow.desc).map (fun d => d.parameters.length) = some 2 := by decide +kernel
set_option maxHeartbeats 4000000 in
set_option maxRecDepth 100000 in
theorem mX5_dirtBelow (l : Launch) (D : va_G) (ad : Nat → Nat) (cs : Nat → ClassId) (tM : Nat) (u : UX) (a1 : Int32) (a2 : Int64)  (r0 : Int64) (hok : fX5_dirtBelow u a1 a2 = some r0) : Met l yX5_dirtBelow (Cond.code yX5_dirtBelow cX5_dirtBelow 9 (some .long) :: wsG) rX5_dirtBelow (va_Pc [.ref (ad 30), .int a1, .long a2] (wI D (wX ad cs) (xC D ad cs tM) u)) (va_Ql (fun (r : Int64) (u' : UX) => r = r0 ∧ u' = u) (wB D (wX ad cs)) (AX ad)) 0 0 (AX ad) := by
  refine Met.ofW (cc := cX5_dirtBelow) (maxL := 9) (ret := (some .long)) (by decide) rfl ?_
  intro p e s m args below meth c s₁ B hml hv
  have hx := B.exec
  have hb := B.bytes
  have hr := B.returns
  have hts := atoms_spec (ws := (Cond.code yX5_dirtBelow cX5_dirtBelow 9 (some .long) :: wsG)) B.pre
  have hg : ∀ w ∈ wsG, w.before args s = true := fun w h => hts w (List.mem_cons_of_mem _ h)
  have hown : s.vm.findClass RX5 = some m.cls := findClass_of_methodNamed B.named
  have hlocks := B.notSynchronized
  obtain ⟨ha, hP, hC⟩ := hv
  obtain ⟨hK, hJ, hN, hZ, hT⟩ := id hC
  have hS : va_S (AX ad) s.heap s.heap [] := va_S.rf
  refine W.eq (show entryFrame m args 9 = entryFrame m ([.ref (ad 30), .int a1, .long a2] : List Value).toArray 9 by rw [ha]) ?_
  have hl := lv_entry ([.ref (ad 30), .int a1, .long a2]) (n := 9) (Nat.le_of_ble_eq_true rfl)
  rw [lg_entry_eq]
  generalize (lg_sl ([.ref (ad 30), .int a1, .long a2]) ++ List.replicate (9 - (lg_sl ([.ref (ad 30), .int a1, .long a2])).length) Slot.unset).toArray = ls at hl ⊢
  have hl : lv_has ls 9 [(0, .ref (ad 30)), (1, .int a1), (2, .long a2)] := hl
  show W p l e rX5_dirtBelow s m args below meth c s.heap [] 0 0 (MQ below (va_Ql (fun (r : Int64) (u' : UX) => r = r0 ∧ u' = u) (wB D (wX ad cs)) (AX ad)) args s 0 0 (AX ad)) (F0 m 0 ls [])
  have hf := hok
  unfold fX5_dirtBelow at hf
  refine lv_lconst (v := 0) hx hb dX5_dirtBelow_0 (by decide) ?_
  refine lv_lstore (lv' := [(4, .long ((0 : Int64))), (0, .ref (ad 30)), (1, .int a1), (2, .long a2)]) hx hb dX5_dirtBelow_1 hl (by decide) rfl (fun ls hl => ?_)
  refine lv_iconst (v := 0) hx hb dX5_dirtBelow_3 (by decide) ?_
  refine lv_istore (lv' := [(6, .int ((0 : Int32))), (4, .long ((0 : Int64))), (0, .ref (ad 30)), (1, .int a1), (2, .long a2)]) hx hb dX5_dirtBelow_4 hl (by decide) rfl (fun ls hl => ?_)
  have hL_2 : ∀ (nf : Nat) (y4_k_1 : Int64) (y6_k_1 : Int32) (H : Heap) (locs : List Loc) (ls : Array Slot) (t : Int64), va_P D vwCl (wX ad cs u) H → va_S (AX ad) s.heap H locs → lv_has ls 9 [(0, .ref (ad 30)), (1, .int a1), (2, .long a2), (4, .long y4_k_1), (6, .int y6_k_1)] → fX5_dirtBelow_6 a1 a2 u nf y4_k_1 y6_k_1 = some t → (∀ (H : Heap) (locs : List Loc) (ls : Array Slot), va_P D vwCl (wX ad cs u) H → va_S (AX ad) s.heap H locs → lv_has ls 9 [(4, .long t)] → W p l e rX5_dirtBelow s m args below meth c H locs 0 0 (MQ below (va_Ql (fun (r : Int64) (u' : UX) => r = r0 ∧ u' = u) (wB D (wX ad cs)) (AX ad)) args s 0 0 (AX ad)) (F0 m 73 ls [])) → W p l e rX5_dirtBelow s m args below meth c H locs 0 0 (MQ below (va_Ql (fun (r : Int64) (u' : UX) => r = r0 ∧ u' = u) (wB D (wX ad cs)) (AX ad)) args s 0 0 (AX ad)) (F0 m 6 ls []) := by
    intro nf
    induction nf with
    | zero => intro y4_k_1 y6_k_1 H locs ls t hP hS hl hf hK'; rw [fX5_dirtBelow_6] at hf; cases hf
    | succ nf ih =>
      intro y4_k_1 y6_k_1 H locs ls t hP hS hl hf hK'
      rw [fX5_dirtBelow_6] at hf
      refine lv_iload hx hb dX5_dirtBelow_6 (lv_at hl 4 rfl) ?_
      refine lv_aload_n hx hb dX5_dirtBelow_8 rfl (lv_at hl 0 rfl) ?_
      refine va_get (D := D) (ci := 4) (v := .int u.2.2.1) (C := RX5) (T := TX5) (N := 5) hx hb hg inG_X5 hown hK hP 30 x_o30 rfl 4 (by decide) (hg _ kw_57) (fun _ h9 => h9) rfl dX5_dirtBelow_9 ?_
      refine lv_icmp_ge (tgt := 73) hx hb dX5_dirtBelow_12 (by decide) (fun c_3 => ?_) (fun c_3 => ?_)
      · skip
        replace hf := it_t c_3 hf
        have ht := Option.some.inj hf
        subst ht
        exact hK' _ _ _ hP hS (lv_sub hl [3] rfl)
      · skip
        replace hf := it_f c_3 hf
        refine lv_iconst (v := 0) hx hb dX5_dirtBelow_15 (by decide) ?_
        refine lv_iload_n hx hb dX5_dirtBelow_16 rfl (lv_at hl 1 rfl) ?_
        refine lv_aload_n hx hb dX5_dirtBelow_17 rfl (lv_at hl 0 rfl) ?_
        refine va_get (D := D) (ci := 4) (v := .ref (ad 2)) (C := RX5) (T := TX5) (N := 5) hx hb hg inG_X5 hown hK hP 30 x_o30 rfl 2 (by decide) (hg _ kw_52) (fun _ h9 => h9) rfl dX5_dirtBelow_18 ?_
        refine lv_iload hx hb dX5_dirtBelow_21 (lv_at hl 4 rfl) ?_
        obtain ⟨hb_4, hf⟩ := gd_ok hf
        refine x_iald hx hb hK hP (by decide) (by decide) rfl hb_4 dX5_dirtBelow_23 ?_
        refine va_mmin hx hb (hml.trans hl.1.symm) hown (hg _ kw_268) (hg _ kw_269) (hg _ kw_29) (hg _ kw_270) (Nat.le_of_ble_eq_true rfl) (Nat.le_of_ble_eq_true rfl) (Nat.zero_le _) (Nat.zero_le _) dX5_dirtBelow_24 ?_
        refine lv_aload_n hx hb dX5_dirtBelow_27 rfl (lv_at hl 0 rfl) ?_
        refine va_get (D := D) (ci := 4) (v := .ref (ad 1)) (C := RX5) (T := TX5) (N := 5) hx hb hg inG_X5 hown hK hP 30 x_o30 rfl 1 (by decide) (hg _ kw_49) (fun _ h9 => h9) rfl dX5_dirtBelow_28 ?_
        refine lv_iload hx hb dX5_dirtBelow_31 (lv_at hl 4 rfl) ?_
        refine x_iald hx hb hK hP (by decide) (by decide) rfl hb_4 dX5_dirtBelow_33 ?_
        refine lv_isub hx hb dX5_dirtBelow_34 ?_
        refine va_mmax hx hb (hml.trans hl.1.symm) hown (hg _ kw_263) (hg _ kw_241) (hg _ kw_29) (hg _ kw_242) (Nat.le_of_ble_eq_true rfl) (Nat.le_of_ble_eq_true rfl) (Nat.zero_le _) (Nat.zero_le _) dX5_dirtBelow_35 ?_
        refine lv_i2l hx hb dX5_dirtBelow_38 rfl ?_
        refine lv_lstore (lv' := [(7, .long ((if ((0 : Int32)) < ((if (u.1 2 y6_k_1.toNatClampNeg) < a1 then (u.1 2 y6_k_1.toNatClampNeg) else a1) - (u.1 1 y6_k_1.toNatClampNeg)) then ((if (u.1 2 y6_k_1.toNatClampNeg) < a1 then (u.1 2 y6_k_1.toNatClampNeg) else a1) - (u.1 1 y6_k_1.toNatClampNeg)) else ((0 : Int32))).toInt64)), (0, .ref (ad 30)), (1, .int a1), (2, .long a2), (4, .long y4_k_1), (6, .int y6_k_1)]) hx hb dX5_dirtBelow_39 hl (by decide) rfl (fun ls hl => ?_)
        refine lv_lload hx hb dX5_dirtBelow_41 (lv_at hl 4 rfl) ?_
        refine lv_aload_n hx hb dX5_dirtBelow_43 rfl (lv_at hl 1 rfl) ?_
        refine va_get (D := D) (ci := 4) (v := .ref (ad 0)) (C := RX5) (T := TX5) (N := 5) hx hb hg inG_X5 hown hK hP 30 x_o30 rfl 0 (by decide) (hg _ kw_46) (fun _ h9 => h9) rfl dX5_dirtBelow_44 ?_
        refine lv_iload hx hb dX5_dirtBelow_47 (lv_at hl 5 rfl) ?_
        refine x_iald hx hb hK hP (by decide) (by decide) rfl hb_4 dX5_dirtBelow_49 ?_
        refine lv_i2l hx hb dX5_dirtBelow_50 rfl ?_
        refine lv_lload hx hb dX5_dirtBelow_51 (lv_at hl 0 rfl) ?_
        refine lv_lmul hx hb dX5_dirtBelow_53 ?_
        refine lv_lload_n hx hb dX5_dirtBelow_54 rfl (lv_at hl 3 rfl) ?_
        refine lv_aload_n hx hb dX5_dirtBelow_55 rfl (lv_at hl 1 rfl) ?_
        refine lv_iload hx hb dX5_dirtBelow_56 (lv_at hl 5 rfl) ?_
        obtain ⟨r_5, hc_6, hf⟩ := bd_ok hf
        refine gcVi 1 (xC_ok D ad cs tM hJ) hC ⟨hx, hb, hml, hown, hts⟩ (mX5_span l D ad cs tM u y6_k_1 r_5 hc_6) (gG kw_262) kw_259 kw_261 kw_1 kw_22 hX5_span ⟨rfl, rfl⟩ ⟨Nat.le_of_ble_eq_true rfl, Nat.le_of_ble_eq_true rfl⟩ (x_rec (C := RX5) (T := TX5) (N := 5) (ci := 4) hK hP rfl x_o30) hP hS ⟨Nat.zero_le _, Nat.zero_le _⟩ rfl hl.1 rfl (Nat.le_of_ble_eq_true rfl) dX5_dirtBelow_58 (fun H locs hP hS => ?_)
        refine lv_i2l hx hb dX5_dirtBelow_61 rfl ?_
        obtain ⟨hb_7, hf⟩ := gd_ok hf
        refine lv_ldiv hx hb dX5_dirtBelow_62 (nz8_ok hb_7) ?_
        refine lv_lmul hx hb dX5_dirtBelow_63 ?_
        refine lv_ladd hx hb dX5_dirtBelow_64 ?_
        refine lv_lstore (lv' := [(4, .long (y4_k_1 + ((((u.1 0 y6_k_1.toNatClampNeg).toInt64) * ((if ((0 : Int32)) < ((if (u.1 2 y6_k_1.toNatClampNeg) < a1 then (u.1 2 y6_k_1.toNatClampNeg) else a1) - (u.1 1 y6_k_1.toNatClampNeg)) then ((if (u.1 2 y6_k_1.toNatClampNeg) < a1 then (u.1 2 y6_k_1.toNatClampNeg) else a1) - (u.1 1 y6_k_1.toNatClampNeg)) else ((0 : Int32))).toInt64)) * (a2 / r_5.toInt64)))), (7, .long ((if ((0 : Int32)) < ((if (u.1 2 y6_k_1.toNatClampNeg) < a1 then (u.1 2 y6_k_1.toNatClampNeg) else a1) - (u.1 1 y6_k_1.toNatClampNeg)) then ((if (u.1 2 y6_k_1.toNatClampNeg) < a1 then (u.1 2 y6_k_1.toNatClampNeg) else a1) - (u.1 1 y6_k_1.toNatClampNeg)) else ((0 : Int32))).toInt64)), (0, .ref (ad 30)), (1, .int a1), (2, .long a2), (6, .int y6_k_1)]) hx hb dX5_dirtBelow_65 hl (by decide) rfl (fun ls hl => ?_)
        refine lv_iinc (v := y6_k_1 + 1) (lv' := [(6, .int (y6_k_1 + 1)), (4, .long (y4_k_1 + ((((u.1 0 y6_k_1.toNatClampNeg).toInt64) * ((if ((0 : Int32)) < ((if (u.1 2 y6_k_1.toNatClampNeg) < a1 then (u.1 2 y6_k_1.toNatClampNeg) else a1) - (u.1 1 y6_k_1.toNatClampNeg)) then ((if (u.1 2 y6_k_1.toNatClampNeg) < a1 then (u.1 2 y6_k_1.toNatClampNeg) else a1) - (u.1 1 y6_k_1.toNatClampNeg)) else ((0 : Int32))).toInt64)) * (a2 / r_5.toInt64)))), (7, .long ((if ((0 : Int32)) < ((if (u.1 2 y6_k_1.toNatClampNeg) < a1 then (u.1 2 y6_k_1.toNatClampNeg) else a1) - (u.1 1 y6_k_1.toNatClampNeg)) then ((if (u.1 2 y6_k_1.toNatClampNeg) < a1 then (u.1 2 y6_k_1.toNatClampNeg) else a1) - (u.1 1 y6_k_1.toNatClampNeg)) else ((0 : Int32))).toInt64)), (0, .ref (ad 30)), (1, .int a1), (2, .long a2)]) hx hb dX5_dirtBelow_67 hl (k := 5) rfl rfl (by decide) rfl (fun ls hl => ?_)
        refine lv_goto (tgt := 6) hx hb dX5_dirtBelow_70 (by decide) ?_
        exact ih _ _ _ _ _ t hP hS (lv_sub hl [3, 4, 5, 1, 0] rfl) hf hK'
  obtain ⟨t_8, hq_9, hf⟩ := bd_ok hf
  refine hL_2 FU _ _ _ _ _ t_8 hP hS (lv_sub hl [2, 3, 4, 1, 0] rfl) hq_9 (fun H locs ls hP hS hl => ?_)
  refine lv_lload hx hb dX5_dirtBelow_73 (lv_at hl 0 rfl) ?_
  exact grL hx hb hr hlocks hP hS dX5_dirtBelow_75 (Option.some.inj hf) rfl
abbrev rX5_tellDirtBelow : Room := { frames := 3, cells := 0, slots := 0, locals := 72 }
theorem hX5_tellDirtBelow : yX5_tellDirtBelow.cls ≠ "java/lang/invoke/MethodHandle" ∧ yX5_tellDirtBelow.cls ≠ "java/lang/invoke/VarHandle" ∧ (parseMethodDescriptor yX5_tellDirtBelow.desc).map (fun d => d.parameters.length) = some 2 := by decide +kernel
set_option maxHeartbeats 4000000 in
set_option maxRecDepth 100000 in
theorem mX5_tellDirtBelow (l : Launch) (D : va_G) (ad : Nat → Nat) (cs : Nat → ClassId) (tM : Nat) (u : UX) (a1 : Int32) (q2 : Nat) (hq2a : 18 ≤ q2) (hq2b : q2 < 29) (ru : UX) (hok : fX5_tellDirtBelow u a1 q2 = some ru) : Met l yX5_tellDirtBelow (Cond.code yX5_tellDirtBelow cX5_tellDirtBelow 5 none :: wsG) rX5_tellDirtBelow (va_Pc [.ref (ad 30), .int a1, .ref (ad q2)] (wI D (wX ad cs) (xC D ad cs tM) u)) (va_Qv (fun (u' : UX) => u' = ru) (wB D (wX ad cs)) (AX ad)) 0 0 (AX ad) := by
  refine Met.ofW (cc := cX5_tellDirtBelow) (maxL := 5) (ret := none) (by decide) rfl ?_
  intro p e s m args below meth c s₁ B hml hv
  have hx := B.exec
  have hb := B.bytes
  have hr := B.returns
  have hts := atoms_spec (ws := (Cond.code yX5_tellDirtBelow cX5_tellDirtBelow 5 none :: wsG)) B.pre
  have hg : ∀ w ∈ wsG, w.before args s = true := fun w h => hts w (List.mem_cons_of_mem _ h)
  have hown : s.vm.findClass RX5 = some m.cls := findClass_of_methodNamed B.named
  have hlocks := B.notSynchronized
  obtain ⟨ha, hP, hC⟩ := hv
  obtain ⟨hK, hJ, hN, hZ, hT⟩ := id hC
  have hS : va_S (AX ad) s.heap s.heap [] := va_S.rf
  refine W.eq (show entryFrame m args 5 = entryFrame m ([.ref (ad 30), .int a1, .ref (ad q2)] : List Value).toArray 5 by rw [ha]) ?_
  have hl := lv_entry ([.ref (ad 30), .int a1, .ref (ad q2)]) (n := 5) (Nat.le_of_ble_eq_true rfl)
  rw [lg_entry_eq]
  generalize (lg_sl ([.ref (ad 30), .int a1, .ref (ad q2)]) ++ List.replicate (5 - (lg_sl ([.ref (ad 30), .int a1, .ref (ad q2)])).length) Slot.unset).toArray = ls at hl ⊢
  have hl : lv_has ls 5 [(0, .ref (ad 30)), (1, .int a1), (2, .ref (ad q2))] := hl
  show W p l e rX5_tellDirtBelow s m args below meth c s.heap [] 0 0 (MQ below (va_Qv (fun (u' : UX) => u' = ru) (wB D (wX ad cs)) (AX ad)) args s 0 0 (AX ad)) (F0 m 0 ls [])
  have hf := hok
  unfold fX5_tellDirtBelow at hf
  refine lv_aload_n hx hb dX5_tellDirtBelow_0 rfl (lv_at hl 0 rfl) ?_
  obtain ⟨r_1, hc_2, hf⟩ := bd_ok hf
  refine gcVl 0 (xC_ok D ad cs tM hJ) hC ⟨hx, hb, hml, hown, hts⟩ (mX5_commonLower l D ad cs tM u r_1 hc_2) (gG kw_258) kw_255 kw_257 kw_0 kw_22 hX5_commonLower ⟨rfl, rfl⟩ ⟨Nat.le_of_ble_eq_true rfl, Nat.le_of_ble_eq_true rfl⟩ (x_rec (C := RX5) (T := TX5) (N := 5) (ci := 4) hK hP rfl x_o30) hP hS ⟨Nat.zero_le _, Nat.zero_le _⟩ rfl hl.1 rfl (Nat.le_of_ble_eq_true rfl) dX5_tellDirtBelow_1 (fun H locs hP hS => ?_)
  refine lv_lstore_n (lv' := [(3, .long r_1), (0, .ref (ad 30)), (1, .int a1), (2, .ref (ad q2))]) hx hb dX5_tellDirtBelow_4 rfl hl (by decide) rfl (fun ls hl => ?_)
  refine lv_aload_n hx hb dX5_tellDirtBelow_5 rfl (lv_at hl 3 rfl) ?_
  refine lv_aload_n hx hb dX5_tellDirtBelow_6 rfl (lv_at hl 1 rfl) ?_
  refine lv_iload_n hx hb dX5_tellDirtBelow_7 rfl (lv_at hl 2 rfl) ?_
  refine lv_lload_n hx hb dX5_tellDirtBelow_8 rfl (lv_at hl 0 rfl) ?_
  obtain ⟨r_3, hc_4, hf⟩ := bd_ok hf
  refine gcVl 2 (xC_ok D ad cs tM hJ) hC ⟨hx, hb, hml, hown, hts⟩ (mX5_dirtBelow l D ad cs tM u a1 r_1 r_3 hc_4) (gG kw_267) kw_264 kw_266 kw_2 kw_22 hX5_dirtBelow ⟨rfl, rfl⟩ ⟨Nat.le_of_ble_eq_true rfl, Nat.le_of_ble_eq_true rfl⟩ (x_rec (C := RX5) (T := TX5) (N := 5) (ci := 4) hK hP rfl x_o30) hP hS ⟨Nat.zero_le _, Nat.zero_le _⟩ rfl hl.1 rfl (Nat.le_of_ble_eq_true rfl) dX5_tellDirtBelow_9 (fun H locs hP hS => ?_)
  refine lv_lload_n hx hb dX5_tellDirtBelow_12 rfl (lv_at hl 0 rfl) ?_
  obtain ⟨r_5, hc_6, hf⟩ := bd_ok hf
  refine gcVv 2 (xC_ok D ad cs tM hJ) hC ⟨hx, hb, hml, hown, hts⟩ (mX2_become l D ad cs tM u q2 r_3 r_1 hq2a hq2b r_5 hc_6) (gG kw_274) kw_271 kw_272 kw_273 kw_25 hX2_become ⟨rfl, rfl⟩ ⟨Nat.le_of_ble_eq_true rfl, Nat.le_of_ble_eq_true rfl⟩ (x_rec (C := RX2) (T := TX2) (N := 2) (ci := 1) hK hP rfl (x_fra hq2a hq2b)) hP hS ⟨Nat.zero_le _, Nat.zero_le _⟩ rfl hl.1 rfl (Nat.le_of_ble_eq_true rfl) dX5_tellDirtBelow_13 (fun H locs hP hS => ?_)
  exact grV hx hb hr hlocks hP hS dX5_tellDirtBelow_16 (Option.some.inj hf)
abbrev rX5_better : Room := { frames := 3, cells := 0, slots := 0, locals := 72 }
theorem hX5_better : yX5_better.cls ≠ "java/lang/invoke/MethodHandle" ∧ yX5_better.cls ≠ "java/lang/invoke/VarHandle" ∧ (parseMethodDescriptor yX5_better.desc).map (fun d => d.parameters.length) = some 3 := by decide +kernel
set_option maxHeartbeats 4000000 in
set_option maxRecDepth 100000 in
theorem mX5_better (l : Launch) (D : va_G) (ad : Nat → Nat) (cs : Nat → ClassId) (tM : Nat) (u : UX) (a1 : Int32) (a2 : Int32) (a3 : Int64)  (r0 : Int32) (hok : fX5_better u a1 a2 a3 = some r0) : Met l yX5_better (Cond.code yX5_better cX5_better 10 (some .int) :: wsG) rX5_better (va_Pc [.ref (ad 30), .int a1, .int a2, .long a3] (wI D (wX ad cs) (xC D ad cs tM) u)) (va_Qi (fun (r : Int32) (u' : UX) => r = r0 ∧ u' = u) (wB D (wX ad cs)) (AX ad)) 0 0 (AX ad) := by
  refine Met.ofW (cc := cX5_better) (maxL := 10) (ret := (some .int)) (by decide) rfl ?_
  intro p e s m args below meth c s₁ B hml hv
  have hx := B.exec
  have hb := B.bytes
  have hr := B.returns
  have hts := atoms_spec (ws := (Cond.code yX5_better cX5_better 10 (some .int) :: wsG)) B.pre
  have hg : ∀ w ∈ wsG, w.before args s = true := fun w h => hts w (List.mem_cons_of_mem _ h)
  have hown : s.vm.findClass RX5 = some m.cls := findClass_of_methodNamed B.named
  have hlocks := B.notSynchronized
  obtain ⟨ha, hP, hC⟩ := hv
  obtain ⟨hK, hJ, hN, hZ, hT⟩ := id hC
  have hS : va_S (AX ad) s.heap s.heap [] := va_S.rf
  refine W.eq (show entryFrame m args 10 = entryFrame m ([.ref (ad 30), .int a1, .int a2, .long a3] : List Value).toArray 10 by rw [ha]) ?_
  have hl := lv_entry ([.ref (ad 30), .int a1, .int a2, .long a3]) (n := 10) (Nat.le_of_ble_eq_true rfl)
  rw [lg_entry_eq]
  generalize (lg_sl ([.ref (ad 30), .int a1, .int a2, .long a3]) ++ List.replicate (10 - (lg_sl ([.ref (ad 30), .int a1, .int a2, .long a3])).length) Slot.unset).toArray = ls at hl ⊢
  have hl : lv_has ls 10 [(0, .ref (ad 30)), (1, .int a1), (2, .int a2), (3, .long a3)] := hl
  show W p l e rX5_better s m args below meth c s.heap [] 0 0 (MQ below (va_Qi (fun (r : Int32) (u' : UX) => r = r0 ∧ u' = u) (wB D (wX ad cs)) (AX ad)) args s 0 0 (AX ad)) (F0 m 0 ls [])
  have hf := hok
  unfold fX5_better at hf
  refine lv_iload_n hx hb dX5_better_0 rfl (lv_at hl 2 rfl) ?_
  refine lv_iconst (v := 1) hx hb dX5_better_1 (by decide) ?_
  refine lv_icmp_ge (tgt := 7) hx hb dX5_better_2 (by decide) (fun c_1 => ?_) (fun c_1 => ?_)
  · skip
    replace hf := it_t c_1 hf
    refine lv_iload_n hx hb dX5_better_7 rfl (lv_at hl 1 rfl) ?_
    refine lv_iconst (v := 1) hx hb dX5_better_8 (by decide) ?_
    refine lv_icmp_ge (tgt := 14) hx hb dX5_better_9 (by decide) (fun c_2 => ?_) (fun c_2 => ?_)
    · skip
      replace hf := it_t c_2 hf
      refine lv_aload_n hx hb dX5_better_14 rfl (lv_at hl 0 rfl) ?_
      refine lv_iload_n hx hb dX5_better_15 rfl (lv_at hl 1 rfl) ?_
      refine lv_lload_n hx hb dX5_better_16 rfl (lv_at hl 3 rfl) ?_
      obtain ⟨r_3, hc_4, hf⟩ := bd_ok hf
      refine gcVl 2 (xC_ok D ad cs tM hJ) hC ⟨hx, hb, hml, hown, hts⟩ (mX5_dirtBelow l D ad cs tM u a1 a3 r_3 hc_4) (gG kw_267) kw_264 kw_266 kw_2 kw_22 hX5_dirtBelow ⟨rfl, rfl⟩ ⟨Nat.le_of_ble_eq_true rfl, Nat.le_of_ble_eq_true rfl⟩ (x_rec (C := RX5) (T := TX5) (N := 5) (ci := 4) hK hP rfl x_o30) hP hS ⟨Nat.zero_le _, Nat.zero_le _⟩ rfl hl.1 rfl (Nat.le_of_ble_eq_true rfl) dX5_better_17 (fun H locs hP hS => ?_)
      refine lv_lstore (lv' := [(5, .long r_3), (0, .ref (ad 30)), (1, .int a1), (2, .int a2), (3, .long a3)]) hx hb dX5_better_20 hl (by decide) rfl (fun ls hl => ?_)
      refine lv_aload_n hx hb dX5_better_22 rfl (lv_at hl 1 rfl) ?_
      refine lv_iload_n hx hb dX5_better_23 rfl (lv_at hl 3 rfl) ?_
      refine lv_lload_n hx hb dX5_better_24 rfl (lv_at hl 4 rfl) ?_
      obtain ⟨r_5, hc_6, hf⟩ := bd_ok hf
      refine gcVl 2 (xC_ok D ad cs tM hJ) hC ⟨hx, hb, hml, hown, hts⟩ (mX5_dirtBelow l D ad cs tM u a2 a3 r_5 hc_6) (gG kw_267) kw_264 kw_266 kw_2 kw_22 hX5_dirtBelow ⟨rfl, rfl⟩ ⟨Nat.le_of_ble_eq_true rfl, Nat.le_of_ble_eq_true rfl⟩ (x_rec (C := RX5) (T := TX5) (N := 5) (ci := 4) hK hP rfl x_o30) hP hS ⟨Nat.zero_le _, Nat.zero_le _⟩ rfl hl.1 rfl (Nat.le_of_ble_eq_true rfl) dX5_better_25 (fun H locs hP hS => ?_)
      refine lv_lstore (lv' := [(7, .long r_5), (5, .long r_3), (0, .ref (ad 30)), (1, .int a1), (2, .int a2), (3, .long a3)]) hx hb dX5_better_28 hl (by decide) rfl (fun ls hl => ?_)
      refine lv_lload hx hb dX5_better_30 (lv_at hl 0 rfl) ?_
      refine lv_iload_n hx hb dX5_better_32 rfl (lv_at hl 4 rfl) ?_
      refine lv_i2l hx hb dX5_better_33 rfl ?_
      obtain ⟨hb_7, hf⟩ := gd_ok hf
      refine lv_ldiv hx hb dX5_better_34 (nz8_ok hb_7) ?_
      refine lv_lload hx hb dX5_better_35 (lv_at hl 1 rfl) ?_
      refine lv_iload_n hx hb dX5_better_37 rfl (lv_at hl 3 rfl) ?_
      refine lv_i2l hx hb dX5_better_38 rfl ?_
      obtain ⟨hb_8, hf⟩ := gd_ok hf
      refine lv_ldiv hx hb dX5_better_39 (nz8_ok hb_8) ?_
      obtain ⟨r_9, hc_10, hf⟩ := bd_ok hf
      refine gcFi 2 ⟨hx, hb, hml, hown, hts⟩ (mJ13_compare_74951 l (r_5 / a2.toInt64) (r_3 / a1.toInt64) r_9 hc_10) (gG kw_299) kw_297 kw_298 kw_30 hJ13_compare_74951 ⟨rfl, rfl⟩ ⟨Nat.le_of_ble_eq_true rfl, Nat.le_of_ble_eq_true rfl⟩ ⟨Nat.zero_le _, Nat.zero_le _⟩ rfl hl.1 rfl (Nat.le_of_ble_eq_true rfl) dX5_better_40 ?_
      refine lv_istore (lv' := [(9, .int r_9), (7, .long r_5), (5, .long r_3), (0, .ref (ad 30)), (1, .int a1), (2, .int a2), (3, .long a3)]) hx hb dX5_better_43 hl (by decide) rfl (fun ls hl => ?_)
      refine lv_iload hx hb dX5_better_45 (lv_at hl 0 rfl) ?_
      obtain ⟨t_11, hq_12, hf⟩ := bd_ok hf
      have hJ_13 : ∀ (H : Heap) (locs : List Loc) (ls : Array Slot), va_P D vwCl (wX ad cs u) H → va_S (AX ad) s.heap H locs → lv_has ls 10 [(1, .int a1), (2, .int a2), (9, .int t_11)] → W p l e rX5_better s m args below meth c H locs 0 0 (MQ below (va_Qi (fun (r : Int32) (u' : UX) => r = r0 ∧ u' = u) (wB D (wX ad cs)) (AX ad)) args s 0 0 (AX ad)) (F0 m 71 ls []) := by
        intro H locs ls hP hS hl
        refine lv_iload hx hb dX5_better_71 (lv_at hl 2 rfl) ?_
        refine lv_if_gt (tgt := 86) hx hb dX5_better_73 (by decide) (fun c_14 => ?_) (fun c_14 => ?_)
        · skip
          replace hf := it_t c_14 hf
          refine lv_iload_n hx hb dX5_better_86 rfl (lv_at hl 1 rfl) ?_
          refine lv_goto (tgt := 91) hx hb dX5_better_87 (by decide) ?_
          exact grI hx hb hr hlocks hP hS dX5_better_91 (Option.some.inj hf) rfl
        · skip
          replace hf := it_f c_14 hf
          refine lv_iload hx hb dX5_better_76 (lv_at hl 2 rfl) ?_
          refine lv_if_ne (tgt := 90) hx hb dX5_better_78 (by decide) (fun c_15 => ?_) (fun c_15 => ?_)
          · skip
            replace hf := it_f c_15 hf
            refine lv_iload_n hx hb dX5_better_90 rfl (lv_at hl 0 rfl) ?_
            exact grI hx hb hr hlocks hP hS dX5_better_91 (Option.some.inj hf) rfl
          · skip
            replace hf := it_t c_15 hf
            refine lv_iload_n hx hb dX5_better_81 rfl (lv_at hl 1 rfl) ?_
            refine lv_iload_n hx hb dX5_better_82 rfl (lv_at hl 0 rfl) ?_
            refine lv_icmp_ge (tgt := 90) hx hb dX5_better_83 (by decide) (fun c_16 => ?_) (fun c_16 => ?_)
            · skip
              replace hf := it_t c_16 hf
              refine lv_iload_n hx hb dX5_better_90 rfl (lv_at hl 0 rfl) ?_
              exact grI hx hb hr hlocks hP hS dX5_better_91 (Option.some.inj hf) rfl
            · skip
              replace hf := it_f c_16 hf
              refine lv_iload_n hx hb dX5_better_86 rfl (lv_at hl 1 rfl) ?_
              refine lv_goto (tgt := 91) hx hb dX5_better_87 (by decide) ?_
              exact grI hx hb hr hlocks hP hS dX5_better_91 (Option.some.inj hf) rfl
      clear hf
      have hf := hq_12
      refine lv_if_ne (tgt := 71) hx hb dX5_better_47 (by decide) (fun c_17 => ?_) (fun c_17 => ?_)
      · skip
        replace hf := it_f c_17 hf
        have ht := Option.some.inj hf
        subst ht
        exact hJ_13 _ _ _ hP hS (lv_sub hl [4, 5, 0] rfl)
      · skip
        replace hf := it_t c_17 hf
        refine lv_lload hx hb dX5_better_50 (lv_at hl 1 rfl) ?_
        refine lv_iload_n hx hb dX5_better_52 rfl (lv_at hl 5 rfl) ?_
        refine lv_i2l hx hb dX5_better_53 rfl ?_
        refine lv_lrem hx hb dX5_better_54 (nz8_ok hb_7) ?_
        refine lv_iload_n hx hb dX5_better_55 rfl (lv_at hl 4 rfl) ?_
        refine lv_i2l hx hb dX5_better_56 rfl ?_
        refine lv_lmul hx hb dX5_better_57 ?_
        refine lv_lload hx hb dX5_better_58 (lv_at hl 2 rfl) ?_
        refine lv_iload_n hx hb dX5_better_60 rfl (lv_at hl 4 rfl) ?_
        refine lv_i2l hx hb dX5_better_61 rfl ?_
        refine lv_lrem hx hb dX5_better_62 (nz8_ok hb_8) ?_
        refine lv_iload_n hx hb dX5_better_63 rfl (lv_at hl 5 rfl) ?_
        refine lv_i2l hx hb dX5_better_64 rfl ?_
        refine lv_lmul hx hb dX5_better_65 ?_
        obtain ⟨r_18, hc_19, hf⟩ := bd_ok hf
        refine gcFi 2 ⟨hx, hb, hml, hown, hts⟩ (mJ13_compare_74951 l ((r_5 - r_5 / a2.toInt64 * a2.toInt64) * a1.toInt64) ((r_3 - r_3 / a1.toInt64 * a1.toInt64) * a2.toInt64) r_18 hc_19) (gG kw_299) kw_297 kw_298 kw_30 hJ13_compare_74951 ⟨rfl, rfl⟩ ⟨Nat.le_of_ble_eq_true rfl, Nat.le_of_ble_eq_true rfl⟩ ⟨Nat.zero_le _, Nat.zero_le _⟩ rfl hl.1 rfl (Nat.le_of_ble_eq_true rfl) dX5_better_66 ?_
        refine lv_istore (lv' := [(9, .int r_18), (7, .long r_5), (5, .long r_3), (0, .ref (ad 30)), (1, .int a1), (2, .int a2), (3, .long a3)]) hx hb dX5_better_69 hl (by decide) rfl (fun ls hl => ?_)
        have ht := Option.some.inj hf
        subst ht
        exact hJ_13 _ _ _ hP hS (lv_sub hl [4, 5, 0] rfl)
    · skip
      replace hf := it_f c_2 hf
      refine lv_iload_n hx hb dX5_better_12 rfl (lv_at hl 2 rfl) ?_
      exact grI hx hb hr hlocks hP hS dX5_better_13 (Option.some.inj hf) rfl
  · skip
    replace hf := it_f c_1 hf
    refine lv_iload_n hx hb dX5_better_5 rfl (lv_at hl 1 rfl) ?_
    exact grI hx hb hr hlocks hP hS dX5_better_6 (Option.some.inj hf) rfl
abbrev rX5_pinch : Room := { frames := 4, cells := 0, slots := 0, locals := 101 }
theorem hX5_pinch : yX5_pinch.cls ≠ "java/lang/invoke/MethodHandle" ∧ yX5_pinch.cls ≠ "java/lang/invoke/VarHandle" ∧ (parseMethodDescriptor yX5_pinch.desc).map (fun d => d.parameters.length) = some 0 := by decide +kernel
set_option maxHeartbeats 4000000 in
set_option maxRecDepth 100000 in
theorem mX5_pinch (l : Launch) (D : va_G) (ad : Nat → Nat) (cs : Nat → ClassId) (tM : Nat) (u : UX)   (r0 : Int32) (hok : fX5_pinch u = some r0) : Met l yX5_pinch (Cond.code yX5_pinch cX5_pinch 5 (some .int) :: wsG) rX5_pinch (va_Pc [.ref (ad 30)] (wI D (wX ad cs) (xC D ad cs tM) u)) (va_Qi (fun (r : Int32) (u' : UX) => r = r0 ∧ u' = u) (wB D (wX ad cs)) (AX ad)) 0 0 (AX ad) := by
  refine Met.ofW (cc := cX5_pinch) (maxL := 5) (ret := (some .int)) (by decide) rfl ?_
  intro p e s m args below meth c s₁ B hml hv
  have hx := B.exec
  have hb := B.bytes
  have hr := B.returns
  have hts := atoms_spec (ws := (Cond.code yX5_pinch cX5_pinch 5 (some .int) :: wsG)) B.pre
  have hg : ∀ w ∈ wsG, w.before args s = true := fun w h => hts w (List.mem_cons_of_mem _ h)
  have hown : s.vm.findClass RX5 = some m.cls := findClass_of_methodNamed B.named
  have hlocks := B.notSynchronized
  obtain ⟨ha, hP, hC⟩ := hv
  obtain ⟨hK, hJ, hN, hZ, hT⟩ := id hC
  have hS : va_S (AX ad) s.heap s.heap [] := va_S.rf
  refine W.eq (show entryFrame m args 5 = entryFrame m ([.ref (ad 30)] : List Value).toArray 5 by rw [ha]) ?_
  have hl := lv_entry ([.ref (ad 30)]) (n := 5) (Nat.le_of_ble_eq_true rfl)
  rw [lg_entry_eq]
  generalize (lg_sl ([.ref (ad 30)]) ++ List.replicate (5 - (lg_sl ([.ref (ad 30)])).length) Slot.unset).toArray = ls at hl ⊢
  have hl : lv_has ls 5 [(0, .ref (ad 30))] := hl
  show W p l e rX5_pinch s m args below meth c s.heap [] 0 0 (MQ below (va_Qi (fun (r : Int32) (u' : UX) => r = r0 ∧ u' = u) (wB D (wX ad cs)) (AX ad)) args s 0 0 (AX ad)) (F0 m 0 ls [])
  have hf := hok
  unfold fX5_pinch at hf
  refine lv_aload_n hx hb dX5_pinch_0 rfl (lv_at hl 0 rfl) ?_
  obtain ⟨r_1, hc_2, hf⟩ := bd_ok hf
  refine gcVl 0 (xC_ok D ad cs tM hJ) hC ⟨hx, hb, hml, hown, hts⟩ (mX5_commonLower l D ad cs tM u r_1 hc_2) (gG kw_258) kw_255 kw_257 kw_0 kw_22 hX5_commonLower ⟨rfl, rfl⟩ ⟨Nat.le_of_ble_eq_true rfl, Nat.le_of_ble_eq_true rfl⟩ (x_rec (C := RX5) (T := TX5) (N := 5) (ci := 4) hK hP rfl x_o30) hP hS ⟨Nat.zero_le _, Nat.zero_le _⟩ rfl hl.1 rfl (Nat.le_of_ble_eq_true rfl) dX5_pinch_1 (fun H locs hP hS => ?_)
  refine lv_lstore_n (lv' := [(1, .long r_1), (0, .ref (ad 30))]) hx hb dX5_pinch_4 rfl hl (by decide) rfl (fun ls hl => ?_)
  refine lv_bipush (v := -9) hx hb dX5_pinch_5 (by decide) ?_
  refine lv_istore_n (lv' := [(3, .int ((-9 : Int32))), (1, .long r_1), (0, .ref (ad 30))]) hx hb dX5_pinch_7 rfl hl (by decide) rfl (fun ls hl => ?_)
  refine lv_iconst (v := 0) hx hb dX5_pinch_8 (by decide) ?_
  refine lv_istore (lv' := [(4, .int ((0 : Int32))), (3, .int ((-9 : Int32))), (1, .long r_1), (0, .ref (ad 30))]) hx hb dX5_pinch_9 hl (by decide) rfl (fun ls hl => ?_)
  have hL_4 : ∀ (nf : Nat) (y3_k_3 : Int32) (y4_k_3 : Int32) (H : Heap) (locs : List Loc) (ls : Array Slot) (t : Int32), va_P D vwCl (wX ad cs u) H → va_S (AX ad) s.heap H locs → lv_has ls 5 [(0, .ref (ad 30)), (1, .long r_1), (3, .int y3_k_3), (4, .int y4_k_3)] → fX5_pinch_11 u r_1 nf y3_k_3 y4_k_3 = some t → (∀ (H : Heap) (locs : List Loc) (ls : Array Slot), va_P D vwCl (wX ad cs u) H → va_S (AX ad) s.heap H locs → lv_has ls 5 [(3, .int t)] → W p l e rX5_pinch s m args below meth c H locs 0 0 (MQ below (va_Qi (fun (r : Int32) (u' : UX) => r = r0 ∧ u' = u) (wB D (wX ad cs)) (AX ad)) args s 0 0 (AX ad)) (F0 m 54 ls [])) → W p l e rX5_pinch s m args below meth c H locs 0 0 (MQ below (va_Qi (fun (r : Int32) (u' : UX) => r = r0 ∧ u' = u) (wB D (wX ad cs)) (AX ad)) args s 0 0 (AX ad)) (F0 m 11 ls []) := by
    intro nf
    induction nf with
    | zero => intro y3_k_3 y4_k_3 H locs ls t hP hS hl hf hK'; rw [fX5_pinch_11] at hf; cases hf
    | succ nf ih =>
      intro y3_k_3 y4_k_3 H locs ls t hP hS hl hf hK'
      rw [fX5_pinch_11] at hf
      refine lv_iload hx hb dX5_pinch_11 (lv_at hl 3 rfl) ?_
      refine lv_aload_n hx hb dX5_pinch_13 rfl (lv_at hl 0 rfl) ?_
      refine va_get (D := D) (ci := 4) (v := .int u.2.2.1) (C := RX5) (T := TX5) (N := 5) hx hb hg inG_X5 hown hK hP 30 x_o30 rfl 4 (by decide) (hg _ kw_57) (fun _ h9 => h9) rfl dX5_pinch_14 ?_
      refine lv_icmp_ge (tgt := 54) hx hb dX5_pinch_17 (by decide) (fun c_5 => ?_) (fun c_5 => ?_)
      · skip
        replace hf := it_t c_5 hf
        have ht := Option.some.inj hf
        subst ht
        exact hK' _ _ _ hP hS (lv_sub hl [2] rfl)
      · skip
        replace hf := it_f c_5 hf
        refine lv_aload_n hx hb dX5_pinch_20 rfl (lv_at hl 0 rfl) ?_
        refine lv_iload_n hx hb dX5_pinch_21 rfl (lv_at hl 2 rfl) ?_
        refine lv_aload_n hx hb dX5_pinch_22 rfl (lv_at hl 0 rfl) ?_
        refine va_get (D := D) (ci := 4) (v := .ref (ad 1)) (C := RX5) (T := TX5) (N := 5) hx hb hg inG_X5 hown hK hP 30 x_o30 rfl 1 (by decide) (hg _ kw_49) (fun _ h9 => h9) rfl dX5_pinch_23 ?_
        refine lv_iload hx hb dX5_pinch_26 (lv_at hl 3 rfl) ?_
        obtain ⟨hb_6, hf⟩ := gd_ok hf
        refine x_iald hx hb hK hP (by decide) (by decide) rfl hb_6 dX5_pinch_28 ?_
        refine lv_lload_n hx hb dX5_pinch_29 rfl (lv_at hl 1 rfl) ?_
        obtain ⟨r_7, hc_8, hf⟩ := bd_ok hf
        refine gcVi 3 (xC_ok D ad cs tM hJ) hC ⟨hx, hb, hml, hown, hts⟩ (mX5_better l D ad cs tM u y3_k_3 (u.1 1 y4_k_3.toNatClampNeg) r_1 r_7 hc_8) (gG kw_296) kw_293 kw_295 kw_3 kw_22 hX5_better ⟨rfl, rfl⟩ ⟨Nat.le_of_ble_eq_true rfl, Nat.le_of_ble_eq_true rfl⟩ (x_rec (C := RX5) (T := TX5) (N := 5) (ci := 4) hK hP rfl x_o30) hP hS ⟨Nat.zero_le _, Nat.zero_le _⟩ rfl hl.1 rfl (Nat.le_of_ble_eq_true rfl) dX5_pinch_30 (fun H locs hP hS => ?_)
        refine lv_istore_n (lv' := [(3, .int r_7), (0, .ref (ad 30)), (1, .long r_1), (4, .int y4_k_3)]) hx hb dX5_pinch_33 rfl hl (by decide) rfl (fun ls hl => ?_)
        refine lv_aload_n hx hb dX5_pinch_34 rfl (lv_at hl 1 rfl) ?_
        refine lv_iload_n hx hb dX5_pinch_35 rfl (lv_at hl 0 rfl) ?_
        refine lv_aload_n hx hb dX5_pinch_36 rfl (lv_at hl 1 rfl) ?_
        refine va_get (D := D) (ci := 4) (v := .ref (ad 2)) (C := RX5) (T := TX5) (N := 5) hx hb hg inG_X5 hown hK hP 30 x_o30 rfl 2 (by decide) (hg _ kw_52) (fun _ h9 => h9) rfl dX5_pinch_37 ?_
        refine lv_iload hx hb dX5_pinch_40 (lv_at hl 3 rfl) ?_
        refine x_iald hx hb hK hP (by decide) (by decide) rfl hb_6 dX5_pinch_42 ?_
        refine lv_lload_n hx hb dX5_pinch_43 rfl (lv_at hl 2 rfl) ?_
        obtain ⟨r_9, hc_10, hf⟩ := bd_ok hf
        refine gcVi 3 (xC_ok D ad cs tM hJ) hC ⟨hx, hb, hml, hown, hts⟩ (mX5_better l D ad cs tM u r_7 (u.1 2 y4_k_3.toNatClampNeg) r_1 r_9 hc_10) (gG kw_296) kw_293 kw_295 kw_3 kw_22 hX5_better ⟨rfl, rfl⟩ ⟨Nat.le_of_ble_eq_true rfl, Nat.le_of_ble_eq_true rfl⟩ (x_rec (C := RX5) (T := TX5) (N := 5) (ci := 4) hK hP rfl x_o30) hP hS ⟨Nat.zero_le _, Nat.zero_le _⟩ rfl hl.1 rfl (Nat.le_of_ble_eq_true rfl) dX5_pinch_44 (fun H locs hP hS => ?_)
        refine lv_istore_n (lv' := [(3, .int r_9), (0, .ref (ad 30)), (1, .long r_1), (4, .int y4_k_3)]) hx hb dX5_pinch_47 rfl hl (by decide) rfl (fun ls hl => ?_)
        refine lv_iinc (v := y4_k_3 + 1) (lv' := [(4, .int (y4_k_3 + 1)), (3, .int r_9), (0, .ref (ad 30)), (1, .long r_1)]) hx hb dX5_pinch_48 hl (k := 3) rfl rfl (by decide) rfl (fun ls hl => ?_)
        refine lv_goto (tgt := 11) hx hb dX5_pinch_51 (by decide) ?_
        exact ih _ _ _ _ _ t hP hS (lv_sub hl [2, 3, 1, 0] rfl) hf hK'
  obtain ⟨t_11, hq_12, hf⟩ := bd_ok hf
  refine hL_4 FU _ _ _ _ _ t_11 hP hS (lv_sub hl [3, 2, 1, 0] rfl) hq_12 (fun H locs ls hP hS hl => ?_)
  refine lv_iload_n hx hb dX5_pinch_54 rfl (lv_at hl 0 rfl) ?_
  exact grI hx hb hr hlocks hP hS dX5_pinch_55 (Option.some.inj hf) rfl
abbrev rX5_tellLeastFresh : Room := { frames := 4, cells := 0, slots := 0, locals := 96 }
theorem hX5_tellLeastFresh : yX5_tellLeastFresh.cls ≠ "java/lang/invoke/MethodHandle" ∧ yX5_tellLeastFresh.cls ≠ "java/lang/invoke/VarHandle" ∧ (parseMethodDescriptor yX5_tellLeastFresh.desc).map (fun d => d.parameters.length) = some 2 := by decide +kernel
set_option maxHeartbeats 4000000 in
set_option maxRecDepth 100000 in
theorem mX5_tellLeastFresh (l : Launch) (D : va_G) (ad : Nat → Nat) (cs : Nat → ClassId) (tM : Nat) (u : UX) (a1 : Int32) (q2 : Nat) (hq2a : 18 ≤ q2) (hq2b : q2 < 29) (ru : UX) (hok : fX5_tellLeastFresh u a1 q2 = some ru) : Met l yX5_tellLeastFresh (Cond.code yX5_tellLeastFresh cX5_tellLeastFresh 3 none :: wsG) rX5_tellLeastFresh (va_Pc [.ref (ad 30), .int a1, .ref (ad q2)] (wI D (wX ad cs) (xC D ad cs tM) u)) (va_Qv (fun (u' : UX) => u' = ru) (wB D (wX ad cs)) (AX ad)) 0 0 (AX ad) := by
  refine Met.ofW (cc := cX5_tellLeastFresh) (maxL := 3) (ret := none) (by decide) rfl ?_
  intro p e s m args below meth c s₁ B hml hv
  have hx := B.exec
  have hb := B.bytes
  have hr := B.returns
  have hts := atoms_spec (ws := (Cond.code yX5_tellLeastFresh cX5_tellLeastFresh 3 none :: wsG)) B.pre
  have hg : ∀ w ∈ wsG, w.before args s = true := fun w h => hts w (List.mem_cons_of_mem _ h)
  have hown : s.vm.findClass RX5 = some m.cls := findClass_of_methodNamed B.named
  have hlocks := B.notSynchronized
  obtain ⟨ha, hP, hC⟩ := hv
  obtain ⟨hK, hJ, hN, hZ, hT⟩ := id hC
  have hS : va_S (AX ad) s.heap s.heap [] := va_S.rf
  refine W.eq (show entryFrame m args 3 = entryFrame m ([.ref (ad 30), .int a1, .ref (ad q2)] : List Value).toArray 3 by rw [ha]) ?_
  have hl := lv_entry ([.ref (ad 30), .int a1, .ref (ad q2)]) (n := 3) (Nat.le_of_ble_eq_true rfl)
  rw [lg_entry_eq]
  generalize (lg_sl ([.ref (ad 30), .int a1, .ref (ad q2)]) ++ List.replicate (3 - (lg_sl ([.ref (ad 30), .int a1, .ref (ad q2)])).length) Slot.unset).toArray = ls at hl ⊢
  have hl : lv_has ls 3 [(0, .ref (ad 30)), (1, .int a1), (2, .ref (ad q2))] := hl
  show W p l e rX5_tellLeastFresh s m args below meth c s.heap [] 0 0 (MQ below (va_Qv (fun (u' : UX) => u' = ru) (wB D (wX ad cs)) (AX ad)) args s 0 0 (AX ad)) (F0 m 0 ls [])
  have hf := hok
  unfold fX5_tellLeastFresh at hf
  refine lv_aload_n hx hb dX5_tellLeastFresh_0 rfl (lv_at hl 0 rfl) ?_
  refine lv_iload_n hx hb dX5_tellLeastFresh_1 rfl (lv_at hl 1 rfl) ?_
  refine lv_aload_n hx hb dX5_tellLeastFresh_2 rfl (lv_at hl 2 rfl) ?_
  obtain ⟨r_1, hc_2, hf⟩ := bd_ok hf
  refine gcVv 2 (xC_ok D ad cs tM hJ) hC ⟨hx, hb, hml, hown, hts⟩ (mX5_tellDirtBelow l D ad cs tM u a1 q2 hq2a hq2b r_1 hc_2) (gG kw_254) kw_304 kw_252 kw_253 kw_22 hX5_tellDirtBelow ⟨rfl, rfl⟩ ⟨Nat.le_of_ble_eq_true rfl, Nat.le_of_ble_eq_true rfl⟩ (x_rec (C := RX5) (T := TX5) (N := 5) (ci := 4) hK hP rfl x_o30) hP hS ⟨Nat.zero_le _, Nat.zero_le _⟩ rfl hl.1 rfl (Nat.le_of_ble_eq_true rfl) dX5_tellLeastFresh_3 (fun H locs hP hS => ?_)
  refine lv_aload_n hx hb dX5_tellLeastFresh_6 rfl (lv_at hl 2 rfl) ?_
  refine lv_iload_n hx hb dX5_tellLeastFresh_7 rfl (lv_at hl 1 rfl) ?_
  obtain ⟨r_3, hc_4, hf⟩ := bd_ok hf
  refine gcVv 1 (xC_ok D ad cs tM hJ) hC ⟨hx, hb, hml, hown, hts⟩ (mX2_divideBy l D ad cs tM r_1 q2 a1 hq2a hq2b r_3 hc_4) (gG kw_308) kw_305 kw_306 kw_307 kw_25 hX2_divideBy ⟨rfl, rfl⟩ ⟨Nat.le_of_ble_eq_true rfl, Nat.le_of_ble_eq_true rfl⟩ (x_rec (C := RX2) (T := TX2) (N := 2) (ci := 1) hK hP rfl (x_fra hq2a hq2b)) hP hS ⟨Nat.zero_le _, Nat.zero_le _⟩ rfl hl.1 rfl (Nat.le_of_ble_eq_true rfl) dX5_tellLeastFresh_8 (fun H locs hP hS => ?_)
  exact grV hx hb hr hlocks hP hS dX5_tellLeastFresh_11 (Option.some.inj hf)
