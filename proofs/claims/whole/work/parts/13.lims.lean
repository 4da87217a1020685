abbrev rX3_isSetting : Room := { frames := 0, cells := 0, slots := 0, locals := 0 }
theorem hX3_isSetting : yX3_isSetting.cls ≠ "java/lang/invoke/MethodHandle" ∧ yX3_isSetting.cls ≠ "java/lang/invoke/VarHandle" ∧ (parseMethodDescriptor yX3_isSetting.desc).map (fun d => d.parameters.length) = some 1 := by decide +kernel
set_option maxHeartbeats 4000000 in
set_option maxRecDepth 100000 in
theorem mX3_isSetting (l : Launch) (D : va_G) (ad : Nat → Nat) (cs : Nat → ClassId) (tM : Nat) (u : UX) (a0 : Int32)  (r0 : Int32) (hok : fX3_isSetting u a0 = some r0) : Met l yX3_isSetting (Cond.code yX3_isSetting cX3_isSetting 1 (some .boolean) :: wsG) rX3_isSetting (va_Pc [.int a0] (wI D (wX ad cs) (xC D ad cs tM) u)) (va_Qi (fun (r : Int32) (u' : UX) => r = r0 ∧ u' = u) (wB D (wX ad cs)) (AX ad)) 0 0 (AX ad) := by
  refine Met.ofW (cc := cX3_isSetting) (maxL := 1) (ret := (some .boolean)) (by decide) rfl ?_
  intro p e s m args below meth c s₁ B hml hv
  have hx := B.exec
  have hb := B.bytes
  have hr := B.returns
  have hts := atoms_spec (ws := (Cond.code yX3_isSetting cX3_isSetting 1 (some .boolean) :: wsG)) B.pre
  have hg : ∀ w ∈ wsG, w.before args s = true := fun w h => hts w (List.mem_cons_of_mem _ h)
  have hown : s.vm.findClass RX3 = some m.cls := findClass_of_methodNamed B.named
  have hlocks := B.notSynchronized
  obtain ⟨ha, hP, hC⟩ := hv
  obtain ⟨hK, hJ, hN, hZ, hT⟩ := id hC
  have hS : va_S (AX ad) s.heap s.heap [] := va_S.rf
  refine W.eq (show entryFrame m args 1 = entryFrame m ([.int a0] : List Value).toArray 1 by rw [ha]) ?_
  have hl := lv_entry ([.int a0]) (n := 1) (Nat.le_of_ble_eq_true rfl)
  rw [lg_entry_eq]
  generalize (lg_sl ([.int a0]) ++ List.replicate (1 - (lg_sl ([.int a0])).length) Slot.unset).toArray = ls at hl ⊢
  have hl : lv_has ls 1 [(0, .int a0)] := hl
  show W p l e rX3_isSetting s m args below meth c s.heap [] 0 0 (MQ below (va_Qi (fun (r : Int32) (u' : UX) => r = r0 ∧ u' = u) (wB D (wX ad cs)) (AX ad)) args s 0 0 (AX ad)) (F0 m 0 ls [])
  have hf := hok
  unfold fX3_isSetting at hf
  refine lv_iload_n hx hb dX3_isSetting_0 rfl (lv_at hl 0 rfl) ?_
  refine lv_if_lt (tgt := 16) hx hb dX3_isSetting_1 (by decide) (fun c_1 => ?_) (fun c_1 => ?_)
  · skip
    replace hf := it_t c_1 hf
    refine lv_iconst (v := 0) hx hb dX3_isSetting_16 (by decide) ?_
    exact grZ hx hb hr hlocks (by decide) hP hS dX3_isSetting_17 (Option.some.inj hf) rfl
  · skip
    replace hf := it_f c_1 hf
    refine lv_iload_n hx hb dX3_isSetting_4 rfl (lv_at hl 0 rfl) ?_
    refine va_gets hx hb hZ hS hown (hg _ kw_226) (fun _ h9 => h9) dX3_isSetting_5 ?_
    refine va_tlen hx hb hT hS (v := 3) rfl dX3_isSetting_8 ?_
    refine lv_icmp_ge (tgt := 16) hx hb dX3_isSetting_9 (by decide) (fun c_2 => ?_) (fun c_2 => ?_)
    · skip
      replace hf := it_t c_2 hf
      refine lv_iconst (v := 0) hx hb dX3_isSetting_16 (by decide) ?_
      exact grZ hx hb hr hlocks (by decide) hP hS dX3_isSetting_17 (Option.some.inj hf) rfl
    · skip
      replace hf := it_f c_2 hf
      refine lv_iconst (v := 1) hx hb dX3_isSetting_12 (by decide) ?_
      refine lv_goto (tgt := 17) hx hb dX3_isSetting_13 (by decide) ?_
      exact grZ hx hb hr hlocks (by decide) hP hS dX3_isSetting_17 (Option.some.inj hf) rfl
abbrev rX3_by : Room := { frames := 1, cells := 0, slots := 0, locals := 23 }
theorem hX3_by : yX3_by.cls ≠ "java/lang/invoke/MethodHandle" ∧ yX3_by.cls ≠ "java/lang/invoke/VarHandle" ∧ (parseMethodDescriptor yX3_by.desc).map (fun d => d.parameters.length) = some 2 := by decide +kernel
set_option maxHeartbeats 4000000 in
set_option maxRecDepth 100000 in
theorem mX3_by (l : Launch) (D : va_G) (ad : Nat → Nat) (cs : Nat → ClassId) (tM : Nat) (u : UX) (a1 : Int32) (a2 : Int32)  (r0 : Int32) (hok : fX3_by u a1 a2 = some r0) : Met l yX3_by (Cond.code yX3_by cX3_by 5 (some .int) :: wsG) rX3_by (va_Pc [.ref (ad 31), .int a1, .int a2] (wI D (wX ad cs) (xC D ad cs tM) u)) (va_Qi (fun (r : Int32) (u' : UX) => r = r0 ∧ u' = u) (wB D (wX ad cs)) (AX ad)) 0 0 (AX ad) := by
  refine Met.ofW (cc := cX3_by) (maxL := 5) (ret := (some .int)) (by decide) rfl ?_
  intro p e s m args below meth c s₁ B hml hv
  have hx := B.exec
  have hb := B.bytes
  have hr := B.returns
  have hts := atoms_spec (ws := (Cond.code yX3_by cX3_by 5 (some .int) :: wsG)) B.pre
  have hg : ∀ w ∈ wsG, w.before args s = true := fun w h => hts w (List.mem_cons_of_mem _ h)
  have hown : s.vm.findClass RX3 = some m.cls := findClass_of_methodNamed B.named
  have hlocks := B.notSynchronized
  obtain ⟨ha, hP, hC⟩ := hv
  obtain ⟨hK, hJ, hN, hZ, hT⟩ := id hC
  have hS : va_S (AX ad) s.heap s.heap [] := va_S.rf
  refine W.eq (show entryFrame m args 5 = entryFrame m ([.ref (ad 31), .int a1, .int a2] : List Value).toArray 5 by rw [ha]) ?_
  have hl := lv_entry ([.ref (ad 31), .int a1, .int a2]) (n := 5) (Nat.le_of_ble_eq_true rfl)
  rw [lg_entry_eq]
  generalize (lg_sl ([.ref (ad 31), .int a1, .int a2]) ++ List.replicate (5 - (lg_sl ([.ref (ad 31), .int a1, .int a2])).length) Slot.unset).toArray = ls at hl ⊢
  have hl : lv_has ls 5 [(0, .ref (ad 31)), (1, .int a1), (2, .int a2)] := hl
  show W p l e rX3_by s m args below meth c s.heap [] 0 0 (MQ below (va_Qi (fun (r : Int32) (u' : UX) => r = r0 ∧ u' = u) (wB D (wX ad cs)) (AX ad)) args s 0 0 (AX ad)) (F0 m 0 ls [])
  have hf := hok
  unfold fX3_by at hf
  refine lv_aload_n hx hb dX3_by_0 rfl (lv_at hl 0 rfl) ?_
  refine va_get (D := D) (ci := 2) (v := .ref (ad 30)) (C := RX3) (T := TX3) (N := 2) hx hb hg inG_X3 hown hK hP 31 x_o31 rfl 0 (by decide) (hg _ kw_78) (fun _ h9 => h9) rfl dX3_by_1 ?_
  refine va_getN (D := D) (ci := 4) (v := .ref (ad 1)) (C := RX5) (T := TX5) (N := 5) hx hb hg inG_X5 hown hK hP 30 x_o30 rfl 1 (by decide) (va_Nw.use rfl (hN _ kn_50)) (fun _ h9 => h9) rfl dX3_by_4 ?_
  refine lv_iload_n hx hb dX3_by_7 rfl (lv_at hl 2 rfl) ?_
  obtain ⟨hb_1, hf⟩ := gd_ok hf
  refine x_iald hx hb hK hP (by decide) (by decide) rfl hb_1 dX3_by_8 ?_
  refine lv_iconst (v := 1) hx hb dX3_by_9 (by decide) ?_
  refine lv_iadd hx hb dX3_by_10 ?_
  refine lv_istore_n (lv' := [(3, .int ((u.1 1 a2.toNatClampNeg) + ((1 : Int32)))), (0, .ref (ad 31)), (1, .int a1), (2, .int a2)]) hx hb dX3_by_11 rfl hl (by decide) rfl (fun ls hl => ?_)
  refine lv_aload_n hx hb dX3_by_12 rfl (lv_at hl 1 rfl) ?_
  refine va_get (D := D) (ci := 2) (v := .ref (ad 30)) (C := RX3) (T := TX3) (N := 2) hx hb hg inG_X3 hown hK hP 31 x_o31 rfl 0 (by decide) (hg _ kw_78) (fun _ h9 => h9) rfl dX3_by_13 ?_
  refine va_getN (D := D) (ci := 4) (v := .ref (ad 2)) (C := RX5) (T := TX5) (N := 5) hx hb hg inG_X5 hown hK hP 30 x_o30 rfl 2 (by decide) (va_Nw.use rfl (hN _ kn_53)) (fun _ h9 => h9) rfl dX3_by_16 ?_
  refine lv_iload_n hx hb dX3_by_19 rfl (lv_at hl 3 rfl) ?_
  refine x_iald hx hb hK hP (by decide) (by decide) rfl hb_1 dX3_by_20 ?_
  refine lv_istore (lv' := [(4, .int (u.1 2 a2.toNatClampNeg)), (3, .int ((u.1 1 a2.toNatClampNeg) + ((1 : Int32)))), (0, .ref (ad 31)), (1, .int a1), (2, .int a2)]) hx hb dX3_by_21 hl (by decide) rfl (fun ls hl => ?_)
  refine lv_iload_n hx hb dX3_by_23 rfl (lv_at hl 3 rfl) ?_
  refine lv_iconst (v := 1) hx hb dX3_by_24 (by decide) ?_
  obtain ⟨t_2, hq_3, hf⟩ := bd_ok hf
  have hJ_4 : ∀ (H : Heap) (locs : List Loc) (ls : Array Slot), va_P D vwCl (wX ad cs u) H → va_S (AX ad) s.heap H locs → lv_has ls 5 [(0, .ref (ad 31)), (1, .int a1), (3, .int ((u.1 1 a2.toNatClampNeg) + ((1 : Int32)))), (4, .int t_2)] → W p l e rX3_by s m args below meth c H locs 0 0 (MQ below (va_Qi (fun (r : Int32) (u' : UX) => r = r0 ∧ u' = u) (wB D (wX ad cs)) (AX ad)) args s 0 0 (AX ad)) (F0 m 43 ls []) := by
    intro H locs ls hP hS hl
    refine lv_iload_n hx hb dX3_by_43 rfl (lv_at hl 1 rfl) ?_
    refine lv_iconst (v := 2) hx hb dX3_by_44 (by decide) ?_
    refine lv_icmp_lt (tgt := 65) hx hb dX3_by_45 (by decide) (fun c_5 => ?_) (fun c_5 => ?_)
    · skip
      replace hf := it_t c_5 hf
      refine lv_iload hx hb dX3_by_65 (lv_at hl 3 rfl) ?_
      exact grI hx hb hr hlocks hP hS dX3_by_67 (Option.some.inj hf) rfl
    · skip
      replace hf := it_f c_5 hf
      refine lv_iload hx hb dX3_by_48 (lv_at hl 3 rfl) ?_
      refine lv_iconst (v := 2) hx hb dX3_by_50 (by decide) ?_
      refine lv_aload_n hx hb dX3_by_51 rfl (lv_at hl 0 rfl) ?_
      refine va_get (D := D) (ci := 2) (v := .ref (ad 4)) (C := RX3) (T := TX3) (N := 2) hx hb hg inG_X3 hown hK hP 31 x_o31 rfl 1 (by decide) (hg _ kw_79) (fun _ h9 => h9) rfl dX3_by_52 ?_
      refine lv_iconst (v := 1) hx hb dX3_by_55 (by decide) ?_
      obtain ⟨hb_6, hf⟩ := gd_ok hf
      refine x_iald hx hb hK hP (by decide) (by decide) rfl hb_6 dX3_by_56 ?_
      refine lv_imul hx hb dX3_by_57 ?_
      refine lv_isub hx hb dX3_by_58 ?_
      refine lv_iload_n hx hb dX3_by_59 rfl (lv_at hl 2 rfl) ?_
      refine va_mmax hx hb (hml.trans hl.1.symm) hown (hg _ kw_240) (hg _ kw_241) (hg _ kw_29) (hg _ kw_242) (Nat.le_of_ble_eq_true rfl) (Nat.le_of_ble_eq_true rfl) (Nat.zero_le _) (Nat.zero_le _) dX3_by_60 ?_
      refine lv_istore (lv' := [(4, .int (if (t_2 - (((2 : Int32)) * (u.1 4 ((1 : Int32)).toNatClampNeg))) < ((u.1 1 a2.toNatClampNeg) + ((1 : Int32))) then ((u.1 1 a2.toNatClampNeg) + ((1 : Int32))) else (t_2 - (((2 : Int32)) * (u.1 4 ((1 : Int32)).toNatClampNeg))))), (0, .ref (ad 31)), (1, .int a1), (3, .int ((u.1 1 a2.toNatClampNeg) + ((1 : Int32))))]) hx hb dX3_by_63 hl (by decide) rfl (fun ls hl => ?_)
      refine lv_iload hx hb dX3_by_65 (lv_at hl 0 rfl) ?_
      exact grI hx hb hr hlocks hP hS dX3_by_67 (Option.some.inj hf) rfl
  clear hf
  have hf := hq_3
  refine lv_icmp_lt (tgt := 43) hx hb dX3_by_25 (by decide) (fun c_7 => ?_) (fun c_7 => ?_)
  · skip
    replace hf := it_t c_7 hf
    have ht := Option.some.inj hf
    subst ht
    exact hJ_4 _ _ _ hP hS (lv_sub hl [2, 3, 1, 0] rfl)
  · skip
    replace hf := it_f c_7 hf
    refine lv_iload hx hb dX3_by_28 (lv_at hl 0 rfl) ?_
    refine lv_aload_n hx hb dX3_by_30 rfl (lv_at hl 2 rfl) ?_
    refine va_get (D := D) (ci := 2) (v := .ref (ad 4)) (C := RX3) (T := TX3) (N := 2) hx hb hg inG_X3 hown hK hP 31 x_o31 rfl 1 (by decide) (hg _ kw_79) (fun _ h9 => h9) rfl dX3_by_31 ?_
    refine lv_iconst (v := 0) hx hb dX3_by_34 (by decide) ?_
    obtain ⟨hb_8, hf⟩ := gd_ok hf
    refine x_iald hx hb hK hP (by decide) (by decide) rfl hb_8 dX3_by_35 ?_
    refine lv_isub hx hb dX3_by_36 ?_
    refine lv_iload_n hx hb dX3_by_37 rfl (lv_at hl 1 rfl) ?_
    refine va_mmax hx hb (hml.trans hl.1.symm) hown (hg _ kw_240) (hg _ kw_241) (hg _ kw_29) (hg _ kw_242) (Nat.le_of_ble_eq_true rfl) (Nat.le_of_ble_eq_true rfl) (Nat.zero_le _) (Nat.zero_le _) dX3_by_38 ?_
    refine lv_istore (lv' := [(4, .int (if ((u.1 2 a2.toNatClampNeg) - (u.1 4 ((0 : Int32)).toNatClampNeg)) < ((u.1 1 a2.toNatClampNeg) + ((1 : Int32))) then ((u.1 1 a2.toNatClampNeg) + ((1 : Int32))) else ((u.1 2 a2.toNatClampNeg) - (u.1 4 ((0 : Int32)).toNatClampNeg)))), (3, .int ((u.1 1 a2.toNatClampNeg) + ((1 : Int32)))), (0, .ref (ad 31)), (1, .int a1), (2, .int a2)]) hx hb dX3_by_41 hl (by decide) rfl (fun ls hl => ?_)
    have ht := Option.some.inj hf
    subst ht
    exact hJ_4 _ _ _ hP hS (lv_sub hl [2, 3, 1, 0] rfl)
abbrev rX3_atHand : Room := { frames := 0, cells := 0, slots := 0, locals := 0 }
theorem hX3_atHand : yX3_atHand.cls ≠ "java/lang/invoke/MethodHandle" ∧ yX3_atHand.cls ≠ "java/lang/invoke/VarHandle" ∧ (parseMethodDescriptor yX3_atHand.desc).map (fun d => d.parameters.length) = some 0 := by decide +kernel
set_option maxHeartbeats 4000000 in
set_option maxRecDepth 100000 in
theorem mX3_atHand (l : Launch) (D : va_G) (ad : Nat → Nat) (cs : Nat → ClassId) (tM : Nat) (u : UX)   (r0 : Int32) (hok : fX3_atHand u = some r0) : Met l yX3_atHand (Cond.code yX3_atHand cX3_atHand 1 (some .int) :: wsG) rX3_atHand (va_Pc [.ref (ad 31)] (wI D (wX ad cs) (xC D ad cs tM) u)) (va_Qi (fun (r : Int32) (u' : UX) => r = r0 ∧ u' = u) (wB D (wX ad cs)) (AX ad)) 0 0 (AX ad) := by
  refine Met.ofW (cc := cX3_atHand) (maxL := 1) (ret := (some .int)) (by decide) rfl ?_
  intro p e s m args below meth c s₁ B hml hv
  have hx := B.exec
  have hb := B.bytes
  have hr := B.returns
  have hts := atoms_spec (ws := (Cond.code yX3_atHand cX3_atHand 1 (some .int) :: wsG)) B.pre
  have hg : ∀ w ∈ wsG, w.before args s = true := fun w h => hts w (List.mem_cons_of_mem _ h)
  have hown : s.vm.findClass RX3 = some m.cls := findClass_of_methodNamed B.named
  have hlocks := B.notSynchronized
  obtain ⟨ha, hP, hC⟩ := hv
  obtain ⟨hK, hJ, hN, hZ, hT⟩ := id hC
  have hS : va_S (AX ad) s.heap s.heap [] := va_S.rf
  refine W.eq (show entryFrame m args 1 = entryFrame m ([.ref (ad 31)] : List Value).toArray 1 by rw [ha]) ?_
  have hl := lv_entry ([.ref (ad 31)]) (n := 1) (Nat.le_of_ble_eq_true rfl)
  rw [lg_entry_eq]
  generalize (lg_sl ([.ref (ad 31)]) ++ List.replicate (1 - (lg_sl ([.ref (ad 31)])).length) Slot.unset).toArray = ls at hl ⊢
  have hl : lv_has ls 1 [(0, .ref (ad 31))] := hl
  show W p l e rX3_atHand s m args below meth c s.heap [] 0 0 (MQ below (va_Qi (fun (r : Int32) (u' : UX) => r = r0 ∧ u' = u) (wB D (wX ad cs)) (AX ad)) args s 0 0 (AX ad)) (F0 m 0 ls [])
  have hf := hok
  unfold fX3_atHand at hf
  refine lv_aload_n hx hb dX3_atHand_0 rfl (lv_at hl 0 rfl) ?_
  refine va_get (D := D) (ci := 2) (v := .ref (ad 4)) (C := RX3) (T := TX3) (N := 2) hx hb hg inG_X3 hown hK hP 31 x_o31 rfl 1 (by decide) (hg _ kw_79) (fun _ h9 => h9) rfl dX3_atHand_1 ?_
  refine lv_iconst (v := 2) hx hb dX3_atHand_4 (by decide) ?_
  obtain ⟨hb_1, hf⟩ := gd_ok hf
  refine x_iald hx hb hK hP (by decide) (by decide) rfl hb_1 dX3_atHand_5 ?_
  exact grI hx hb hr hlocks hP hS dX3_atHand_6 (Option.some.inj hf) rfl
abbrev rX6_leastBegun : Room := { frames := 1, cells := 0, slots := 0, locals := 23 }
theorem hX6_leastBegun : yX6_leastBegun.cls ≠ "java/lang/invoke/MethodHandle" ∧ yX6_leastBegun.cls ≠ "java/lang/invoke/VarHandle" ∧ (parseMethodDescriptor yX6_leastBegun.desc).map (fun d => d.parameters.length) = some 0 := by decide +kernel
set_option maxHeartbeats 4000000 in
set_option maxRecDepth 100000 in
theorem mX6_leastBegun (l : Launch) (D : va_G) (ad : Nat → Nat) (cs : Nat → ClassId) (tM : Nat) (u : UX)   (r0 : Int32) (hok : fX6_leastBegun u = some r0) : Met l yX6_leastBegun (Cond.code yX6_leastBegun cX6_leastBegun 4 (some .int) :: wsG) rX6_leastBegun (va_Pc [.ref (ad 33)] (wI D (wX ad cs) (xC D ad cs tM) u)) (va_Qi (fun (r : Int32) (u' : UX) => r = r0 ∧ u' = u) (wB D (wX ad cs)) (AX ad)) 0 0 (AX ad) := by
  refine Met.ofW (cc := cX6_leastBegun) (maxL := 4) (ret := (some .int)) (by decide) rfl ?_
  intro p e s m args below meth c s₁ B hml hv
  have hx := B.exec
  have hb := B.bytes
  have hr := B.returns
  have hts := atoms_spec (ws := (Cond.code yX6_leastBegun cX6_leastBegun 4 (some .int) :: wsG)) B.pre
  have hg : ∀ w ∈ wsG, w.before args s = true := fun w h => hts w (List.mem_cons_of_mem _ h)
  have hown : s.vm.findClass RX6 = some m.cls := findClass_of_methodNamed B.named
  have hlocks := B.notSynchronized
  obtain ⟨ha, hP, hC⟩ := hv
  obtain ⟨hK, hJ, hN, hZ, hT⟩ := id hC
  have hS : va_S (AX ad) s.heap s.heap [] := va_S.rf
  refine W.eq (show entryFrame m args 4 = entryFrame m ([.ref (ad 33)] : List Value).toArray 4 by rw [ha]) ?_
  have hl := lv_entry ([.ref (ad 33)]) (n := 4) (Nat.le_of_ble_eq_true rfl)
  rw [lg_entry_eq]
  generalize (lg_sl ([.ref (ad 33)]) ++ List.replicate (4 - (lg_sl ([.ref (ad 33)])).length) Slot.unset).toArray = ls at hl ⊢
  have hl : lv_has ls 4 [(0, .ref (ad 33))] := hl
  show W p l e rX6_leastBegun s m args below meth c s.heap [] 0 0 (MQ below (va_Qi (fun (r : Int32) (u' : UX) => r = r0 ∧ u' = u) (wB D (wX ad cs)) (AX ad)) args s 0 0 (AX ad)) (F0 m 0 ls [])
  have hf := hok
  unfold fX6_leastBegun at hf
  refine lv_iconst (v := 0) hx hb dX6_leastBegun_0 (by decide) ?_
  refine lv_istore_n (lv' := [(1, .int ((0 : Int32))), (0, .ref (ad 33))]) hx hb dX6_leastBegun_1 rfl hl (by decide) rfl (fun ls hl => ?_)
  refine lv_iconst (v := 0) hx hb dX6_leastBegun_2 (by decide) ?_
  refine lv_istore_n (lv' := [(2, .int ((0 : Int32))), (1, .int ((0 : Int32))), (0, .ref (ad 33))]) hx hb dX6_leastBegun_3 rfl hl (by decide) rfl (fun ls hl => ?_)
  refine lv_iconst (v := 0) hx hb dX6_leastBegun_4 (by decide) ?_
  refine lv_istore_n (lv' := [(3, .int ((0 : Int32))), (2, .int ((0 : Int32))), (1, .int ((0 : Int32))), (0, .ref (ad 33))]) hx hb dX6_leastBegun_5 rfl hl (by decide) rfl (fun ls hl => ?_)
  have hL_2 : ∀ (nf : Nat) (y1_k_1 : Int32) (y2_k_1 : Int32) (y3_k_1 : Int32) (H : Heap) (locs : List Loc) (ls : Array Slot) (t : Int32), va_P D vwCl (wX ad cs u) H → va_S (AX ad) s.heap H locs → lv_has ls 4 [(0, .ref (ad 33)), (1, .int y1_k_1), (2, .int y2_k_1), (3, .int y3_k_1)] → fX6_leastBegun_6 u nf y1_k_1 y2_k_1 y3_k_1 = some t → (∀ (H : Heap) (locs : List Loc) (ls : Array Slot), va_P D vwCl (wX ad cs u) H → va_S (AX ad) s.heap H locs → lv_has ls 4 [(2, .int t)] → W p l e rX6_leastBegun s m args below meth c H locs 0 0 (MQ below (va_Qi (fun (r : Int32) (u' : UX) => r = r0 ∧ u' = u) (wB D (wX ad cs)) (AX ad)) args s 0 0 (AX ad)) (F0 m 40 ls [])) → W p l e rX6_leastBegun s m args below meth c H locs 0 0 (MQ below (va_Qi (fun (r : Int32) (u' : UX) => r = r0 ∧ u' = u) (wB D (wX ad cs)) (AX ad)) args s 0 0 (AX ad)) (F0 m 6 ls []) := by
    intro nf
    induction nf with
    | zero => intro y1_k_1 y2_k_1 y3_k_1 H locs ls t hP hS hl hf hK'; rw [fX6_leastBegun_6] at hf; cases hf
    | succ nf ih =>
      intro y1_k_1 y2_k_1 y3_k_1 H locs ls t hP hS hl hf hK'
      rw [fX6_leastBegun_6] at hf
      refine lv_iload_n hx hb dX6_leastBegun_6 rfl (lv_at hl 3 rfl) ?_
      refine lv_bipush (v := 24) hx hb dX6_leastBegun_7 (by decide) ?_
      refine lv_icmp_ge (tgt := 40) hx hb dX6_leastBegun_9 (by decide) (fun c_3 => ?_) (fun c_3 => ?_)
      · skip
        replace hf := it_t c_3 hf
        have ht := Option.some.inj hf
        subst ht
        exact hK' _ _ _ hP hS (lv_sub hl [2] rfl)
      · skip
        replace hf := it_f c_3 hf
        refine lv_iload_n hx hb dX6_leastBegun_12 rfl (lv_at hl 1 rfl) ?_
        refine lv_aload_n hx hb dX6_leastBegun_13 rfl (lv_at hl 0 rfl) ?_
        refine va_get (D := D) (ci := 5) (v := .ref (ad 14)) (C := RX6) (T := TX6) (N := 2) hx hb hg inG_X6 hown hK hP 33 x_o33 rfl 0 (by decide) (hg _ kw_146) (fun _ h9 => h9) rfl dX6_leastBegun_14 ?_
        refine lv_iload_n hx hb dX6_leastBegun_17 rfl (lv_at hl 3 rfl) ?_
        obtain ⟨hb_4, hf⟩ := gd_ok hf
        refine x_iald hx hb hK hP (by decide) (by decide) rfl hb_4 dX6_leastBegun_18 ?_
        refine lv_aload_n hx hb dX6_leastBegun_19 rfl (lv_at hl 0 rfl) ?_
        refine va_get (D := D) (ci := 5) (v := .ref (ad 15)) (C := RX6) (T := TX6) (N := 2) hx hb hg inG_X6 hown hK hP 33 x_o33 rfl 1 (by decide) (hg _ kw_148) (fun _ h9 => h9) rfl dX6_leastBegun_20 ?_
        refine lv_iload_n hx hb dX6_leastBegun_23 rfl (lv_at hl 3 rfl) ?_
        refine x_iald hx hb hK hP (by decide) (by decide) rfl hb_4 dX6_leastBegun_24 ?_
        refine lv_isub hx hb dX6_leastBegun_25 ?_
        refine lv_iadd hx hb dX6_leastBegun_26 ?_
        refine lv_istore_n (lv' := [(1, .int (y1_k_1 + ((u.1 14 y3_k_1.toNatClampNeg) - (u.1 15 y3_k_1.toNatClampNeg)))), (0, .ref (ad 33)), (2, .int y2_k_1), (3, .int y3_k_1)]) hx hb dX6_leastBegun_27 rfl hl (by decide) rfl (fun ls hl => ?_)
        refine lv_iload_n hx hb dX6_leastBegun_28 rfl (lv_at hl 2 rfl) ?_
        refine lv_iload_n hx hb dX6_leastBegun_29 rfl (lv_at hl 0 rfl) ?_
        refine va_mmin hx hb (hml.trans hl.1.symm) hown (hg _ kw_420) (hg _ kw_269) (hg _ kw_29) (hg _ kw_270) (Nat.le_of_ble_eq_true rfl) (Nat.le_of_ble_eq_true rfl) (Nat.zero_le _) (Nat.zero_le _) dX6_leastBegun_30 ?_
        refine lv_istore_n (lv' := [(2, .int (if (y1_k_1 + ((u.1 14 y3_k_1.toNatClampNeg) - (u.1 15 y3_k_1.toNatClampNeg))) < y2_k_1 then (y1_k_1 + ((u.1 14 y3_k_1.toNatClampNeg) - (u.1 15 y3_k_1.toNatClampNeg))) else y2_k_1)), (1, .int (y1_k_1 + ((u.1 14 y3_k_1.toNatClampNeg) - (u.1 15 y3_k_1.toNatClampNeg)))), (0, .ref (ad 33)), (3, .int y3_k_1)]) hx hb dX6_leastBegun_33 rfl hl (by decide) rfl (fun ls hl => ?_)
        refine lv_iinc (v := y3_k_1 + 1) (lv' := [(3, .int (y3_k_1 + 1)), (2, .int (if (y1_k_1 + ((u.1 14 y3_k_1.toNatClampNeg) - (u.1 15 y3_k_1.toNatClampNeg))) < y2_k_1 then (y1_k_1 + ((u.1 14 y3_k_1.toNatClampNeg) - (u.1 15 y3_k_1.toNatClampNeg))) else y2_k_1)), (1, .int (y1_k_1 + ((u.1 14 y3_k_1.toNatClampNeg) - (u.1 15 y3_k_1.toNatClampNeg)))), (0, .ref (ad 33))]) hx hb dX6_leastBegun_34 hl (k := 3) rfl rfl (by decide) rfl (fun ls hl => ?_)
        refine lv_goto (tgt := 6) hx hb dX6_leastBegun_37 (by decide) ?_
        exact ih _ _ _ _ _ _ t hP hS (lv_sub hl [3, 2, 1, 0] rfl) hf hK'
  obtain ⟨t_5, hq_6, hf⟩ := bd_ok hf
  refine hL_2 FU _ _ _ _ _ _ t_5 hP hS (lv_sub hl [3, 2, 1, 0] rfl) hq_6 (fun H locs ls hP hS hl => ?_)
  refine lv_iload_n hx hb dX6_leastBegun_40 rfl (lv_at hl 0 rfl) ?_
  refine lv_ineg hx hb dX6_leastBegun_41 ?_
  exact grI hx hb hr hlocks hP hS dX6_leastBegun_42 (Option.some.inj hf) rfl
abbrev rX6_mostHeld : Room := { frames := 1, cells := 0, slots := 0, locals := 23 }
theorem hX6_mostHeld : yX6_mostHeld.cls ≠ "java/lang/invoke/MethodHandle" ∧ yX6_mostHeld.cls ≠ "java/lang/invoke/VarHandle" ∧ (parseMethodDescriptor yX6_mostHeld.desc).map (fun d => d.parameters.length) = some 1 := by decide +kernel
set_option maxHeartbeats 4000000 in
set_option maxRecDepth 100000 in
theorem mX6_mostHeld (l : Launch) (D : va_G) (ad : Nat → Nat) (cs : Nat → ClassId) (tM : Nat) (u : UX) (a1 : Int32)  (r0 : Int32) (hok : fX6_mostHeld u a1 = some r0) : Met l yX6_mostHeld (Cond.code yX6_mostHeld cX6_mostHeld 5 (some .int) :: wsG) rX6_mostHeld (va_Pc [.ref (ad 33), .int a1] (wI D (wX ad cs) (xC D ad cs tM) u)) (va_Qi (fun (r : Int32) (u' : UX) => r = r0 ∧ u' = u) (wB D (wX ad cs)) (AX ad)) 0 0 (AX ad) := by
  refine Met.ofW (cc := cX6_mostHeld) (maxL := 5) (ret := (some .int)) (by decide) rfl ?_
  intro p e s m args below meth c s₁ B hml hv
  have hx := B.exec
  have hb := B.bytes
  have hr := B.returns
  have hts := atoms_spec (ws := (Cond.code yX6_mostHeld cX6_mostHeld 5 (some .int) :: wsG)) B.pre
  have hg : ∀ w ∈ wsG, w.before args s = true := fun w h => hts w (List.mem_cons_of_mem _ h)
  have hown : s.vm.findClass RX6 = some m.cls := findClass_of_methodNamed B.named
  have hlocks := B.notSynchronized
  obtain ⟨ha, hP, hC⟩ := hv
  obtain ⟨hK, hJ, hN, hZ, hT⟩ := id hC
  have hS : va_S (AX ad) s.heap s.heap [] := va_S.rf
  refine W.eq (show entryFrame m args 5 = entryFrame m ([.ref (ad 33), .int a1] : List Value).toArray 5 by rw [ha]) ?_
  have hl := lv_entry ([.ref (ad 33), .int a1]) (n := 5) (Nat.le_of_ble_eq_true rfl)
  rw [lg_entry_eq]
  generalize (lg_sl ([.ref (ad 33), .int a1]) ++ List.replicate (5 - (lg_sl ([.ref (ad 33), .int a1])).length) Slot.unset).toArray = ls at hl ⊢
  have hl : lv_has ls 5 [(0, .ref (ad 33)), (1, .int a1)] := hl
  show W p l e rX6_mostHeld s m args below meth c s.heap [] 0 0 (MQ below (va_Qi (fun (r : Int32) (u' : UX) => r = r0 ∧ u' = u) (wB D (wX ad cs)) (AX ad)) args s 0 0 (AX ad)) (F0 m 0 ls [])
  have hf := hok
  unfold fX6_mostHeld at hf
  refine lv_iload_n hx hb dX6_mostHeld_0 rfl (lv_at hl 1 rfl) ?_
  refine lv_istore_n (lv' := [(2, .int a1), (0, .ref (ad 33)), (1, .int a1)]) hx hb dX6_mostHeld_1 rfl hl (by decide) rfl (fun ls hl => ?_)
  refine lv_iload_n hx hb dX6_mostHeld_2 rfl (lv_at hl 2 rfl) ?_
  refine lv_istore_n (lv' := [(3, .int a1), (2, .int a1), (0, .ref (ad 33)), (1, .int a1)]) hx hb dX6_mostHeld_3 rfl hl (by decide) rfl (fun ls hl => ?_)
  refine lv_iconst (v := 0) hx hb dX6_mostHeld_4 (by decide) ?_
  refine lv_istore (lv' := [(4, .int ((0 : Int32))), (3, .int a1), (2, .int a1), (0, .ref (ad 33)), (1, .int a1)]) hx hb dX6_mostHeld_5 hl (by decide) rfl (fun ls hl => ?_)
  have hL_2 : ∀ (nf : Nat) (y2_k_1 : Int32) (y3_k_1 : Int32) (y4_k_1 : Int32) (H : Heap) (locs : List Loc) (ls : Array Slot) (t : Int32), va_P D vwCl (wX ad cs u) H → va_S (AX ad) s.heap H locs → lv_has ls 5 [(0, .ref (ad 33)), (2, .int y2_k_1), (3, .int y3_k_1), (4, .int y4_k_1)] → fX6_mostHeld_7 u nf y2_k_1 y3_k_1 y4_k_1 = some t → (∀ (H : Heap) (locs : List Loc) (ls : Array Slot), va_P D vwCl (wX ad cs u) H → va_S (AX ad) s.heap H locs → lv_has ls 5 [(3, .int t)] → W p l e rX6_mostHeld s m args below meth c H locs 0 0 (MQ below (va_Qi (fun (r : Int32) (u' : UX) => r = r0 ∧ u' = u) (wB D (wX ad cs)) (AX ad)) args s 0 0 (AX ad)) (F0 m 46 ls [])) → W p l e rX6_mostHeld s m args below meth c H locs 0 0 (MQ below (va_Qi (fun (r : Int32) (u' : UX) => r = r0 ∧ u' = u) (wB D (wX ad cs)) (AX ad)) args s 0 0 (AX ad)) (F0 m 7 ls []) := by
    intro nf
    induction nf with
    | zero => intro y2_k_1 y3_k_1 y4_k_1 H locs ls t hP hS hl hf hK'; rw [fX6_mostHeld_7] at hf; cases hf
    | succ nf ih =>
      intro y2_k_1 y3_k_1 y4_k_1 H locs ls t hP hS hl hf hK'
      rw [fX6_mostHeld_7] at hf
      refine lv_iload hx hb dX6_mostHeld_7 (lv_at hl 3 rfl) ?_
      refine lv_bipush (v := 24) hx hb dX6_mostHeld_9 (by decide) ?_
      refine lv_icmp_ge (tgt := 46) hx hb dX6_mostHeld_11 (by decide) (fun c_3 => ?_) (fun c_3 => ?_)
      · skip
        replace hf := it_t c_3 hf
        have ht := Option.some.inj hf
        subst ht
        exact hK' _ _ _ hP hS (lv_sub hl [2] rfl)
      · skip
        replace hf := it_f c_3 hf
        refine lv_iload_n hx hb dX6_mostHeld_14 rfl (lv_at hl 1 rfl) ?_
        refine lv_aload_n hx hb dX6_mostHeld_15 rfl (lv_at hl 0 rfl) ?_
        refine va_get (D := D) (ci := 5) (v := .ref (ad 14)) (C := RX6) (T := TX6) (N := 2) hx hb hg inG_X6 hown hK hP 33 x_o33 rfl 0 (by decide) (hg _ kw_146) (fun _ h9 => h9) rfl dX6_mostHeld_16 ?_
        refine lv_iload hx hb dX6_mostHeld_19 (lv_at hl 3 rfl) ?_
        obtain ⟨hb_4, hf⟩ := gd_ok hf
        refine x_iald hx hb hK hP (by decide) (by decide) rfl hb_4 dX6_mostHeld_21 ?_
        refine lv_iadd hx hb dX6_mostHeld_22 ?_
        refine lv_istore_n (lv' := [(2, .int (y2_k_1 + (u.1 14 y4_k_1.toNatClampNeg))), (0, .ref (ad 33)), (3, .int y3_k_1), (4, .int y4_k_1)]) hx hb dX6_mostHeld_23 rfl hl (by decide) rfl (fun ls hl => ?_)
        refine lv_iload_n hx hb dX6_mostHeld_24 rfl (lv_at hl 2 rfl) ?_
        refine lv_iload_n hx hb dX6_mostHeld_25 rfl (lv_at hl 0 rfl) ?_
        refine va_mmax hx hb (hml.trans hl.1.symm) hown (hg _ kw_425) (hg _ kw_241) (hg _ kw_29) (hg _ kw_242) (Nat.le_of_ble_eq_true rfl) (Nat.le_of_ble_eq_true rfl) (Nat.zero_le _) (Nat.zero_le _) dX6_mostHeld_26 ?_
        refine lv_istore_n (lv' := [(3, .int (if y3_k_1 < (y2_k_1 + (u.1 14 y4_k_1.toNatClampNeg)) then (y2_k_1 + (u.1 14 y4_k_1.toNatClampNeg)) else y3_k_1)), (2, .int (y2_k_1 + (u.1 14 y4_k_1.toNatClampNeg))), (0, .ref (ad 33)), (4, .int y4_k_1)]) hx hb dX6_mostHeld_29 rfl hl (by decide) rfl (fun ls hl => ?_)
        refine lv_iload_n hx hb dX6_mostHeld_30 rfl (lv_at hl 1 rfl) ?_
        refine lv_aload_n hx hb dX6_mostHeld_31 rfl (lv_at hl 2 rfl) ?_
        refine va_get (D := D) (ci := 5) (v := .ref (ad 15)) (C := RX6) (T := TX6) (N := 2) hx hb hg inG_X6 hown hK hP 33 x_o33 rfl 1 (by decide) (hg _ kw_148) (fun _ h9 => h9) rfl dX6_mostHeld_32 ?_
        refine lv_iload hx hb dX6_mostHeld_35 (lv_at hl 3 rfl) ?_
        refine x_iald hx hb hK hP (by decide) (by decide) rfl hb_4 dX6_mostHeld_37 ?_
        refine lv_isub hx hb dX6_mostHeld_38 ?_
        refine lv_istore_n (lv' := [(2, .int ((y2_k_1 + (u.1 14 y4_k_1.toNatClampNeg)) - (u.1 15 y4_k_1.toNatClampNeg))), (3, .int (if y3_k_1 < (y2_k_1 + (u.1 14 y4_k_1.toNatClampNeg)) then (y2_k_1 + (u.1 14 y4_k_1.toNatClampNeg)) else y3_k_1)), (0, .ref (ad 33)), (4, .int y4_k_1)]) hx hb dX6_mostHeld_39 rfl hl (by decide) rfl (fun ls hl => ?_)
        refine lv_iinc (v := y4_k_1 + 1) (lv' := [(4, .int (y4_k_1 + 1)), (2, .int ((y2_k_1 + (u.1 14 y4_k_1.toNatClampNeg)) - (u.1 15 y4_k_1.toNatClampNeg))), (3, .int (if y3_k_1 < (y2_k_1 + (u.1 14 y4_k_1.toNatClampNeg)) then (y2_k_1 + (u.1 14 y4_k_1.toNatClampNeg)) else y3_k_1)), (0, .ref (ad 33))]) hx hb dX6_mostHeld_40 hl (k := 3) rfl rfl (by decide) rfl (fun ls hl => ?_)
        refine lv_goto (tgt := 7) hx hb dX6_mostHeld_43 (by decide) ?_
        exact ih _ _ _ _ _ _ t hP hS (lv_sub hl [3, 1, 2, 0] rfl) hf hK'
  obtain ⟨t_5, hq_6, hf⟩ := bd_ok hf
  refine hL_2 FU _ _ _ _ _ _ t_5 hP hS (lv_sub hl [3, 2, 1, 0] rfl) hq_6 (fun H locs ls hP hS hl => ?_)
  refine lv_iload_n hx hb dX6_mostHeld_46 rfl (lv_at hl 0 rfl) ?_
  exact grI hx hb hr hlocks hP hS dX6_mostHeld_47 (Option.some.inj hf) rfl
abbrev rX4_append : Room := { frames := 0, cells := 0, slots := 0, locals := 0 }
theorem hX4_append : yX4_append.cls ≠ "java/lang/invoke/MethodHandle" ∧ yX4_append.cls ≠ "java/lang/invoke/VarHandle" ∧ (parseMethodDescriptor yX4_append.desc).map (fun d => d.parameters.length) = some 1 := by decide +kernel
set_option maxHeartbeats 4000000 in
set_option maxRecDepth 100000 in
theorem mX4_append (l : Launch) (D : va_G) (ad : Nat → Nat) (cs : Nat → ClassId) (tM : Nat) (u : UX) (a1 : Int32)  (ru : Int32 × UX) (hok : fX4_append u a1 = some ru) : Met l yX4_append (Cond.code yX4_append cX4_append 3 (some .int) :: wsG) rX4_append (va_Pc [.ref (ad 34), .int a1] (wI D (wX ad cs) (xC D ad cs tM) u)) (va_Qi (fun (r : Int32) (u' : UX) => r = ru.1 ∧ u' = ru.2) (wB D (wX ad cs)) (AX ad)) 0 0 (AX ad) := by
  refine Met.ofW (cc := cX4_append) (maxL := 3) (ret := (some .int)) (by decide) rfl ?_
  intro p e s m args below meth c s₁ B hml hv
  have hx := B.exec
  have hb := B.bytes
  have hr := B.returns
  have hts := atoms_spec (ws := (Cond.code yX4_append cX4_append 3 (some .int) :: wsG)) B.pre
  have hg : ∀ w ∈ wsG, w.before args s = true := fun w h => hts w (List.mem_cons_of_mem _ h)
  have hown : s.vm.findClass RX4 = some m.cls := findClass_of_methodNamed B.named
  have hlocks := B.notSynchronized
  obtain ⟨ha, hP, hC⟩ := hv
  obtain ⟨hK, hJ, hN, hZ, hT⟩ := id hC
  have hS : va_S (AX ad) s.heap s.heap [] := va_S.rf
  refine W.eq (show entryFrame m args 3 = entryFrame m ([.ref (ad 34), .int a1] : List Value).toArray 3 by rw [ha]) ?_
  have hl := lv_entry ([.ref (ad 34), .int a1]) (n := 3) (Nat.le_of_ble_eq_true rfl)
  rw [lg_entry_eq]
  generalize (lg_sl ([.ref (ad 34), .int a1]) ++ List.replicate (3 - (lg_sl ([.ref (ad 34), .int a1])).length) Slot.unset).toArray = ls at hl ⊢
  have hl : lv_has ls 3 [(0, .ref (ad 34)), (1, .int a1)] := hl
  show W p l e rX4_append s m args below meth c s.heap [] 0 0 (MQ below (va_Qi (fun (r : Int32) (u' : UX) => r = ru.1 ∧ u' = ru.2) (wB D (wX ad cs)) (AX ad)) args s 0 0 (AX ad)) (F0 m 0 ls [])
  have hf := hok
  unfold fX4_append at hf
  refine lv_aload_n hx hb dX4_append_0 rfl (lv_at hl 0 rfl) ?_
  refine va_get (D := D) (ci := 3) (v := .int u.2.2.2.1) (C := RX4) (T := TX4) (N := 3) hx hb hg inG_X4 hown hK hP 34 x_o34 rfl 2 (by decide) (hg _ kw_164) (fun _ h9 => h9) rfl dX4_append_1 ?_
  refine lv_istore_n (lv' := [(2, .int u.2.2.2.1), (0, .ref (ad 34)), (1, .int a1)]) hx hb dX4_append_4 rfl hl (by decide) rfl (fun ls hl => ?_)
  refine lv_iload_n hx hb dX4_append_5 rfl (lv_at hl 0 rfl) ?_
  refine lv_bipush (v := 8) hx hb dX4_append_6 (by decide) ?_
  refine lv_icmp_lt (tgt := 14) hx hb dX4_append_8 (by decide) (fun c_1 => ?_) (fun c_1 => ?_)
  · skip
    replace hf := it_t c_1 hf
    refine lv_aload_n hx hb dX4_append_14 rfl (lv_at hl 1 rfl) ?_
    refine va_get (D := D) (ci := 3) (v := .ref (ad 16)) (C := RX4) (T := TX4) (N := 3) hx hb hg inG_X4 hown hK hP 34 x_o34 rfl 0 (by decide) (hg _ kw_161) (fun _ h9 => h9) rfl dX4_append_15 ?_
    refine lv_iload_n hx hb dX4_append_18 rfl (lv_at hl 0 rfl) ?_
    refine lv_iload_n hx hb dX4_append_19 rfl (lv_at hl 2 rfl) ?_
    obtain ⟨hb_2, hf⟩ := gd_ok hf
    refine x_iast hx hb hK hP hJ hS (by decide) (by decide) rfl hb_2 dX4_append_20 (fun H locs hP hS => ?_)
    refine lv_aload_n hx hb dX4_append_21 rfl (lv_at hl 1 rfl) ?_
    refine va_get (D := D) (ci := 3) (v := .ref (ad 17)) (C := RX4) (T := TX4) (N := 3) hx hb hg inG_X4 hown hK hP 34 x_o34 rfl 1 (by decide) (hg _ kw_162) (fun _ h9 => h9) rfl dX4_append_22 ?_
    refine lv_iload_n hx hb dX4_append_25 rfl (lv_at hl 0 rfl) ?_
    refine lv_bipush (v := -9) hx hb dX4_append_26 (by decide) ?_
    refine x_iast hx hb hK hP hJ hS (by decide) (by decide) rfl hb_2 dX4_append_28 (fun H locs hP hS => ?_)
    refine lv_aload_n hx hb dX4_append_29 rfl (lv_at hl 1 rfl) ?_
    refine lv_dup hx hb dX4_append_30 rfl ?_
    refine va_get (D := D) (ci := 3) (v := .int ((xst (xst u 16 u.2.2.2.1.toNatClampNeg a1) 17 u.2.2.2.1.toNatClampNeg ((-9 : Int32))).2.2.2.1)) (C := RX4) (T := TX4) (N := 3) hx hb hg inG_X4 hown hK hP 34 x_o34 rfl 2 (by decide) (hg _ kw_164) (fun _ h9 => h9) rfl dX4_append_31 ?_
    refine lv_iconst (v := 1) hx hb dX4_append_34 (by decide) ?_
    refine lv_iadd hx hb dX4_append_35 ?_
    refine x_putM hx hb hg hown hK hP hJ hS (hg _ kw_164) dX4_append_36 (fun H locs hP hS => ?_)
    refine lv_iload_n hx hb dX4_append_39 rfl (lv_at hl 0 rfl) ?_
    exact grI hx hb hr hlocks hP hS dX4_append_40 (pf1 hf) (pf2 hf)
  · skip
    replace hf := it_f c_1 hf
    refine lv_bipush (v := -3) hx hb dX4_append_11 (by decide) ?_
    exact grI hx hb hr hlocks hP hS dX4_append_13 (pf1 hf) (pf2 hf)
abbrev rX4_has : Room := { frames := 0, cells := 0, slots := 0, locals := 0 }
theorem hX4_has : yX4_has.cls ≠ "java/lang/invoke/MethodHandle" ∧ yX4_has.cls ≠ "java/lang/invoke/VarHandle" ∧ (parseMethodDescriptor yX4_has.desc).map (fun d => d.parameters.length) = some 1 := by decide +kernel
set_option maxHeartbeats 4000000 in
set_option maxRecDepth 100000 in
theorem mX4_has (l : Launch) (D : va_G) (ad : Nat → Nat) (cs : Nat → ClassId) (tM : Nat) (u : UX) (a1 : Int32)  (r0 : Int32) (hok : fX4_has u a1 = some r0) : Met l yX4_has (Cond.code yX4_has cX4_has 2 (some .boolean) :: wsG) rX4_has (va_Pc [.ref (ad 34), .int a1] (wI D (wX ad cs) (xC D ad cs tM) u)) (va_Qi (fun (r : Int32) (u' : UX) => r = r0 ∧ u' = u) (wB D (wX ad cs)) (AX ad)) 0 0 (AX ad) := by
  refine Met.ofW (cc := cX4_has) (maxL := 2) (ret := (some .boolean)) (by decide) rfl ?_
  intro p e s m args below meth c s₁ B hml hv
  have hx := B.exec
  have hb := B.bytes
  have hr := B.returns
  have hts := atoms_spec (ws := (Cond.code yX4_has cX4_has 2 (some .boolean) :: wsG)) B.pre
  have hg : ∀ w ∈ wsG, w.before args s = true := fun w h => hts w (List.mem_cons_of_mem _ h)
  have hown : s.vm.findClass RX4 = some m.cls := findClass_of_methodNamed B.named
  have hlocks := B.notSynchronized
  obtain ⟨ha, hP, hC⟩ := hv
  obtain ⟨hK, hJ, hN, hZ, hT⟩ := id hC
  have hS : va_S (AX ad) s.heap s.heap [] := va_S.rf
  refine W.eq (show entryFrame m args 2 = entryFrame m ([.ref (ad 34), .int a1] : List Value).toArray 2 by rw [ha]) ?_
  have hl := lv_entry ([.ref (ad 34), .int a1]) (n := 2) (Nat.le_of_ble_eq_true rfl)
  rw [lg_entry_eq]
  generalize (lg_sl ([.ref (ad 34), .int a1]) ++ List.replicate (2 - (lg_sl ([.ref (ad 34), .int a1])).length) Slot.unset).toArray = ls at hl ⊢
  have hl : lv_has ls 2 [(0, .ref (ad 34)), (1, .int a1)] := hl
  show W p l e rX4_has s m args below meth c s.heap [] 0 0 (MQ below (va_Qi (fun (r : Int32) (u' : UX) => r = r0 ∧ u' = u) (wB D (wX ad cs)) (AX ad)) args s 0 0 (AX ad)) (F0 m 0 ls [])
  have hf := hok
  unfold fX4_has at hf
  refine lv_iload_n hx hb dX4_has_0 rfl (lv_at hl 1 rfl) ?_
  refine lv_if_lt (tgt := 16) hx hb dX4_has_1 (by decide) (fun c_1 => ?_) (fun c_1 => ?_)
  · skip
    replace hf := it_t c_1 hf
    refine lv_iconst (v := 0) hx hb dX4_has_16 (by decide) ?_
    exact grZ hx hb hr hlocks (by decide) hP hS dX4_has_17 (Option.some.inj hf) rfl
  · skip
    replace hf := it_f c_1 hf
    refine lv_iload_n hx hb dX4_has_4 rfl (lv_at hl 1 rfl) ?_
    refine lv_aload_n hx hb dX4_has_5 rfl (lv_at hl 0 rfl) ?_
    refine va_get (D := D) (ci := 3) (v := .int u.2.2.2.1) (C := RX4) (T := TX4) (N := 3) hx hb hg inG_X4 hown hK hP 34 x_o34 rfl 2 (by decide) (hg _ kw_164) (fun _ h9 => h9) rfl dX4_has_6 ?_
    refine lv_icmp_ge (tgt := 16) hx hb dX4_has_9 (by decide) (fun c_2 => ?_) (fun c_2 => ?_)
    · skip
      replace hf := it_t c_2 hf
      refine lv_iconst (v := 0) hx hb dX4_has_16 (by decide) ?_
      exact grZ hx hb hr hlocks (by decide) hP hS dX4_has_17 (Option.some.inj hf) rfl
    · skip
      replace hf := it_f c_2 hf
      refine lv_iconst (v := 1) hx hb dX4_has_12 (by decide) ?_
      refine lv_goto (tgt := 17) hx hb dX4_has_13 (by decide) ?_
      exact grZ hx hb hr hlocks (by decide) hP hS dX4_has_17 (Option.some.inj hf) rfl
abbrev rX4_sum : Room := { frames := 0, cells := 0, slots := 0, locals := 0 }
theorem hX4_sum : yX4_sum.cls ≠ "java/lang/invoke/MethodHandle" ∧ yX4_sum.cls ≠ "java/lang/invoke/VarHandle" ∧ (parseMethodDescriptor yX4_sum.desc).map (fun d => d.parameters.length) = some 0 := by decide +kernel
set_option maxHeartbeats 4000000 in
set_option maxRecDepth 100000 in
theorem mX4_sum (l : Launch) (D : va_G) (ad : Nat → Nat) (cs : Nat → ClassId) (tM : Nat) (u : UX)   (r0 : Int64) (hok : fX4_sum u = some r0) : Met l yX4_sum (Cond.code yX4_sum cX4_sum 4 (some .long) :: wsG) rX4_sum (va_Pc [.ref (ad 34)] (wI D (wX ad cs) (xC D ad cs tM) u)) (va_Ql (fun (r : Int64) (u' : UX) => r = r0 ∧ u' = u) (wB D (wX ad cs)) (AX ad)) 0 0 (AX ad) := by
  refine Met.ofW (cc := cX4_sum) (maxL := 4) (ret := (some .long)) (by decide) rfl ?_
  intro p e s m args below meth c s₁ B hml hv
  have hx := B.exec
  have hb := B.bytes
  have hr := B.returns
  have hts := atoms_spec (ws := (Cond.code yX4_sum cX4_sum 4 (some .long) :: wsG)) B.pre
  have hg : ∀ w ∈ wsG, w.before args s = true := fun w h => hts w (List.mem_cons_of_mem _ h)
  have hown : s.vm.findClass RX4 = some m.cls := findClass_of_methodNamed B.named
  have hlocks := B.notSynchronized
  obtain ⟨ha, hP, hC⟩ := hv
  obtain ⟨hK, hJ, hN, hZ, hT⟩ := id hC
  have hS : va_S (AX ad) s.heap s.heap [] := va_S.rf
  refine W.eq (show entryFrame m args 4 = entryFrame m ([.ref (ad 34)] : List Value).toArray 4 by rw [ha]) ?_
  have hl := lv_entry ([.ref (ad 34)]) (n := 4) (Nat.le_of_ble_eq_true rfl)
  rw [lg_entry_eq]
  generalize (lg_sl ([.ref (ad 34)]) ++ List.replicate (4 - (lg_sl ([.ref (ad 34)])).length) Slot.unset).toArray = ls at hl ⊢
  have hl : lv_has ls 4 [(0, .ref (ad 34))] := hl
  show W p l e rX4_sum s m args below meth c s.heap [] 0 0 (MQ below (va_Ql (fun (r : Int64) (u' : UX) => r = r0 ∧ u' = u) (wB D (wX ad cs)) (AX ad)) args s 0 0 (AX ad)) (F0 m 0 ls [])
  have hf := hok
  unfold fX4_sum at hf
  refine lv_lconst (v := 0) hx hb dX4_sum_0 (by decide) ?_
  refine lv_lstore_n (lv' := [(1, .long ((0 : Int64))), (0, .ref (ad 34))]) hx hb dX4_sum_1 rfl hl (by decide) rfl (fun ls hl => ?_)
  refine lv_iconst (v := 0) hx hb dX4_sum_2 (by decide) ?_
  refine lv_istore_n (lv' := [(3, .int ((0 : Int32))), (1, .long ((0 : Int64))), (0, .ref (ad 34))]) hx hb dX4_sum_3 rfl hl (by decide) rfl (fun ls hl => ?_)
  have hL_2 : ∀ (nf : Nat) (y1_k_1 : Int64) (y3_k_1 : Int32) (H : Heap) (locs : List Loc) (ls : Array Slot) (t : Int64), va_P D vwCl (wX ad cs u) H → va_S (AX ad) s.heap H locs → lv_has ls 4 [(0, .ref (ad 34)), (1, .long y1_k_1), (3, .int y3_k_1)] → fX4_sum_4 u nf y1_k_1 y3_k_1 = some t → (∀ (H : Heap) (locs : List Loc) (ls : Array Slot), va_P D vwCl (wX ad cs u) H → va_S (AX ad) s.heap H locs → lv_has ls 4 [(1, .long t)] → W p l e rX4_sum s m args below meth c H locs 0 0 (MQ below (va_Ql (fun (r : Int64) (u' : UX) => r = r0 ∧ u' = u) (wB D (wX ad cs)) (AX ad)) args s 0 0 (AX ad)) (F0 m 46 ls [])) → W p l e rX4_sum s m args below meth c H locs 0 0 (MQ below (va_Ql (fun (r : Int64) (u' : UX) => r = r0 ∧ u' = u) (wB D (wX ad cs)) (AX ad)) args s 0 0 (AX ad)) (F0 m 4 ls []) := by
    intro nf
    induction nf with
    | zero => intro y1_k_1 y3_k_1 H locs ls t hP hS hl hf hK'; rw [fX4_sum_4] at hf; cases hf
    | succ nf ih =>
      intro y1_k_1 y3_k_1 H locs ls t hP hS hl hf hK'
      rw [fX4_sum_4] at hf
      refine lv_iload_n hx hb dX4_sum_4 rfl (lv_at hl 2 rfl) ?_
      refine lv_aload_n hx hb dX4_sum_5 rfl (lv_at hl 0 rfl) ?_
      refine va_get (D := D) (ci := 3) (v := .int u.2.2.2.1) (C := RX4) (T := TX4) (N := 3) hx hb hg inG_X4 hown hK hP 34 x_o34 rfl 2 (by decide) (hg _ kw_164) (fun _ h9 => h9) rfl dX4_sum_6 ?_
      refine lv_icmp_ge (tgt := 46) hx hb dX4_sum_9 (by decide) (fun c_3 => ?_) (fun c_3 => ?_)
      · skip
        replace hf := it_t c_3 hf
        have ht := Option.some.inj hf
        subst ht
        exact hK' _ _ _ hP hS (lv_sub hl [1] rfl)
      · skip
        replace hf := it_f c_3 hf
        refine lv_aload_n hx hb dX4_sum_12 rfl (lv_at hl 0 rfl) ?_
        refine va_get (D := D) (ci := 3) (v := .ref (ad 17)) (C := RX4) (T := TX4) (N := 3) hx hb hg inG_X4 hown hK hP 34 x_o34 rfl 1 (by decide) (hg _ kw_162) (fun _ h9 => h9) rfl dX4_sum_13 ?_
        refine lv_iload_n hx hb dX4_sum_16 rfl (lv_at hl 2 rfl) ?_
        obtain ⟨hb_4, hf⟩ := gd_ok hf
        refine x_iald hx hb hK hP (by decide) (by decide) rfl hb_4 dX4_sum_17 ?_
        refine lv_bipush (v := -9) hx hb dX4_sum_18 (by decide) ?_
        refine lv_icmp_eq (tgt := 40) hx hb dX4_sum_20 (by decide) (fun c_5 => ?_) (fun c_5 => ?_)
        · skip
          replace hf := it_t c_5 hf
          refine lv_iinc (v := y3_k_1 + 1) (lv' := [(3, .int (y3_k_1 + 1)), (0, .ref (ad 34)), (1, .long y1_k_1)]) hx hb dX4_sum_40 hl (k := 2) rfl rfl (by decide) rfl (fun ls hl => ?_)
          refine lv_goto (tgt := 4) hx hb dX4_sum_43 (by decide) ?_
          exact ih _ _ _ _ _ t hP hS (lv_sub hl [1, 2, 0] rfl) hf hK'
        · skip
          replace hf := it_f c_5 hf
          refine lv_lload_n hx hb dX4_sum_23 rfl (lv_at hl 1 rfl) ?_
          refine lv_aload_n hx hb dX4_sum_24 rfl (lv_at hl 0 rfl) ?_
          refine va_get (D := D) (ci := 3) (v := .ref (ad 16)) (C := RX4) (T := TX4) (N := 3) hx hb hg inG_X4 hown hK hP 34 x_o34 rfl 0 (by decide) (hg _ kw_161) (fun _ h9 => h9) rfl dX4_sum_25 ?_
          refine lv_iload_n hx hb dX4_sum_28 rfl (lv_at hl 2 rfl) ?_
          refine x_iald hx hb hK hP (by decide) (by decide) rfl hb_4 dX4_sum_29 ?_
          refine lv_aload_n hx hb dX4_sum_30 rfl (lv_at hl 0 rfl) ?_
          refine va_get (D := D) (ci := 3) (v := .ref (ad 17)) (C := RX4) (T := TX4) (N := 3) hx hb hg inG_X4 hown hK hP 34 x_o34 rfl 1 (by decide) (hg _ kw_162) (fun _ h9 => h9) rfl dX4_sum_31 ?_
          refine lv_iload_n hx hb dX4_sum_34 rfl (lv_at hl 2 rfl) ?_
          refine x_iald hx hb hK hP (by decide) (by decide) rfl hb_4 dX4_sum_35 ?_
          refine lv_imul hx hb dX4_sum_36 ?_
          refine lv_i2l hx hb dX4_sum_37 rfl ?_
          refine lv_ladd hx hb dX4_sum_38 ?_
          refine lv_lstore_n (lv' := [(1, .long (y1_k_1 + (((u.1 16 y3_k_1.toNatClampNeg) * (u.1 17 y3_k_1.toNatClampNeg)).toInt64))), (0, .ref (ad 34)), (3, .int y3_k_1)]) hx hb dX4_sum_39 rfl hl (by decide) rfl (fun ls hl => ?_)
          refine lv_iinc (v := y3_k_1 + 1) (lv' := [(3, .int (y3_k_1 + 1)), (1, .long (y1_k_1 + (((u.1 16 y3_k_1.toNatClampNeg) * (u.1 17 y3_k_1.toNatClampNeg)).toInt64))), (0, .ref (ad 34))]) hx hb dX4_sum_40 hl (k := 2) rfl rfl (by decide) rfl (fun ls hl => ?_)
          refine lv_goto (tgt := 4) hx hb dX4_sum_43 (by decide) ?_
          exact ih _ _ _ _ _ t hP hS (lv_sub hl [2, 1, 0] rfl) hf hK'
  obtain ⟨t_6, hq_7, hf⟩ := bd_ok hf
  refine hL_2 FU _ _ _ _ _ t_6 hP hS (lv_sub hl [2, 1, 0] rfl) hq_7 (fun H locs ls hP hS hl => ?_)
  refine lv_lload_n hx hb dX4_sum_46 rfl (lv_at hl 0 rfl) ?_
  exact grL hx hb hr hlocks hP hS dX4_sum_47 (Option.some.inj hf) rfl
abbrev rX4_missing : Room := { frames := 0, cells := 0, slots := 0, locals := 0 }
theorem hX4_missing : yX4_missing.cls ≠ "java/lang/invoke/MethodHandle" ∧ yX4_missing.cls ≠ "java/lang/invoke/VarHandle" ∧ (parseMethodDescriptor yX4_missing.desc).map (fun d => d.parameters.length) = some 0 := by decide +kernel
set_option maxHeartbeats 4000000 in
set_option maxRecDepth 100000 in
theorem mX4_missing (l : Launch) (D : va_G) (ad : Nat → Nat) (cs : Nat → ClassId) (tM : Nat) (u : UX)   (r0 : Int32) (hok : fX4_missing u = some r0) : Met l yX4_missing (Cond.code yX4_missing cX4_missing 3 (some .int) :: wsG) rX4_missing (va_Pc [.ref (ad 34)] (wI D (wX ad cs) (xC D ad cs tM) u)) (va_Qi (fun (r : Int32) (u' : UX) => r = r0 ∧ u' = u) (wB D (wX ad cs)) (AX ad)) 0 0 (AX ad) := by
  refine Met.ofW (cc := cX4_missing) (maxL := 3) (ret := (some .int)) (by decide) rfl ?_
  intro p e s m args below meth c s₁ B hml hv
  have hx := B.exec
  have hb := B.bytes
  have hr := B.returns
  have hts := atoms_spec (ws := (Cond.code yX4_missing cX4_missing 3 (some .int) :: wsG)) B.pre
  have hg : ∀ w ∈ wsG, w.before args s = true := fun w h => hts w (List.mem_cons_of_mem _ h)
  have hown : s.vm.findClass RX4 = some m.cls := findClass_of_methodNamed B.named
  have hlocks := B.notSynchronized
  obtain ⟨ha, hP, hC⟩ := hv
  obtain ⟨hK, hJ, hN, hZ, hT⟩ := id hC
  have hS : va_S (AX ad) s.heap s.heap [] := va_S.rf
  refine W.eq (show entryFrame m args 3 = entryFrame m ([.ref (ad 34)] : List Value).toArray 3 by rw [ha]) ?_
  have hl := lv_entry ([.ref (ad 34)]) (n := 3) (Nat.le_of_ble_eq_true rfl)
  rw [lg_entry_eq]
  generalize (lg_sl ([.ref (ad 34)]) ++ List.replicate (3 - (lg_sl ([.ref (ad 34)])).length) Slot.unset).toArray = ls at hl ⊢
  have hl : lv_has ls 3 [(0, .ref (ad 34))] := hl
  show W p l e rX4_missing s m args below meth c s.heap [] 0 0 (MQ below (va_Qi (fun (r : Int32) (u' : UX) => r = r0 ∧ u' = u) (wB D (wX ad cs)) (AX ad)) args s 0 0 (AX ad)) (F0 m 0 ls [])
  have hf := hok
  unfold fX4_missing at hf
  refine lv_iconst (v := 0) hx hb dX4_missing_0 (by decide) ?_
  refine lv_istore_n (lv' := [(1, .int ((0 : Int32))), (0, .ref (ad 34))]) hx hb dX4_missing_1 rfl hl (by decide) rfl (fun ls hl => ?_)
  refine lv_iconst (v := 0) hx hb dX4_missing_2 (by decide) ?_
  refine lv_istore_n (lv' := [(2, .int ((0 : Int32))), (1, .int ((0 : Int32))), (0, .ref (ad 34))]) hx hb dX4_missing_3 rfl hl (by decide) rfl (fun ls hl => ?_)
  have hL_2 : ∀ (nf : Nat) (y1_k_1 : Int32) (y2_k_1 : Int32) (H : Heap) (locs : List Loc) (ls : Array Slot) (t : Int32), va_P D vwCl (wX ad cs u) H → va_S (AX ad) s.heap H locs → lv_has ls 3 [(0, .ref (ad 34)), (1, .int y1_k_1), (2, .int y2_k_1)] → fX4_missing_4 u nf y1_k_1 y2_k_1 = some t → (∀ (H : Heap) (locs : List Loc) (ls : Array Slot), va_P D vwCl (wX ad cs u) H → va_S (AX ad) s.heap H locs → lv_has ls 3 [(1, .int t)] → W p l e rX4_missing s m args below meth c H locs 0 0 (MQ below (va_Qi (fun (r : Int32) (u' : UX) => r = r0 ∧ u' = u) (wB D (wX ad cs)) (AX ad)) args s 0 0 (AX ad)) (F0 m 37 ls [])) → W p l e rX4_missing s m args below meth c H locs 0 0 (MQ below (va_Qi (fun (r : Int32) (u' : UX) => r = r0 ∧ u' = u) (wB D (wX ad cs)) (AX ad)) args s 0 0 (AX ad)) (F0 m 4 ls []) := by
    intro nf
    induction nf with
    | zero => intro y1_k_1 y2_k_1 H locs ls t hP hS hl hf hK'; rw [fX4_missing_4] at hf; cases hf
    | succ nf ih =>
      intro y1_k_1 y2_k_1 H locs ls t hP hS hl hf hK'
      rw [fX4_missing_4] at hf
      refine lv_iload_n hx hb dX4_missing_4 rfl (lv_at hl 2 rfl) ?_
      refine lv_aload_n hx hb dX4_missing_5 rfl (lv_at hl 0 rfl) ?_
      refine va_get (D := D) (ci := 3) (v := .int u.2.2.2.1) (C := RX4) (T := TX4) (N := 3) hx hb hg inG_X4 hown hK hP 34 x_o34 rfl 2 (by decide) (hg _ kw_164) (fun _ h9 => h9) rfl dX4_missing_6 ?_
      refine lv_icmp_ge (tgt := 37) hx hb dX4_missing_9 (by decide) (fun c_3 => ?_) (fun c_3 => ?_)
      · skip
        replace hf := it_t c_3 hf
        have ht := Option.some.inj hf
        subst ht
        exact hK' _ _ _ hP hS (lv_sub hl [1] rfl)
      · skip
        replace hf := it_f c_3 hf
        refine lv_iload_n hx hb dX4_missing_12 rfl (lv_at hl 1 rfl) ?_
        refine lv_aload_n hx hb dX4_missing_13 rfl (lv_at hl 0 rfl) ?_
        refine va_get (D := D) (ci := 3) (v := .ref (ad 17)) (C := RX4) (T := TX4) (N := 3) hx hb hg inG_X4 hown hK hP 34 x_o34 rfl 1 (by decide) (hg _ kw_162) (fun _ h9 => h9) rfl dX4_missing_14 ?_
        refine lv_iload_n hx hb dX4_missing_17 rfl (lv_at hl 2 rfl) ?_
        obtain ⟨hb_4, hf⟩ := gd_ok hf
        refine x_iald hx hb hK hP (by decide) (by decide) rfl hb_4 dX4_missing_18 ?_
        refine lv_bipush (v := -9) hx hb dX4_missing_19 (by decide) ?_
        refine lv_icmp_ne (tgt := 28) hx hb dX4_missing_21 (by decide) (fun c_5 => ?_) (fun c_5 => ?_)
        · skip
          replace hf := it_f c_5 hf
          refine lv_iconst (v := 0) hx hb dX4_missing_28 (by decide) ?_
          refine lv_iadd hx hb dX4_missing_29 ?_
          refine lv_istore_n (lv' := [(1, .int (y1_k_1 + ((0 : Int32)))), (0, .ref (ad 34)), (2, .int y2_k_1)]) hx hb dX4_missing_30 rfl hl (by decide) rfl (fun ls hl => ?_)
          refine lv_iinc (v := y2_k_1 + 1) (lv' := [(2, .int (y2_k_1 + 1)), (1, .int (y1_k_1 + ((0 : Int32)))), (0, .ref (ad 34))]) hx hb dX4_missing_31 hl (k := 2) rfl rfl (by decide) rfl (fun ls hl => ?_)
          refine lv_goto (tgt := 4) hx hb dX4_missing_34 (by decide) ?_
          exact ih _ _ _ _ _ t hP hS (lv_sub hl [2, 1, 0] rfl) hf hK'
        · skip
          replace hf := it_t c_5 hf
          refine lv_iconst (v := 1) hx hb dX4_missing_24 (by decide) ?_
          refine lv_goto (tgt := 29) hx hb dX4_missing_25 (by decide) ?_
          refine lv_iadd hx hb dX4_missing_29 ?_
          refine lv_istore_n (lv' := [(1, .int (y1_k_1 + ((1 : Int32)))), (0, .ref (ad 34)), (2, .int y2_k_1)]) hx hb dX4_missing_30 rfl hl (by decide) rfl (fun ls hl => ?_)
          refine lv_iinc (v := y2_k_1 + 1) (lv' := [(2, .int (y2_k_1 + 1)), (1, .int (y1_k_1 + ((1 : Int32)))), (0, .ref (ad 34))]) hx hb dX4_missing_31 hl (k := 2) rfl rfl (by decide) rfl (fun ls hl => ?_)
          refine lv_goto (tgt := 4) hx hb dX4_missing_34 (by decide) ?_
          exact ih _ _ _ _ _ t hP hS (lv_sub hl [2, 1, 0] rfl) hf hK'
  obtain ⟨t_6, hq_7, hf⟩ := bd_ok hf
  refine hL_2 FU _ _ _ _ _ t_6 hP hS (lv_sub hl [2, 1, 0] rfl) hq_7 (fun H locs ls hP hS hl => ?_)
  refine lv_iload_n hx hb dX4_missing_37 rfl (lv_at hl 0 rfl) ?_
  exact grI hx hb hr hlocks hP hS dX4_missing_38 (Option.some.inj hf) rfl
abbrev rX4_told : Room := { frames := 1, cells := 0, slots := 0, locals := 22 }
theorem hX4_told : yX4_told.cls ≠ "java/lang/invoke/MethodHandle" ∧ yX4_told.cls ≠ "java/lang/invoke/VarHandle" ∧ (parseMethodDescriptor yX4_told.desc).map (fun d => d.parameters.length) = some 0 := by decide +kernel
set_option maxHeartbeats 4000000 in
set_option maxRecDepth 100000 in
theorem mX4_told (l : Launch) (D : va_G) (ad : Nat → Nat) (cs : Nat → ClassId) (tM : Nat) (u : UX)   (r0 : Int32) (hok : fX4_told u = some r0) : Met l yX4_told (Cond.code yX4_told cX4_told 2 (some .int) :: wsG) rX4_told (va_Pc [.ref (ad 34)] (wI D (wX ad cs) (xC D ad cs tM) u)) (va_Qi (fun (r : Int32) (u' : UX) => r = r0 ∧ u' = u) (wB D (wX ad cs)) (AX ad)) 0 0 (AX ad) := by
  refine Met.ofW (cc := cX4_told) (maxL := 2) (ret := (some .int)) (by decide) rfl ?_
  intro p e s m args below meth c s₁ B hml hv
  have hx := B.exec
  have hb := B.bytes
  have hr := B.returns
  have hts := atoms_spec (ws := (Cond.code yX4_told cX4_told 2 (some .int) :: wsG)) B.pre
  have hg : ∀ w ∈ wsG, w.before args s = true := fun w h => hts w (List.mem_cons_of_mem _ h)
  have hown : s.vm.findClass RX4 = some m.cls := findClass_of_methodNamed B.named
  have hlocks := B.notSynchronized
  obtain ⟨ha, hP, hC⟩ := hv
  obtain ⟨hK, hJ, hN, hZ, hT⟩ := id hC
  have hS : va_S (AX ad) s.heap s.heap [] := va_S.rf
  refine W.eq (show entryFrame m args 2 = entryFrame m ([.ref (ad 34)] : List Value).toArray 2 by rw [ha]) ?_
  have hl := lv_entry ([.ref (ad 34)]) (n := 2) (Nat.le_of_ble_eq_true rfl)
  rw [lg_entry_eq]
  generalize (lg_sl ([.ref (ad 34)]) ++ List.replicate (2 - (lg_sl ([.ref (ad 34)])).length) Slot.unset).toArray = ls at hl ⊢
  have hl : lv_has ls 2 [(0, .ref (ad 34))] := hl
  show W p l e rX4_told s m args below meth c s.heap [] 0 0 (MQ below (va_Qi (fun (r : Int32) (u' : UX) => r = r0 ∧ u' = u) (wB D (wX ad cs)) (AX ad)) args s 0 0 (AX ad)) (F0 m 0 ls [])
  have hf := hok
  unfold fX4_told at hf
  refine lv_aload_n hx hb dX4_told_0 rfl (lv_at hl 0 rfl) ?_
  obtain ⟨r_1, hc_2, hf⟩ := bd_ok hf
  refine gcVi 0 (xC_ok D ad cs tM hJ) hC ⟨hx, hb, hml, hown, hts⟩ (mX4_missing l D ad cs tM u r_1 hc_2) (gG kw_454) kw_459 kw_452 kw_453 kw_27 hX4_missing ⟨rfl, rfl⟩ ⟨Nat.le_of_ble_eq_true rfl, Nat.le_of_ble_eq_true rfl⟩ (x_rec (C := RX4) (T := TX4) (N := 3) (ci := 3) hK hP rfl x_o34) hP hS ⟨Nat.zero_le _, Nat.zero_le _⟩ rfl hl.1 rfl (Nat.le_of_ble_eq_true rfl) dX4_told_1 (fun H locs hP hS => ?_)
  refine lv_iconst (v := 1) hx hb dX4_told_4 (by decide) ?_
  refine lv_icmp_eq (tgt := 11) hx hb dX4_told_5 (by decide) (fun c_3 => ?_) (fun c_3 => ?_)
  · skip
    replace hf := it_t c_3 hf
    refine lv_iconst (v := 0) hx hb dX4_told_11 (by decide) ?_
    refine lv_istore_n (lv' := [(1, .int ((0 : Int32))), (0, .ref (ad 34))]) hx hb dX4_told_12 rfl hl (by decide) rfl (fun ls hl => ?_)
    have hL_5 : ∀ (nf : Nat) (y1_k_4 : Int32) (H : Heap) (locs : List Loc) (ls : Array Slot), va_P D vwCl (wX ad cs u) H → va_S (AX ad) s.heap H locs → lv_has ls 2 [(0, .ref (ad 34)), (1, .int y1_k_4)] → fX4_told_13 u nf y1_k_4 = some r0 → W p l e rX4_told s m args below meth c H locs 0 0 (MQ below (va_Qi (fun (r : Int32) (u' : UX) => r = r0 ∧ u' = u) (wB D (wX ad cs)) (AX ad)) args s 0 0 (AX ad)) (F0 m 13 ls []) := by
      intro nf
      induction nf with
      | zero => intro y1_k_4 H locs ls hP hS hl hf; rw [fX4_told_13] at hf; cases hf
      | succ nf ih =>
        intro y1_k_4 H locs ls hP hS hl hf
        rw [fX4_told_13] at hf
        refine lv_iload_n hx hb dX4_told_13 rfl (lv_at hl 1 rfl) ?_
        refine lv_aload_n hx hb dX4_told_14 rfl (lv_at hl 0 rfl) ?_
        refine va_get (D := D) (ci := 3) (v := .int u.2.2.2.1) (C := RX4) (T := TX4) (N := 3) hx hb hg inG_X4 hown hK hP 34 x_o34 rfl 2 (by decide) (hg _ kw_164) (fun _ h9 => h9) rfl dX4_told_15 ?_
        refine lv_icmp_ge (tgt := 40) hx hb dX4_told_18 (by decide) (fun c_6 => ?_) (fun c_6 => ?_)
        · skip
          replace hf := it_t c_6 hf
          refine lv_bipush (v := -9) hx hb dX4_told_40 (by decide) ?_
          exact grI hx hb hr hlocks hP hS dX4_told_42 (Option.some.inj hf) rfl
        · skip
          replace hf := it_f c_6 hf
          refine lv_aload_n hx hb dX4_told_21 rfl (lv_at hl 0 rfl) ?_
          refine va_get (D := D) (ci := 3) (v := .ref (ad 17)) (C := RX4) (T := TX4) (N := 3) hx hb hg inG_X4 hown hK hP 34 x_o34 rfl 1 (by decide) (hg _ kw_162) (fun _ h9 => h9) rfl dX4_told_22 ?_
          refine lv_iload_n hx hb dX4_told_25 rfl (lv_at hl 1 rfl) ?_
          obtain ⟨hb_7, hf⟩ := gd_ok hf
          refine x_iald hx hb hK hP (by decide) (by decide) rfl hb_7 dX4_told_26 ?_
          refine lv_bipush (v := -9) hx hb dX4_told_27 (by decide) ?_
          refine lv_icmp_ne (tgt := 34) hx hb dX4_told_29 (by decide) (fun c_8 => ?_) (fun c_8 => ?_)
          · skip
            replace hf := it_f c_8 hf
            refine lv_iinc (v := y1_k_4 + 1) (lv' := [(1, .int (y1_k_4 + 1)), (0, .ref (ad 34))]) hx hb dX4_told_34 hl (k := 1) rfl rfl (by decide) rfl (fun ls hl => ?_)
            refine lv_goto (tgt := 13) hx hb dX4_told_37 (by decide) ?_
            exact ih _ _ _ _ hP hS (lv_sub hl [1, 0] rfl) hf
          · skip
            replace hf := it_t c_8 hf
            refine lv_iload_n hx hb dX4_told_32 rfl (lv_at hl 1 rfl) ?_
            exact grI hx hb hr hlocks hP hS dX4_told_33 (Option.some.inj hf) rfl
    exact hL_5 FU _ _ _ _ hP hS (lv_sub hl [1, 0] rfl) hf
  · skip
    replace hf := it_f c_3 hf
    refine lv_bipush (v := -9) hx hb dX4_told_8 (by decide) ?_
    exact grI hx hb hr hlocks hP hS dX4_told_10 (Option.some.inj hf) rfl
abbrev rX4_toldAs : Room := { frames := 2, cells := 0, slots := 0, locals := 43 }
theorem hX4_toldAs : yX4_toldAs.cls ≠ "java/lang/invoke/MethodHandle" ∧ yX4_toldAs.cls ≠ "java/lang/invoke/VarHandle" ∧ (parseMethodDescriptor yX4_toldAs.desc).map (fun d => d.parameters.length) = some 0 := by decide +kernel
set_option maxHeartbeats 4000000 in
set_option maxRecDepth 100000 in
theorem mX4_toldAs (l : Launch) (D : va_G) (ad : Nat → Nat) (cs : Nat → ClassId) (tM : Nat) (u : UX)   (r0 : Int64) (hok : fX4_toldAs u = some r0) : Met l yX4_toldAs (Cond.code yX4_toldAs cX4_toldAs 2 (some .long) :: wsG) rX4_toldAs (va_Pc [.ref (ad 34)] (wI D (wX ad cs) (xC D ad cs tM) u)) (va_Ql (fun (r : Int64) (u' : UX) => r = r0 ∧ u' = u) (wB D (wX ad cs)) (AX ad)) 0 0 (AX ad) := by
  refine Met.ofW (cc := cX4_toldAs) (maxL := 2) (ret := (some .long)) (by decide) rfl ?_
  intro p e s m args below meth c s₁ B hml hv
  have hx := B.exec
  have hb := B.bytes
  have hr := B.returns
  have hts := atoms_spec (ws := (Cond.code yX4_toldAs cX4_toldAs 2 (some .long) :: wsG)) B.pre
  have hg : ∀ w ∈ wsG, w.before args s = true := fun w h => hts w (List.mem_cons_of_mem _ h)
  have hown : s.vm.findClass RX4 = some m.cls := findClass_of_methodNamed B.named
  have hlocks := B.notSynchronized
  obtain ⟨ha, hP, hC⟩ := hv
  obtain ⟨hK, hJ, hN, hZ, hT⟩ := id hC
  have hS : va_S (AX ad) s.heap s.heap [] := va_S.rf
  refine W.eq (show entryFrame m args 2 = entryFrame m ([.ref (ad 34)] : List Value).toArray 2 by rw [ha]) ?_
  have hl := lv_entry ([.ref (ad 34)]) (n := 2) (Nat.le_of_ble_eq_true rfl)
  rw [lg_entry_eq]
  generalize (lg_sl ([.ref (ad 34)]) ++ List.replicate (2 - (lg_sl ([.ref (ad 34)])).length) Slot.unset).toArray = ls at hl ⊢
  have hl : lv_has ls 2 [(0, .ref (ad 34))] := hl
  show W p l e rX4_toldAs s m args below meth c s.heap [] 0 0 (MQ below (va_Ql (fun (r : Int64) (u' : UX) => r = r0 ∧ u' = u) (wB D (wX ad cs)) (AX ad)) args s 0 0 (AX ad)) (F0 m 0 ls [])
  have hf := hok
  unfold fX4_toldAs at hf
  refine lv_aload_n hx hb dX4_toldAs_0 rfl (lv_at hl 0 rfl) ?_
  obtain ⟨r_1, hc_2, hf⟩ := bd_ok hf
  refine gcVi 0 (xC_ok D ad cs tM hJ) hC ⟨hx, hb, hml, hown, hts⟩ (mX4_told l D ad cs tM u r_1 hc_2) (gG kw_458) kw_464 kw_456 kw_457 kw_27 hX4_told ⟨rfl, rfl⟩ ⟨Nat.le_of_ble_eq_true rfl, Nat.le_of_ble_eq_true rfl⟩ (x_rec (C := RX4) (T := TX4) (N := 3) (ci := 3) hK hP rfl x_o34) hP hS ⟨Nat.zero_le _, Nat.zero_le _⟩ rfl hl.1 rfl (Nat.le_of_ble_eq_true rfl) dX4_toldAs_1 (fun H locs hP hS => ?_)
  refine lv_istore_n (lv' := [(1, .int r_1), (0, .ref (ad 34))]) hx hb dX4_toldAs_4 rfl hl (by decide) rfl (fun ls hl => ?_)
  refine lv_iload_n hx hb dX4_toldAs_5 rfl (lv_at hl 0 rfl) ?_
  refine lv_bipush (v := -9) hx hb dX4_toldAs_6 (by decide) ?_
  refine lv_icmp_ne (tgt := 17) hx hb dX4_toldAs_8 (by decide) (fun c_3 => ?_) (fun c_3 => ?_)
  · skip
    replace hf := it_f c_3 hf
    refine lv_aload_n hx hb dX4_toldAs_17 rfl (lv_at hl 1 rfl) ?_
    refine va_get (D := D) (ci := 3) (v := .ref (ad 16)) (C := RX4) (T := TX4) (N := 3) hx hb hg inG_X4 hown hK hP 34 x_o34 rfl 0 (by decide) (hg _ kw_161) (fun _ h9 => h9) rfl dX4_toldAs_18 ?_
    refine lv_iload_n hx hb dX4_toldAs_21 rfl (lv_at hl 0 rfl) ?_
    obtain ⟨hb_4, hf⟩ := gd_ok hf
    refine x_iald hx hb hK hP (by decide) (by decide) rfl hb_4 dX4_toldAs_22 ?_
    refine lv_ineg hx hb dX4_toldAs_23 ?_
    refine lv_i2l hx hb dX4_toldAs_24 rfl ?_
    refine lv_aload_n hx hb dX4_toldAs_25 rfl (lv_at hl 1 rfl) ?_
    obtain ⟨r_5, hc_6, hf⟩ := bd_ok hf
    refine gcVl 0 (xC_ok D ad cs tM hJ) hC ⟨hx, hb, hml, hown, hts⟩ (mX4_sum l D ad cs tM u r_5 hc_6) (gG kw_450) kw_466 kw_448 kw_449 kw_27 hX4_sum ⟨rfl, rfl⟩ ⟨Nat.le_of_ble_eq_true rfl, Nat.le_of_ble_eq_true rfl⟩ (x_rec (C := RX4) (T := TX4) (N := 3) (ci := 3) hK hP rfl x_o34) hP hS ⟨Nat.zero_le _, Nat.zero_le _⟩ rfl hl.1 rfl (Nat.le_of_ble_eq_true rfl) dX4_toldAs_26 (fun H locs hP hS => ?_)
    refine lv_lmul hx hb dX4_toldAs_29 ?_
    exact grL hx hb hr hlocks hP hS dX4_toldAs_30 (Option.some.inj hf) rfl
  · skip
    replace hf := it_t c_3 hf
    refine lv_ldc2 (v := -1000000000000) hx hb hown (hg _ kw_465) dX4_toldAs_11 ?_
    refine lv_goto (tgt := 30) hx hb dX4_toldAs_14 (by decide) ?_
    exact grL hx hb hr hlocks hP hS dX4_toldAs_30 (Option.some.inj hf) rfl
abbrev rX4_tellMended : Room := { frames := 2, cells := 0, slots := 0, locals := 56 }
theorem hX4_tellMended : yX4_tellMended.cls ≠ "java/lang/invoke/MethodHandle" ∧ yX4_tellMended.cls ≠ "java/lang/invoke/VarHandle" ∧ (parseMethodDescriptor yX4_tellMended.desc).map (fun d => d.parameters.length) = some 2 := by decide +kernel
set_option maxHeartbeats 4000000 in
set_option maxRecDepth 100000 in
theorem mX4_tellMended (l : Launch) (D : va_G) (ad : Nat → Nat) (cs : Nat → ClassId) (tM : Nat) (u : UX) (a1 : Int32) (q2 : Nat) (hq2a : 18 ≤ q2) (hq2b : q2 < 29) (ru : UX) (hok : fX4_tellMended u a1 q2 = some ru) : Met l yX4_tellMended (Cond.code yX4_tellMended cX4_tellMended 3 none :: wsG) rX4_tellMended (va_Pc [.ref (ad 34), .int a1, .ref (ad q2)] (wI D (wX ad cs) (xC D ad cs tM) u)) (va_Qv (fun (u' : UX) => u' = ru) (wB D (wX ad cs)) (AX ad)) 0 0 (AX ad) := by
  refine Met.ofW (cc := cX4_tellMended) (maxL := 3) (ret := none) (by decide) rfl ?_
  intro p e s m args below meth c s₁ B hml hv
  have hx := B.exec
  have hb := B.bytes
  have hr := B.returns
  have hts := atoms_spec (ws := (Cond.code yX4_tellMended cX4_tellMended 3 none :: wsG)) B.pre
  have hg : ∀ w ∈ wsG, w.before args s = true := fun w h => hts w (List.mem_cons_of_mem _ h)
  have hown : s.vm.findClass RX4 = some m.cls := findClass_of_methodNamed B.named
  have hlocks := B.notSynchronized
  obtain ⟨ha, hP, hC⟩ := hv
  obtain ⟨hK, hJ, hN, hZ, hT⟩ := id hC
  have hS : va_S (AX ad) s.heap s.heap [] := va_S.rf
  refine W.eq (show entryFrame m args 3 = entryFrame m ([.ref (ad 34), .int a1, .ref (ad q2)] : List Value).toArray 3 by rw [ha]) ?_
  have hl := lv_entry ([.ref (ad 34), .int a1, .ref (ad q2)]) (n := 3) (Nat.le_of_ble_eq_true rfl)
  rw [lg_entry_eq]
  generalize (lg_sl ([.ref (ad 34), .int a1, .ref (ad q2)]) ++ List.replicate (3 - (lg_sl ([.ref (ad 34), .int a1, .ref (ad q2)])).length) Slot.unset).toArray = ls at hl ⊢
  have hl : lv_has ls 3 [(0, .ref (ad 34)), (1, .int a1), (2, .ref (ad q2))] := hl
  show W p l e rX4_tellMended s m args below meth c s.heap [] 0 0 (MQ below (va_Qv (fun (u' : UX) => u' = ru) (wB D (wX ad cs)) (AX ad)) args s 0 0 (AX ad)) (F0 m 0 ls [])
  have hf := hok
  unfold fX4_tellMended at hf
  refine lv_aload_n hx hb dX4_tellMended_0 rfl (lv_at hl 2 rfl) ?_
  refine lv_aload_n hx hb dX4_tellMended_1 rfl (lv_at hl 0 rfl) ?_
  refine va_get (D := D) (ci := 3) (v := .ref (ad 17)) (C := RX4) (T := TX4) (N := 3) hx hb hg inG_X4 hown hK hP 34 x_o34 rfl 1 (by decide) (hg _ kw_162) (fun _ h9 => h9) rfl dX4_tellMended_2 ?_
  refine lv_iload_n hx hb dX4_tellMended_5 rfl (lv_at hl 1 rfl) ?_
  obtain ⟨hb_1, hf⟩ := gd_ok hf
  refine x_iald hx hb hK hP (by decide) (by decide) rfl hb_1 dX4_tellMended_6 ?_
  refine lv_i2l hx hb dX4_tellMended_7 rfl ?_
  refine lv_aload_n hx hb dX4_tellMended_8 rfl (lv_at hl 0 rfl) ?_
  refine va_get (D := D) (ci := 3) (v := .int u.2.2.2.1) (C := RX4) (T := TX4) (N := 3) hx hb hg inG_X4 hown hK hP 34 x_o34 rfl 2 (by decide) (hg _ kw_164) (fun _ h9 => h9) rfl dX4_tellMended_9 ?_
  refine lv_i2l hx hb dX4_tellMended_12 rfl ?_
  refine lv_lmul hx hb dX4_tellMended_13 ?_
  refine lv_aload_n hx hb dX4_tellMended_14 rfl (lv_at hl 0 rfl) ?_
  refine va_get (D := D) (ci := 3) (v := .ref (ad 16)) (C := RX4) (T := TX4) (N := 3) hx hb hg inG_X4 hown hK hP 34 x_o34 rfl 0 (by decide) (hg _ kw_161) (fun _ h9 => h9) rfl dX4_tellMended_15 ?_
  refine lv_iload_n hx hb dX4_tellMended_18 rfl (lv_at hl 1 rfl) ?_
  refine x_iald hx hb hK hP (by decide) (by decide) rfl hb_1 dX4_tellMended_19 ?_
  refine lv_i2l hx hb dX4_tellMended_20 rfl ?_
  refine lv_aload_n hx hb dX4_tellMended_21 rfl (lv_at hl 0 rfl) ?_
  obtain ⟨r_2, hc_3, hf⟩ := bd_ok hf
  refine gcVl 0 (xC_ok D ad cs tM hJ) hC ⟨hx, hb, hml, hown, hts⟩ (mX4_sum l D ad cs tM u r_2 hc_3) (gG kw_450) kw_466 kw_448 kw_449 kw_27 hX4_sum ⟨rfl, rfl⟩ ⟨Nat.le_of_ble_eq_true rfl, Nat.le_of_ble_eq_true rfl⟩ (x_rec (C := RX4) (T := TX4) (N := 3) (ci := 3) hK hP rfl x_o34) hP hS ⟨Nat.zero_le _, Nat.zero_le _⟩ rfl hl.1 rfl (Nat.le_of_ble_eq_true rfl) dX4_tellMended_22 (fun H locs hP hS => ?_)
  refine lv_lmul hx hb dX4_tellMended_25 ?_
  refine lv_lsub hx hb dX4_tellMended_26 ?_
  refine lv_aload_n hx hb dX4_tellMended_27 rfl (lv_at hl 0 rfl) ?_
  refine va_get (D := D) (ci := 3) (v := .int u.2.2.2.1) (C := RX4) (T := TX4) (N := 3) hx hb hg inG_X4 hown hK hP 34 x_o34 rfl 2 (by decide) (hg _ kw_164) (fun _ h9 => h9) rfl dX4_tellMended_28 ?_
  refine lv_i2l hx hb dX4_tellMended_31 rfl ?_
  obtain ⟨r_4, hc_5, hf⟩ := bd_ok hf
  refine gcVv 2 (xC_ok D ad cs tM hJ) hC ⟨hx, hb, hml, hown, hts⟩ (mX2_become l D ad cs tM u q2 ((((u.1 17 a1.toNatClampNeg).toInt64) * u.2.2.2.1.toInt64) - (((u.1 16 a1.toNatClampNeg).toInt64) * r_2)) u.2.2.2.1.toInt64 hq2a hq2b r_4 hc_5) (gG kw_274) kw_477 kw_272 kw_273 kw_25 hX2_become ⟨rfl, rfl⟩ ⟨Nat.le_of_ble_eq_true rfl, Nat.le_of_ble_eq_true rfl⟩ (x_rec (C := RX2) (T := TX2) (N := 2) (ci := 1) hK hP rfl (x_fra hq2a hq2b)) hP hS ⟨Nat.zero_le _, Nat.zero_le _⟩ rfl hl.1 rfl (Nat.le_of_ble_eq_true rfl) dX4_tellMended_32 (fun H locs hP hS => ?_)
  exact grV hx hb hr hlocks hP hS dX4_tellMended_35 (Option.some.inj hf)
