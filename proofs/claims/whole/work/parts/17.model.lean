abbrev rX8_isStep : Room := { frames := 1, cells := 0, slots := 0, locals := 25 }
theorem hX8_isStep : yX8_isStep.cls ≠ "java/lang/invoke/MethodHandle" ∧ yX8_isStep.cls ≠ "java/lang/invoke/VarHandle" ∧ (parseMethodDescriptor yX8_isStep.desc).map (fun d => d.parameters.length) = some 1 := by decide +kernel
set_option maxHeartbeats 4000000 in
set_option maxRecDepth 100000 in
theorem mX8_isStep (l : Launch) (D : va_G) (am : Nat → Nat) (cm : Nat → ClassId) (u : UM) (a1 : Int32)  (r0 : Int32) (hok : fX8_isStep u a1 = some r0) : Met l yX8_isStep (Cond.code yX8_isStep cX8_isStep 2 (some .boolean) :: wsG) rX8_isStep (va_Pc [.ref (am 16), .int a1] (wI D (wM am cm) (mC D am cm) u)) (va_Qi (fun (r : Int32) (u' : UM) => r = r0 ∧ u' = u) (wB D (wM am cm)) (AM am)) 0 0 (AM am) := by
  refine Met.ofW (cc := cX8_isStep) (maxL := 2) (ret := (some .boolean)) (by decide) rfl ?_
  intro p e s m args below meth c s₁ B hml hv
  have hx := B.exec
  have hb := B.bytes
  have hr := B.returns
  have hts := atoms_spec (ws := (Cond.code yX8_isStep cX8_isStep 2 (some .boolean) :: wsG)) B.pre
  have hg : ∀ w ∈ wsG, w.before args s = true := fun w h => hts w (List.mem_cons_of_mem _ h)
  have hown : s.vm.findClass RX8 = some m.cls := findClass_of_methodNamed B.named
  have hlocks := B.notSynchronized
  obtain ⟨ha, hP, hC⟩ := hv
  obtain ⟨hK, hJ⟩ := id hC
  have hS : va_S (AM am) s.heap s.heap [] := va_S.rf
  refine W.eq (show entryFrame m args 2 = entryFrame m ([.ref (am 16), .int a1] : List Value).toArray 2 by rw [ha]) ?_
  have hl := lv_entry ([.ref (am 16), .int a1]) (n := 2) (Nat.le_of_ble_eq_true rfl)
  rw [lg_entry_eq]
  generalize (lg_sl ([.ref (am 16), .int a1]) ++ List.replicate (2 - (lg_sl ([.ref (am 16), .int a1])).length) Slot.unset).toArray = ls at hl ⊢
  have hl : lv_has ls 2 [(0, .ref (am 16)), (1, .int a1)] := hl
  show W p l e rX8_isStep s m args below meth c s.heap [] 0 0 (MQ below (va_Qi (fun (r : Int32) (u' : UM) => r = r0 ∧ u' = u) (wB D (wM am cm)) (AM am)) args s 0 0 (AM am)) (F0 m 0 ls [])
  have hf := hok
  unfold fX8_isStep at hf
  refine lv_iload_n hx hb dX8_isStep_0 rfl (lv_at hl 1 rfl) ?_
  refine lv_i2l hx hb dX8_isStep_1 rfl ?_
  refine lv_lconst (v := 0) hx hb dX8_isStep_2 (by decide) ?_
  refine lv_aload_n hx hb dX8_isStep_3 rfl (lv_at hl 0 rfl) ?_
  refine va_get (D := D) (ci := 7) (v := .int u.2.2.2.1) (C := RX8) (T := TX8) (N := 20) hx hb hg inG_X8 hown hK hP 16 m_o16 rfl 2 (by decide) (hg _ kw_502) (fun _ h9 => h9) rfl dX8_isStep_4 ?_
  refine lv_iconst (v := 1) hx hb dX8_isStep_7 (by decide) ?_
  refine lv_isub hx hb dX8_isStep_8 ?_
  refine lv_i2l hx hb dX8_isStep_9 rfl ?_
  obtain ⟨r_1, hc_2, hf⟩ := bd_ok hf
  refine gcFi 3 ⟨hx, hb, hml, hown, hts⟩ (mX8_in l a1.toInt64 ((0 : Int64)) ((u.2.2.2.1 - ((1 : Int32))).toInt64) r_1 hc_2) (gG kw_569) kw_567 kw_568 kw_28 hX8_in ⟨rfl, rfl⟩ ⟨Nat.le_of_ble_eq_true rfl, Nat.le_of_ble_eq_true rfl⟩ ⟨Nat.zero_le _, Nat.zero_le _⟩ rfl hl.1 rfl (Nat.le_of_ble_eq_true rfl) dX8_isStep_10 ?_
  obtain ⟨hb_3, hf⟩ := gd_ok hf
  exact grZ hx hb hr hlocks (isb_ok hb_3) hP hS dX8_isStep_13 (Option.some.inj hf) rfl
abbrev rX8_step : Room := { frames := 1, cells := 0, slots := 0, locals := 25 }
theorem hX8_step : yX8_step.cls ≠ "java/lang/invoke/MethodHandle" ∧ yX8_step.cls ≠ "java/lang/invoke/VarHandle" ∧ (parseMethodDescriptor yX8_step.desc).map (fun d => d.parameters.length) = some 3 := by decide +kernel
set_option maxHeartbeats 4000000 in
set_option maxRecDepth 100000 in
theorem mX8_step (l : Launch) (D : va_G) (am : Nat → Nat) (cm : Nat → ClassId) (u : UM) (a1 : Int32) (a2 : Int32) (a3 : Int32)  (ru : Int32 × UM) (hok : fX8_step u a1 a2 a3 = some ru) : Met l yX8_step (Cond.code yX8_step cX8_step 4 (some .int) :: wsG) rX8_step (va_Pc [.ref (am 16), .int a1, .int a2, .int a3] (wI D (wM am cm) (mC D am cm) u)) (va_Qi (fun (r : Int32) (u' : UM) => r = ru.1 ∧ u' = ru.2) (wB D (wM am cm)) (AM am)) 0 0 (AM am) := by
  refine Met.ofW (cc := cX8_step) (maxL := 4) (ret := (some .int)) (by decide) rfl ?_
  intro p e s m args below meth c s₁ B hml hv
  have hx := B.exec
  have hb := B.bytes
  have hr := B.returns
  have hts := atoms_spec (ws := (Cond.code yX8_step cX8_step 4 (some .int) :: wsG)) B.pre
  have hg : ∀ w ∈ wsG, w.before args s = true := fun w h => hts w (List.mem_cons_of_mem _ h)
  have hown : s.vm.findClass RX8 = some m.cls := findClass_of_methodNamed B.named
  have hlocks := B.notSynchronized
  obtain ⟨ha, hP, hC⟩ := hv
  obtain ⟨hK, hJ⟩ := id hC
  have hS : va_S (AM am) s.heap s.heap [] := va_S.rf
  refine W.eq (show entryFrame m args 4 = entryFrame m ([.ref (am 16), .int a1, .int a2, .int a3] : List Value).toArray 4 by rw [ha]) ?_
  have hl := lv_entry ([.ref (am 16), .int a1, .int a2, .int a3]) (n := 4) (Nat.le_of_ble_eq_true rfl)
  rw [lg_entry_eq]
  generalize (lg_sl ([.ref (am 16), .int a1, .int a2, .int a3]) ++ List.replicate (4 - (lg_sl ([.ref (am 16), .int a1, .int a2, .int a3])).length) Slot.unset).toArray = ls at hl ⊢
  have hl : lv_has ls 4 [(0, .ref (am 16)), (1, .int a1), (2, .int a2), (3, .int a3)] := hl
  show W p l e rX8_step s m args below meth c s.heap [] 0 0 (MQ below (va_Qi (fun (r : Int32) (u' : UM) => r = ru.1 ∧ u' = ru.2) (wB D (wM am cm)) (AM am)) args s 0 0 (AM am)) (F0 m 0 ls [])
  have hf := hok
  unfold fX8_step at hf
  refine lv_aload_n hx hb dX8_step_0 rfl (lv_at hl 0 rfl) ?_
  refine lv_iconst (v := 0) hx hb dX8_step_1 (by decide) ?_
  refine m_putZ hx hb hg hown hK hP hJ hS (hg _ kw_500) dX8_step_2 (fun H locs hP hS => ?_)
  refine lv_iload_n hx hb dX8_step_5 rfl (lv_at hl 1 rfl) ?_
  refine lv_i2l hx hb dX8_step_6 rfl ?_
  refine lv_lconst (v := 1) hx hb dX8_step_7 (by decide) ?_
  refine lv_ldc2 (v := 1000) hx hb hown (hg _ kw_566) dX8_step_8 ?_
  obtain ⟨r_1, hc_2, hf⟩ := bd_ok hf
  refine gcFi 3 ⟨hx, hb, hml, hown, hts⟩ (mX8_in l a1.toInt64 ((1 : Int64)) ((1000 : Int64)) r_1 hc_2) (gG kw_569) kw_567 kw_568 kw_28 hX8_in ⟨rfl, rfl⟩ ⟨Nat.le_of_ble_eq_true rfl, Nat.le_of_ble_eq_true rfl⟩ ⟨Nat.zero_le _, Nat.zero_le _⟩ rfl hl.1 rfl (Nat.le_of_ble_eq_true rfl) dX8_step_11 ?_
  refine lv_if_eq (tgt := 44) hx hb dX8_step_14 (by decide) (fun c_3 => ?_) (fun c_3 => ?_)
  · skip
    replace hf := it_t c_3 hf
    refine lv_iconst (v := -1) hx hb dX8_step_44 (by decide) ?_
    exact grI hx hb hr hlocks hP hS dX8_step_45 (pf1 hf) (pf2 hf)
  · skip
    replace hf := it_f c_3 hf
    refine lv_iload_n hx hb dX8_step_17 rfl (lv_at hl 2 rfl) ?_
    refine lv_i2l hx hb dX8_step_18 rfl ?_
    refine lv_lconst (v := 0) hx hb dX8_step_19 (by decide) ?_
    refine lv_ldc2 (v := 400) hx hb hown (hg _ kw_570) dX8_step_20 ?_
    obtain ⟨r_4, hc_5, hf⟩ := bd_ok hf
    refine gcFi 3 ⟨hx, hb, hml, hown, hts⟩ (mX8_in l a2.toInt64 ((0 : Int64)) ((400 : Int64)) r_4 hc_5) (gG kw_569) kw_567 kw_568 kw_28 hX8_in ⟨rfl, rfl⟩ ⟨Nat.le_of_ble_eq_true rfl, Nat.le_of_ble_eq_true rfl⟩ ⟨Nat.zero_le _, Nat.zero_le _⟩ rfl hl.1 rfl (Nat.le_of_ble_eq_true rfl) dX8_step_23 ?_
    refine lv_if_eq (tgt := 44) hx hb dX8_step_26 (by decide) (fun c_6 => ?_) (fun c_6 => ?_)
    · skip
      replace hf := it_t c_6 hf
      refine lv_iconst (v := -1) hx hb dX8_step_44 (by decide) ?_
      exact grI hx hb hr hlocks hP hS dX8_step_45 (pf1 hf) (pf2 hf)
    · skip
      replace hf := it_f c_6 hf
      refine lv_iload_n hx hb dX8_step_29 rfl (lv_at hl 3 rfl) ?_
      refine lv_i2l hx hb dX8_step_30 rfl ?_
      refine lv_iload_n hx hb dX8_step_31 rfl (lv_at hl 2 rfl) ?_
      refine lv_iconst (v := 1) hx hb dX8_step_32 (by decide) ?_
      refine lv_iadd hx hb dX8_step_33 ?_
      refine lv_i2l hx hb dX8_step_34 rfl ?_
      refine lv_ldc2 (v := 500) hx hb hown (hg _ kw_571) dX8_step_35 ?_
      obtain ⟨r_7, hc_8, hf⟩ := bd_ok hf
      refine gcFi 3 ⟨hx, hb, hml, hown, hts⟩ (mX8_in l a3.toInt64 ((a2 + ((1 : Int32))).toInt64) ((500 : Int64)) r_7 hc_8) (gG kw_569) kw_567 kw_568 kw_28 hX8_in ⟨rfl, rfl⟩ ⟨Nat.le_of_ble_eq_true rfl, Nat.le_of_ble_eq_true rfl⟩ ⟨Nat.zero_le _, Nat.zero_le _⟩ rfl hl.1 rfl (Nat.le_of_ble_eq_true rfl) dX8_step_38 ?_
      refine lv_if_ne (tgt := 46) hx hb dX8_step_41 (by decide) (fun c_9 => ?_) (fun c_9 => ?_)
      · skip
        replace hf := it_f c_9 hf
        refine lv_aload_n hx hb dX8_step_46 rfl (lv_at hl 0 rfl) ?_
        refine va_get (D := D) (ci := 7) (v := .int u.2.2.2.1) (C := RX8) (T := TX8) (N := 20) hx hb hg inG_X8 hown hK hP 16 m_o16 rfl 2 (by decide) (hg _ kw_502) (fun _ h9 => h9) rfl dX8_step_47 ?_
        refine lv_iconst (v := 5) hx hb dX8_step_50 (by decide) ?_
        refine lv_icmp_ne (tgt := 57) hx hb dX8_step_51 (by decide) (fun c_10 => ?_) (fun c_10 => ?_)
        · skip
          replace hf := it_f c_10 hf
          refine lv_aload_n hx hb dX8_step_57 rfl (lv_at hl 0 rfl) ?_
          refine va_get (D := D) (ci := 7) (v := .ref (am 0)) (C := RX8) (T := TX8) (N := 20) hx hb hg inG_X8 hown hK hP 16 m_o16 rfl 3 (by decide) (hg _ kw_503) (fun _ h9 => h9) rfl dX8_step_58 ?_
          refine lv_aload_n hx hb dX8_step_61 rfl (lv_at hl 0 rfl) ?_
          refine va_get (D := D) (ci := 7) (v := .int u.2.2.2.1) (C := RX8) (T := TX8) (N := 20) hx hb hg inG_X8 hown hK hP 16 m_o16 rfl 2 (by decide) (hg _ kw_502) (fun _ h9 => h9) rfl dX8_step_62 ?_
          refine lv_iload_n hx hb dX8_step_65 rfl (lv_at hl 1 rfl) ?_
          obtain ⟨hb_11, hf⟩ := gd_ok hf
          refine m_iast hx hb hK hP hJ hS (by decide) (by decide) rfl hb_11 dX8_step_66 (fun H locs hP hS => ?_)
          refine lv_aload_n hx hb dX8_step_67 rfl (lv_at hl 0 rfl) ?_
          refine va_get (D := D) (ci := 7) (v := .ref (am 1)) (C := RX8) (T := TX8) (N := 20) hx hb hg inG_X8 hown hK hP 16 m_o16 rfl 4 (by decide) (hg _ kw_504) (fun _ h9 => h9) rfl dX8_step_68 ?_
          refine lv_aload_n hx hb dX8_step_71 rfl (lv_at hl 0 rfl) ?_
          refine va_get (D := D) (ci := 7) (v := .int ((mst u 0 u.2.2.2.1.toNatClampNeg a1).2.2.2.1)) (C := RX8) (T := TX8) (N := 20) hx hb hg inG_X8 hown hK hP 16 m_o16 rfl 2 (by decide) (hg _ kw_502) (fun _ h9 => h9) rfl dX8_step_72 ?_
          refine lv_iload_n hx hb dX8_step_75 rfl (lv_at hl 2 rfl) ?_
          obtain ⟨hb_12, hf⟩ := gd_ok hf
          refine m_iast hx hb hK hP hJ hS (by decide) (by decide) rfl hb_12 dX8_step_76 (fun H locs hP hS => ?_)
          refine lv_aload_n hx hb dX8_step_77 rfl (lv_at hl 0 rfl) ?_
          refine va_get (D := D) (ci := 7) (v := .ref (am 2)) (C := RX8) (T := TX8) (N := 20) hx hb hg inG_X8 hown hK hP 16 m_o16 rfl 5 (by decide) (hg _ kw_505) (fun _ h9 => h9) rfl dX8_step_78 ?_
          refine lv_aload_n hx hb dX8_step_81 rfl (lv_at hl 0 rfl) ?_
          refine va_get (D := D) (ci := 7) (v := .int ((mst (mst u 0 u.2.2.2.1.toNatClampNeg a1) 1 ((mst u 0 u.2.2.2.1.toNatClampNeg a1).2.2.2.1).toNatClampNeg a2).2.2.2.1)) (C := RX8) (T := TX8) (N := 20) hx hb hg inG_X8 hown hK hP 16 m_o16 rfl 2 (by decide) (hg _ kw_502) (fun _ h9 => h9) rfl dX8_step_82 ?_
          refine lv_iload_n hx hb dX8_step_85 rfl (lv_at hl 3 rfl) ?_
          obtain ⟨hb_13, hf⟩ := gd_ok hf
          refine m_iast hx hb hK hP hJ hS (by decide) (by decide) rfl hb_13 dX8_step_86 (fun H locs hP hS => ?_)
          refine lv_aload_n hx hb dX8_step_87 rfl (lv_at hl 0 rfl) ?_
          refine va_get (D := D) (ci := 7) (v := .ref (am 3)) (C := RX8) (T := TX8) (N := 20) hx hb hg inG_X8 hown hK hP 16 m_o16 rfl 6 (by decide) (hg _ kw_506) (fun _ h9 => h9) rfl dX8_step_88 ?_
          refine lv_aload_n hx hb dX8_step_91 rfl (lv_at hl 0 rfl) ?_
          refine va_get (D := D) (ci := 7) (v := .int ((mst (mst (mst u 0 u.2.2.2.1.toNatClampNeg a1) 1 ((mst u 0 u.2.2.2.1.toNatClampNeg a1).2.2.2.1).toNatClampNeg a2) 2 ((mst (mst u 0 u.2.2.2.1.toNatClampNeg a1) 1 ((mst u 0 u.2.2.2.1.toNatClampNeg a1).2.2.2.1).toNatClampNeg a2).2.2.2.1).toNatClampNeg a3).2.2.2.1)) (C := RX8) (T := TX8) (N := 20) hx hb hg inG_X8 hown hK hP 16 m_o16 rfl 2 (by decide) (hg _ kw_502) (fun _ h9 => h9) rfl dX8_step_92 ?_
          refine lv_iconst (v := 1) hx hb dX8_step_95 (by decide) ?_
          obtain ⟨hb_14, hf⟩ := gd_ok hf
          refine m_iast hx hb hK hP hJ hS (by decide) (by decide) rfl hb_14 dX8_step_96 (fun H locs hP hS => ?_)
          refine lv_aload_n hx hb dX8_step_97 rfl (lv_at hl 0 rfl) ?_
          refine lv_dup hx hb dX8_step_98 rfl ?_
          refine va_get (D := D) (ci := 7) (v := .int ((mst (mst (mst (mst u 0 u.2.2.2.1.toNatClampNeg a1) 1 ((mst u 0 u.2.2.2.1.toNatClampNeg a1).2.2.2.1).toNatClampNeg a2) 2 ((mst (mst u 0 u.2.2.2.1.toNatClampNeg a1) 1 ((mst u 0 u.2.2.2.1.toNatClampNeg a1).2.2.2.1).toNatClampNeg a2).2.2.2.1).toNatClampNeg a3) 3 ((mst (mst (mst u 0 u.2.2.2.1.toNatClampNeg a1) 1 ((mst u 0 u.2.2.2.1.toNatClampNeg a1).2.2.2.1).toNatClampNeg a2) 2 ((mst (mst u 0 u.2.2.2.1.toNatClampNeg a1) 1 ((mst u 0 u.2.2.2.1.toNatClampNeg a1).2.2.2.1).toNatClampNeg a2).2.2.2.1).toNatClampNeg a3).2.2.2.1).toNatClampNeg ((1 : Int32))).2.2.2.1)) (C := RX8) (T := TX8) (N := 20) hx hb hg inG_X8 hown hK hP 16 m_o16 rfl 2 (by decide) (hg _ kw_502) (fun _ h9 => h9) rfl dX8_step_99 ?_
          refine lv_iconst (v := 1) hx hb dX8_step_102 (by decide) ?_
          refine lv_iadd hx hb dX8_step_103 ?_
          refine m_putN hx hb hg hown hK hP hJ hS (hg _ kw_502) dX8_step_104 (fun H locs hP hS => ?_)
          refine lv_aload_n hx hb dX8_step_107 rfl (lv_at hl 0 rfl) ?_
          refine va_get (D := D) (ci := 7) (v := .int ((msz (mst (mst (mst (mst u 0 u.2.2.2.1.toNatClampNeg a1) 1 ((mst u 0 u.2.2.2.1.toNatClampNeg a1).2.2.2.1).toNatClampNeg a2) 2 ((mst (mst u 0 u.2.2.2.1.toNatClampNeg a1) 1 ((mst u 0 u.2.2.2.1.toNatClampNeg a1).2.2.2.1).toNatClampNeg a2).2.2.2.1).toNatClampNeg a3) 3 ((mst (mst (mst u 0 u.2.2.2.1.toNatClampNeg a1) 1 ((mst u 0 u.2.2.2.1.toNatClampNeg a1).2.2.2.1).toNatClampNeg a2) 2 ((mst (mst u 0 u.2.2.2.1.toNatClampNeg a1) 1 ((mst u 0 u.2.2.2.1.toNatClampNeg a1).2.2.2.1).toNatClampNeg a2).2.2.2.1).toNatClampNeg a3).2.2.2.1).toNatClampNeg ((1 : Int32))) (((mst (mst (mst (mst u 0 u.2.2.2.1.toNatClampNeg a1) 1 ((mst u 0 u.2.2.2.1.toNatClampNeg a1).2.2.2.1).toNatClampNeg a2) 2 ((mst (mst u 0 u.2.2.2.1.toNatClampNeg a1) 1 ((mst u 0 u.2.2.2.1.toNatClampNeg a1).2.2.2.1).toNatClampNeg a2).2.2.2.1).toNatClampNeg a3) 3 ((mst (mst (mst u 0 u.2.2.2.1.toNatClampNeg a1) 1 ((mst u 0 u.2.2.2.1.toNatClampNeg a1).2.2.2.1).toNatClampNeg a2) 2 ((mst (mst u 0 u.2.2.2.1.toNatClampNeg a1) 1 ((mst u 0 u.2.2.2.1.toNatClampNeg a1).2.2.2.1).toNatClampNeg a2).2.2.2.1).toNatClampNeg a3).2.2.2.1).toNatClampNeg ((1 : Int32))).2.2.2.1) + ((1 : Int32)))).2.2.2.1)) (C := RX8) (T := TX8) (N := 20) hx hb hg inG_X8 hown hK hP 16 m_o16 rfl 2 (by decide) (hg _ kw_502) (fun _ h9 => h9) rfl dX8_step_108 ?_
          refine lv_iconst (v := 1) hx hb dX8_step_111 (by decide) ?_
          refine lv_isub hx hb dX8_step_112 ?_
          exact grI hx hb hr hlocks hP hS dX8_step_113 (pf1 hf) (pf2 hf)
        · skip
          replace hf := it_t c_10 hf
          refine lv_bipush (v := -3) hx hb dX8_step_54 (by decide) ?_
          exact grI hx hb hr hlocks hP hS dX8_step_56 (pf1 hf) (pf2 hf)
      · skip
        replace hf := it_t c_9 hf
        refine lv_iconst (v := -1) hx hb dX8_step_44 (by decide) ?_
        exact grI hx hb hr hlocks hP hS dX8_step_45 (pf1 hf) (pf2 hf)
abbrev rX8_change : Room := { frames := 2, cells := 0, slots := 0, locals := 46 }
theorem hX8_change : yX8_change.cls ≠ "java/lang/invoke/MethodHandle" ∧ yX8_change.cls ≠ "java/lang/invoke/VarHandle" ∧ (parseMethodDescriptor yX8_change.desc).map (fun d => d.parameters.length) = some 3 := by decide +kernel
set_option maxHeartbeats 4000000 in
set_option maxRecDepth 100000 in
theorem mX8_change (l : Launch) (D : va_G) (am : Nat → Nat) (cm : Nat → ClassId) (u : UM) (a1 : Int32) (a2 : Int32) (a3 : Int32)  (ru : Int32 × UM) (hok : fX8_change u a1 a2 a3 = some ru) : Met l yX8_change (Cond.code yX8_change cX8_change 5 (some .int) :: wsG) rX8_change (va_Pc [.ref (am 16), .int a1, .int a2, .int a3] (wI D (wM am cm) (mC D am cm) u)) (va_Qi (fun (r : Int32) (u' : UM) => r = ru.1 ∧ u' = ru.2) (wB D (wM am cm)) (AM am)) 0 0 (AM am) := by
  refine Met.ofW (cc := cX8_change) (maxL := 5) (ret := (some .int)) (by decide) rfl ?_
  intro p e s m args below meth c s₁ B hml hv
  have hx := B.exec
  have hb := B.bytes
  have hr := B.returns
  have hts := atoms_spec (ws := (Cond.code yX8_change cX8_change 5 (some .int) :: wsG)) B.pre
  have hg : ∀ w ∈ wsG, w.before args s = true := fun w h => hts w (List.mem_cons_of_mem _ h)
  have hown : s.vm.findClass RX8 = some m.cls := findClass_of_methodNamed B.named
  have hlocks := B.notSynchronized
  obtain ⟨ha, hP, hC⟩ := hv
  obtain ⟨hK, hJ⟩ := id hC
  have hS : va_S (AM am) s.heap s.heap [] := va_S.rf
  refine W.eq (show entryFrame m args 5 = entryFrame m ([.ref (am 16), .int a1, .int a2, .int a3] : List Value).toArray 5 by rw [ha]) ?_
  have hl := lv_entry ([.ref (am 16), .int a1, .int a2, .int a3]) (n := 5) (Nat.le_of_ble_eq_true rfl)
  rw [lg_entry_eq]
  generalize (lg_sl ([.ref (am 16), .int a1, .int a2, .int a3]) ++ List.replicate (5 - (lg_sl ([.ref (am 16), .int a1, .int a2, .int a3])).length) Slot.unset).toArray = ls at hl ⊢
  have hl : lv_has ls 5 [(0, .ref (am 16)), (1, .int a1), (2, .int a2), (3, .int a3)] := hl
  show W p l e rX8_change s m args below meth c s.heap [] 0 0 (MQ below (va_Qi (fun (r : Int32) (u' : UM) => r = ru.1 ∧ u' = ru.2) (wB D (wM am cm)) (AM am)) args s 0 0 (AM am)) (F0 m 0 ls [])
  have hf := hok
  unfold fX8_change at hf
  refine lv_aload_n hx hb dX8_change_0 rfl (lv_at hl 0 rfl) ?_
  refine lv_iconst (v := 0) hx hb dX8_change_1 (by decide) ?_
  refine m_putZ hx hb hg hown hK hP hJ hS (hg _ kw_500) dX8_change_2 (fun H locs hP hS => ?_)
  refine lv_aload_n hx hb dX8_change_5 rfl (lv_at hl 0 rfl) ?_
  refine lv_iload_n hx hb dX8_change_6 rfl (lv_at hl 1 rfl) ?_
  obtain ⟨r_1, hc_2, hf⟩ := bd_ok hf
  refine gcVi 1 (mC_ok D am cm hJ) hC ⟨hx, hb, hml, hown, hts⟩ (mX8_isStep l D am cm u a1 r_1 hc_2) (gG kw_579) kw_576 kw_578 kw_8 kw_28 hX8_isStep ⟨rfl, rfl⟩ ⟨Nat.le_of_ble_eq_true rfl, Nat.le_of_ble_eq_true rfl⟩ (x_rec (C := RX8) (T := TX8) (N := 20) (ci := 7) hK hP rfl m_o16) hP hS ⟨Nat.zero_le _, Nat.zero_le _⟩ rfl hl.1 rfl (Nat.le_of_ble_eq_true rfl) dX8_change_7 (fun H locs hP hS => ?_)
  refine lv_if_eq (tgt := 53) hx hb dX8_change_10 (by decide) (fun c_3 => ?_) (fun c_3 => ?_)
  · skip
    replace hf := it_t c_3 hf
    refine lv_iconst (v := -1) hx hb dX8_change_53 (by decide) ?_
    exact grI hx hb hr hlocks hP hS dX8_change_54 (pf1 hf) (pf2 hf)
  · skip
    replace hf := it_f c_3 hf
    refine lv_iload_n hx hb dX8_change_13 rfl (lv_at hl 2 rfl) ?_
    refine lv_i2l hx hb dX8_change_14 rfl ?_
    refine lv_lconst (v := 0) hx hb dX8_change_15 (by decide) ?_
    refine lv_lconst (v := 1) hx hb dX8_change_16 (by decide) ?_
    obtain ⟨r_4, hc_5, hf⟩ := bd_ok hf
    refine gcFi 3 ⟨hx, hb, hml, hown, hts⟩ (mX8_in l a2.toInt64 ((0 : Int64)) ((1 : Int64)) r_4 hc_5) (gG kw_569) kw_567 kw_568 kw_28 hX8_in ⟨rfl, rfl⟩ ⟨Nat.le_of_ble_eq_true rfl, Nat.le_of_ble_eq_true rfl⟩ ⟨Nat.zero_le _, Nat.zero_le _⟩ rfl hl.1 rfl (Nat.le_of_ble_eq_true rfl) dX8_change_17 ?_
    refine lv_if_eq (tgt := 53) hx hb dX8_change_20 (by decide) (fun c_6 => ?_) (fun c_6 => ?_)
    · skip
      replace hf := it_t c_6 hf
      refine lv_iconst (v := -1) hx hb dX8_change_53 (by decide) ?_
      exact grI hx hb hr hlocks hP hS dX8_change_54 (pf1 hf) (pf2 hf)
    · skip
      replace hf := it_f c_6 hf
      refine lv_iload_n hx hb dX8_change_23 rfl (lv_at hl 3 rfl) ?_
      refine lv_i2l hx hb dX8_change_24 rfl ?_
      refine lv_iload_n hx hb dX8_change_25 rfl (lv_at hl 2 rfl) ?_
      obtain ⟨t_7, hq_8, hf⟩ := bd_ok hf
      have hJ_9 : ∀ (H : Heap) (locs : List Loc) (ls : Array Slot), va_P D vwCl (wM am cm u) H → va_S (AM am) s.heap H locs → lv_has ls 5 [(0, .ref (am 16)), (1, .int a1), (2, .int a2), (3, .int a3)] → W p l e rX8_change s m args below meth c H locs 0 0 (MQ below (va_Qi (fun (r : Int32) (u' : UM) => r = ru.1 ∧ u' = ru.2) (wB D (wM am cm)) (AM am)) args s 0 0 (AM am)) (F0 m 34 ls [.long t_7, .long a3.toInt64]) := by
        intro H locs ls hP hS hl
        refine lv_iload_n hx hb dX8_change_34 rfl (lv_at hl 2 rfl) ?_
        obtain ⟨t_10, hq_11, hf⟩ := bd_ok hf
        have hJ_12 : ∀ (H : Heap) (locs : List Loc) (ls : Array Slot), va_P D vwCl (wM am cm u) H → va_S (AM am) s.heap H locs → lv_has ls 5 [(0, .ref (am 16)), (1, .int a1), (2, .int a2), (3, .int a3)] → W p l e rX8_change s m args below meth c H locs 0 0 (MQ below (va_Qi (fun (r : Int32) (u' : UM) => r = ru.1 ∧ u' = ru.2) (wB D (wM am cm)) (AM am)) args s 0 0 (AM am)) (F0 m 47 ls [.long t_10, .long t_7, .long a3.toInt64]) := by
          intro H locs ls hP hS hl
          obtain ⟨r_13, hc_14, hf⟩ := bd_ok hf
          refine gcFi 3 ⟨hx, hb, hml, hown, hts⟩ (mX8_in l a3.toInt64 t_7 t_10 r_13 hc_14) (gG kw_569) kw_567 kw_568 kw_28 hX8_in ⟨rfl, rfl⟩ ⟨Nat.le_of_ble_eq_true rfl, Nat.le_of_ble_eq_true rfl⟩ ⟨Nat.zero_le _, Nat.zero_le _⟩ rfl hl.1 rfl (Nat.le_of_ble_eq_true rfl) dX8_change_47 ?_
          refine lv_if_ne (tgt := 55) hx hb dX8_change_50 (by decide) (fun c_15 => ?_) (fun c_15 => ?_)
          · skip
            replace hf := it_f c_15 hf
            refine lv_iload_n hx hb dX8_change_55 rfl (lv_at hl 2 rfl) ?_
            obtain ⟨t_16, hq_17, hf⟩ := bd_ok hf
            have hJ_18 : ∀ (H : Heap) (locs : List Loc) (ls : Array Slot), va_P D vwCl (wM am cm u) H → va_S (AM am) s.heap H locs → lv_has ls 5 [(0, .ref (am 16)), (1, .int a1), (2, .int a2), (3, .int a3)] → W p l e rX8_change s m args below meth c H locs 0 0 (MQ below (va_Qi (fun (r : Int32) (u' : UM) => r = ru.1 ∧ u' = ru.2) (wB D (wM am cm)) (AM am)) args s 0 0 (AM am)) (F0 m 74 ls [.int t_16]) := by
              intro H locs ls hP hS hl
              refine lv_istore (lv' := [(4, .int t_16), (0, .ref (am 16)), (1, .int a1), (2, .int a2), (3, .int a3)]) hx hb dX8_change_74 hl (by decide) rfl (fun ls hl => ?_)
              refine lv_aload_n hx hb dX8_change_76 rfl (lv_at hl 1 rfl) ?_
              refine va_get (D := D) (ci := 7) (v := .ref (am 0)) (C := RX8) (T := TX8) (N := 20) hx hb hg inG_X8 hown hK hP 16 m_o16 rfl 3 (by decide) (hg _ kw_503) (fun _ h9 => h9) rfl dX8_change_77 ?_
              refine lv_iload_n hx hb dX8_change_80 rfl (lv_at hl 2 rfl) ?_
              refine lv_iload_n hx hb dX8_change_81 rfl (lv_at hl 3 rfl) ?_
              obtain ⟨t_19, hq_20, hf⟩ := bd_ok hf
              have hJ_21 : ∀ (H : Heap) (locs : List Loc) (ls : Array Slot), va_P D vwCl (wM am cm u) H → va_S (AM am) s.heap H locs → lv_has ls 5 [(0, .ref (am 16)), (1, .int a1), (2, .int a2), (3, .int a3), (4, .int t_16)] → W p l e rX8_change s m args below meth c H locs 0 0 (MQ below (va_Qi (fun (r : Int32) (u' : UM) => r = ru.1 ∧ u' = ru.2) (wB D (wM am cm)) (AM am)) args s 0 0 (AM am)) (F0 m 95 ls [.int t_19, .int a1, .ref (am 0)]) := by
                intro H locs ls hP hS hl
                obtain ⟨hb_22, hf⟩ := gd_ok hf
                refine m_iast hx hb hK hP hJ hS (by decide) (by decide) rfl hb_22 dX8_change_95 (fun H locs hP hS => ?_)
                refine lv_aload_n hx hb dX8_change_96 rfl (lv_at hl 0 rfl) ?_
                refine va_get (D := D) (ci := 7) (v := .ref (am 3)) (C := RX8) (T := TX8) (N := 20) hx hb hg inG_X8 hown hK hP 16 m_o16 rfl 6 (by decide) (hg _ kw_506) (fun _ h9 => h9) rfl dX8_change_97 ?_
                refine lv_iload_n hx hb dX8_change_100 rfl (lv_at hl 1 rfl) ?_
                refine lv_iload_n hx hb dX8_change_101 rfl (lv_at hl 2 rfl) ?_
                refine lv_iconst (v := 1) hx hb dX8_change_102 (by decide) ?_
                refine lv_icmp_ne (tgt := 110) hx hb dX8_change_103 (by decide) (fun c_23 => ?_) (fun c_23 => ?_)
                · skip
                  replace hf := it_f c_23 hf
                  refine lv_aload_n hx hb dX8_change_110 rfl (lv_at hl 0 rfl) ?_
                  refine va_get (D := D) (ci := 7) (v := .ref (am 3)) (C := RX8) (T := TX8) (N := 20) hx hb hg inG_X8 hown hK hP 16 m_o16 rfl 6 (by decide) (hg _ kw_506) (fun _ h9 => h9) rfl dX8_change_111 ?_
                  refine lv_iload_n hx hb dX8_change_114 rfl (lv_at hl 1 rfl) ?_
                  refine m_iald hx hb hK hP (by decide) (by decide) rfl hb_22 dX8_change_115 ?_
                  refine m_iast hx hb hK hP hJ hS (by decide) (by decide) rfl hb_22 dX8_change_116 (fun H locs hP hS => ?_)
                  refine lv_iload hx hb dX8_change_117 (lv_at hl 4 rfl) ?_
                  exact grI hx hb hr hlocks hP hS dX8_change_119 (pf1 hf) (pf2 hf)
                · skip
                  replace hf := it_t c_23 hf
                  refine lv_iload_n hx hb dX8_change_106 rfl (lv_at hl 3 rfl) ?_
                  refine lv_goto (tgt := 116) hx hb dX8_change_107 (by decide) ?_
                  refine m_iast hx hb hK hP hJ hS (by decide) (by decide) rfl hb_22 dX8_change_116 (fun H locs hP hS => ?_)
                  refine lv_iload hx hb dX8_change_117 (lv_at hl 4 rfl) ?_
                  exact grI hx hb hr hlocks hP hS dX8_change_119 (pf1 hf) (pf2 hf)
              clear hf
              have hf := hq_20
              refine lv_if_ne (tgt := 89) hx hb dX8_change_82 (by decide) (fun c_24 => ?_) (fun c_24 => ?_)
              · skip
                replace hf := it_f c_24 hf
                refine lv_aload_n hx hb dX8_change_89 rfl (lv_at hl 1 rfl) ?_
                refine va_get (D := D) (ci := 7) (v := .ref (am 0)) (C := RX8) (T := TX8) (N := 20) hx hb hg inG_X8 hown hK hP 16 m_o16 rfl 3 (by decide) (hg _ kw_503) (fun _ h9 => h9) rfl dX8_change_90 ?_
                refine lv_iload_n hx hb dX8_change_93 rfl (lv_at hl 2 rfl) ?_
                obtain ⟨hb_25, hf⟩ := gd_ok hf
                refine m_iald hx hb hK hP (by decide) (by decide) rfl hb_25 dX8_change_94 ?_
                have ht := Option.some.inj hf
                subst ht
                exact hJ_21 _ _ _ hP hS (lv_sub hl [1, 2, 3, 4, 0] rfl)
              · skip
                replace hf := it_t c_24 hf
                refine lv_iload_n hx hb dX8_change_85 rfl (lv_at hl 4 rfl) ?_
                refine lv_goto (tgt := 95) hx hb dX8_change_86 (by decide) ?_
                have ht := Option.some.inj hf
                subst ht
                exact hJ_21 _ _ _ hP hS (lv_sub hl [1, 2, 3, 4, 0] rfl)
            clear hf
            have hf := hq_17
            refine lv_if_ne (tgt := 68) hx hb dX8_change_56 (by decide) (fun c_26 => ?_) (fun c_26 => ?_)
            · skip
              replace hf := it_f c_26 hf
              refine lv_aload_n hx hb dX8_change_68 rfl (lv_at hl 0 rfl) ?_
              refine va_get (D := D) (ci := 7) (v := .ref (am 3)) (C := RX8) (T := TX8) (N := 20) hx hb hg inG_X8 hown hK hP 16 m_o16 rfl 6 (by decide) (hg _ kw_506) (fun _ h9 => h9) rfl dX8_change_69 ?_
              refine lv_iload_n hx hb dX8_change_72 rfl (lv_at hl 1 rfl) ?_
              obtain ⟨hb_27, hf⟩ := gd_ok hf
              refine m_iald hx hb hK hP (by decide) (by decide) rfl hb_27 dX8_change_73 ?_
              have ht := Option.some.inj hf
              subst ht
              exact hJ_18 _ _ _ hP hS (lv_sub hl [0, 1, 2, 3] rfl)
            · skip
              replace hf := it_t c_26 hf
              refine lv_aload_n hx hb dX8_change_59 rfl (lv_at hl 0 rfl) ?_
              refine va_get (D := D) (ci := 7) (v := .ref (am 0)) (C := RX8) (T := TX8) (N := 20) hx hb hg inG_X8 hown hK hP 16 m_o16 rfl 3 (by decide) (hg _ kw_503) (fun _ h9 => h9) rfl dX8_change_60 ?_
              refine lv_iload_n hx hb dX8_change_63 rfl (lv_at hl 1 rfl) ?_
              obtain ⟨hb_28, hf⟩ := gd_ok hf
              refine m_iald hx hb hK hP (by decide) (by decide) rfl hb_28 dX8_change_64 ?_
              refine lv_goto (tgt := 74) hx hb dX8_change_65 (by decide) ?_
              have ht := Option.some.inj hf
              subst ht
              exact hJ_18 _ _ _ hP hS (lv_sub hl [0, 1, 2, 3] rfl)
          · skip
            replace hf := it_t c_15 hf
            refine lv_iconst (v := -1) hx hb dX8_change_53 (by decide) ?_
            exact grI hx hb hr hlocks hP hS dX8_change_54 (pf1 hf) (pf2 hf)
        clear hf
        have hf := hq_11
        refine lv_if_ne (tgt := 44) hx hb dX8_change_35 (by decide) (fun c_29 => ?_) (fun c_29 => ?_)
        · skip
          replace hf := it_f c_29 hf
          refine lv_ldc2 (v := 9) hx hb hown (hg _ kw_580) dX8_change_44 ?_
          have ht := Option.some.inj hf
          subst ht
          exact hJ_12 _ _ _ hP hS (lv_sub hl [0, 1, 2, 3] rfl)
        · skip
          replace hf := it_t c_29 hf
          refine lv_ldc2 (v := 1000) hx hb hown (hg _ kw_566) dX8_change_38 ?_
          refine lv_goto (tgt := 47) hx hb dX8_change_41 (by decide) ?_
          have ht := Option.some.inj hf
          subst ht
          exact hJ_12 _ _ _ hP hS (lv_sub hl [0, 1, 2, 3] rfl)
      clear hf
      have hf := hq_8
      refine lv_if_ne (tgt := 33) hx hb dX8_change_26 (by decide) (fun c_30 => ?_) (fun c_30 => ?_)
      · skip
        replace hf := it_f c_30 hf
        refine lv_lconst (v := 0) hx hb dX8_change_33 (by decide) ?_
        have ht := Option.some.inj hf
        subst ht
        exact hJ_9 _ _ _ hP hS (lv_sub hl [0, 1, 2, 3] rfl)
      · skip
        replace hf := it_t c_30 hf
        refine lv_lconst (v := 1) hx hb dX8_change_29 (by decide) ?_
        refine lv_goto (tgt := 34) hx hb dX8_change_30 (by decide) ?_
        have ht := Option.some.inj hf
        subst ht
        exact hJ_9 _ _ _ hP hS (lv_sub hl [0, 1, 2, 3] rfl)
abbrev rX8_set : Room := { frames := 1, cells := 0, slots := 0, locals := 25 }
theorem hX8_set : yX8_set.cls ≠ "java/lang/invoke/MethodHandle" ∧ yX8_set.cls ≠ "java/lang/invoke/VarHandle" ∧ (parseMethodDescriptor yX8_set.desc).map (fun d => d.parameters.length) = some 2 := by decide +kernel
set_option maxHeartbeats 4000000 in
set_option maxRecDepth 100000 in
theorem mX8_set (l : Launch) (D : va_G) (am : Nat → Nat) (cm : Nat → ClassId) (u : UM) (a1 : Int32) (a2 : Int32)  (ru : Int32 × UM) (hok : fX8_set u a1 a2 = some ru) : Met l yX8_set (Cond.code yX8_set cX8_set 4 (some .int) :: wsG) rX8_set (va_Pc [.ref (am 16), .int a1, .int a2] (wI D (wM am cm) (mC D am cm) u)) (va_Qi (fun (r : Int32) (u' : UM) => r = ru.1 ∧ u' = ru.2) (wB D (wM am cm)) (AM am)) 0 0 (AM am) := by
  refine Met.ofW (cc := cX8_set) (maxL := 4) (ret := (some .int)) (by decide) rfl ?_
  intro p e s m args below meth c s₁ B hml hv
  have hx := B.exec
  have hb := B.bytes
  have hr := B.returns
  have hts := atoms_spec (ws := (Cond.code yX8_set cX8_set 4 (some .int) :: wsG)) B.pre
  have hg : ∀ w ∈ wsG, w.before args s = true := fun w h => hts w (List.mem_cons_of_mem _ h)
  have hown : s.vm.findClass RX8 = some m.cls := findClass_of_methodNamed B.named
  have hlocks := B.notSynchronized
  obtain ⟨ha, hP, hC⟩ := hv
  obtain ⟨hK, hJ⟩ := id hC
  have hS : va_S (AM am) s.heap s.heap [] := va_S.rf
  refine W.eq (show entryFrame m args 4 = entryFrame m ([.ref (am 16), .int a1, .int a2] : List Value).toArray 4 by rw [ha]) ?_
  have hl := lv_entry ([.ref (am 16), .int a1, .int a2]) (n := 4) (Nat.le_of_ble_eq_true rfl)
  rw [lg_entry_eq]
  generalize (lg_sl ([.ref (am 16), .int a1, .int a2]) ++ List.replicate (4 - (lg_sl ([.ref (am 16), .int a1, .int a2])).length) Slot.unset).toArray = ls at hl ⊢
  have hl : lv_has ls 4 [(0, .ref (am 16)), (1, .int a1), (2, .int a2)] := hl
  show W p l e rX8_set s m args below meth c s.heap [] 0 0 (MQ below (va_Qi (fun (r : Int32) (u' : UM) => r = ru.1 ∧ u' = ru.2) (wB D (wM am cm)) (AM am)) args s 0 0 (AM am)) (F0 m 0 ls [])
  have hf := hok
  unfold fX8_set at hf
  refine lv_aload_n hx hb dX8_set_0 rfl (lv_at hl 0 rfl) ?_
  refine lv_iconst (v := 0) hx hb dX8_set_1 (by decide) ?_
  refine m_putZ hx hb hg hown hK hP hJ hS (hg _ kw_500) dX8_set_2 (fun H locs hP hS => ?_)
  refine lv_iload_n hx hb dX8_set_5 rfl (lv_at hl 1 rfl) ?_
  refine lv_i2l hx hb dX8_set_6 rfl ?_
  refine lv_lconst (v := 0) hx hb dX8_set_7 (by decide) ?_
  refine lv_ldc2 (v := 2) hx hb hown (hg _ kw_585) dX8_set_8 ?_
  obtain ⟨r_1, hc_2, hf⟩ := bd_ok hf
  refine gcFi 3 ⟨hx, hb, hml, hown, hts⟩ (mX8_in l a1.toInt64 ((0 : Int64)) ((2 : Int64)) r_1 hc_2) (gG kw_569) kw_567 kw_568 kw_28 hX8_in ⟨rfl, rfl⟩ ⟨Nat.le_of_ble_eq_true rfl, Nat.le_of_ble_eq_true rfl⟩ ⟨Nat.zero_le _, Nat.zero_le _⟩ rfl hl.1 rfl (Nat.le_of_ble_eq_true rfl) dX8_set_11 ?_
  refine lv_if_eq (tgt := 50) hx hb dX8_set_14 (by decide) (fun c_3 => ?_) (fun c_3 => ?_)
  · skip
    replace hf := it_t c_3 hf
    refine lv_iconst (v := -1) hx hb dX8_set_50 (by decide) ?_
    exact grI hx hb hr hlocks hP hS dX8_set_51 (pf1 hf) (pf2 hf)
  · skip
    replace hf := it_f c_3 hf
    refine lv_iload_n hx hb dX8_set_17 rfl (lv_at hl 2 rfl) ?_
    refine lv_i2l hx hb dX8_set_18 rfl ?_
    refine lv_lconst (v := 0) hx hb dX8_set_19 (by decide) ?_
    refine lv_iload_n hx hb dX8_set_20 rfl (lv_at hl 1 rfl) ?_
    obtain ⟨t_4, hq_5, hf⟩ := bd_ok hf
    have hJ_6 : ∀ (H : Heap) (locs : List Loc) (ls : Array Slot), va_P D vwCl (wM am cm u) H → va_S (AM am) s.heap H locs → lv_has ls 4 [(0, .ref (am 16)), (1, .int a1), (2, .int a2)] → W p l e rX8_set s m args below meth c H locs 0 0 (MQ below (va_Qi (fun (r : Int32) (u' : UM) => r = ru.1 ∧ u' = ru.2) (wB D (wM am cm)) (AM am)) args s 0 0 (AM am)) (F0 m 44 ls [.long t_4, .long ((0 : Int64)), .long a2.toInt64]) := by
      intro H locs ls hP hS hl
      obtain ⟨r_7, hc_8, hf⟩ := bd_ok hf
      refine gcFi 3 ⟨hx, hb, hml, hown, hts⟩ (mX8_in l a2.toInt64 ((0 : Int64)) t_4 r_7 hc_8) (gG kw_569) kw_567 kw_568 kw_28 hX8_in ⟨rfl, rfl⟩ ⟨Nat.le_of_ble_eq_true rfl, Nat.le_of_ble_eq_true rfl⟩ ⟨Nat.zero_le _, Nat.zero_le _⟩ rfl hl.1 rfl (Nat.le_of_ble_eq_true rfl) dX8_set_44 ?_
      refine lv_if_ne (tgt := 52) hx hb dX8_set_47 (by decide) (fun c_9 => ?_) (fun c_9 => ?_)
      · skip
        replace hf := it_f c_9 hf
        refine lv_aload_n hx hb dX8_set_52 rfl (lv_at hl 0 rfl) ?_
        refine va_get (D := D) (ci := 7) (v := .ref (am 4)) (C := RX8) (T := TX8) (N := 20) hx hb hg inG_X8 hown hK hP 16 m_o16 rfl 7 (by decide) (hg _ kw_507) (fun _ h9 => h9) rfl dX8_set_53 ?_
        refine lv_iload_n hx hb dX8_set_56 rfl (lv_at hl 1 rfl) ?_
        obtain ⟨hb_10, hf⟩ := gd_ok hf
        refine m_iald hx hb hK hP (by decide) (by decide) rfl hb_10 dX8_set_57 ?_
        refine lv_istore_n (lv' := [(3, .int (u.1 4 a1.toNatClampNeg)), (0, .ref (am 16)), (1, .int a1), (2, .int a2)]) hx hb dX8_set_58 rfl hl (by decide) rfl (fun ls hl => ?_)
        refine lv_aload_n hx hb dX8_set_59 rfl (lv_at hl 1 rfl) ?_
        refine va_get (D := D) (ci := 7) (v := .ref (am 4)) (C := RX8) (T := TX8) (N := 20) hx hb hg inG_X8 hown hK hP 16 m_o16 rfl 7 (by decide) (hg _ kw_507) (fun _ h9 => h9) rfl dX8_set_60 ?_
        refine lv_iload_n hx hb dX8_set_63 rfl (lv_at hl 2 rfl) ?_
        refine lv_iload_n hx hb dX8_set_64 rfl (lv_at hl 3 rfl) ?_
        refine m_iast hx hb hK hP hJ hS (by decide) (by decide) rfl hb_10 dX8_set_65 (fun H locs hP hS => ?_)
        refine lv_iload_n hx hb dX8_set_66 rfl (lv_at hl 0 rfl) ?_
        exact grI hx hb hr hlocks hP hS dX8_set_67 (pf1 hf) (pf2 hf)
      · skip
        replace hf := it_t c_9 hf
        refine lv_iconst (v := -1) hx hb dX8_set_50 (by decide) ?_
        exact grI hx hb hr hlocks hP hS dX8_set_51 (pf1 hf) (pf2 hf)
    clear hf
    have hf := hq_5
    refine lv_if_ne (tgt := 30) hx hb dX8_set_21 (by decide) (fun c_11 => ?_) (fun c_11 => ?_)
    · skip
      replace hf := it_f c_11 hf
      refine lv_iload_n hx hb dX8_set_30 rfl (lv_at hl 1 rfl) ?_
      refine lv_iconst (v := 1) hx hb dX8_set_31 (by decide) ?_
      refine lv_icmp_ne (tgt := 41) hx hb dX8_set_32 (by decide) (fun c_12 => ?_) (fun c_12 => ?_)
      · skip
        replace hf := it_f c_12 hf
        refine lv_ldc2 (v := 2) hx hb hown (hg _ kw_585) dX8_set_41 ?_
        have ht := Option.some.inj hf
        subst ht
        exact hJ_6 _ _ _ hP hS (lv_sub hl [0, 1, 2] rfl)
      · skip
        replace hf := it_t c_12 hf
        refine lv_ldc2 (v := 40) hx hb hown (hg _ kw_587) dX8_set_35 ?_
        refine lv_goto (tgt := 44) hx hb dX8_set_38 (by decide) ?_
        have ht := Option.some.inj hf
        subst ht
        exact hJ_6 _ _ _ hP hS (lv_sub hl [0, 1, 2] rfl)
    · skip
      replace hf := it_t c_11 hf
      refine lv_ldc2 (v := 100) hx hb hown (hg _ kw_586) dX8_set_24 ?_
      refine lv_goto (tgt := 44) hx hb dX8_set_27 (by decide) ?_
      have ht := Option.some.inj hf
      subst ht
      exact hJ_6 _ _ _ hP hS (lv_sub hl [0, 1, 2] rfl)
abbrev rX8_limitOf : Room := { frames := 0, cells := 0, slots := 0, locals := 0 }
theorem hX8_limitOf : yX8_limitOf.cls ≠ "java/lang/invoke/MethodHandle" ∧ yX8_limitOf.cls ≠ "java/lang/invoke/VarHandle" ∧ (parseMethodDescriptor yX8_limitOf.desc).map (fun d => d.parameters.length) = some 2 := by decide +kernel
set_option maxHeartbeats 4000000 in
set_option maxRecDepth 100000 in
theorem mX8_limitOf (l : Launch) (D : va_G) (am : Nat → Nat) (cm : Nat → ClassId) (u : UM) (a1 : Int32) (a2 : Int32)  (r0 : Int32) (hok : fX8_limitOf u a1 a2 = some r0) : Met l yX8_limitOf (Cond.code yX8_limitOf cX8_limitOf 4 (some .int) :: wsG) rX8_limitOf (va_Pc [.ref (am 16), .int a1, .int a2] (wI D (wM am cm) (mC D am cm) u)) (va_Qi (fun (r : Int32) (u' : UM) => r = r0 ∧ u' = u) (wB D (wM am cm)) (AM am)) 0 0 (AM am) := by
  refine Met.ofW (cc := cX8_limitOf) (maxL := 4) (ret := (some .int)) (by decide) rfl ?_
  intro p e s m args below meth c s₁ B hml hv
  have hx := B.exec
  have hb := B.bytes
  have hr := B.returns
  have hts := atoms_spec (ws := (Cond.code yX8_limitOf cX8_limitOf 4 (some .int) :: wsG)) B.pre
  have hg : ∀ w ∈ wsG, w.before args s = true := fun w h => hts w (List.mem_cons_of_mem _ h)
  have hown : s.vm.findClass RX8 = some m.cls := findClass_of_methodNamed B.named
  have hlocks := B.notSynchronized
  obtain ⟨ha, hP, hC⟩ := hv
  obtain ⟨hK, hJ⟩ := id hC
  have hS : va_S (AM am) s.heap s.heap [] := va_S.rf
  refine W.eq (show entryFrame m args 4 = entryFrame m ([.ref (am 16), .int a1, .int a2] : List Value).toArray 4 by rw [ha]) ?_
  have hl := lv_entry ([.ref (am 16), .int a1, .int a2]) (n := 4) (Nat.le_of_ble_eq_true rfl)
  rw [lg_entry_eq]
  generalize (lg_sl ([.ref (am 16), .int a1, .int a2]) ++ List.replicate (4 - (lg_sl ([.ref (am 16), .int a1, .int a2])).length) Slot.unset).toArray = ls at hl ⊢
  have hl : lv_has ls 4 [(0, .ref (am 16)), (1, .int a1), (2, .int a2)] := hl
  show W p l e rX8_limitOf s m args below meth c s.heap [] 0 0 (MQ below (va_Qi (fun (r : Int32) (u' : UM) => r = r0 ∧ u' = u) (wB D (wM am cm)) (AM am)) args s 0 0 (AM am)) (F0 m 0 ls [])
  have hf := hok
  unfold fX8_limitOf at hf
  refine lv_aload_n hx hb dX8_limitOf_0 rfl (lv_at hl 0 rfl) ?_
  refine va_get (D := D) (ci := 7) (v := .ref (am 2)) (C := RX8) (T := TX8) (N := 20) hx hb hg inG_X8 hown hK hP 16 m_o16 rfl 5 (by decide) (hg _ kw_505) (fun _ h9 => h9) rfl dX8_limitOf_1 ?_
  refine lv_iload_n hx hb dX8_limitOf_4 rfl (lv_at hl 2 rfl) ?_
  obtain ⟨hb_1, hf⟩ := gd_ok hf
  refine m_iald hx hb hK hP (by decide) (by decide) rfl hb_1 dX8_limitOf_5 ?_
  refine lv_istore_n (lv' := [(3, .int (u.1 2 a2.toNatClampNeg)), (0, .ref (am 16)), (1, .int a1), (2, .int a2)]) hx hb dX8_limitOf_6 rfl hl (by decide) rfl (fun ls hl => ?_)
  refine lv_iload_n hx hb dX8_limitOf_7 rfl (lv_at hl 2 rfl) ?_
  obtain ⟨t_2, hq_3, hf⟩ := bd_ok hf
  have hJ_4 : ∀ (H : Heap) (locs : List Loc) (ls : Array Slot), va_P D vwCl (wM am cm u) H → va_S (AM am) s.heap H locs → lv_has ls 4 [(0, .ref (am 16)), (1, .int a1), (2, .int a2), (3, .int t_2)] → W p l e rX8_limitOf s m args below meth c H locs 0 0 (MQ below (va_Qi (fun (r : Int32) (u' : UM) => r = r0 ∧ u' = u) (wB D (wM am cm)) (AM am)) args s 0 0 (AM am)) (F0 m 48 ls []) := by
    intro H locs ls hP hS hl
    refine lv_iload_n hx hb dX8_limitOf_48 rfl (lv_at hl 1 rfl) ?_
    refine lv_iconst (v := 1) hx hb dX8_limitOf_49 (by decide) ?_
    refine lv_icmp_le (tgt := 94) hx hb dX8_limitOf_50 (by decide) (fun c_5 => ?_) (fun c_5 => ?_)
    · skip
      replace hf := it_t c_5 hf
      refine lv_iload_n hx hb dX8_limitOf_94 rfl (lv_at hl 3 rfl) ?_
      exact grI hx hb hr hlocks hP hS dX8_limitOf_95 (Option.some.inj hf) rfl
    · skip
      replace hf := it_f c_5 hf
      refine lv_iload_n hx hb dX8_limitOf_53 rfl (lv_at hl 3 rfl) ?_
      refine lv_iconst (v := 2) hx hb dX8_limitOf_54 (by decide) ?_
      refine lv_aload_n hx hb dX8_limitOf_55 rfl (lv_at hl 0 rfl) ?_
      refine va_get (D := D) (ci := 7) (v := .ref (am 4)) (C := RX8) (T := TX8) (N := 20) hx hb hg inG_X8 hown hK hP 16 m_o16 rfl 7 (by decide) (hg _ kw_507) (fun _ h9 => h9) rfl dX8_limitOf_56 ?_
      refine lv_iconst (v := 1) hx hb dX8_limitOf_59 (by decide) ?_
      obtain ⟨hb_6, hf⟩ := gd_ok hf
      refine m_iald hx hb hK hP (by decide) (by decide) rfl hb_6 dX8_limitOf_60 ?_
      refine lv_imul hx hb dX8_limitOf_61 ?_
      refine lv_isub hx hb dX8_limitOf_62 ?_
      refine lv_aload_n hx hb dX8_limitOf_63 rfl (lv_at hl 0 rfl) ?_
      refine va_get (D := D) (ci := 7) (v := .ref (am 1)) (C := RX8) (T := TX8) (N := 20) hx hb hg inG_X8 hown hK hP 16 m_o16 rfl 4 (by decide) (hg _ kw_504) (fun _ h9 => h9) rfl dX8_limitOf_64 ?_
      refine lv_iload_n hx hb dX8_limitOf_67 rfl (lv_at hl 2 rfl) ?_
      refine m_iald hx hb hK hP (by decide) (by decide) rfl hb_1 dX8_limitOf_68 ?_
      refine lv_icmp_le (tgt := 85) hx hb dX8_limitOf_69 (by decide) (fun c_7 => ?_) (fun c_7 => ?_)
      · skip
        replace hf := it_t c_7 hf
        refine lv_aload_n hx hb dX8_limitOf_85 rfl (lv_at hl 0 rfl) ?_
        refine va_get (D := D) (ci := 7) (v := .ref (am 1)) (C := RX8) (T := TX8) (N := 20) hx hb hg inG_X8 hown hK hP 16 m_o16 rfl 4 (by decide) (hg _ kw_504) (fun _ h9 => h9) rfl dX8_limitOf_86 ?_
        refine lv_iload_n hx hb dX8_limitOf_89 rfl (lv_at hl 2 rfl) ?_
        refine m_iald hx hb hK hP (by decide) (by decide) rfl hb_1 dX8_limitOf_90 ?_
        refine lv_iconst (v := 1) hx hb dX8_limitOf_91 (by decide) ?_
        refine lv_iadd hx hb dX8_limitOf_92 ?_
        refine lv_istore_n (lv' := [(3, .int ((u.1 1 a2.toNatClampNeg) + ((1 : Int32)))), (0, .ref (am 16)), (1, .int a1), (2, .int a2)]) hx hb dX8_limitOf_93 rfl hl (by decide) rfl (fun ls hl => ?_)
        refine lv_iload_n hx hb dX8_limitOf_94 rfl (lv_at hl 0 rfl) ?_
        exact grI hx hb hr hlocks hP hS dX8_limitOf_95 (Option.some.inj hf) rfl
      · skip
        replace hf := it_f c_7 hf
        refine lv_iload_n hx hb dX8_limitOf_72 rfl (lv_at hl 3 rfl) ?_
        refine lv_iconst (v := 2) hx hb dX8_limitOf_73 (by decide) ?_
        refine lv_aload_n hx hb dX8_limitOf_74 rfl (lv_at hl 0 rfl) ?_
        refine va_get (D := D) (ci := 7) (v := .ref (am 4)) (C := RX8) (T := TX8) (N := 20) hx hb hg inG_X8 hown hK hP 16 m_o16 rfl 7 (by decide) (hg _ kw_507) (fun _ h9 => h9) rfl dX8_limitOf_75 ?_
        refine lv_iconst (v := 1) hx hb dX8_limitOf_78 (by decide) ?_
        refine m_iald hx hb hK hP (by decide) (by decide) rfl hb_6 dX8_limitOf_79 ?_
        refine lv_imul hx hb dX8_limitOf_80 ?_
        refine lv_isub hx hb dX8_limitOf_81 ?_
        refine lv_goto (tgt := 93) hx hb dX8_limitOf_82 (by decide) ?_
        refine lv_istore_n (lv' := [(3, .int (t_2 - (((2 : Int32)) * (u.1 4 ((1 : Int32)).toNatClampNeg)))), (0, .ref (am 16)), (1, .int a1), (2, .int a2)]) hx hb dX8_limitOf_93 rfl hl (by decide) rfl (fun ls hl => ?_)
        refine lv_iload_n hx hb dX8_limitOf_94 rfl (lv_at hl 0 rfl) ?_
        exact grI hx hb hr hlocks hP hS dX8_limitOf_95 (Option.some.inj hf) rfl
  clear hf
  have hf := hq_3
  refine lv_if_le (tgt := 48) hx hb dX8_limitOf_8 (by decide) (fun c_8 => ?_) (fun c_8 => ?_)
  · skip
    replace hf := it_t c_8 hf
    have ht := Option.some.inj hf
    subst ht
    exact hJ_4 _ _ _ hP hS (lv_sub hl [1, 2, 3, 0] rfl)
  · skip
    replace hf := it_f c_8 hf
    refine lv_iload_n hx hb dX8_limitOf_11 rfl (lv_at hl 0 rfl) ?_
    refine lv_aload_n hx hb dX8_limitOf_12 rfl (lv_at hl 1 rfl) ?_
    refine va_get (D := D) (ci := 7) (v := .ref (am 4)) (C := RX8) (T := TX8) (N := 20) hx hb hg inG_X8 hown hK hP 16 m_o16 rfl 7 (by decide) (hg _ kw_507) (fun _ h9 => h9) rfl dX8_limitOf_13 ?_
    refine lv_iconst (v := 0) hx hb dX8_limitOf_16 (by decide) ?_
    obtain ⟨hb_9, hf⟩ := gd_ok hf
    refine m_iald hx hb hK hP (by decide) (by decide) rfl hb_9 dX8_limitOf_17 ?_
    refine lv_isub hx hb dX8_limitOf_18 ?_
    refine lv_aload_n hx hb dX8_limitOf_19 rfl (lv_at hl 1 rfl) ?_
    refine va_get (D := D) (ci := 7) (v := .ref (am 1)) (C := RX8) (T := TX8) (N := 20) hx hb hg inG_X8 hown hK hP 16 m_o16 rfl 4 (by decide) (hg _ kw_504) (fun _ h9 => h9) rfl dX8_limitOf_20 ?_
    refine lv_iload_n hx hb dX8_limitOf_23 rfl (lv_at hl 3 rfl) ?_
    refine m_iald hx hb hK hP (by decide) (by decide) rfl hb_1 dX8_limitOf_24 ?_
    refine lv_icmp_le (tgt := 39) hx hb dX8_limitOf_25 (by decide) (fun c_10 => ?_) (fun c_10 => ?_)
    · skip
      replace hf := it_t c_10 hf
      refine lv_aload_n hx hb dX8_limitOf_39 rfl (lv_at hl 1 rfl) ?_
      refine va_get (D := D) (ci := 7) (v := .ref (am 1)) (C := RX8) (T := TX8) (N := 20) hx hb hg inG_X8 hown hK hP 16 m_o16 rfl 4 (by decide) (hg _ kw_504) (fun _ h9 => h9) rfl dX8_limitOf_40 ?_
      refine lv_iload_n hx hb dX8_limitOf_43 rfl (lv_at hl 3 rfl) ?_
      refine m_iald hx hb hK hP (by decide) (by decide) rfl hb_1 dX8_limitOf_44 ?_
      refine lv_iconst (v := 1) hx hb dX8_limitOf_45 (by decide) ?_
      refine lv_iadd hx hb dX8_limitOf_46 ?_
      refine lv_istore_n (lv' := [(3, .int ((u.1 1 a2.toNatClampNeg) + ((1 : Int32)))), (0, .ref (am 16)), (1, .int a1), (2, .int a2)]) hx hb dX8_limitOf_47 rfl hl (by decide) rfl (fun ls hl => ?_)
      have ht := Option.some.inj hf
      subst ht
      exact hJ_4 _ _ _ hP hS (lv_sub hl [1, 2, 3, 0] rfl)
    · skip
      replace hf := it_f c_10 hf
      refine lv_iload_n hx hb dX8_limitOf_28 rfl (lv_at hl 0 rfl) ?_
      refine lv_aload_n hx hb dX8_limitOf_29 rfl (lv_at hl 1 rfl) ?_
      refine va_get (D := D) (ci := 7) (v := .ref (am 4)) (C := RX8) (T := TX8) (N := 20) hx hb hg inG_X8 hown hK hP 16 m_o16 rfl 7 (by decide) (hg _ kw_507) (fun _ h9 => h9) rfl dX8_limitOf_30 ?_
      refine lv_iconst (v := 0) hx hb dX8_limitOf_33 (by decide) ?_
      refine m_iald hx hb hK hP (by decide) (by decide) rfl hb_9 dX8_limitOf_34 ?_
      refine lv_isub hx hb dX8_limitOf_35 ?_
      refine lv_goto (tgt := 47) hx hb dX8_limitOf_36 (by decide) ?_
      refine lv_istore_n (lv' := [(3, .int ((u.1 2 a2.toNatClampNeg) - (u.1 4 ((0 : Int32)).toNatClampNeg))), (0, .ref (am 16)), (1, .int a1), (2, .int a2)]) hx hb dX8_limitOf_47 rfl hl (by decide) rfl (fun ls hl => ?_)
      have ht := Option.some.inj hf
      subst ht
      exact hJ_4 _ _ _ hP hS (lv_sub hl [1, 2, 3, 0] rfl)
abbrev rX8_limit : Room := { frames := 2, cells := 0, slots := 0, locals := 46 }
theorem hX8_limit : yX8_limit.cls ≠ "java/lang/invoke/MethodHandle" ∧ yX8_limit.cls ≠ "java/lang/invoke/VarHandle" ∧ (parseMethodDescriptor yX8_limit.desc).map (fun d => d.parameters.length) = some 2 := by decide +kernel
set_option maxHeartbeats 4000000 in
set_option maxRecDepth 100000 in
theorem mX8_limit (l : Launch) (D : va_G) (am : Nat → Nat) (cm : Nat → ClassId) (u : UM) (a1 : Int32) (a2 : Int32)  (ru : Int32 × UM) (hok : fX8_limit u a1 a2 = some ru) : Met l yX8_limit (Cond.code yX8_limit cX8_limit 3 (some .int) :: wsG) rX8_limit (va_Pc [.ref (am 16), .int a1, .int a2] (wI D (wM am cm) (mC D am cm) u)) (va_Qi (fun (r : Int32) (u' : UM) => r = ru.1 ∧ u' = ru.2) (wB D (wM am cm)) (AM am)) 0 0 (AM am) := by
  refine Met.ofW (cc := cX8_limit) (maxL := 3) (ret := (some .int)) (by decide) rfl ?_
  intro p e s m args below meth c s₁ B hml hv
  have hx := B.exec
  have hb := B.bytes
  have hr := B.returns
  have hts := atoms_spec (ws := (Cond.code yX8_limit cX8_limit 3 (some .int) :: wsG)) B.pre
  have hg : ∀ w ∈ wsG, w.before args s = true := fun w h => hts w (List.mem_cons_of_mem _ h)
  have hown : s.vm.findClass RX8 = some m.cls := findClass_of_methodNamed B.named
  have hlocks := B.notSynchronized
  obtain ⟨ha, hP, hC⟩ := hv
  obtain ⟨hK, hJ⟩ := id hC
  have hS : va_S (AM am) s.heap s.heap [] := va_S.rf
  refine W.eq (show entryFrame m args 3 = entryFrame m ([.ref (am 16), .int a1, .int a2] : List Value).toArray 3 by rw [ha]) ?_
  have hl := lv_entry ([.ref (am 16), .int a1, .int a2]) (n := 3) (Nat.le_of_ble_eq_true rfl)
  rw [lg_entry_eq]
  generalize (lg_sl ([.ref (am 16), .int a1, .int a2]) ++ List.replicate (3 - (lg_sl ([.ref (am 16), .int a1, .int a2])).length) Slot.unset).toArray = ls at hl ⊢
  have hl : lv_has ls 3 [(0, .ref (am 16)), (1, .int a1), (2, .int a2)] := hl
  show W p l e rX8_limit s m args below meth c s.heap [] 0 0 (MQ below (va_Qi (fun (r : Int32) (u' : UM) => r = ru.1 ∧ u' = ru.2) (wB D (wM am cm)) (AM am)) args s 0 0 (AM am)) (F0 m 0 ls [])
  have hf := hok
  unfold fX8_limit at hf
  refine lv_aload_n hx hb dX8_limit_0 rfl (lv_at hl 0 rfl) ?_
  refine lv_iconst (v := 0) hx hb dX8_limit_1 (by decide) ?_
  refine m_putZ hx hb hg hown hK hP hJ hS (hg _ kw_500) dX8_limit_2 (fun H locs hP hS => ?_)
  refine lv_iload_n hx hb dX8_limit_5 rfl (lv_at hl 1 rfl) ?_
  refine lv_i2l hx hb dX8_limit_6 rfl ?_
  refine lv_lconst (v := 0) hx hb dX8_limit_7 (by decide) ?_
  refine lv_ldc2 (v := 2) hx hb hown (hg _ kw_585) dX8_limit_8 ?_
  obtain ⟨r_1, hc_2, hf⟩ := bd_ok hf
  refine gcFi 3 ⟨hx, hb, hml, hown, hts⟩ (mX8_in l a1.toInt64 ((0 : Int64)) ((2 : Int64)) r_1 hc_2) (gG kw_569) kw_567 kw_568 kw_28 hX8_in ⟨rfl, rfl⟩ ⟨Nat.le_of_ble_eq_true rfl, Nat.le_of_ble_eq_true rfl⟩ ⟨Nat.zero_le _, Nat.zero_le _⟩ rfl hl.1 rfl (Nat.le_of_ble_eq_true rfl) dX8_limit_11 ?_
  refine lv_if_eq (tgt := 25) hx hb dX8_limit_14 (by decide) (fun c_3 => ?_) (fun c_3 => ?_)
  · skip
    replace hf := it_t c_3 hf
    refine lv_iconst (v := -1) hx hb dX8_limit_25 (by decide) ?_
    exact grI hx hb hr hlocks hP hS dX8_limit_26 (pf1 hf) (pf2 hf)
  · skip
    replace hf := it_f c_3 hf
    refine lv_aload_n hx hb dX8_limit_17 rfl (lv_at hl 0 rfl) ?_
    refine lv_iload_n hx hb dX8_limit_18 rfl (lv_at hl 2 rfl) ?_
    obtain ⟨r_4, hc_5, hf⟩ := bd_ok hf
    refine gcVi 1 (mC_ok D am cm hJ) hC ⟨hx, hb, hml, hown, hts⟩ (mX8_isStep l D am cm u a2 r_4 hc_5) (gG kw_579) kw_576 kw_578 kw_8 kw_28 hX8_isStep ⟨rfl, rfl⟩ ⟨Nat.le_of_ble_eq_true rfl, Nat.le_of_ble_eq_true rfl⟩ (x_rec (C := RX8) (T := TX8) (N := 20) (ci := 7) hK hP rfl m_o16) hP hS ⟨Nat.zero_le _, Nat.zero_le _⟩ rfl hl.1 rfl (Nat.le_of_ble_eq_true rfl) dX8_limit_19 (fun H locs hP hS => ?_)
    refine lv_if_ne (tgt := 27) hx hb dX8_limit_22 (by decide) (fun c_6 => ?_) (fun c_6 => ?_)
    · skip
      replace hf := it_f c_6 hf
      refine lv_aload_n hx hb dX8_limit_27 rfl (lv_at hl 0 rfl) ?_
      refine lv_dup hx hb dX8_limit_28 rfl ?_
      refine va_get (D := D) (ci := 7) (v := .long u.2.2.1) (C := RX8) (T := TX8) (N := 20) hx hb hg inG_X8 hown hK hP 16 m_o16 rfl 1 (by decide) (hg _ kw_501) (fun _ h9 => h9) rfl dX8_limit_29 ?_
      refine lv_iload_n hx hb dX8_limit_32 rfl (lv_at hl 1 rfl) ?_
      refine lv_if_ne (tgt := 40) hx hb dX8_limit_33 (by decide) (fun c_7 => ?_) (fun c_7 => ?_)
      · skip
        replace hf := it_f c_7 hf
        refine lv_iload_n hx hb dX8_limit_40 rfl (lv_at hl 1 rfl) ?_
        refine lv_iconst (v := 1) hx hb dX8_limit_41 (by decide) ?_
        refine lv_icmp_ne (tgt := 51) hx hb dX8_limit_42 (by decide) (fun c_8 => ?_) (fun c_8 => ?_)
        · skip
          replace hf := it_f c_8 hf
          refine lv_ldc2 (v := 111) hx hb hown (hg _ kw_593) dX8_limit_51 ?_
          refine lv_ladd hx hb dX8_limit_54 ?_
          refine m_putT hx hb hg hown hK hP hJ hS (hg _ kw_501) dX8_limit_55 (fun H locs hP hS => ?_)
          refine lv_aload_n hx hb dX8_limit_58 rfl (lv_at hl 0 rfl) ?_
          refine lv_iload_n hx hb dX8_limit_59 rfl (lv_at hl 1 rfl) ?_
          refine lv_iload_n hx hb dX8_limit_60 rfl (lv_at hl 2 rfl) ?_
          obtain ⟨r_9, hc_10, hf⟩ := bd_ok hf
          refine gcVi 2 (mC_ok D am cm hJ) hC ⟨hx, hb, hml, hown, hts⟩ (mX8_limitOf l D am cm (mtr u (u.2.2.1 + ((111 : Int64)))) a1 a2 r_9 hc_10) (gG kw_597) kw_594 kw_596 kw_9 kw_28 hX8_limitOf ⟨rfl, rfl⟩ ⟨Nat.le_of_ble_eq_true rfl, Nat.le_of_ble_eq_true rfl⟩ (x_rec (C := RX8) (T := TX8) (N := 20) (ci := 7) hK hP rfl m_o16) hP hS ⟨Nat.zero_le _, Nat.zero_le _⟩ rfl hl.1 rfl (Nat.le_of_ble_eq_true rfl) dX8_limit_61 (fun H locs hP hS => ?_)
          exact grI hx hb hr hlocks hP hS dX8_limit_64 (pf1 hf) (pf2 hf)
        · skip
          replace hf := it_t c_8 hf
          refine lv_ldc2 (v := 11) hx hb hown (hg _ kw_592) dX8_limit_45 ?_
          refine lv_goto (tgt := 54) hx hb dX8_limit_48 (by decide) ?_
          refine lv_ladd hx hb dX8_limit_54 ?_
          refine m_putT hx hb hg hown hK hP hJ hS (hg _ kw_501) dX8_limit_55 (fun H locs hP hS => ?_)
          refine lv_aload_n hx hb dX8_limit_58 rfl (lv_at hl 0 rfl) ?_
          refine lv_iload_n hx hb dX8_limit_59 rfl (lv_at hl 1 rfl) ?_
          refine lv_iload_n hx hb dX8_limit_60 rfl (lv_at hl 2 rfl) ?_
          obtain ⟨r_11, hc_12, hf⟩ := bd_ok hf
          refine gcVi 2 (mC_ok D am cm hJ) hC ⟨hx, hb, hml, hown, hts⟩ (mX8_limitOf l D am cm (mtr u (u.2.2.1 + ((11 : Int64)))) a1 a2 r_11 hc_12) (gG kw_597) kw_594 kw_596 kw_9 kw_28 hX8_limitOf ⟨rfl, rfl⟩ ⟨Nat.le_of_ble_eq_true rfl, Nat.le_of_ble_eq_true rfl⟩ (x_rec (C := RX8) (T := TX8) (N := 20) (ci := 7) hK hP rfl m_o16) hP hS ⟨Nat.zero_le _, Nat.zero_le _⟩ rfl hl.1 rfl (Nat.le_of_ble_eq_true rfl) dX8_limit_61 (fun H locs hP hS => ?_)
          exact grI hx hb hr hlocks hP hS dX8_limit_64 (pf1 hf) (pf2 hf)
      · skip
        replace hf := it_t c_7 hf
        refine lv_lconst (v := 1) hx hb dX8_limit_36 (by decide) ?_
        refine lv_goto (tgt := 54) hx hb dX8_limit_37 (by decide) ?_
        refine lv_ladd hx hb dX8_limit_54 ?_
        refine m_putT hx hb hg hown hK hP hJ hS (hg _ kw_501) dX8_limit_55 (fun H locs hP hS => ?_)
        refine lv_aload_n hx hb dX8_limit_58 rfl (lv_at hl 0 rfl) ?_
        refine lv_iload_n hx hb dX8_limit_59 rfl (lv_at hl 1 rfl) ?_
        refine lv_iload_n hx hb dX8_limit_60 rfl (lv_at hl 2 rfl) ?_
        obtain ⟨r_13, hc_14, hf⟩ := bd_ok hf
        refine gcVi 2 (mC_ok D am cm hJ) hC ⟨hx, hb, hml, hown, hts⟩ (mX8_limitOf l D am cm (mtr u (u.2.2.1 + ((1 : Int64)))) a1 a2 r_13 hc_14) (gG kw_597) kw_594 kw_596 kw_9 kw_28 hX8_limitOf ⟨rfl, rfl⟩ ⟨Nat.le_of_ble_eq_true rfl, Nat.le_of_ble_eq_true rfl⟩ (x_rec (C := RX8) (T := TX8) (N := 20) (ci := 7) hK hP rfl m_o16) hP hS ⟨Nat.zero_le _, Nat.zero_le _⟩ rfl hl.1 rfl (Nat.le_of_ble_eq_true rfl) dX8_limit_61 (fun H locs hP hS => ?_)
        exact grI hx hb hr hlocks hP hS dX8_limit_64 (pf1 hf) (pf2 hf)
    · skip
      replace hf := it_t c_6 hf
      refine lv_iconst (v := -1) hx hb dX8_limit_25 (by decide) ?_
      exact grI hx hb hr hlocks hP hS dX8_limit_26 (pf1 hf) (pf2 hf)
abbrev rX8_below : Room := { frames := 1, cells := 0, slots := 0, locals := 29 }
theorem hX8_below : yX8_below.cls ≠ "java/lang/invoke/MethodHandle" ∧ yX8_below.cls ≠ "java/lang/invoke/VarHandle" ∧ (parseMethodDescriptor yX8_below.desc).map (fun d => d.parameters.length) = some 0 := by decide +kernel
set_option maxHeartbeats 4000000 in
set_option maxRecDepth 100000 in
theorem mX8_below (l : Launch) (D : va_G) (am : Nat → Nat) (cm : Nat → ClassId) (u : UM)   (r0 : Int64) (hok : fX8_below u = some r0) : Met l yX8_below (Cond.code yX8_below cX8_below 4 (some .long) :: wsG) rX8_below (va_Pc [.ref (am 16)] (wI D (wM am cm) (mC D am cm) u)) (va_Ql (fun (r : Int64) (u' : UM) => r = r0 ∧ u' = u) (wB D (wM am cm)) (AM am)) 0 0 (AM am) := by
  refine Met.ofW (cc := cX8_below) (maxL := 4) (ret := (some .long)) (by decide) rfl ?_
  intro p e s m args below meth c s₁ B hml hv
  have hx := B.exec
  have hb := B.bytes
  have hr := B.returns
  have hts := atoms_spec (ws := (Cond.code yX8_below cX8_below 4 (some .long) :: wsG)) B.pre
  have hg : ∀ w ∈ wsG, w.before args s = true := fun w h => hts w (List.mem_cons_of_mem _ h)
  have hown : s.vm.findClass RX8 = some m.cls := findClass_of_methodNamed B.named
  have hlocks := B.notSynchronized
  obtain ⟨ha, hP, hC⟩ := hv
  obtain ⟨hK, hJ⟩ := id hC
  have hS : va_S (AM am) s.heap s.heap [] := va_S.rf
  refine W.eq (show entryFrame m args 4 = entryFrame m ([.ref (am 16)] : List Value).toArray 4 by rw [ha]) ?_
  have hl := lv_entry ([.ref (am 16)]) (n := 4) (Nat.le_of_ble_eq_true rfl)
  rw [lg_entry_eq]
  generalize (lg_sl ([.ref (am 16)]) ++ List.replicate (4 - (lg_sl ([.ref (am 16)])).length) Slot.unset).toArray = ls at hl ⊢
  have hl : lv_has ls 4 [(0, .ref (am 16))] := hl
  show W p l e rX8_below s m args below meth c s.heap [] 0 0 (MQ below (va_Ql (fun (r : Int64) (u' : UM) => r = r0 ∧ u' = u) (wB D (wM am cm)) (AM am)) args s 0 0 (AM am)) (F0 m 0 ls [])
  have hf := hok
  unfold fX8_below at hf
  refine lv_lconst (v := 1) hx hb dX8_below_0 (by decide) ?_
  refine lv_lstore_n (lv' := [(1, .long ((1 : Int64))), (0, .ref (am 16))]) hx hb dX8_below_1 rfl hl (by decide) rfl (fun ls hl => ?_)
  refine lv_iconst (v := 0) hx hb dX8_below_2 (by decide) ?_
  refine lv_istore_n (lv' := [(3, .int ((0 : Int32))), (1, .long ((1 : Int64))), (0, .ref (am 16))]) hx hb dX8_below_3 rfl hl (by decide) rfl (fun ls hl => ?_)
  have hL_2 : ∀ (nf : Nat) (y1_k_1 : Int64) (y3_k_1 : Int32) (H : Heap) (locs : List Loc) (ls : Array Slot) (t : Int64), va_P D vwCl (wM am cm u) H → va_S (AM am) s.heap H locs → lv_has ls 4 [(0, .ref (am 16)), (1, .long y1_k_1), (3, .int y3_k_1)] → fX8_below_4 u nf y1_k_1 y3_k_1 = some t → (∀ (H : Heap) (locs : List Loc) (ls : Array Slot), va_P D vwCl (wM am cm u) H → va_S (AM am) s.heap H locs → lv_has ls 4 [(1, .long t)] → W p l e rX8_below s m args below meth c H locs 0 0 (MQ below (va_Ql (fun (r : Int64) (u' : UM) => r = r0 ∧ u' = u) (wB D (wM am cm)) (AM am)) args s 0 0 (AM am)) (F0 m 54 ls [])) → W p l e rX8_below s m args below meth c H locs 0 0 (MQ below (va_Ql (fun (r : Int64) (u' : UM) => r = r0 ∧ u' = u) (wB D (wM am cm)) (AM am)) args s 0 0 (AM am)) (F0 m 4 ls []) := by
    intro nf
    induction nf with
    | zero => intro y1_k_1 y3_k_1 H locs ls t hP hS hl hf hK'; rw [fX8_below_4] at hf; cases hf
    | succ nf ih =>
      intro y1_k_1 y3_k_1 H locs ls t hP hS hl hf hK'
      rw [fX8_below_4] at hf
      refine lv_iload_n hx hb dX8_below_4 rfl (lv_at hl 2 rfl) ?_
      refine lv_aload_n hx hb dX8_below_5 rfl (lv_at hl 0 rfl) ?_
      refine va_get (D := D) (ci := 7) (v := .int u.2.2.2.1) (C := RX8) (T := TX8) (N := 20) hx hb hg inG_X8 hown hK hP 16 m_o16 rfl 2 (by decide) (hg _ kw_502) (fun _ h9 => h9) rfl dX8_below_6 ?_
      refine lv_icmp_ge (tgt := 54) hx hb dX8_below_9 (by decide) (fun c_3 => ?_) (fun c_3 => ?_)
      · skip
        replace hf := it_t c_3 hf
        have ht := Option.some.inj hf
        subst ht
        exact hK' _ _ _ hP hS (lv_sub hl [1] rfl)
      · skip
        replace hf := it_f c_3 hf
        refine lv_lload_n hx hb dX8_below_12 rfl (lv_at hl 1 rfl) ?_
        refine lv_lload_n hx hb dX8_below_13 rfl (lv_at hl 1 rfl) ?_
        refine lv_aload_n hx hb dX8_below_14 rfl (lv_at hl 0 rfl) ?_
        refine va_get (D := D) (ci := 7) (v := .ref (am 2)) (C := RX8) (T := TX8) (N := 20) hx hb hg inG_X8 hown hK hP 16 m_o16 rfl 5 (by decide) (hg _ kw_505) (fun _ h9 => h9) rfl dX8_below_15 ?_
        refine lv_iload_n hx hb dX8_below_18 rfl (lv_at hl 2 rfl) ?_
        obtain ⟨hb_4, hf⟩ := gd_ok hf
        refine m_iald hx hb hK hP (by decide) (by decide) rfl hb_4 dX8_below_19 ?_
        refine lv_aload_n hx hb dX8_below_20 rfl (lv_at hl 0 rfl) ?_
        refine va_get (D := D) (ci := 7) (v := .ref (am 1)) (C := RX8) (T := TX8) (N := 20) hx hb hg inG_X8 hown hK hP 16 m_o16 rfl 4 (by decide) (hg _ kw_504) (fun _ h9 => h9) rfl dX8_below_21 ?_
        refine lv_iload_n hx hb dX8_below_24 rfl (lv_at hl 2 rfl) ?_
        refine m_iald hx hb hK hP (by decide) (by decide) rfl hb_4 dX8_below_25 ?_
        refine lv_isub hx hb dX8_below_26 ?_
        refine lv_i2l hx hb dX8_below_27 rfl ?_
        obtain ⟨r_5, hc_6, hf⟩ := bd_ok hf
        refine gcFl 2 ⟨hx, hb, hml, hown, hts⟩ (mX8_common l y1_k_1 (((u.1 2 y3_k_1.toNatClampNeg) - (u.1 1 y3_k_1.toNatClampNeg)).toInt64) r_5 hc_6) (gG kw_609) kw_607 kw_608 kw_28 hX8_common ⟨rfl, rfl⟩ ⟨Nat.le_of_ble_eq_true rfl, Nat.le_of_ble_eq_true rfl⟩ ⟨Nat.zero_le _, Nat.zero_le _⟩ rfl hl.1 rfl (Nat.le_of_ble_eq_true rfl) dX8_below_28 ?_
        obtain ⟨hb_7, hf⟩ := gd_ok hf
        refine lv_ldiv hx hb dX8_below_31 (nz8_ok hb_7) ?_
        refine lv_aload_n hx hb dX8_below_32 rfl (lv_at hl 0 rfl) ?_
        refine va_get (D := D) (ci := 7) (v := .ref (am 2)) (C := RX8) (T := TX8) (N := 20) hx hb hg inG_X8 hown hK hP 16 m_o16 rfl 5 (by decide) (hg _ kw_505) (fun _ h9 => h9) rfl dX8_below_33 ?_
        refine lv_iload_n hx hb dX8_below_36 rfl (lv_at hl 2 rfl) ?_
        refine m_iald hx hb hK hP (by decide) (by decide) rfl hb_4 dX8_below_37 ?_
        refine lv_aload_n hx hb dX8_below_38 rfl (lv_at hl 0 rfl) ?_
        refine va_get (D := D) (ci := 7) (v := .ref (am 1)) (C := RX8) (T := TX8) (N := 20) hx hb hg inG_X8 hown hK hP 16 m_o16 rfl 4 (by decide) (hg _ kw_504) (fun _ h9 => h9) rfl dX8_below_39 ?_
        refine lv_iload_n hx hb dX8_below_42 rfl (lv_at hl 2 rfl) ?_
        refine m_iald hx hb hK hP (by decide) (by decide) rfl hb_4 dX8_below_43 ?_
        refine lv_isub hx hb dX8_below_44 ?_
        refine lv_i2l hx hb dX8_below_45 rfl ?_
        refine lv_lmul hx hb dX8_below_46 ?_
        refine lv_lstore_n (lv' := [(1, .long ((y1_k_1 / r_5) * (((u.1 2 y3_k_1.toNatClampNeg) - (u.1 1 y3_k_1.toNatClampNeg)).toInt64))), (0, .ref (am 16)), (3, .int y3_k_1)]) hx hb dX8_below_47 rfl hl (by decide) rfl (fun ls hl => ?_)
        refine lv_iinc (v := y3_k_1 + 1) (lv' := [(3, .int (y3_k_1 + 1)), (1, .long ((y1_k_1 / r_5) * (((u.1 2 y3_k_1.toNatClampNeg) - (u.1 1 y3_k_1.toNatClampNeg)).toInt64))), (0, .ref (am 16))]) hx hb dX8_below_48 hl (k := 2) rfl rfl (by decide) rfl (fun ls hl => ?_)
        refine lv_goto (tgt := 4) hx hb dX8_below_51 (by decide) ?_
        exact ih _ _ _ _ _ t hP hS (lv_sub hl [2, 1, 0] rfl) hf hK'
  obtain ⟨t_8, hq_9, hf⟩ := bd_ok hf
  refine hL_2 FU _ _ _ _ _ t_8 hP hS (lv_sub hl [2, 1, 0] rfl) hq_9 (fun H locs ls hP hS hl => ?_)
  refine lv_lload_n hx hb dX8_below_54 rfl (lv_at hl 0 rfl) ?_
  exact grL hx hb hr hlocks hP hS dX8_below_55 (Option.some.inj hf) rfl
abbrev rX8_dirtOf : Room := { frames := 0, cells := 0, slots := 0, locals := 0 }
theorem hX8_dirtOf : yX8_dirtOf.cls ≠ "java/lang/invoke/MethodHandle" ∧ yX8_dirtOf.cls ≠ "java/lang/invoke/VarHandle" ∧ (parseMethodDescriptor yX8_dirtOf.desc).map (fun d => d.parameters.length) = some 2 := by decide +kernel
set_option maxHeartbeats 4000000 in
set_option maxRecDepth 100000 in
theorem mX8_dirtOf (l : Launch) (D : va_G) (am : Nat → Nat) (cm : Nat → ClassId) (u : UM) (a1 : Int32) (a2 : Int64)  (r0 : Int64) (hok : fX8_dirtOf u a1 a2 = some r0) : Met l yX8_dirtOf (Cond.code yX8_dirtOf cX8_dirtOf 8 (some .long) :: wsG) rX8_dirtOf (va_Pc [.ref (am 16), .int a1, .long a2] (wI D (wM am cm) (mC D am cm) u)) (va_Ql (fun (r : Int64) (u' : UM) => r = r0 ∧ u' = u) (wB D (wM am cm)) (AM am)) 0 0 (AM am) := by
  refine Met.ofW (cc := cX8_dirtOf) (maxL := 8) (ret := (some .long)) (by decide) rfl ?_
  intro p e s m args below meth c s₁ B hml hv
  have hx := B.exec
  have hb := B.bytes
  have hr := B.returns
  have hts := atoms_spec (ws := (Cond.code yX8_dirtOf cX8_dirtOf 8 (some .long) :: wsG)) B.pre
  have hg : ∀ w ∈ wsG, w.before args s = true := fun w h => hts w (List.mem_cons_of_mem _ h)
  have hown : s.vm.findClass RX8 = some m.cls := findClass_of_methodNamed B.named
  have hlocks := B.notSynchronized
  obtain ⟨ha, hP, hC⟩ := hv
  obtain ⟨hK, hJ⟩ := id hC
  have hS : va_S (AM am) s.heap s.heap [] := va_S.rf
  refine W.eq (show entryFrame m args 8 = entryFrame m ([.ref (am 16), .int a1, .long a2] : List Value).toArray 8 by rw [ha]) ?_
  have hl := lv_entry ([.ref (am 16), .int a1, .long a2]) (n := 8) (Nat.le_of_ble_eq_true rfl)
  rw [lg_entry_eq]
  generalize (lg_sl ([.ref (am 16), .int a1, .long a2]) ++ List.replicate (8 - (lg_sl ([.ref (am 16), .int a1, .long a2])).length) Slot.unset).toArray = ls at hl ⊢
  have hl : lv_has ls 8 [(0, .ref (am 16)), (1, .int a1), (2, .long a2)] := hl
  show W p l e rX8_dirtOf s m args below meth c s.heap [] 0 0 (MQ below (va_Ql (fun (r : Int64) (u' : UM) => r = r0 ∧ u' = u) (wB D (wM am cm)) (AM am)) args s 0 0 (AM am)) (F0 m 0 ls [])
  have hf := hok
  unfold fX8_dirtOf at hf
  refine lv_lconst (v := 0) hx hb dX8_dirtOf_0 (by decide) ?_
  refine lv_lstore (lv' := [(4, .long ((0 : Int64))), (0, .ref (am 16)), (1, .int a1), (2, .long a2)]) hx hb dX8_dirtOf_1 hl (by decide) rfl (fun ls hl => ?_)
  refine lv_iconst (v := 0) hx hb dX8_dirtOf_3 (by decide) ?_
  refine lv_istore (lv' := [(6, .int ((0 : Int32))), (4, .long ((0 : Int64))), (0, .ref (am 16)), (1, .int a1), (2, .long a2)]) hx hb dX8_dirtOf_4 hl (by decide) rfl (fun ls hl => ?_)
  have hL_2 : ∀ (nf : Nat) (y4_k_1 : Int64) (y6_k_1 : Int32) (H : Heap) (locs : List Loc) (ls : Array Slot) (t : Int64), va_P D vwCl (wM am cm u) H → va_S (AM am) s.heap H locs → lv_has ls 8 [(0, .ref (am 16)), (1, .int a1), (2, .long a2), (4, .long y4_k_1), (6, .int y6_k_1)] → fX8_dirtOf_6 a1 a2 u nf y4_k_1 y6_k_1 = some t → (∀ (H : Heap) (locs : List Loc) (ls : Array Slot), va_P D vwCl (wM am cm u) H → va_S (AM am) s.heap H locs → lv_has ls 8 [(4, .long t)] → W p l e rX8_dirtOf s m args below meth c H locs 0 0 (MQ below (va_Ql (fun (r : Int64) (u' : UM) => r = r0 ∧ u' = u) (wB D (wM am cm)) (AM am)) args s 0 0 (AM am)) (F0 m 105 ls [])) → W p l e rX8_dirtOf s m args below meth c H locs 0 0 (MQ below (va_Ql (fun (r : Int64) (u' : UM) => r = r0 ∧ u' = u) (wB D (wM am cm)) (AM am)) args s 0 0 (AM am)) (F0 m 6 ls []) := by
    intro nf
    induction nf with
    | zero => intro y4_k_1 y6_k_1 H locs ls t hP hS hl hf hK'; rw [fX8_dirtOf_6] at hf; cases hf
    | succ nf ih =>
      intro y4_k_1 y6_k_1 H locs ls t hP hS hl hf hK'
      rw [fX8_dirtOf_6] at hf
      refine lv_iload hx hb dX8_dirtOf_6 (lv_at hl 4 rfl) ?_
      refine lv_aload_n hx hb dX8_dirtOf_8 rfl (lv_at hl 0 rfl) ?_
      refine va_get (D := D) (ci := 7) (v := .int u.2.2.2.1) (C := RX8) (T := TX8) (N := 20) hx hb hg inG_X8 hown hK hP 16 m_o16 rfl 2 (by decide) (hg _ kw_502) (fun _ h9 => h9) rfl dX8_dirtOf_9 ?_
      refine lv_icmp_ge (tgt := 105) hx hb dX8_dirtOf_12 (by decide) (fun c_3 => ?_) (fun c_3 => ?_)
      · skip
        replace hf := it_t c_3 hf
        have ht := Option.some.inj hf
        subst ht
        exact hK' _ _ _ hP hS (lv_sub hl [3] rfl)
      · skip
        replace hf := it_f c_3 hf
        refine lv_iload_n hx hb dX8_dirtOf_15 rfl (lv_at hl 1 rfl) ?_
        refine lv_aload_n hx hb dX8_dirtOf_16 rfl (lv_at hl 0 rfl) ?_
        refine va_get (D := D) (ci := 7) (v := .ref (am 2)) (C := RX8) (T := TX8) (N := 20) hx hb hg inG_X8 hown hK hP 16 m_o16 rfl 5 (by decide) (hg _ kw_505) (fun _ h9 => h9) rfl dX8_dirtOf_17 ?_
        refine lv_iload hx hb dX8_dirtOf_20 (lv_at hl 4 rfl) ?_
        obtain ⟨hb_4, hf⟩ := gd_ok hf
        refine m_iald hx hb hK hP (by decide) (by decide) rfl hb_4 dX8_dirtOf_22 ?_
        obtain ⟨t_5, hq_6, hf⟩ := bd_ok hf
        have hJ_7 : ∀ (H : Heap) (locs : List Loc) (ls : Array Slot), va_P D vwCl (wM am cm u) H → va_S (AM am) s.heap H locs → lv_has ls 8 [(0, .ref (am 16)), (1, .int a1), (2, .long a2), (4, .long y4_k_1), (6, .int y6_k_1)] → W p l e rX8_dirtOf s m args below meth c H locs 0 0 (MQ below (va_Ql (fun (r : Int64) (u' : UM) => r = r0 ∧ u' = u) (wB D (wM am cm)) (AM am)) args s 0 0 (AM am)) (F0 m 37 ls [.int t_5]) := by
          intro H locs ls hP hS hl
          refine lv_istore (lv' := [(7, .int t_5), (0, .ref (am 16)), (1, .int a1), (2, .long a2), (4, .long y4_k_1), (6, .int y6_k_1)]) hx hb dX8_dirtOf_37 hl (by decide) rfl (fun ls hl => ?_)
          refine lv_lload hx hb dX8_dirtOf_39 (lv_at hl 4 rfl) ?_
          refine lv_iload hx hb dX8_dirtOf_41 (lv_at hl 0 rfl) ?_
          refine lv_aload_n hx hb dX8_dirtOf_43 rfl (lv_at hl 1 rfl) ?_
          refine va_get (D := D) (ci := 7) (v := .ref (am 1)) (C := RX8) (T := TX8) (N := 20) hx hb hg inG_X8 hown hK hP 16 m_o16 rfl 4 (by decide) (hg _ kw_504) (fun _ h9 => h9) rfl dX8_dirtOf_44 ?_
          refine lv_iload hx hb dX8_dirtOf_47 (lv_at hl 5 rfl) ?_
          refine m_iald hx hb hK hP (by decide) (by decide) rfl hb_4 dX8_dirtOf_49 ?_
          refine lv_icmp_le (tgt := 95) hx hb dX8_dirtOf_50 (by decide) (fun c_8 => ?_) (fun c_8 => ?_)
          · skip
            replace hf := it_t c_8 hf
            refine lv_lconst (v := 0) hx hb dX8_dirtOf_95 (by decide) ?_
            refine lv_ladd hx hb dX8_dirtOf_96 ?_
            refine lv_lstore (lv' := [(4, .long (y4_k_1 + ((0 : Int64)))), (7, .int t_5), (0, .ref (am 16)), (1, .int a1), (2, .long a2), (6, .int y6_k_1)]) hx hb dX8_dirtOf_97 hl (by decide) rfl (fun ls hl => ?_)
            refine lv_iinc (v := y6_k_1 + 1) (lv' := [(6, .int (y6_k_1 + 1)), (4, .long (y4_k_1 + ((0 : Int64)))), (7, .int t_5), (0, .ref (am 16)), (1, .int a1), (2, .long a2)]) hx hb dX8_dirtOf_99 hl (k := 5) rfl rfl (by decide) rfl (fun ls hl => ?_)
            refine lv_goto (tgt := 6) hx hb dX8_dirtOf_102 (by decide) ?_
            exact ih _ _ _ _ _ t hP hS (lv_sub hl [3, 4, 5, 1, 0] rfl) hf hK'
          · skip
            replace hf := it_f c_8 hf
            refine lv_aload_n hx hb dX8_dirtOf_53 rfl (lv_at hl 1 rfl) ?_
            refine va_get (D := D) (ci := 7) (v := .ref (am 0)) (C := RX8) (T := TX8) (N := 20) hx hb hg inG_X8 hown hK hP 16 m_o16 rfl 3 (by decide) (hg _ kw_503) (fun _ h9 => h9) rfl dX8_dirtOf_54 ?_
            refine lv_iload hx hb dX8_dirtOf_57 (lv_at hl 5 rfl) ?_
            refine m_iald hx hb hK hP (by decide) (by decide) rfl hb_4 dX8_dirtOf_59 ?_
            refine lv_i2l hx hb dX8_dirtOf_60 rfl ?_
            refine lv_iload hx hb dX8_dirtOf_61 (lv_at hl 0 rfl) ?_
            refine lv_aload_n hx hb dX8_dirtOf_63 rfl (lv_at hl 1 rfl) ?_
            refine va_get (D := D) (ci := 7) (v := .ref (am 1)) (C := RX8) (T := TX8) (N := 20) hx hb hg inG_X8 hown hK hP 16 m_o16 rfl 4 (by decide) (hg _ kw_504) (fun _ h9 => h9) rfl dX8_dirtOf_64 ?_
            refine lv_iload hx hb dX8_dirtOf_67 (lv_at hl 5 rfl) ?_
            refine m_iald hx hb hK hP (by decide) (by decide) rfl hb_4 dX8_dirtOf_69 ?_
            refine lv_isub hx hb dX8_dirtOf_70 ?_
            refine lv_i2l hx hb dX8_dirtOf_71 rfl ?_
            refine lv_lmul hx hb dX8_dirtOf_72 ?_
            refine lv_lload_n hx hb dX8_dirtOf_73 rfl (lv_at hl 3 rfl) ?_
            refine lv_aload_n hx hb dX8_dirtOf_74 rfl (lv_at hl 1 rfl) ?_
            refine va_get (D := D) (ci := 7) (v := .ref (am 2)) (C := RX8) (T := TX8) (N := 20) hx hb hg inG_X8 hown hK hP 16 m_o16 rfl 5 (by decide) (hg _ kw_505) (fun _ h9 => h9) rfl dX8_dirtOf_75 ?_
            refine lv_iload hx hb dX8_dirtOf_78 (lv_at hl 5 rfl) ?_
            refine m_iald hx hb hK hP (by decide) (by decide) rfl hb_4 dX8_dirtOf_80 ?_
            refine lv_aload_n hx hb dX8_dirtOf_81 rfl (lv_at hl 1 rfl) ?_
            refine va_get (D := D) (ci := 7) (v := .ref (am 1)) (C := RX8) (T := TX8) (N := 20) hx hb hg inG_X8 hown hK hP 16 m_o16 rfl 4 (by decide) (hg _ kw_504) (fun _ h9 => h9) rfl dX8_dirtOf_82 ?_
            refine lv_iload hx hb dX8_dirtOf_85 (lv_at hl 5 rfl) ?_
            refine m_iald hx hb hK hP (by decide) (by decide) rfl hb_4 dX8_dirtOf_87 ?_
            refine lv_isub hx hb dX8_dirtOf_88 ?_
            refine lv_i2l hx hb dX8_dirtOf_89 rfl ?_
            obtain ⟨hb_9, hf⟩ := gd_ok hf
            refine lv_ldiv hx hb dX8_dirtOf_90 (nz8_ok hb_9) ?_
            refine lv_lmul hx hb dX8_dirtOf_91 ?_
            refine lv_goto (tgt := 96) hx hb dX8_dirtOf_92 (by decide) ?_
            refine lv_ladd hx hb dX8_dirtOf_96 ?_
            refine lv_lstore (lv' := [(4, .long (y4_k_1 + ((((u.1 0 y6_k_1.toNatClampNeg).toInt64) * ((t_5 - (u.1 1 y6_k_1.toNatClampNeg)).toInt64)) * (a2 / (((u.1 2 y6_k_1.toNatClampNeg) - (u.1 1 y6_k_1.toNatClampNeg)).toInt64))))), (7, .int t_5), (0, .ref (am 16)), (1, .int a1), (2, .long a2), (6, .int y6_k_1)]) hx hb dX8_dirtOf_97 hl (by decide) rfl (fun ls hl => ?_)
            refine lv_iinc (v := y6_k_1 + 1) (lv' := [(6, .int (y6_k_1 + 1)), (4, .long (y4_k_1 + ((((u.1 0 y6_k_1.toNatClampNeg).toInt64) * ((t_5 - (u.1 1 y6_k_1.toNatClampNeg)).toInt64)) * (a2 / (((u.1 2 y6_k_1.toNatClampNeg) - (u.1 1 y6_k_1.toNatClampNeg)).toInt64))))), (7, .int t_5), (0, .ref (am 16)), (1, .int a1), (2, .long a2)]) hx hb dX8_dirtOf_99 hl (k := 5) rfl rfl (by decide) rfl (fun ls hl => ?_)
            refine lv_goto (tgt := 6) hx hb dX8_dirtOf_102 (by decide) ?_
            exact ih _ _ _ _ _ t hP hS (lv_sub hl [3, 4, 5, 1, 0] rfl) hf hK'
        clear hf
        have hf := hq_6
        refine lv_icmp_ge (tgt := 30) hx hb dX8_dirtOf_23 (by decide) (fun c_10 => ?_) (fun c_10 => ?_)
        · skip
          replace hf := it_t c_10 hf
          refine lv_aload_n hx hb dX8_dirtOf_30 rfl (lv_at hl 0 rfl) ?_
          refine va_get (D := D) (ci := 7) (v := .ref (am 2)) (C := RX8) (T := TX8) (N := 20) hx hb hg inG_X8 hown hK hP 16 m_o16 rfl 5 (by decide) (hg _ kw_505) (fun _ h9 => h9) rfl dX8_dirtOf_31 ?_
          refine lv_iload hx hb dX8_dirtOf_34 (lv_at hl 4 rfl) ?_
          refine m_iald hx hb hK hP (by decide) (by decide) rfl hb_4 dX8_dirtOf_36 ?_
          have ht := Option.some.inj hf
          subst ht
          exact hJ_7 _ _ _ hP hS (lv_sub hl [0, 1, 2, 3, 4] rfl)
        · skip
          replace hf := it_f c_10 hf
          refine lv_iload_n hx hb dX8_dirtOf_26 rfl (lv_at hl 1 rfl) ?_
          refine lv_goto (tgt := 37) hx hb dX8_dirtOf_27 (by decide) ?_
          have ht := Option.some.inj hf
          subst ht
          exact hJ_7 _ _ _ hP hS (lv_sub hl [0, 1, 2, 3, 4] rfl)
  obtain ⟨t_11, hq_12, hf⟩ := bd_ok hf
  refine hL_2 FU _ _ _ _ _ t_11 hP hS (lv_sub hl [2, 3, 4, 1, 0] rfl) hq_12 (fun H locs ls hP hS hl => ?_)
  refine lv_lload hx hb dX8_dirtOf_105 (lv_at hl 0 rfl) ?_
  exact grL hx hb hr hlocks hP hS dX8_dirtOf_107 (Option.some.inj hf) rfl
abbrev rX8_dirt : Room := { frames := 2, cells := 0, slots := 0, locals := 52 }
theorem hX8_dirt : yX8_dirt.cls ≠ "java/lang/invoke/MethodHandle" ∧ yX8_dirt.cls ≠ "java/lang/invoke/VarHandle" ∧ (parseMethodDescriptor yX8_dirt.desc).map (fun d => d.parameters.length) = some 2 := by decide +kernel
set_option maxHeartbeats 4000000 in
set_option maxRecDepth 100000 in
theorem mX8_dirt (l : Launch) (D : va_G) (am : Nat → Nat) (cm : Nat → ClassId) (u : UM) (a1 : Int32) (a2 : Int32)  (r0 : Int64) (hok : fX8_dirt u a1 a2 = some r0) : Met l yX8_dirt (Cond.code yX8_dirt cX8_dirt 9 (some .long) :: wsG) rX8_dirt (va_Pc [.ref (am 16), .int a1, .int a2] (wI D (wM am cm) (mC D am cm) u)) (va_Ql (fun (r : Int64) (u' : UM) => r = r0 ∧ u' = u) (wB D (wM am cm)) (AM am)) 0 0 (AM am) := by
  refine Met.ofW (cc := cX8_dirt) (maxL := 9) (ret := (some .long)) (by decide) rfl ?_
  intro p e s m args below meth c s₁ B hml hv
  have hx := B.exec
  have hb := B.bytes
  have hr := B.returns
  have hts := atoms_spec (ws := (Cond.code yX8_dirt cX8_dirt 9 (some .long) :: wsG)) B.pre
  have hg : ∀ w ∈ wsG, w.before args s = true := fun w h => hts w (List.mem_cons_of_mem _ h)
  have hown : s.vm.findClass RX8 = some m.cls := findClass_of_methodNamed B.named
  have hlocks := B.notSynchronized
  obtain ⟨ha, hP, hC⟩ := hv
  obtain ⟨hK, hJ⟩ := id hC
  have hS : va_S (AM am) s.heap s.heap [] := va_S.rf
  refine W.eq (show entryFrame m args 9 = entryFrame m ([.ref (am 16), .int a1, .int a2] : List Value).toArray 9 by rw [ha]) ?_
  have hl := lv_entry ([.ref (am 16), .int a1, .int a2]) (n := 9) (Nat.le_of_ble_eq_true rfl)
  rw [lg_entry_eq]
  generalize (lg_sl ([.ref (am 16), .int a1, .int a2]) ++ List.replicate (9 - (lg_sl ([.ref (am 16), .int a1, .int a2])).length) Slot.unset).toArray = ls at hl ⊢
  have hl : lv_has ls 9 [(0, .ref (am 16)), (1, .int a1), (2, .int a2)] := hl
  show W p l e rX8_dirt s m args below meth c s.heap [] 0 0 (MQ below (va_Ql (fun (r : Int64) (u' : UM) => r = r0 ∧ u' = u) (wB D (wM am cm)) (AM am)) args s 0 0 (AM am)) (F0 m 0 ls [])
  have hf := hok
  unfold fX8_dirt at hf
  refine lv_aload_n hx hb dX8_dirt_0 rfl (lv_at hl 0 rfl) ?_
  refine lv_iconst (v := 0) hx hb dX8_dirt_1 (by decide) ?_
  refine m_putZ hx hb hg hown hK hP hJ hS (hg _ kw_500) dX8_dirt_2 (fun H locs hP hS => ?_)
  refine lv_iload_n hx hb dX8_dirt_5 rfl (lv_at hl 1 rfl) ?_
  refine lv_i2l hx hb dX8_dirt_6 rfl ?_
  refine lv_lconst (v := 1) hx hb dX8_dirt_7 (by decide) ?_
  refine lv_ldc2 (v := 500) hx hb hown (hg _ kw_571) dX8_dirt_8 ?_
  obtain ⟨r_1, hc_2, hf⟩ := bd_ok hf
  refine gcFi 3 ⟨hx, hb, hml, hown, hts⟩ (mX8_in l a1.toInt64 ((1 : Int64)) ((500 : Int64)) r_1 hc_2) (gG kw_569) kw_567 kw_568 kw_28 hX8_in ⟨rfl, rfl⟩ ⟨Nat.le_of_ble_eq_true rfl, Nat.le_of_ble_eq_true rfl⟩ ⟨Nat.zero_le _, Nat.zero_le _⟩ rfl hl.1 rfl (Nat.le_of_ble_eq_true rfl) dX8_dirt_11 ?_
  refine lv_if_eq (tgt := 27) hx hb dX8_dirt_14 (by decide) (fun c_3 => ?_) (fun c_3 => ?_)
  · skip
    replace hf := it_t c_3 hf
    refine lv_ldc2 (v := -1) hx hb hown (hg _ kw_602) dX8_dirt_27 ?_
    exact grL hx hb hr hlocks hP hS dX8_dirt_30 (Option.some.inj hf) rfl
  · skip
    replace hf := it_f c_3 hf
    refine lv_iload_n hx hb dX8_dirt_17 rfl (lv_at hl 2 rfl) ?_
    refine lv_i2l hx hb dX8_dirt_18 rfl ?_
    refine lv_lconst (v := 0) hx hb dX8_dirt_19 (by decide) ?_
    refine lv_lconst (v := 1) hx hb dX8_dirt_20 (by decide) ?_
    obtain ⟨r_4, hc_5, hf⟩ := bd_ok hf
    refine gcFi 3 ⟨hx, hb, hml, hown, hts⟩ (mX8_in l a2.toInt64 ((0 : Int64)) ((1 : Int64)) r_4 hc_5) (gG kw_569) kw_567 kw_568 kw_28 hX8_in ⟨rfl, rfl⟩ ⟨Nat.le_of_ble_eq_true rfl, Nat.le_of_ble_eq_true rfl⟩ ⟨Nat.zero_le _, Nat.zero_le _⟩ rfl hl.1 rfl (Nat.le_of_ble_eq_true rfl) dX8_dirt_21 ?_
    refine lv_if_ne (tgt := 31) hx hb dX8_dirt_24 (by decide) (fun c_6 => ?_) (fun c_6 => ?_)
    · skip
      replace hf := it_f c_6 hf
      refine lv_aload_n hx hb dX8_dirt_31 rfl (lv_at hl 0 rfl) ?_
      obtain ⟨r_7, hc_8, hf⟩ := bd_ok hf
      refine gcVl 0 (mC_ok D am cm hJ) hC ⟨hx, hb, hml, hown, hts⟩ (mX8_below l D am cm u r_7 hc_8) (gG kw_606) kw_603 kw_605 kw_10 kw_28 hX8_below ⟨rfl, rfl⟩ ⟨Nat.le_of_ble_eq_true rfl, Nat.le_of_ble_eq_true rfl⟩ (x_rec (C := RX8) (T := TX8) (N := 20) (ci := 7) hK hP rfl m_o16) hP hS ⟨Nat.zero_le _, Nat.zero_le _⟩ rfl hl.1 rfl (Nat.le_of_ble_eq_true rfl) dX8_dirt_32 (fun H locs hP hS => ?_)
      refine lv_lstore_n (lv' := [(3, .long r_7), (0, .ref (am 16)), (1, .int a1), (2, .int a2)]) hx hb dX8_dirt_35 rfl hl (by decide) rfl (fun ls hl => ?_)
      refine lv_aload_n hx hb dX8_dirt_36 rfl (lv_at hl 1 rfl) ?_
      refine lv_iload_n hx hb dX8_dirt_37 rfl (lv_at hl 2 rfl) ?_
      refine lv_lload_n hx hb dX8_dirt_38 rfl (lv_at hl 0 rfl) ?_
      obtain ⟨r_9, hc_10, hf⟩ := bd_ok hf
      refine gcVl 2 (mC_ok D am cm hJ) hC ⟨hx, hb, hml, hown, hts⟩ (mX8_dirtOf l D am cm u a1 r_7 r_9 hc_10) (gG kw_613) kw_610 kw_612 kw_11 kw_28 hX8_dirtOf ⟨rfl, rfl⟩ ⟨Nat.le_of_ble_eq_true rfl, Nat.le_of_ble_eq_true rfl⟩ (x_rec (C := RX8) (T := TX8) (N := 20) (ci := 7) hK hP rfl m_o16) hP hS ⟨Nat.zero_le _, Nat.zero_le _⟩ rfl hl.1 rfl (Nat.le_of_ble_eq_true rfl) dX8_dirt_39 (fun H locs hP hS => ?_)
      refine lv_lstore (lv' := [(5, .long r_9), (3, .long r_7), (0, .ref (am 16)), (1, .int a1), (2, .int a2)]) hx hb dX8_dirt_42 hl (by decide) rfl (fun ls hl => ?_)
      refine lv_lload hx hb dX8_dirt_44 (lv_at hl 0 rfl) ?_
      refine lv_lload_n hx hb dX8_dirt_46 rfl (lv_at hl 1 rfl) ?_
      obtain ⟨r_11, hc_12, hf⟩ := bd_ok hf
      refine gcFl 2 ⟨hx, hb, hml, hown, hts⟩ (mX8_common l r_9 r_7 r_11 hc_12) (gG kw_609) kw_607 kw_608 kw_28 hX8_common ⟨rfl, rfl⟩ ⟨Nat.le_of_ble_eq_true rfl, Nat.le_of_ble_eq_true rfl⟩ ⟨Nat.zero_le _, Nat.zero_le _⟩ rfl hl.1 rfl (Nat.le_of_ble_eq_true rfl) dX8_dirt_47 ?_
      refine lv_lstore (lv' := [(7, .long r_11), (5, .long r_9), (3, .long r_7), (0, .ref (am 16)), (1, .int a1), (2, .int a2)]) hx hb dX8_dirt_50 hl (by decide) rfl (fun ls hl => ?_)
      refine lv_iload_n hx hb dX8_dirt_52 rfl (lv_at hl 5 rfl) ?_
      refine lv_if_ne (tgt := 64) hx hb dX8_dirt_53 (by decide) (fun c_13 => ?_) (fun c_13 => ?_)
      · skip
        replace hf := it_f c_13 hf
        refine lv_lload_n hx hb dX8_dirt_64 rfl (lv_at hl 2 rfl) ?_
        refine lv_lload hx hb dX8_dirt_65 (lv_at hl 0 rfl) ?_
        obtain ⟨hb_14, hf⟩ := gd_ok hf
        refine lv_ldiv hx hb dX8_dirt_67 (nz8_ok hb_14) ?_
        exact grL hx hb hr hlocks hP hS dX8_dirt_68 (Option.some.inj hf) rfl
      · skip
        replace hf := it_t c_13 hf
        refine lv_lload hx hb dX8_dirt_56 (lv_at hl 1 rfl) ?_
        refine lv_lload hx hb dX8_dirt_58 (lv_at hl 0 rfl) ?_
        obtain ⟨hb_15, hf⟩ := gd_ok hf
        refine lv_ldiv hx hb dX8_dirt_60 (nz8_ok hb_15) ?_
        refine lv_goto (tgt := 68) hx hb dX8_dirt_61 (by decide) ?_
        exact grL hx hb hr hlocks hP hS dX8_dirt_68 (Option.some.inj hf) rfl
    · skip
      replace hf := it_t c_6 hf
      refine lv_ldc2 (v := -1) hx hb hown (hg _ kw_602) dX8_dirt_27 ?_
      exact grL hx hb hr hlocks hP hS dX8_dirt_30 (Option.some.inj hf) rfl
abbrev rX8_pinch : Room := { frames := 2, cells := 0, slots := 0, locals := 52 }
theorem hX8_pinch : yX8_pinch.cls ≠ "java/lang/invoke/MethodHandle" ∧ yX8_pinch.cls ≠ "java/lang/invoke/VarHandle" ∧ (parseMethodDescriptor yX8_pinch.desc).map (fun d => d.parameters.length) = some 0 := by decide +kernel
set_option maxHeartbeats 4000000 in
set_option maxRecDepth 100000 in
theorem mX8_pinch (l : Launch) (D : va_G) (am : Nat → Nat) (cm : Nat → ClassId) (u : UM)   (r0 : Int32) (hok : fX8_pinch u = some r0) : Met l yX8_pinch (Cond.code yX8_pinch cX8_pinch 12 (some .int) :: wsG) rX8_pinch (va_Pc [.ref (am 16)] (wI D (wM am cm) (mC D am cm) u)) (va_Qi (fun (r : Int32) (u' : UM) => r = r0 ∧ u' = u) (wB D (wM am cm)) (AM am)) 0 0 (AM am) := by
  refine Met.ofW (cc := cX8_pinch) (maxL := 12) (ret := (some .int)) (by decide) rfl ?_
  intro p e s m args below meth c s₁ B hml hv
  have hx := B.exec
  have hb := B.bytes
  have hr := B.returns
  have hts := atoms_spec (ws := (Cond.code yX8_pinch cX8_pinch 12 (some .int) :: wsG)) B.pre
  have hg : ∀ w ∈ wsG, w.before args s = true := fun w h => hts w (List.mem_cons_of_mem _ h)
  have hown : s.vm.findClass RX8 = some m.cls := findClass_of_methodNamed B.named
  have hlocks := B.notSynchronized
  obtain ⟨ha, hP, hC⟩ := hv
  obtain ⟨hK, hJ⟩ := id hC
  have hS : va_S (AM am) s.heap s.heap [] := va_S.rf
  refine W.eq (show entryFrame m args 12 = entryFrame m ([.ref (am 16)] : List Value).toArray 12 by rw [ha]) ?_
  have hl := lv_entry ([.ref (am 16)]) (n := 12) (Nat.le_of_ble_eq_true rfl)
  rw [lg_entry_eq]
  generalize (lg_sl ([.ref (am 16)]) ++ List.replicate (12 - (lg_sl ([.ref (am 16)])).length) Slot.unset).toArray = ls at hl ⊢
  have hl : lv_has ls 12 [(0, .ref (am 16))] := hl
  show W p l e rX8_pinch s m args below meth c s.heap [] 0 0 (MQ below (va_Qi (fun (r : Int32) (u' : UM) => r = r0 ∧ u' = u) (wB D (wM am cm)) (AM am)) args s 0 0 (AM am)) (F0 m 0 ls [])
  have hf := hok
  unfold fX8_pinch at hf
  refine lv_bipush (v := -9) hx hb dX8_pinch_0 (by decide) ?_
  refine lv_istore_n (lv' := [(1, .int ((-9 : Int32))), (0, .ref (am 16))]) hx hb dX8_pinch_2 rfl hl (by decide) rfl (fun ls hl => ?_)
  refine lv_aload_n hx hb dX8_pinch_3 rfl (lv_at hl 1 rfl) ?_
  obtain ⟨r_1, hc_2, hf⟩ := bd_ok hf
  refine gcVl 0 (mC_ok D am cm hJ) hC ⟨hx, hb, hml, hown, hts⟩ (mX8_below l D am cm u r_1 hc_2) (gG kw_606) kw_603 kw_605 kw_10 kw_28 hX8_below ⟨rfl, rfl⟩ ⟨Nat.le_of_ble_eq_true rfl, Nat.le_of_ble_eq_true rfl⟩ (x_rec (C := RX8) (T := TX8) (N := 20) (ci := 7) hK hP rfl m_o16) hP hS ⟨Nat.zero_le _, Nat.zero_le _⟩ rfl hl.1 rfl (Nat.le_of_ble_eq_true rfl) dX8_pinch_4 (fun H locs hP hS => ?_)
  refine lv_lstore_n (lv' := [(2, .long r_1), (1, .int ((-9 : Int32))), (0, .ref (am 16))]) hx hb dX8_pinch_7 rfl hl (by decide) rfl (fun ls hl => ?_)
  refine lv_iconst (v := 1) hx hb dX8_pinch_8 (by decide) ?_
  refine lv_istore (lv' := [(4, .int ((1 : Int32))), (2, .long r_1), (1, .int ((-9 : Int32))), (0, .ref (am 16))]) hx hb dX8_pinch_9 hl (by decide) rfl (fun ls hl => ?_)
  have hL_4 : ∀ (nf : Nat) (y1_k_3 : Int32) (y4_k_3 : Int32) (H : Heap) (locs : List Loc) (ls : Array Slot) (t : Int32), va_P D vwCl (wM am cm u) H → va_S (AM am) s.heap H locs → lv_has ls 12 [(0, .ref (am 16)), (1, .int y1_k_3), (2, .long r_1), (4, .int y4_k_3)] → fX8_pinch_11 u r_1 nf y1_k_3 y4_k_3 = some t → (∀ (H : Heap) (locs : List Loc) (ls : Array Slot), va_P D vwCl (wM am cm u) H → va_S (AM am) s.heap H locs → lv_has ls 12 [(1, .int t)] → W p l e rX8_pinch s m args below meth c H locs 0 0 (MQ below (va_Qi (fun (r : Int32) (u' : UM) => r = r0 ∧ u' = u) (wB D (wM am cm)) (AM am)) args s 0 0 (AM am)) (F0 m 189 ls [])) → W p l e rX8_pinch s m args below meth c H locs 0 0 (MQ below (va_Qi (fun (r : Int32) (u' : UM) => r = r0 ∧ u' = u) (wB D (wM am cm)) (AM am)) args s 0 0 (AM am)) (F0 m 11 ls []) := by
    intro nf
    induction nf with
    | zero => intro y1_k_3 y4_k_3 H locs ls t hP hS hl hf hK'; rw [fX8_pinch_11] at hf; cases hf
    | succ nf ih =>
      intro y1_k_3 y4_k_3 H locs ls t hP hS hl hf hK'
      rw [fX8_pinch_11] at hf
      refine lv_iload hx hb dX8_pinch_11 (lv_at hl 3 rfl) ?_
      refine lv_sipush (v := 500) hx hb dX8_pinch_13 (by decide) ?_
      refine lv_icmp_gt (tgt := 189) hx hb dX8_pinch_16 (by decide) (fun c_5 => ?_) (fun c_5 => ?_)
      · skip
        replace hf := it_t c_5 hf
        have ht := Option.some.inj hf
        subst ht
        exact hK' _ _ _ hP hS (lv_sub hl [1] rfl)
      · skip
        replace hf := it_f c_5 hf
        refine lv_iconst (v := 0) hx hb dX8_pinch_19 (by decide) ?_
        refine lv_istore (lv' := [(5, .int ((0 : Int32))), (0, .ref (am 16)), (1, .int y1_k_3), (2, .long r_1), (4, .int y4_k_3)]) hx hb dX8_pinch_20 hl (by decide) rfl (fun ls hl => ?_)
        refine lv_iconst (v := 0) hx hb dX8_pinch_22 (by decide) ?_
        refine lv_istore (lv' := [(6, .int ((0 : Int32))), (5, .int ((0 : Int32))), (0, .ref (am 16)), (1, .int y1_k_3), (2, .long r_1), (4, .int y4_k_3)]) hx hb dX8_pinch_23 hl (by decide) rfl (fun ls hl => ?_)
        have hL_7 : ∀ (nf : Nat) (y5_k_6 : Int32) (y6_k_6 : Int32) (H : Heap) (locs : List Loc) (ls : Array Slot) (t : Int32), va_P D vwCl (wM am cm u) H → va_S (AM am) s.heap H locs → lv_has ls 12 [(0, .ref (am 16)), (1, .int y1_k_3), (2, .long r_1), (4, .int y4_k_3), (5, .int y5_k_6), (6, .int y6_k_6)] → fX8_pinch_25 u y4_k_3 nf y5_k_6 y6_k_6 = some t → (∀ (H : Heap) (locs : List Loc) (ls : Array Slot), va_P D vwCl (wM am cm u) H → va_S (AM am) s.heap H locs → lv_has ls 12 [(0, .ref (am 16)), (1, .int y1_k_3), (2, .long r_1), (4, .int y4_k_3), (5, .int t)] → W p l e rX8_pinch s m args below meth c H locs 0 0 (MQ below (va_Qi (fun (r : Int32) (u' : UM) => r = r0 ∧ u' = u) (wB D (wM am cm)) (AM am)) args s 0 0 (AM am)) (F0 m 74 ls [])) → W p l e rX8_pinch s m args below meth c H locs 0 0 (MQ below (va_Qi (fun (r : Int32) (u' : UM) => r = r0 ∧ u' = u) (wB D (wM am cm)) (AM am)) args s 0 0 (AM am)) (F0 m 25 ls []) := by
          intro nf
          induction nf with
          | zero => intro y5_k_6 y6_k_6 H locs ls t hP hS hl hf hK'; rw [fX8_pinch_25] at hf; cases hf
          | succ nf ih =>
            intro y5_k_6 y6_k_6 H locs ls t hP hS hl hf hK'
            rw [fX8_pinch_25] at hf
            refine lv_iload hx hb dX8_pinch_25 (lv_at hl 5 rfl) ?_
            refine lv_aload_n hx hb dX8_pinch_27 rfl (lv_at hl 0 rfl) ?_
            refine va_get (D := D) (ci := 7) (v := .int u.2.2.2.1) (C := RX8) (T := TX8) (N := 20) hx hb hg inG_X8 hown hK hP 16 m_o16 rfl 2 (by decide) (hg _ kw_502) (fun _ h9 => h9) rfl dX8_pinch_28 ?_
            refine lv_icmp_ge (tgt := 74) hx hb dX8_pinch_31 (by decide) (fun c_8 => ?_) (fun c_8 => ?_)
            · skip
              replace hf := it_t c_8 hf
              have ht := Option.some.inj hf
              subst ht
              exact hK' _ _ _ hP hS (lv_sub hl [0, 1, 2, 3, 4] rfl)
            · skip
              replace hf := it_f c_8 hf
              refine lv_iload hx hb dX8_pinch_34 (lv_at hl 4 rfl) ?_
              refine lv_aload_n hx hb dX8_pinch_36 rfl (lv_at hl 0 rfl) ?_
              refine va_get (D := D) (ci := 7) (v := .ref (am 1)) (C := RX8) (T := TX8) (N := 20) hx hb hg inG_X8 hown hK hP 16 m_o16 rfl 4 (by decide) (hg _ kw_504) (fun _ h9 => h9) rfl dX8_pinch_37 ?_
              refine lv_iload hx hb dX8_pinch_40 (lv_at hl 5 rfl) ?_
              obtain ⟨hb_9, hf⟩ := gd_ok hf
              refine m_iald hx hb hK hP (by decide) (by decide) rfl hb_9 dX8_pinch_42 ?_
              refine lv_iload hx hb dX8_pinch_43 (lv_at hl 3 rfl) ?_
              refine lv_icmp_eq (tgt := 60) hx hb dX8_pinch_45 (by decide) (fun c_10 => ?_) (fun c_10 => ?_)
              · skip
                replace hf := it_t c_10 hf
                refine lv_iconst (v := 1) hx hb dX8_pinch_60 (by decide) ?_
                refine lv_goto (tgt := 65) hx hb dX8_pinch_61 (by decide) ?_
                refine lv_ior hx hb dX8_pinch_65 ?_
                refine lv_istore (lv' := [(5, .int (y5_k_6 ||| ((1 : Int32)))), (0, .ref (am 16)), (1, .int y1_k_3), (2, .long r_1), (4, .int y4_k_3), (6, .int y6_k_6)]) hx hb dX8_pinch_66 hl (by decide) rfl (fun ls hl => ?_)
                refine lv_iinc (v := y6_k_6 + 1) (lv' := [(6, .int (y6_k_6 + 1)), (5, .int (y5_k_6 ||| ((1 : Int32)))), (0, .ref (am 16)), (1, .int y1_k_3), (2, .long r_1), (4, .int y4_k_3)]) hx hb dX8_pinch_68 hl (k := 5) rfl rfl (by decide) rfl (fun ls hl => ?_)
                refine lv_goto (tgt := 25) hx hb dX8_pinch_71 (by decide) ?_
                exact ih _ _ _ _ _ t hP hS (lv_sub hl [2, 3, 4, 5, 1, 0] rfl) hf hK'
              · skip
                replace hf := it_f c_10 hf
                refine lv_aload_n hx hb dX8_pinch_48 rfl (lv_at hl 0 rfl) ?_
                refine va_get (D := D) (ci := 7) (v := .ref (am 2)) (C := RX8) (T := TX8) (N := 20) hx hb hg inG_X8 hown hK hP 16 m_o16 rfl 5 (by decide) (hg _ kw_505) (fun _ h9 => h9) rfl dX8_pinch_49 ?_
                refine lv_iload hx hb dX8_pinch_52 (lv_at hl 5 rfl) ?_
                refine m_iald hx hb hK hP (by decide) (by decide) rfl hb_9 dX8_pinch_54 ?_
                refine lv_iload hx hb dX8_pinch_55 (lv_at hl 3 rfl) ?_
                refine lv_icmp_ne (tgt := 64) hx hb dX8_pinch_57 (by decide) (fun c_11 => ?_) (fun c_11 => ?_)
                · skip
                  replace hf := it_f c_11 hf
                  refine lv_iconst (v := 0) hx hb dX8_pinch_64 (by decide) ?_
                  refine lv_ior hx hb dX8_pinch_65 ?_
                  refine lv_istore (lv' := [(5, .int (y5_k_6 ||| ((0 : Int32)))), (0, .ref (am 16)), (1, .int y1_k_3), (2, .long r_1), (4, .int y4_k_3), (6, .int y6_k_6)]) hx hb dX8_pinch_66 hl (by decide) rfl (fun ls hl => ?_)
                  refine lv_iinc (v := y6_k_6 + 1) (lv' := [(6, .int (y6_k_6 + 1)), (5, .int (y5_k_6 ||| ((0 : Int32)))), (0, .ref (am 16)), (1, .int y1_k_3), (2, .long r_1), (4, .int y4_k_3)]) hx hb dX8_pinch_68 hl (k := 5) rfl rfl (by decide) rfl (fun ls hl => ?_)
                  refine lv_goto (tgt := 25) hx hb dX8_pinch_71 (by decide) ?_
                  exact ih _ _ _ _ _ t hP hS (lv_sub hl [2, 3, 4, 5, 1, 0] rfl) hf hK'
                · skip
                  replace hf := it_t c_11 hf
                  refine lv_iconst (v := 1) hx hb dX8_pinch_60 (by decide) ?_
                  refine lv_goto (tgt := 65) hx hb dX8_pinch_61 (by decide) ?_
                  refine lv_ior hx hb dX8_pinch_65 ?_
                  refine lv_istore (lv' := [(5, .int (y5_k_6 ||| ((1 : Int32)))), (0, .ref (am 16)), (1, .int y1_k_3), (2, .long r_1), (4, .int y4_k_3), (6, .int y6_k_6)]) hx hb dX8_pinch_66 hl (by decide) rfl (fun ls hl => ?_)
                  refine lv_iinc (v := y6_k_6 + 1) (lv' := [(6, .int (y6_k_6 + 1)), (5, .int (y5_k_6 ||| ((1 : Int32)))), (0, .ref (am 16)), (1, .int y1_k_3), (2, .long r_1), (4, .int y4_k_3)]) hx hb dX8_pinch_68 hl (k := 5) rfl rfl (by decide) rfl (fun ls hl => ?_)
                  refine lv_goto (tgt := 25) hx hb dX8_pinch_71 (by decide) ?_
                  exact ih _ _ _ _ _ t hP hS (lv_sub hl [2, 3, 4, 5, 1, 0] rfl) hf hK'
        obtain ⟨t_12, hq_13, hf⟩ := bd_ok hf
        refine hL_7 FU _ _ _ _ _ t_12 hP hS (lv_sub hl [2, 3, 4, 5, 1, 0] rfl) hq_13 (fun H locs ls hP hS hl => ?_)
        refine lv_iload hx hb dX8_pinch_74 (lv_at hl 4 rfl) ?_
        refine lv_if_eq (tgt := 183) hx hb dX8_pinch_76 (by decide) (fun c_14 => ?_) (fun c_14 => ?_)
        · skip
          replace hf := it_t c_14 hf
          refine lv_iinc (v := y4_k_3 + 1) (lv' := [(4, .int (y4_k_3 + 1)), (0, .ref (am 16)), (1, .int y1_k_3), (2, .long r_1), (5, .int t_12)]) hx hb dX8_pinch_183 hl (k := 3) rfl rfl (by decide) rfl (fun ls hl => ?_)
          refine lv_goto (tgt := 11) hx hb dX8_pinch_186 (by decide) ?_
          exact ih _ _ _ _ _ t hP hS (lv_sub hl [1, 2, 3, 0] rfl) hf hK'
        · skip
          replace hf := it_f c_14 hf
          refine lv_aload_n hx hb dX8_pinch_79 rfl (lv_at hl 0 rfl) ?_
          refine lv_iload hx hb dX8_pinch_80 (lv_at hl 3 rfl) ?_
          refine lv_lload_n hx hb dX8_pinch_82 rfl (lv_at hl 2 rfl) ?_
          obtain ⟨r_15, hc_16, hf⟩ := bd_ok hf
          refine gcVl 2 (mC_ok D am cm hJ) hC ⟨hx, hb, hml, hown, hts⟩ (mX8_dirtOf l D am cm u y4_k_3 r_1 r_15 hc_16) (gG kw_613) kw_610 kw_612 kw_11 kw_28 hX8_dirtOf ⟨rfl, rfl⟩ ⟨Nat.le_of_ble_eq_true rfl, Nat.le_of_ble_eq_true rfl⟩ (x_rec (C := RX8) (T := TX8) (N := 20) (ci := 7) hK hP rfl m_o16) hP hS ⟨Nat.zero_le _, Nat.zero_le _⟩ rfl hl.1 rfl (Nat.le_of_ble_eq_true rfl) dX8_pinch_83 (fun H locs hP hS => ?_)
          refine lv_lstore (lv' := [(6, .long r_15), (0, .ref (am 16)), (1, .int y1_k_3), (2, .long r_1), (4, .int y4_k_3), (5, .int t_12)]) hx hb dX8_pinch_86 hl (by decide) rfl (fun ls hl => ?_)
          refine lv_iload_n hx hb dX8_pinch_88 rfl (lv_at hl 2 rfl) ?_
          refine lv_bipush (v := -9) hx hb dX8_pinch_89 (by decide) ?_
          obtain ⟨t_17, hq_18, hf⟩ := bd_ok hf
          have hJ_19 : ∀ (H : Heap) (locs : List Loc) (ls : Array Slot), va_P D vwCl (wM am cm u) H → va_S (AM am) s.heap H locs → lv_has ls 12 [(0, .ref (am 16)), (1, .int y1_k_3), (2, .long r_1), (4, .int y4_k_3), (6, .long r_15)] → W p l e rX8_pinch s m args below meth c H locs 0 0 (MQ below (va_Qi (fun (r : Int32) (u' : UM) => r = r0 ∧ u' = u) (wB D (wM am cm)) (AM am)) args s 0 0 (AM am)) (F0 m 106 ls [.long t_17]) := by
            intro H locs ls hP hS hl
            refine lv_lstore (lv' := [(8, .long t_17), (0, .ref (am 16)), (1, .int y1_k_3), (2, .long r_1), (4, .int y4_k_3), (6, .long r_15)]) hx hb dX8_pinch_106 hl (by decide) rfl (fun ls hl => ?_)
            refine lv_iload_n hx hb dX8_pinch_108 rfl (lv_at hl 2 rfl) ?_
            refine lv_bipush (v := -9) hx hb dX8_pinch_109 (by decide) ?_
            obtain ⟨t_20, hq_21, hf⟩ := bd_ok hf
            have hJ_22 : ∀ (H : Heap) (locs : List Loc) (ls : Array Slot), va_P D vwCl (wM am cm u) H → va_S (AM am) s.heap H locs → lv_has ls 12 [(0, .ref (am 16)), (1, .int y1_k_3), (2, .long r_1), (4, .int y4_k_3)] → W p l e rX8_pinch s m args below meth c H locs 0 0 (MQ below (va_Qi (fun (r : Int32) (u' : UM) => r = r0 ∧ u' = u) (wB D (wM am cm)) (AM am)) args s 0 0 (AM am)) (F0 m 167 ls [.long t_20]) := by
              intro H locs ls hP hS hl
              refine lv_lstore (lv' := [(10, .long t_20), (0, .ref (am 16)), (1, .int y1_k_3), (2, .long r_1), (4, .int y4_k_3)]) hx hb dX8_pinch_167 hl (by decide) rfl (fun ls hl => ?_)
              refine lv_lload hx hb dX8_pinch_169 (lv_at hl 0 rfl) ?_
              refine lv_lconst (v := 0) hx hb dX8_pinch_171 (by decide) ?_
              refine W.lcmp hx hb dX8_pinch_172 ?_
              refine lv_if_le (tgt := 181) hx hb dX8_pinch_173 (by decide) (fun c_23 => ?_) (fun c_23 => ?_)
              · replace c_23 := lc_le.mp c_23
                replace hf := it_t c_23 hf
                refine lv_iload_n hx hb dX8_pinch_181 rfl (lv_at hl 2 rfl) ?_
                refine lv_istore_n (lv' := [(1, .int y1_k_3), (10, .long t_20), (0, .ref (am 16)), (2, .long r_1), (4, .int y4_k_3)]) hx hb dX8_pinch_182 rfl hl (by decide) rfl (fun ls hl => ?_)
                refine lv_iinc (v := y4_k_3 + 1) (lv' := [(4, .int (y4_k_3 + 1)), (1, .int y1_k_3), (10, .long t_20), (0, .ref (am 16)), (2, .long r_1)]) hx hb dX8_pinch_183 hl (k := 4) rfl rfl (by decide) rfl (fun ls hl => ?_)
                refine lv_goto (tgt := 11) hx hb dX8_pinch_186 (by decide) ?_
                exact ih _ _ _ _ _ t hP hS (lv_sub hl [3, 1, 4, 0] rfl) hf hK'
              · replace c_23 := fun q => c_23 (lc_le.mpr q)
                replace hf := it_f c_23 hf
                refine lv_iload hx hb dX8_pinch_176 (lv_at hl 4 rfl) ?_
                refine lv_goto (tgt := 182) hx hb dX8_pinch_178 (by decide) ?_
                refine lv_istore_n (lv' := [(1, .int y4_k_3), (10, .long t_20), (0, .ref (am 16)), (2, .long r_1), (4, .int y4_k_3)]) hx hb dX8_pinch_182 rfl hl (by decide) rfl (fun ls hl => ?_)
                refine lv_iinc (v := y4_k_3 + 1) (lv' := [(4, .int (y4_k_3 + 1)), (1, .int y4_k_3), (10, .long t_20), (0, .ref (am 16)), (2, .long r_1)]) hx hb dX8_pinch_183 hl (k := 4) rfl rfl (by decide) rfl (fun ls hl => ?_)
                refine lv_goto (tgt := 11) hx hb dX8_pinch_186 (by decide) ?_
                exact ih _ _ _ _ _ t hP hS (lv_sub hl [3, 1, 4, 0] rfl) hf hK'
            clear hf
            have hf := hq_21
            refine lv_icmp_ne (tgt := 118) hx hb dX8_pinch_111 (by decide) (fun c_24 => ?_) (fun c_24 => ?_)
            · skip
              replace hf := it_f c_24 hf
              refine lv_lload hx hb dX8_pinch_118 (lv_at hl 5 rfl) ?_
              refine lv_iload hx hb dX8_pinch_120 (lv_at hl 4 rfl) ?_
              refine lv_i2l hx hb dX8_pinch_122 rfl ?_
              obtain ⟨hb_25, hf⟩ := gd_ok hf
              refine lv_ldiv hx hb dX8_pinch_123 (nz8_ok hb_25) ?_
              refine lv_lload hx hb dX8_pinch_124 (lv_at hl 0 rfl) ?_
              refine lv_iload_n hx hb dX8_pinch_126 rfl (lv_at hl 2 rfl) ?_
              refine lv_i2l hx hb dX8_pinch_127 rfl ?_
              obtain ⟨hb_26, hf⟩ := gd_ok hf
              refine lv_ldiv hx hb dX8_pinch_128 (nz8_ok hb_26) ?_
              refine W.lcmp hx hb dX8_pinch_129 ?_
              refine lv_if_eq (tgt := 148) hx hb dX8_pinch_130 (by decide) (fun c_27 => ?_) (fun c_27 => ?_)
              · replace c_27 := lc_eq.mp c_27
                replace hf := it_t c_27 hf
                refine lv_lload hx hb dX8_pinch_148 (lv_at hl 5 rfl) ?_
                refine lv_iload hx hb dX8_pinch_150 (lv_at hl 4 rfl) ?_
                refine lv_i2l hx hb dX8_pinch_152 rfl ?_
                refine lv_lrem hx hb dX8_pinch_153 (nz8_ok hb_25) ?_
                refine lv_iload_n hx hb dX8_pinch_154 rfl (lv_at hl 2 rfl) ?_
                refine lv_i2l hx hb dX8_pinch_155 rfl ?_
                refine lv_lmul hx hb dX8_pinch_156 ?_
                refine lv_lload hx hb dX8_pinch_157 (lv_at hl 0 rfl) ?_
                refine lv_iload_n hx hb dX8_pinch_159 rfl (lv_at hl 2 rfl) ?_
                refine lv_i2l hx hb dX8_pinch_160 rfl ?_
                refine lv_lrem hx hb dX8_pinch_161 (nz8_ok hb_26) ?_
                refine lv_iload hx hb dX8_pinch_162 (lv_at hl 4 rfl) ?_
                refine lv_i2l hx hb dX8_pinch_164 rfl ?_
                refine lv_lmul hx hb dX8_pinch_165 ?_
                refine lv_lsub hx hb dX8_pinch_166 ?_
                have ht := Option.some.inj hf
                subst ht
                exact hJ_22 _ _ _ hP hS (lv_sub hl [1, 2, 3, 4] rfl)
              · replace c_27 := fun q => c_27 (lc_eq.mpr q)
                replace hf := it_f c_27 hf
                refine lv_lload hx hb dX8_pinch_133 (lv_at hl 5 rfl) ?_
                refine lv_iload hx hb dX8_pinch_135 (lv_at hl 4 rfl) ?_
                refine lv_i2l hx hb dX8_pinch_137 rfl ?_
                refine lv_ldiv hx hb dX8_pinch_138 (nz8_ok hb_25) ?_
                refine lv_lload hx hb dX8_pinch_139 (lv_at hl 0 rfl) ?_
                refine lv_iload_n hx hb dX8_pinch_141 rfl (lv_at hl 2 rfl) ?_
                refine lv_i2l hx hb dX8_pinch_142 rfl ?_
                refine lv_ldiv hx hb dX8_pinch_143 (nz8_ok hb_26) ?_
                refine lv_lsub hx hb dX8_pinch_144 ?_
                refine lv_goto (tgt := 167) hx hb dX8_pinch_145 (by decide) ?_
                have ht := Option.some.inj hf
                subst ht
                exact hJ_22 _ _ _ hP hS (lv_sub hl [1, 2, 3, 4] rfl)
            · skip
              replace hf := it_t c_24 hf
              refine lv_lconst (v := 1) hx hb dX8_pinch_114 (by decide) ?_
              refine lv_goto (tgt := 167) hx hb dX8_pinch_115 (by decide) ?_
              have ht := Option.some.inj hf
              subst ht
              exact hJ_22 _ _ _ hP hS (lv_sub hl [1, 2, 3, 4] rfl)
          clear hf
          have hf := hq_18
          refine lv_icmp_ne (tgt := 100) hx hb dX8_pinch_91 (by decide) (fun c_28 => ?_) (fun c_28 => ?_)
          · skip
            replace hf := it_f c_28 hf
            refine lv_aload_n hx hb dX8_pinch_100 rfl (lv_at hl 1 rfl) ?_
            refine lv_iload_n hx hb dX8_pinch_101 rfl (lv_at hl 2 rfl) ?_
            refine lv_lload_n hx hb dX8_pinch_102 rfl (lv_at hl 3 rfl) ?_
            obtain ⟨r_29, hc_30, hf⟩ := bd_ok hf
            refine gcVl 2 (mC_ok D am cm hJ) hC ⟨hx, hb, hml, hown, hts⟩ (mX8_dirtOf l D am cm u y1_k_3 r_1 r_29 hc_30) (gG kw_613) kw_610 kw_612 kw_11 kw_28 hX8_dirtOf ⟨rfl, rfl⟩ ⟨Nat.le_of_ble_eq_true rfl, Nat.le_of_ble_eq_true rfl⟩ (x_rec (C := RX8) (T := TX8) (N := 20) (ci := 7) hK hP rfl m_o16) hP hS ⟨Nat.zero_le _, Nat.zero_le _⟩ rfl hl.1 rfl (Nat.le_of_ble_eq_true rfl) dX8_pinch_103 (fun H locs hP hS => ?_)
            have ht := Option.some.inj hf
            subst ht
            exact hJ_19 _ _ _ hP hS (lv_sub hl [1, 2, 3, 4, 0] rfl)
          · skip
            replace hf := it_t c_28 hf
            refine lv_ldc2 (v := -1) hx hb hown (hg _ kw_602) dX8_pinch_94 ?_
            refine lv_goto (tgt := 106) hx hb dX8_pinch_97 (by decide) ?_
            have ht := Option.some.inj hf
            subst ht
            exact hJ_19 _ _ _ hP hS (lv_sub hl [1, 2, 3, 4, 0] rfl)
  obtain ⟨t_31, hq_32, hf⟩ := bd_ok hf
  refine hL_4 FU _ _ _ _ _ t_31 hP hS (lv_sub hl [3, 2, 1, 0] rfl) hq_32 (fun H locs ls hP hS hl => ?_)
  refine lv_iload_n hx hb dX8_pinch_189 rfl (lv_at hl 0 rfl) ?_
  exact grI hx hb hr hlocks hP hS dX8_pinch_190 (Option.some.inj hf) rfl
abbrev rX8_least : Room := { frames := 3, cells := 0, slots := 0, locals := 83 }
theorem hX8_least : yX8_least.cls ≠ "java/lang/invoke/MethodHandle" ∧ yX8_least.cls ≠ "java/lang/invoke/VarHandle" ∧ (parseMethodDescriptor yX8_least.desc).map (fun d => d.parameters.length) = some 1 := by decide +kernel
set_option maxHeartbeats 4000000 in
set_option maxRecDepth 100000 in
theorem mX8_least (l : Launch) (D : va_G) (am : Nat → Nat) (cm : Nat → ClassId) (u : UM) (a1 : Int32)  (r0 : Int64) (hok : fX8_least u a1 = some r0) : Met l yX8_least (Cond.code yX8_least cX8_least 9 (some .long) :: wsG) rX8_least (va_Pc [.ref (am 16), .int a1] (wI D (wM am cm) (mC D am cm) u)) (va_Ql (fun (r : Int64) (u' : UM) => r = r0 ∧ u' = u) (wB D (wM am cm)) (AM am)) 0 0 (AM am) := by
  refine Met.ofW (cc := cX8_least) (maxL := 9) (ret := (some .long)) (by decide) rfl ?_
  intro p e s m args below meth c s₁ B hml hv
  have hx := B.exec
  have hb := B.bytes
  have hr := B.returns
  have hts := atoms_spec (ws := (Cond.code yX8_least cX8_least 9 (some .long) :: wsG)) B.pre
  have hg : ∀ w ∈ wsG, w.before args s = true := fun w h => hts w (List.mem_cons_of_mem _ h)
  have hown : s.vm.findClass RX8 = some m.cls := findClass_of_methodNamed B.named
  have hlocks := B.notSynchronized
  obtain ⟨ha, hP, hC⟩ := hv
  obtain ⟨hK, hJ⟩ := id hC
  have hS : va_S (AM am) s.heap s.heap [] := va_S.rf
  refine W.eq (show entryFrame m args 9 = entryFrame m ([.ref (am 16), .int a1] : List Value).toArray 9 by rw [ha]) ?_
  have hl := lv_entry ([.ref (am 16), .int a1]) (n := 9) (Nat.le_of_ble_eq_true rfl)
  rw [lg_entry_eq]
  generalize (lg_sl ([.ref (am 16), .int a1]) ++ List.replicate (9 - (lg_sl ([.ref (am 16), .int a1])).length) Slot.unset).toArray = ls at hl ⊢
  have hl : lv_has ls 9 [(0, .ref (am 16)), (1, .int a1)] := hl
  show W p l e rX8_least s m args below meth c s.heap [] 0 0 (MQ below (va_Ql (fun (r : Int64) (u' : UM) => r = r0 ∧ u' = u) (wB D (wM am cm)) (AM am)) args s 0 0 (AM am)) (F0 m 0 ls [])
  have hf := hok
  unfold fX8_least at hf
  refine lv_aload_n hx hb dX8_least_0 rfl (lv_at hl 0 rfl) ?_
  refine lv_iconst (v := 0) hx hb dX8_least_1 (by decide) ?_
  refine m_putZ hx hb hg hown hK hP hJ hS (hg _ kw_500) dX8_least_2 (fun H locs hP hS => ?_)
  refine lv_iload_n hx hb dX8_least_5 rfl (lv_at hl 1 rfl) ?_
  refine lv_i2l hx hb dX8_least_6 rfl ?_
  refine lv_lconst (v := 0) hx hb dX8_least_7 (by decide) ?_
  refine lv_ldc2 (v := 2) hx hb hown (hg _ kw_585) dX8_least_8 ?_
  obtain ⟨r_1, hc_2, hf⟩ := bd_ok hf
  refine gcFi 3 ⟨hx, hb, hml, hown, hts⟩ (mX8_in l a1.toInt64 ((0 : Int64)) ((2 : Int64)) r_1 hc_2) (gG kw_569) kw_567 kw_568 kw_28 hX8_in ⟨rfl, rfl⟩ ⟨Nat.le_of_ble_eq_true rfl, Nat.le_of_ble_eq_true rfl⟩ ⟨Nat.zero_le _, Nat.zero_le _⟩ rfl hl.1 rfl (Nat.le_of_ble_eq_true rfl) dX8_least_11 ?_
  refine lv_if_ne (tgt := 21) hx hb dX8_least_14 (by decide) (fun c_3 => ?_) (fun c_3 => ?_)
  · skip
    replace hf := it_f c_3 hf
    refine lv_aload_n hx hb dX8_least_21 rfl (lv_at hl 0 rfl) ?_
    obtain ⟨r_4, hc_5, hf⟩ := bd_ok hf
    refine gcVi 0 (mC_ok D am cm hJ) hC ⟨hx, hb, hml, hown, hts⟩ (mX8_pinch l D am cm u r_4 hc_5) (gG kw_621) kw_618 kw_620 kw_12 kw_28 hX8_pinch ⟨rfl, rfl⟩ ⟨Nat.le_of_ble_eq_true rfl, Nat.le_of_ble_eq_true rfl⟩ (x_rec (C := RX8) (T := TX8) (N := 20) (ci := 7) hK hP rfl m_o16) hP hS ⟨Nat.zero_le _, Nat.zero_le _⟩ rfl hl.1 rfl (Nat.le_of_ble_eq_true rfl) dX8_least_22 (fun H locs hP hS => ?_)
    refine lv_istore_n (lv' := [(2, .int r_4), (0, .ref (am 16)), (1, .int a1)]) hx hb dX8_least_25 rfl hl (by decide) rfl (fun ls hl => ?_)
    refine lv_iload_n hx hb dX8_least_26 rfl (lv_at hl 2 rfl) ?_
    refine lv_iconst (v := 2) hx hb dX8_least_27 (by decide) ?_
    refine lv_icmp_ne (tgt := 34) hx hb dX8_least_28 (by decide) (fun c_6 => ?_) (fun c_6 => ?_)
    · skip
      replace hf := it_f c_6 hf
      refine lv_iload_n hx hb dX8_least_34 rfl (lv_at hl 0 rfl) ?_
      refine lv_bipush (v := -9) hx hb dX8_least_35 (by decide) ?_
      refine lv_icmp_ne (tgt := 43) hx hb dX8_least_37 (by decide) (fun c_7 => ?_) (fun c_7 => ?_)
      · skip
        replace hf := it_f c_7 hf
        refine lv_aload_n hx hb dX8_least_43 rfl (lv_at hl 1 rfl) ?_
        obtain ⟨r_8, hc_9, hf⟩ := bd_ok hf
        refine gcVl 0 (mC_ok D am cm hJ) hC ⟨hx, hb, hml, hown, hts⟩ (mX8_below l D am cm u r_8 hc_9) (gG kw_606) kw_603 kw_605 kw_10 kw_28 hX8_below ⟨rfl, rfl⟩ ⟨Nat.le_of_ble_eq_true rfl, Nat.le_of_ble_eq_true rfl⟩ (x_rec (C := RX8) (T := TX8) (N := 20) (ci := 7) hK hP rfl m_o16) hP hS ⟨Nat.zero_le _, Nat.zero_le _⟩ rfl hl.1 rfl (Nat.le_of_ble_eq_true rfl) dX8_least_44 (fun H locs hP hS => ?_)
        refine lv_lstore_n (lv' := [(3, .long r_8), (2, .int r_4), (0, .ref (am 16)), (1, .int a1)]) hx hb dX8_least_47 rfl hl (by decide) rfl (fun ls hl => ?_)
        refine lv_aload_n hx hb dX8_least_48 rfl (lv_at hl 2 rfl) ?_
        refine lv_iload_n hx hb dX8_least_49 rfl (lv_at hl 1 rfl) ?_
        refine lv_lload_n hx hb dX8_least_50 rfl (lv_at hl 0 rfl) ?_
        obtain ⟨r_10, hc_11, hf⟩ := bd_ok hf
        refine gcVl 2 (mC_ok D am cm hJ) hC ⟨hx, hb, hml, hown, hts⟩ (mX8_dirtOf l D am cm u r_4 r_8 r_10 hc_11) (gG kw_613) kw_610 kw_612 kw_11 kw_28 hX8_dirtOf ⟨rfl, rfl⟩ ⟨Nat.le_of_ble_eq_true rfl, Nat.le_of_ble_eq_true rfl⟩ (x_rec (C := RX8) (T := TX8) (N := 20) (ci := 7) hK hP rfl m_o16) hP hS ⟨Nat.zero_le _, Nat.zero_le _⟩ rfl hl.1 rfl (Nat.le_of_ble_eq_true rfl) dX8_least_51 (fun H locs hP hS => ?_)
        refine lv_lstore (lv' := [(5, .long r_10), (3, .long r_8), (2, .int r_4), (0, .ref (am 16)), (1, .int a1)]) hx hb dX8_least_54 hl (by decide) rfl (fun ls hl => ?_)
        refine lv_lload hx hb dX8_least_56 (lv_at hl 0 rfl) ?_
        refine lv_lload_n hx hb dX8_least_58 rfl (lv_at hl 1 rfl) ?_
        refine lv_iload_n hx hb dX8_least_59 rfl (lv_at hl 2 rfl) ?_
        refine lv_i2l hx hb dX8_least_60 rfl ?_
        refine lv_lmul hx hb dX8_least_61 ?_
        obtain ⟨r_12, hc_13, hf⟩ := bd_ok hf
        refine gcFl 2 ⟨hx, hb, hml, hown, hts⟩ (mX8_common l r_10 (r_8 * r_4.toInt64) r_12 hc_13) (gG kw_609) kw_607 kw_608 kw_28 hX8_common ⟨rfl, rfl⟩ ⟨Nat.le_of_ble_eq_true rfl, Nat.le_of_ble_eq_true rfl⟩ ⟨Nat.zero_le _, Nat.zero_le _⟩ rfl hl.1 rfl (Nat.le_of_ble_eq_true rfl) dX8_least_62 ?_
        refine lv_lstore (lv' := [(7, .long r_12), (5, .long r_10), (3, .long r_8), (2, .int r_4), (0, .ref (am 16)), (1, .int a1)]) hx hb dX8_least_65 hl (by decide) rfl (fun ls hl => ?_)
        refine lv_iload_n hx hb dX8_least_67 rfl (lv_at hl 5 rfl) ?_
        refine lv_if_ne (tgt := 79) hx hb dX8_least_68 (by decide) (fun c_14 => ?_) (fun c_14 => ?_)
        · skip
          replace hf := it_f c_14 hf
          refine lv_lload_n hx hb dX8_least_79 rfl (lv_at hl 2 rfl) ?_
          refine lv_iload_n hx hb dX8_least_80 rfl (lv_at hl 3 rfl) ?_
          refine lv_i2l hx hb dX8_least_81 rfl ?_
          refine lv_lmul hx hb dX8_least_82 ?_
          refine lv_lload hx hb dX8_least_83 (lv_at hl 0 rfl) ?_
          obtain ⟨hb_15, hf⟩ := gd_ok hf
          refine lv_ldiv hx hb dX8_least_85 (nz8_ok hb_15) ?_
          exact grL hx hb hr hlocks hP hS dX8_least_86 (Option.some.inj hf) rfl
        · skip
          replace hf := it_t c_14 hf
          refine lv_lload hx hb dX8_least_71 (lv_at hl 1 rfl) ?_
          refine lv_lload hx hb dX8_least_73 (lv_at hl 0 rfl) ?_
          obtain ⟨hb_16, hf⟩ := gd_ok hf
          refine lv_ldiv hx hb dX8_least_75 (nz8_ok hb_16) ?_
          refine lv_goto (tgt := 86) hx hb dX8_least_76 (by decide) ?_
          exact grL hx hb hr hlocks hP hS dX8_least_86 (Option.some.inj hf) rfl
      · skip
        replace hf := it_t c_7 hf
        refine lv_iload_n hx hb dX8_least_40 rfl (lv_at hl 2 rfl) ?_
        refine lv_i2l hx hb dX8_least_41 rfl ?_
        exact grL hx hb hr hlocks hP hS dX8_least_42 (Option.some.inj hf) rfl
    · skip
      replace hf := it_t c_6 hf
      refine lv_iload_n hx hb dX8_least_31 rfl (lv_at hl 0 rfl) ?_
      refine lv_i2l hx hb dX8_least_32 rfl ?_
      exact grL hx hb hr hlocks hP hS dX8_least_33 (Option.some.inj hf) rfl
  · skip
    replace hf := it_t c_3 hf
    refine lv_ldc2 (v := -1) hx hb hown (hg _ kw_602) dX8_least_17 ?_
    exact grL hx hb hr hlocks hP hS dX8_least_20 (Option.some.inj hf) rfl
abbrev rX8_fresh : Room := { frames := 2, cells := 0, slots := 0, locals := 46 }
theorem hX8_fresh : yX8_fresh.cls ≠ "java/lang/invoke/MethodHandle" ∧ yX8_fresh.cls ≠ "java/lang/invoke/VarHandle" ∧ (parseMethodDescriptor yX8_fresh.desc).map (fun d => d.parameters.length) = some 2 := by decide +kernel
set_option maxHeartbeats 4000000 in
set_option maxRecDepth 100000 in
theorem mX8_fresh (l : Launch) (D : va_G) (am : Nat → Nat) (cm : Nat → ClassId) (u : UM) (a1 : Int32) (a2 : Int32)  (ru : Int32 × UM) (hok : fX8_fresh u a1 a2 = some ru) : Met l yX8_fresh (Cond.code yX8_fresh cX8_fresh 4 (some .int) :: wsG) rX8_fresh (va_Pc [.ref (am 16), .int a1, .int a2] (wI D (wM am cm) (mC D am cm) u)) (va_Qi (fun (r : Int32) (u' : UM) => r = ru.1 ∧ u' = ru.2) (wB D (wM am cm)) (AM am)) 0 0 (AM am) := by
  refine Met.ofW (cc := cX8_fresh) (maxL := 4) (ret := (some .int)) (by decide) rfl ?_
  intro p e s m args below meth c s₁ B hml hv
  have hx := B.exec
  have hb := B.bytes
  have hr := B.returns
  have hts := atoms_spec (ws := (Cond.code yX8_fresh cX8_fresh 4 (some .int) :: wsG)) B.pre
  have hg : ∀ w ∈ wsG, w.before args s = true := fun w h => hts w (List.mem_cons_of_mem _ h)
  have hown : s.vm.findClass RX8 = some m.cls := findClass_of_methodNamed B.named
  have hlocks := B.notSynchronized
  obtain ⟨ha, hP, hC⟩ := hv
  obtain ⟨hK, hJ⟩ := id hC
  have hS : va_S (AM am) s.heap s.heap [] := va_S.rf
  refine W.eq (show entryFrame m args 4 = entryFrame m ([.ref (am 16), .int a1, .int a2] : List Value).toArray 4 by rw [ha]) ?_
  have hl := lv_entry ([.ref (am 16), .int a1, .int a2]) (n := 4) (Nat.le_of_ble_eq_true rfl)
  rw [lg_entry_eq]
  generalize (lg_sl ([.ref (am 16), .int a1, .int a2]) ++ List.replicate (4 - (lg_sl ([.ref (am 16), .int a1, .int a2])).length) Slot.unset).toArray = ls at hl ⊢
  have hl : lv_has ls 4 [(0, .ref (am 16)), (1, .int a1), (2, .int a2)] := hl
  show W p l e rX8_fresh s m args below meth c s.heap [] 0 0 (MQ below (va_Qi (fun (r : Int32) (u' : UM) => r = ru.1 ∧ u' = ru.2) (wB D (wM am cm)) (AM am)) args s 0 0 (AM am)) (F0 m 0 ls [])
  have hf := hok
  unfold fX8_fresh at hf
  refine lv_aload_n hx hb dX8_fresh_0 rfl (lv_at hl 0 rfl) ?_
  refine lv_iconst (v := 0) hx hb dX8_fresh_1 (by decide) ?_
  refine m_putZ hx hb hg hown hK hP hJ hS (hg _ kw_500) dX8_fresh_2 (fun H locs hP hS => ?_)
  refine lv_aload_n hx hb dX8_fresh_5 rfl (lv_at hl 0 rfl) ?_
  refine lv_iload_n hx hb dX8_fresh_6 rfl (lv_at hl 1 rfl) ?_
  obtain ⟨r_1, hc_2, hf⟩ := bd_ok hf
  refine gcVi 1 (mC_ok D am cm hJ) hC ⟨hx, hb, hml, hown, hts⟩ (mX8_isStep l D am cm u a1 r_1 hc_2) (gG kw_579) kw_576 kw_578 kw_8 kw_28 hX8_isStep ⟨rfl, rfl⟩ ⟨Nat.le_of_ble_eq_true rfl, Nat.le_of_ble_eq_true rfl⟩ (x_rec (C := RX8) (T := TX8) (N := 20) (ci := 7) hK hP rfl m_o16) hP hS ⟨Nat.zero_le _, Nat.zero_le _⟩ rfl hl.1 rfl (Nat.le_of_ble_eq_true rfl) dX8_fresh_7 (fun H locs hP hS => ?_)
  refine lv_if_eq (tgt := 25) hx hb dX8_fresh_10 (by decide) (fun c_3 => ?_) (fun c_3 => ?_)
  · skip
    replace hf := it_t c_3 hf
    refine lv_iconst (v := -1) hx hb dX8_fresh_25 (by decide) ?_
    exact grI hx hb hr hlocks hP hS dX8_fresh_26 (pf1 hf) (pf2 hf)
  · skip
    replace hf := it_f c_3 hf
    refine lv_iload_n hx hb dX8_fresh_13 rfl (lv_at hl 2 rfl) ?_
    refine lv_i2l hx hb dX8_fresh_14 rfl ?_
    refine lv_lconst (v := 0) hx hb dX8_fresh_15 (by decide) ?_
    refine lv_ldc2 (v := 100) hx hb hown (hg _ kw_586) dX8_fresh_16 ?_
    obtain ⟨r_4, hc_5, hf⟩ := bd_ok hf
    refine gcFi 3 ⟨hx, hb, hml, hown, hts⟩ (mX8_in l a2.toInt64 ((0 : Int64)) ((100 : Int64)) r_4 hc_5) (gG kw_569) kw_567 kw_568 kw_28 hX8_in ⟨rfl, rfl⟩ ⟨Nat.le_of_ble_eq_true rfl, Nat.le_of_ble_eq_true rfl⟩ ⟨Nat.zero_le _, Nat.zero_le _⟩ rfl hl.1 rfl (Nat.le_of_ble_eq_true rfl) dX8_fresh_19 ?_
    refine lv_if_ne (tgt := 27) hx hb dX8_fresh_22 (by decide) (fun c_6 => ?_) (fun c_6 => ?_)
    · skip
      replace hf := it_f c_6 hf
      refine lv_aload_n hx hb dX8_fresh_27 rfl (lv_at hl 0 rfl) ?_
      refine va_get (D := D) (ci := 7) (v := .ref (am 5)) (C := RX8) (T := TX8) (N := 20) hx hb hg inG_X8 hown hK hP 16 m_o16 rfl 8 (by decide) (hg _ kw_508) (fun _ h9 => h9) rfl dX8_fresh_28 ?_
      refine lv_iload_n hx hb dX8_fresh_31 rfl (lv_at hl 1 rfl) ?_
      obtain ⟨hb_7, hf⟩ := gd_ok hf
      refine m_iald hx hb hK hP (by decide) (by decide) rfl hb_7 dX8_fresh_32 ?_
      refine lv_istore_n (lv' := [(3, .int (u.1 5 a1.toNatClampNeg)), (0, .ref (am 16)), (1, .int a1), (2, .int a2)]) hx hb dX8_fresh_33 rfl hl (by decide) rfl (fun ls hl => ?_)
      refine lv_aload_n hx hb dX8_fresh_34 rfl (lv_at hl 1 rfl) ?_
      refine va_get (D := D) (ci := 7) (v := .ref (am 5)) (C := RX8) (T := TX8) (N := 20) hx hb hg inG_X8 hown hK hP 16 m_o16 rfl 8 (by decide) (hg _ kw_508) (fun _ h9 => h9) rfl dX8_fresh_35 ?_
      refine lv_iload_n hx hb dX8_fresh_38 rfl (lv_at hl 2 rfl) ?_
      refine lv_iload_n hx hb dX8_fresh_39 rfl (lv_at hl 3 rfl) ?_
      refine m_iast hx hb hK hP hJ hS (by decide) (by decide) rfl hb_7 dX8_fresh_40 (fun H locs hP hS => ?_)
      refine lv_iload_n hx hb dX8_fresh_41 rfl (lv_at hl 0 rfl) ?_
      exact grI hx hb hr hlocks hP hS dX8_fresh_42 (pf1 hf) (pf2 hf)
    · skip
      replace hf := it_t c_6 hf
      refine lv_iconst (v := -1) hx hb dX8_fresh_25 (by decide) ?_
      exact grI hx hb hr hlocks hP hS dX8_fresh_26 (pf1 hf) (pf2 hf)
abbrev rX8_pipe : Room := { frames := 2, cells := 0, slots := 0, locals := 46 }
theorem hX8_pipe : yX8_pipe.cls ≠ "java/lang/invoke/MethodHandle" ∧ yX8_pipe.cls ≠ "java/lang/invoke/VarHandle" ∧ (parseMethodDescriptor yX8_pipe.desc).map (fun d => d.parameters.length) = some 3 := by decide +kernel
set_option maxHeartbeats 4000000 in
set_option maxRecDepth 100000 in
theorem mX8_pipe (l : Launch) (D : va_G) (am : Nat → Nat) (cm : Nat → ClassId) (u : UM) (a1 : Int32) (a2 : Int32) (a3 : Int32)  (ru : Int32 × UM) (hok : fX8_pipe u a1 a2 a3 = some ru) : Met l yX8_pipe (Cond.code yX8_pipe cX8_pipe 5 (some .int) :: wsG) rX8_pipe (va_Pc [.ref (am 16), .int a1, .int a2, .int a3] (wI D (wM am cm) (mC D am cm) u)) (va_Qi (fun (r : Int32) (u' : UM) => r = ru.1 ∧ u' = ru.2) (wB D (wM am cm)) (AM am)) 0 0 (AM am) := by
  refine Met.ofW (cc := cX8_pipe) (maxL := 5) (ret := (some .int)) (by decide) rfl ?_
  intro p e s m args below meth c s₁ B hml hv
  have hx := B.exec
  have hb := B.bytes
  have hr := B.returns
  have hts := atoms_spec (ws := (Cond.code yX8_pipe cX8_pipe 5 (some .int) :: wsG)) B.pre
  have hg : ∀ w ∈ wsG, w.before args s = true := fun w h => hts w (List.mem_cons_of_mem _ h)
  have hown : s.vm.findClass RX8 = some m.cls := findClass_of_methodNamed B.named
  have hlocks := B.notSynchronized
  obtain ⟨ha, hP, hC⟩ := hv
  obtain ⟨hK, hJ⟩ := id hC
  have hS : va_S (AM am) s.heap s.heap [] := va_S.rf
  refine W.eq (show entryFrame m args 5 = entryFrame m ([.ref (am 16), .int a1, .int a2, .int a3] : List Value).toArray 5 by rw [ha]) ?_
  have hl := lv_entry ([.ref (am 16), .int a1, .int a2, .int a3]) (n := 5) (Nat.le_of_ble_eq_true rfl)
  rw [lg_entry_eq]
  generalize (lg_sl ([.ref (am 16), .int a1, .int a2, .int a3]) ++ List.replicate (5 - (lg_sl ([.ref (am 16), .int a1, .int a2, .int a3])).length) Slot.unset).toArray = ls at hl ⊢
  have hl : lv_has ls 5 [(0, .ref (am 16)), (1, .int a1), (2, .int a2), (3, .int a3)] := hl
  show W p l e rX8_pipe s m args below meth c s.heap [] 0 0 (MQ below (va_Qi (fun (r : Int32) (u' : UM) => r = ru.1 ∧ u' = ru.2) (wB D (wM am cm)) (AM am)) args s 0 0 (AM am)) (F0 m 0 ls [])
  have hf := hok
  unfold fX8_pipe at hf
  refine lv_aload_n hx hb dX8_pipe_0 rfl (lv_at hl 0 rfl) ?_
  refine lv_iconst (v := 0) hx hb dX8_pipe_1 (by decide) ?_
  refine m_putZ hx hb hg hown hK hP hJ hS (hg _ kw_500) dX8_pipe_2 (fun H locs hP hS => ?_)
  refine lv_aload_n hx hb dX8_pipe_5 rfl (lv_at hl 0 rfl) ?_
  refine lv_iload_n hx hb dX8_pipe_6 rfl (lv_at hl 1 rfl) ?_
  obtain ⟨r_1, hc_2, hf⟩ := bd_ok hf
  refine gcVi 1 (mC_ok D am cm hJ) hC ⟨hx, hb, hml, hown, hts⟩ (mX8_isStep l D am cm u a1 r_1 hc_2) (gG kw_579) kw_576 kw_578 kw_8 kw_28 hX8_isStep ⟨rfl, rfl⟩ ⟨Nat.le_of_ble_eq_true rfl, Nat.le_of_ble_eq_true rfl⟩ (x_rec (C := RX8) (T := TX8) (N := 20) (ci := 7) hK hP rfl m_o16) hP hS ⟨Nat.zero_le _, Nat.zero_le _⟩ rfl hl.1 rfl (Nat.le_of_ble_eq_true rfl) dX8_pipe_7 (fun H locs hP hS => ?_)
  refine lv_if_eq (tgt := 38) hx hb dX8_pipe_10 (by decide) (fun c_3 => ?_) (fun c_3 => ?_)
  · skip
    replace hf := it_t c_3 hf
    refine lv_iconst (v := -1) hx hb dX8_pipe_38 (by decide) ?_
    exact grI hx hb hr hlocks hP hS dX8_pipe_39 (pf1 hf) (pf2 hf)
  · skip
    replace hf := it_f c_3 hf
    refine lv_aload_n hx hb dX8_pipe_13 rfl (lv_at hl 0 rfl) ?_
    refine lv_iload_n hx hb dX8_pipe_14 rfl (lv_at hl 2 rfl) ?_
    obtain ⟨r_4, hc_5, hf⟩ := bd_ok hf
    refine gcVi 1 (mC_ok D am cm hJ) hC ⟨hx, hb, hml, hown, hts⟩ (mX8_isStep l D am cm u a2 r_4 hc_5) (gG kw_579) kw_576 kw_578 kw_8 kw_28 hX8_isStep ⟨rfl, rfl⟩ ⟨Nat.le_of_ble_eq_true rfl, Nat.le_of_ble_eq_true rfl⟩ (x_rec (C := RX8) (T := TX8) (N := 20) (ci := 7) hK hP rfl m_o16) hP hS ⟨Nat.zero_le _, Nat.zero_le _⟩ rfl hl.1 rfl (Nat.le_of_ble_eq_true rfl) dX8_pipe_15 (fun H locs hP hS => ?_)
    refine lv_if_eq (tgt := 38) hx hb dX8_pipe_18 (by decide) (fun c_6 => ?_) (fun c_6 => ?_)
    · skip
      replace hf := it_t c_6 hf
      refine lv_iconst (v := -1) hx hb dX8_pipe_38 (by decide) ?_
      exact grI hx hb hr hlocks hP hS dX8_pipe_39 (pf1 hf) (pf2 hf)
    · skip
      replace hf := it_f c_6 hf
      refine lv_iload_n hx hb dX8_pipe_21 rfl (lv_at hl 1 rfl) ?_
      refine lv_iload_n hx hb dX8_pipe_22 rfl (lv_at hl 2 rfl) ?_
      refine lv_icmp_eq (tgt := 38) hx hb dX8_pipe_23 (by decide) (fun c_7 => ?_) (fun c_7 => ?_)
      · skip
        replace hf := it_t c_7 hf
        refine lv_iconst (v := -1) hx hb dX8_pipe_38 (by decide) ?_
        exact grI hx hb hr hlocks hP hS dX8_pipe_39 (pf1 hf) (pf2 hf)
      · skip
        replace hf := it_f c_7 hf
        refine lv_iload_n hx hb dX8_pipe_26 rfl (lv_at hl 3 rfl) ?_
        refine lv_i2l hx hb dX8_pipe_27 rfl ?_
        refine lv_lconst (v := 0) hx hb dX8_pipe_28 (by decide) ?_
        refine lv_ldc2 (v := 100) hx hb hown (hg _ kw_586) dX8_pipe_29 ?_
        obtain ⟨r_8, hc_9, hf⟩ := bd_ok hf
        refine gcFi 3 ⟨hx, hb, hml, hown, hts⟩ (mX8_in l a3.toInt64 ((0 : Int64)) ((100 : Int64)) r_8 hc_9) (gG kw_569) kw_567 kw_568 kw_28 hX8_in ⟨rfl, rfl⟩ ⟨Nat.le_of_ble_eq_true rfl, Nat.le_of_ble_eq_true rfl⟩ ⟨Nat.zero_le _, Nat.zero_le _⟩ rfl hl.1 rfl (Nat.le_of_ble_eq_true rfl) dX8_pipe_32 ?_
        refine lv_if_ne (tgt := 40) hx hb dX8_pipe_35 (by decide) (fun c_10 => ?_) (fun c_10 => ?_)
        · skip
          replace hf := it_f c_10 hf
          refine lv_aload_n hx hb dX8_pipe_40 rfl (lv_at hl 0 rfl) ?_
          refine va_get (D := D) (ci := 7) (v := .ref (am 6)) (C := RX8) (T := TX8) (N := 20) hx hb hg inG_X8 hown hK hP 16 m_o16 rfl 9 (by decide) (hg _ kw_509) (fun _ h9 => h9) rfl dX8_pipe_41 ?_
          refine lv_iconst (v := 5) hx hb dX8_pipe_44 (by decide) ?_
          refine lv_iload_n hx hb dX8_pipe_45 rfl (lv_at hl 1 rfl) ?_
          refine lv_imul hx hb dX8_pipe_46 ?_
          refine lv_iload_n hx hb dX8_pipe_47 rfl (lv_at hl 2 rfl) ?_
          refine lv_iadd hx hb dX8_pipe_48 ?_
          obtain ⟨hb_11, hf⟩ := gd_ok hf
          refine m_iald hx hb hK hP (by decide) (by decide) rfl hb_11 dX8_pipe_49 ?_
          refine lv_istore (lv' := [(4, .int (u.1 6 ((((5 : Int32)) * a1) + a2).toNatClampNeg)), (0, .ref (am 16)), (1, .int a1), (2, .int a2), (3, .int a3)]) hx hb dX8_pipe_50 hl (by decide) rfl (fun ls hl => ?_)
          refine lv_aload_n hx hb dX8_pipe_52 rfl (lv_at hl 1 rfl) ?_
          refine va_get (D := D) (ci := 7) (v := .ref (am 6)) (C := RX8) (T := TX8) (N := 20) hx hb hg inG_X8 hown hK hP 16 m_o16 rfl 9 (by decide) (hg _ kw_509) (fun _ h9 => h9) rfl dX8_pipe_53 ?_
          refine lv_iconst (v := 5) hx hb dX8_pipe_56 (by decide) ?_
          refine lv_iload_n hx hb dX8_pipe_57 rfl (lv_at hl 2 rfl) ?_
          refine lv_imul hx hb dX8_pipe_58 ?_
          refine lv_iload_n hx hb dX8_pipe_59 rfl (lv_at hl 3 rfl) ?_
          refine lv_iadd hx hb dX8_pipe_60 ?_
          refine lv_iload_n hx hb dX8_pipe_61 rfl (lv_at hl 4 rfl) ?_
          refine m_iast hx hb hK hP hJ hS (by decide) (by decide) rfl hb_11 dX8_pipe_62 (fun H locs hP hS => ?_)
          refine lv_iload hx hb dX8_pipe_63 (lv_at hl 0 rfl) ?_
          exact grI hx hb hr hlocks hP hS dX8_pipe_65 (pf1 hf) (pf2 hf)
        · skip
          replace hf := it_t c_10 hf
          refine lv_iconst (v := -1) hx hb dX8_pipe_38 (by decide) ?_
          exact grI hx hb hr hlocks hP hS dX8_pipe_39 (pf1 hf) (pf2 hf)
abbrev rX8_comes : Room := { frames := 0, cells := 0, slots := 0, locals := 0 }
theorem hX8_comes : yX8_comes.cls ≠ "java/lang/invoke/MethodHandle" ∧ yX8_comes.cls ≠ "java/lang/invoke/VarHandle" ∧ (parseMethodDescriptor yX8_comes.desc).map (fun d => d.parameters.length) = some 1 := by decide +kernel
set_option maxHeartbeats 4000000 in
set_option maxRecDepth 100000 in
theorem mX8_comes (l : Launch) (D : va_G) (am : Nat → Nat) (cm : Nat → ClassId) (u : UM) (a1 : Int32)  (r0 : Int32) (hok : fX8_comes u a1 = some r0) : Met l yX8_comes (Cond.code yX8_comes cX8_comes 4 (some .int) :: wsG) rX8_comes (va_Pc [.ref (am 16), .int a1] (wI D (wM am cm) (mC D am cm) u)) (va_Qi (fun (r : Int32) (u' : UM) => r = r0 ∧ u' = u) (wB D (wM am cm)) (AM am)) 0 0 (AM am) := by
  refine Met.ofW (cc := cX8_comes) (maxL := 4) (ret := (some .int)) (by decide) rfl ?_
  intro p e s m args below meth c s₁ B hml hv
  have hx := B.exec
  have hb := B.bytes
  have hr := B.returns
  have hts := atoms_spec (ws := (Cond.code yX8_comes cX8_comes 4 (some .int) :: wsG)) B.pre
  have hg : ∀ w ∈ wsG, w.before args s = true := fun w h => hts w (List.mem_cons_of_mem _ h)
  have hown : s.vm.findClass RX8 = some m.cls := findClass_of_methodNamed B.named
  have hlocks := B.notSynchronized
  obtain ⟨ha, hP, hC⟩ := hv
  obtain ⟨hK, hJ⟩ := id hC
  have hS : va_S (AM am) s.heap s.heap [] := va_S.rf
  refine W.eq (show entryFrame m args 4 = entryFrame m ([.ref (am 16), .int a1] : List Value).toArray 4 by rw [ha]) ?_
  have hl := lv_entry ([.ref (am 16), .int a1]) (n := 4) (Nat.le_of_ble_eq_true rfl)
  rw [lg_entry_eq]
  generalize (lg_sl ([.ref (am 16), .int a1]) ++ List.replicate (4 - (lg_sl ([.ref (am 16), .int a1])).length) Slot.unset).toArray = ls at hl ⊢
  have hl : lv_has ls 4 [(0, .ref (am 16)), (1, .int a1)] := hl
  show W p l e rX8_comes s m args below meth c s.heap [] 0 0 (MQ below (va_Qi (fun (r : Int32) (u' : UM) => r = r0 ∧ u' = u) (wB D (wM am cm)) (AM am)) args s 0 0 (AM am)) (F0 m 0 ls [])
  have hf := hok
  unfold fX8_comes at hf
  refine lv_aload_n hx hb dX8_comes_0 rfl (lv_at hl 0 rfl) ?_
  refine va_get (D := D) (ci := 7) (v := .ref (am 5)) (C := RX8) (T := TX8) (N := 20) hx hb hg inG_X8 hown hK hP 16 m_o16 rfl 8 (by decide) (hg _ kw_508) (fun _ h9 => h9) rfl dX8_comes_1 ?_
  refine lv_iload_n hx hb dX8_comes_4 rfl (lv_at hl 1 rfl) ?_
  obtain ⟨hb_1, hf⟩ := gd_ok hf
  refine m_iald hx hb hK hP (by decide) (by decide) rfl hb_1 dX8_comes_5 ?_
  refine lv_istore_n (lv' := [(2, .int (u.1 5 a1.toNatClampNeg)), (0, .ref (am 16)), (1, .int a1)]) hx hb dX8_comes_6 rfl hl (by decide) rfl (fun ls hl => ?_)
  refine lv_iconst (v := 0) hx hb dX8_comes_7 (by decide) ?_
  refine lv_istore_n (lv' := [(3, .int ((0 : Int32))), (2, .int (u.1 5 a1.toNatClampNeg)), (0, .ref (am 16)), (1, .int a1)]) hx hb dX8_comes_8 rfl hl (by decide) rfl (fun ls hl => ?_)
  have hL_3 : ∀ (nf : Nat) (y2_k_2 : Int32) (y3_k_2 : Int32) (H : Heap) (locs : List Loc) (ls : Array Slot) (t : Int32), va_P D vwCl (wM am cm u) H → va_S (AM am) s.heap H locs → lv_has ls 4 [(0, .ref (am 16)), (1, .int a1), (2, .int y2_k_2), (3, .int y3_k_2)] → fX8_comes_9 a1 u nf y2_k_2 y3_k_2 = some t → (∀ (H : Heap) (locs : List Loc) (ls : Array Slot), va_P D vwCl (wM am cm u) H → va_S (AM am) s.heap H locs → lv_has ls 4 [(2, .int t)] → W p l e rX8_comes s m args below meth c H locs 0 0 (MQ below (va_Qi (fun (r : Int32) (u' : UM) => r = r0 ∧ u' = u) (wB D (wM am cm)) (AM am)) args s 0 0 (AM am)) (F0 m 36 ls [])) → W p l e rX8_comes s m args below meth c H locs 0 0 (MQ below (va_Qi (fun (r : Int32) (u' : UM) => r = r0 ∧ u' = u) (wB D (wM am cm)) (AM am)) args s 0 0 (AM am)) (F0 m 9 ls []) := by
    intro nf
    induction nf with
    | zero => intro y2_k_2 y3_k_2 H locs ls t hP hS hl hf hK'; rw [fX8_comes_9] at hf; cases hf
    | succ nf ih =>
      intro y2_k_2 y3_k_2 H locs ls t hP hS hl hf hK'
      rw [fX8_comes_9] at hf
      refine lv_iload_n hx hb dX8_comes_9 rfl (lv_at hl 3 rfl) ?_
      refine lv_aload_n hx hb dX8_comes_10 rfl (lv_at hl 0 rfl) ?_
      refine va_get (D := D) (ci := 7) (v := .int u.2.2.2.1) (C := RX8) (T := TX8) (N := 20) hx hb hg inG_X8 hown hK hP 16 m_o16 rfl 2 (by decide) (hg _ kw_502) (fun _ h9 => h9) rfl dX8_comes_11 ?_
      refine lv_icmp_ge (tgt := 36) hx hb dX8_comes_14 (by decide) (fun c_4 => ?_) (fun c_4 => ?_)
      · skip
        replace hf := it_t c_4 hf
        have ht := Option.some.inj hf
        subst ht
        exact hK' _ _ _ hP hS (lv_sub hl [2] rfl)
      · skip
        replace hf := it_f c_4 hf
        refine lv_iload_n hx hb dX8_comes_17 rfl (lv_at hl 2 rfl) ?_
        refine lv_aload_n hx hb dX8_comes_18 rfl (lv_at hl 0 rfl) ?_
        refine va_get (D := D) (ci := 7) (v := .ref (am 6)) (C := RX8) (T := TX8) (N := 20) hx hb hg inG_X8 hown hK hP 16 m_o16 rfl 9 (by decide) (hg _ kw_509) (fun _ h9 => h9) rfl dX8_comes_19 ?_
        refine lv_iconst (v := 5) hx hb dX8_comes_22 (by decide) ?_
        refine lv_iload_n hx hb dX8_comes_23 rfl (lv_at hl 3 rfl) ?_
        refine lv_imul hx hb dX8_comes_24 ?_
        refine lv_iload_n hx hb dX8_comes_25 rfl (lv_at hl 1 rfl) ?_
        refine lv_iadd hx hb dX8_comes_26 ?_
        obtain ⟨hb_5, hf⟩ := gd_ok hf
        refine m_iald hx hb hK hP (by decide) (by decide) rfl hb_5 dX8_comes_27 ?_
        refine lv_iadd hx hb dX8_comes_28 ?_
        refine lv_istore_n (lv' := [(2, .int (y2_k_2 + (u.1 6 ((((5 : Int32)) * y3_k_2) + a1).toNatClampNeg))), (0, .ref (am 16)), (1, .int a1), (3, .int y3_k_2)]) hx hb dX8_comes_29 rfl hl (by decide) rfl (fun ls hl => ?_)
        refine lv_iinc (v := y3_k_2 + 1) (lv' := [(3, .int (y3_k_2 + 1)), (2, .int (y2_k_2 + (u.1 6 ((((5 : Int32)) * y3_k_2) + a1).toNatClampNeg))), (0, .ref (am 16)), (1, .int a1)]) hx hb dX8_comes_30 hl (k := 3) rfl rfl (by decide) rfl (fun ls hl => ?_)
        refine lv_goto (tgt := 9) hx hb dX8_comes_33 (by decide) ?_
        exact ih _ _ _ _ _ t hP hS (lv_sub hl [2, 3, 1, 0] rfl) hf hK'
  obtain ⟨t_6, hq_7, hf⟩ := bd_ok hf
  refine hL_3 FU _ _ _ _ _ t_6 hP hS (lv_sub hl [2, 3, 1, 0] rfl) hq_7 (fun H locs ls hP hS hl => ?_)
  refine lv_iload_n hx hb dX8_comes_36 rfl (lv_at hl 0 rfl) ?_
  exact grI hx hb hr hlocks hP hS dX8_comes_37 (Option.some.inj hf) rfl
abbrev rX8_goes : Room := { frames := 0, cells := 0, slots := 0, locals := 0 }
theorem hX8_goes : yX8_goes.cls ≠ "java/lang/invoke/MethodHandle" ∧ yX8_goes.cls ≠ "java/lang/invoke/VarHandle" ∧ (parseMethodDescriptor yX8_goes.desc).map (fun d => d.parameters.length) = some 1 := by decide +kernel
set_option maxHeartbeats 4000000 in
set_option maxRecDepth 100000 in
theorem mX8_goes (l : Launch) (D : va_G) (am : Nat → Nat) (cm : Nat → ClassId) (u : UM) (a1 : Int32)  (r0 : Int32) (hok : fX8_goes u a1 = some r0) : Met l yX8_goes (Cond.code yX8_goes cX8_goes 4 (some .int) :: wsG) rX8_goes (va_Pc [.ref (am 16), .int a1] (wI D (wM am cm) (mC D am cm) u)) (va_Qi (fun (r : Int32) (u' : UM) => r = r0 ∧ u' = u) (wB D (wM am cm)) (AM am)) 0 0 (AM am) := by
  refine Met.ofW (cc := cX8_goes) (maxL := 4) (ret := (some .int)) (by decide) rfl ?_
  intro p e s m args below meth c s₁ B hml hv
  have hx := B.exec
  have hb := B.bytes
  have hr := B.returns
  have hts := atoms_spec (ws := (Cond.code yX8_goes cX8_goes 4 (some .int) :: wsG)) B.pre
  have hg : ∀ w ∈ wsG, w.before args s = true := fun w h => hts w (List.mem_cons_of_mem _ h)
  have hown : s.vm.findClass RX8 = some m.cls := findClass_of_methodNamed B.named
  have hlocks := B.notSynchronized
  obtain ⟨ha, hP, hC⟩ := hv
  obtain ⟨hK, hJ⟩ := id hC
  have hS : va_S (AM am) s.heap s.heap [] := va_S.rf
  refine W.eq (show entryFrame m args 4 = entryFrame m ([.ref (am 16), .int a1] : List Value).toArray 4 by rw [ha]) ?_
  have hl := lv_entry ([.ref (am 16), .int a1]) (n := 4) (Nat.le_of_ble_eq_true rfl)
  rw [lg_entry_eq]
  generalize (lg_sl ([.ref (am 16), .int a1]) ++ List.replicate (4 - (lg_sl ([.ref (am 16), .int a1])).length) Slot.unset).toArray = ls at hl ⊢
  have hl : lv_has ls 4 [(0, .ref (am 16)), (1, .int a1)] := hl
  show W p l e rX8_goes s m args below meth c s.heap [] 0 0 (MQ below (va_Qi (fun (r : Int32) (u' : UM) => r = r0 ∧ u' = u) (wB D (wM am cm)) (AM am)) args s 0 0 (AM am)) (F0 m 0 ls [])
  have hf := hok
  unfold fX8_goes at hf
  refine lv_iconst (v := 0) hx hb dX8_goes_0 (by decide) ?_
  refine lv_istore_n (lv' := [(2, .int ((0 : Int32))), (0, .ref (am 16)), (1, .int a1)]) hx hb dX8_goes_1 rfl hl (by decide) rfl (fun ls hl => ?_)
  refine lv_iconst (v := 0) hx hb dX8_goes_2 (by decide) ?_
  refine lv_istore_n (lv' := [(3, .int ((0 : Int32))), (2, .int ((0 : Int32))), (0, .ref (am 16)), (1, .int a1)]) hx hb dX8_goes_3 rfl hl (by decide) rfl (fun ls hl => ?_)
  have hL_2 : ∀ (nf : Nat) (y2_k_1 : Int32) (y3_k_1 : Int32) (H : Heap) (locs : List Loc) (ls : Array Slot) (t : Int32), va_P D vwCl (wM am cm u) H → va_S (AM am) s.heap H locs → lv_has ls 4 [(0, .ref (am 16)), (1, .int a1), (2, .int y2_k_1), (3, .int y3_k_1)] → fX8_goes_4 a1 u nf y2_k_1 y3_k_1 = some t → (∀ (H : Heap) (locs : List Loc) (ls : Array Slot), va_P D vwCl (wM am cm u) H → va_S (AM am) s.heap H locs → lv_has ls 4 [(2, .int t)] → W p l e rX8_goes s m args below meth c H locs 0 0 (MQ below (va_Qi (fun (r : Int32) (u' : UM) => r = r0 ∧ u' = u) (wB D (wM am cm)) (AM am)) args s 0 0 (AM am)) (F0 m 31 ls [])) → W p l e rX8_goes s m args below meth c H locs 0 0 (MQ below (va_Qi (fun (r : Int32) (u' : UM) => r = r0 ∧ u' = u) (wB D (wM am cm)) (AM am)) args s 0 0 (AM am)) (F0 m 4 ls []) := by
    intro nf
    induction nf with
    | zero => intro y2_k_1 y3_k_1 H locs ls t hP hS hl hf hK'; rw [fX8_goes_4] at hf; cases hf
    | succ nf ih =>
      intro y2_k_1 y3_k_1 H locs ls t hP hS hl hf hK'
      rw [fX8_goes_4] at hf
      refine lv_iload_n hx hb dX8_goes_4 rfl (lv_at hl 3 rfl) ?_
      refine lv_aload_n hx hb dX8_goes_5 rfl (lv_at hl 0 rfl) ?_
      refine va_get (D := D) (ci := 7) (v := .int u.2.2.2.1) (C := RX8) (T := TX8) (N := 20) hx hb hg inG_X8 hown hK hP 16 m_o16 rfl 2 (by decide) (hg _ kw_502) (fun _ h9 => h9) rfl dX8_goes_6 ?_
      refine lv_icmp_ge (tgt := 31) hx hb dX8_goes_9 (by decide) (fun c_3 => ?_) (fun c_3 => ?_)
      · skip
        replace hf := it_t c_3 hf
        have ht := Option.some.inj hf
        subst ht
        exact hK' _ _ _ hP hS (lv_sub hl [2] rfl)
      · skip
        replace hf := it_f c_3 hf
        refine lv_iload_n hx hb dX8_goes_12 rfl (lv_at hl 2 rfl) ?_
        refine lv_aload_n hx hb dX8_goes_13 rfl (lv_at hl 0 rfl) ?_
        refine va_get (D := D) (ci := 7) (v := .ref (am 6)) (C := RX8) (T := TX8) (N := 20) hx hb hg inG_X8 hown hK hP 16 m_o16 rfl 9 (by decide) (hg _ kw_509) (fun _ h9 => h9) rfl dX8_goes_14 ?_
        refine lv_iconst (v := 5) hx hb dX8_goes_17 (by decide) ?_
        refine lv_iload_n hx hb dX8_goes_18 rfl (lv_at hl 1 rfl) ?_
        refine lv_imul hx hb dX8_goes_19 ?_
        refine lv_iload_n hx hb dX8_goes_20 rfl (lv_at hl 3 rfl) ?_
        refine lv_iadd hx hb dX8_goes_21 ?_
        obtain ⟨hb_4, hf⟩ := gd_ok hf
        refine m_iald hx hb hK hP (by decide) (by decide) rfl hb_4 dX8_goes_22 ?_
        refine lv_iadd hx hb dX8_goes_23 ?_
        refine lv_istore_n (lv' := [(2, .int (y2_k_1 + (u.1 6 ((((5 : Int32)) * a1) + y3_k_1).toNatClampNeg))), (0, .ref (am 16)), (1, .int a1), (3, .int y3_k_1)]) hx hb dX8_goes_24 rfl hl (by decide) rfl (fun ls hl => ?_)
        refine lv_iinc (v := y3_k_1 + 1) (lv' := [(3, .int (y3_k_1 + 1)), (2, .int (y2_k_1 + (u.1 6 ((((5 : Int32)) * a1) + y3_k_1).toNatClampNeg))), (0, .ref (am 16)), (1, .int a1)]) hx hb dX8_goes_25 hl (k := 3) rfl rfl (by decide) rfl (fun ls hl => ?_)
        refine lv_goto (tgt := 4) hx hb dX8_goes_28 (by decide) ?_
        exact ih _ _ _ _ _ t hP hS (lv_sub hl [2, 3, 1, 0] rfl) hf hK'
  obtain ⟨t_5, hq_6, hf⟩ := bd_ok hf
  refine hL_2 FU _ _ _ _ _ t_5 hP hS (lv_sub hl [2, 3, 1, 0] rfl) hq_6 (fun H locs ls hP hS hl => ?_)
  refine lv_iload_n hx hb dX8_goes_31 rfl (lv_at hl 0 rfl) ?_
  exact grI hx hb hr hlocks hP hS dX8_goes_32 (Option.some.inj hf) rfl
abbrev rX8_water : Room := { frames := 2, cells := 0, slots := 0, locals := 46 }
theorem hX8_water : yX8_water.cls ≠ "java/lang/invoke/MethodHandle" ∧ yX8_water.cls ≠ "java/lang/invoke/VarHandle" ∧ (parseMethodDescriptor yX8_water.desc).map (fun d => d.parameters.length) = some 2 := by decide +kernel
set_option maxHeartbeats 4000000 in
set_option maxRecDepth 100000 in
theorem mX8_water (l : Launch) (D : va_G) (am : Nat → Nat) (cm : Nat → ClassId) (u : UM) (a1 : Int32) (a2 : Int32)  (r0 : Int32) (hok : fX8_water u a1 a2 = some r0) : Met l yX8_water (Cond.code yX8_water cX8_water 3 (some .int) :: wsG) rX8_water (va_Pc [.ref (am 16), .int a1, .int a2] (wI D (wM am cm) (mC D am cm) u)) (va_Qi (fun (r : Int32) (u' : UM) => r = r0 ∧ u' = u) (wB D (wM am cm)) (AM am)) 0 0 (AM am) := by
  refine Met.ofW (cc := cX8_water) (maxL := 3) (ret := (some .int)) (by decide) rfl ?_
  intro p e s m args below meth c s₁ B hml hv
  have hx := B.exec
  have hb := B.bytes
  have hr := B.returns
  have hts := atoms_spec (ws := (Cond.code yX8_water cX8_water 3 (some .int) :: wsG)) B.pre
  have hg : ∀ w ∈ wsG, w.before args s = true := fun w h => hts w (List.mem_cons_of_mem _ h)
  have hown : s.vm.findClass RX8 = some m.cls := findClass_of_methodNamed B.named
  have hlocks := B.notSynchronized
  obtain ⟨ha, hP, hC⟩ := hv
  obtain ⟨hK, hJ⟩ := id hC
  have hS : va_S (AM am) s.heap s.heap [] := va_S.rf
  refine W.eq (show entryFrame m args 3 = entryFrame m ([.ref (am 16), .int a1, .int a2] : List Value).toArray 3 by rw [ha]) ?_
  have hl := lv_entry ([.ref (am 16), .int a1, .int a2]) (n := 3) (Nat.le_of_ble_eq_true rfl)
  rw [lg_entry_eq]
  generalize (lg_sl ([.ref (am 16), .int a1, .int a2]) ++ List.replicate (3 - (lg_sl ([.ref (am 16), .int a1, .int a2])).length) Slot.unset).toArray = ls at hl ⊢
  have hl : lv_has ls 3 [(0, .ref (am 16)), (1, .int a1), (2, .int a2)] := hl
  show W p l e rX8_water s m args below meth c s.heap [] 0 0 (MQ below (va_Qi (fun (r : Int32) (u' : UM) => r = r0 ∧ u' = u) (wB D (wM am cm)) (AM am)) args s 0 0 (AM am)) (F0 m 0 ls [])
  have hf := hok
  unfold fX8_water at hf
  refine lv_aload_n hx hb dX8_water_0 rfl (lv_at hl 0 rfl) ?_
  refine lv_iconst (v := 0) hx hb dX8_water_1 (by decide) ?_
  refine m_putZ hx hb hg hown hK hP hJ hS (hg _ kw_500) dX8_water_2 (fun H locs hP hS => ?_)
  refine lv_aload_n hx hb dX8_water_5 rfl (lv_at hl 0 rfl) ?_
  refine lv_iload_n hx hb dX8_water_6 rfl (lv_at hl 1 rfl) ?_
  obtain ⟨r_1, hc_2, hf⟩ := bd_ok hf
  refine gcVi 1 (mC_ok D am cm hJ) hC ⟨hx, hb, hml, hown, hts⟩ (mX8_isStep l D am cm u a1 r_1 hc_2) (gG kw_579) kw_576 kw_578 kw_8 kw_28 hX8_isStep ⟨rfl, rfl⟩ ⟨Nat.le_of_ble_eq_true rfl, Nat.le_of_ble_eq_true rfl⟩ (x_rec (C := RX8) (T := TX8) (N := 20) (ci := 7) hK hP rfl m_o16) hP hS ⟨Nat.zero_le _, Nat.zero_le _⟩ rfl hl.1 rfl (Nat.le_of_ble_eq_true rfl) dX8_water_7 (fun H locs hP hS => ?_)
  refine lv_if_eq (tgt := 23) hx hb dX8_water_10 (by decide) (fun c_3 => ?_) (fun c_3 => ?_)
  · skip
    replace hf := it_t c_3 hf
    refine lv_iconst (v := -1) hx hb dX8_water_23 (by decide) ?_
    exact grI hx hb hr hlocks hP hS dX8_water_24 (Option.some.inj hf) rfl
  · skip
    replace hf := it_f c_3 hf
    refine lv_iload_n hx hb dX8_water_13 rfl (lv_at hl 2 rfl) ?_
    refine lv_i2l hx hb dX8_water_14 rfl ?_
    refine lv_lconst (v := 0) hx hb dX8_water_15 (by decide) ?_
    refine lv_lconst (v := 1) hx hb dX8_water_16 (by decide) ?_
    obtain ⟨r_4, hc_5, hf⟩ := bd_ok hf
    refine gcFi 3 ⟨hx, hb, hml, hown, hts⟩ (mX8_in l a2.toInt64 ((0 : Int64)) ((1 : Int64)) r_4 hc_5) (gG kw_569) kw_567 kw_568 kw_28 hX8_in ⟨rfl, rfl⟩ ⟨Nat.le_of_ble_eq_true rfl, Nat.le_of_ble_eq_true rfl⟩ ⟨Nat.zero_le _, Nat.zero_le _⟩ rfl hl.1 rfl (Nat.le_of_ble_eq_true rfl) dX8_water_17 ?_
    refine lv_if_ne (tgt := 25) hx hb dX8_water_20 (by decide) (fun c_6 => ?_) (fun c_6 => ?_)
    · skip
      replace hf := it_f c_6 hf
      refine lv_iload_n hx hb dX8_water_25 rfl (lv_at hl 2 rfl) ?_
      refine lv_if_ne (tgt := 37) hx hb dX8_water_26 (by decide) (fun c_7 => ?_) (fun c_7 => ?_)
      · skip
        replace hf := it_f c_7 hf
        refine lv_aload_n hx hb dX8_water_37 rfl (lv_at hl 0 rfl) ?_
        refine lv_iload_n hx hb dX8_water_38 rfl (lv_at hl 1 rfl) ?_
        obtain ⟨r_8, hc_9, hf⟩ := bd_ok hf
        refine gcVi 1 (mC_ok D am cm hJ) hC ⟨hx, hb, hml, hown, hts⟩ (mX8_goes l D am cm u a1 r_8 hc_9) (gG kw_641) kw_638 kw_640 kw_14 kw_28 hX8_goes ⟨rfl, rfl⟩ ⟨Nat.le_of_ble_eq_true rfl, Nat.le_of_ble_eq_true rfl⟩ (x_rec (C := RX8) (T := TX8) (N := 20) (ci := 7) hK hP rfl m_o16) hP hS ⟨Nat.zero_le _, Nat.zero_le _⟩ rfl hl.1 rfl (Nat.le_of_ble_eq_true rfl) dX8_water_39 (fun H locs hP hS => ?_)
        exact grI hx hb hr hlocks hP hS dX8_water_42 (Option.some.inj hf) rfl
      · skip
        replace hf := it_t c_7 hf
        refine lv_aload_n hx hb dX8_water_29 rfl (lv_at hl 0 rfl) ?_
        refine lv_iload_n hx hb dX8_water_30 rfl (lv_at hl 1 rfl) ?_
        obtain ⟨r_10, hc_11, hf⟩ := bd_ok hf
        refine gcVi 1 (mC_ok D am cm hJ) hC ⟨hx, hb, hml, hown, hts⟩ (mX8_comes l D am cm u a1 r_10 hc_11) (gG kw_637) kw_634 kw_636 kw_13 kw_28 hX8_comes ⟨rfl, rfl⟩ ⟨Nat.le_of_ble_eq_true rfl, Nat.le_of_ble_eq_true rfl⟩ (x_rec (C := RX8) (T := TX8) (N := 20) (ci := 7) hK hP rfl m_o16) hP hS ⟨Nat.zero_le _, Nat.zero_le _⟩ rfl hl.1 rfl (Nat.le_of_ble_eq_true rfl) dX8_water_31 (fun H locs hP hS => ?_)
        refine lv_goto (tgt := 42) hx hb dX8_water_34 (by decide) ?_
        exact grI hx hb hr hlocks hP hS dX8_water_42 (Option.some.inj hf) rfl
    · skip
      replace hf := it_t c_6 hf
      refine lv_iconst (v := -1) hx hb dX8_water_23 (by decide) ?_
      exact grI hx hb hr hlocks hP hS dX8_water_24 (Option.some.inj hf) rfl
abbrev rX8_takes : Room := { frames := 1, cells := 0, slots := 0, locals := 29 }
theorem hX8_takes : yX8_takes.cls ≠ "java/lang/invoke/MethodHandle" ∧ yX8_takes.cls ≠ "java/lang/invoke/VarHandle" ∧ (parseMethodDescriptor yX8_takes.desc).map (fun d => d.parameters.length) = some 1 := by decide +kernel
set_option maxHeartbeats 4000000 in
set_option maxRecDepth 100000 in
theorem mX8_takes (l : Launch) (D : va_G) (am : Nat → Nat) (cm : Nat → ClassId) (u : UM) (a1 : Int32)  (ru : UM) (hok : fX8_takes u a1 = some ru) : Met l yX8_takes (Cond.code yX8_takes cX8_takes 9 none :: wsG) rX8_takes (va_Pc [.ref (am 16), .int a1] (wI D (wM am cm) (mC D am cm) u)) (va_Qv (fun (u' : UM) => u' = ru) (wB D (wM am cm)) (AM am)) 0 0 (AM am) := by
  refine Met.ofW (cc := cX8_takes) (maxL := 9) (ret := none) (by decide) rfl ?_
  intro p e s m args below meth c s₁ B hml hv
  have hx := B.exec
  have hb := B.bytes
  have hr := B.returns
  have hts := atoms_spec (ws := (Cond.code yX8_takes cX8_takes 9 none :: wsG)) B.pre
  have hg : ∀ w ∈ wsG, w.before args s = true := fun w h => hts w (List.mem_cons_of_mem _ h)
  have hown : s.vm.findClass RX8 = some m.cls := findClass_of_methodNamed B.named
  have hlocks := B.notSynchronized
  obtain ⟨ha, hP, hC⟩ := hv
  obtain ⟨hK, hJ⟩ := id hC
  have hS : va_S (AM am) s.heap s.heap [] := va_S.rf
  refine W.eq (show entryFrame m args 9 = entryFrame m ([.ref (am 16), .int a1] : List Value).toArray 9 by rw [ha]) ?_
  have hl := lv_entry ([.ref (am 16), .int a1]) (n := 9) (Nat.le_of_ble_eq_true rfl)
  rw [lg_entry_eq]
  generalize (lg_sl ([.ref (am 16), .int a1]) ++ List.replicate (9 - (lg_sl ([.ref (am 16), .int a1])).length) Slot.unset).toArray = ls at hl ⊢
  have hl : lv_has ls 9 [(0, .ref (am 16)), (1, .int a1)] := hl
  show W p l e rX8_takes s m args below meth c s.heap [] 0 0 (MQ below (va_Qv (fun (u' : UM) => u' = ru) (wB D (wM am cm)) (AM am)) args s 0 0 (AM am)) (F0 m 0 ls [])
  have hf := hok
  unfold fX8_takes at hf
  refine lv_lconst (v := 0) hx hb dX8_takes_0 (by decide) ?_
  refine lv_lstore_n (lv' := [(2, .long ((0 : Int64))), (0, .ref (am 16)), (1, .int a1)]) hx hb dX8_takes_1 rfl hl (by decide) rfl (fun ls hl => ?_)
  refine lv_lconst (v := 1) hx hb dX8_takes_2 (by decide) ?_
  refine lv_lstore (lv' := [(4, .long ((1 : Int64))), (2, .long ((0 : Int64))), (0, .ref (am 16)), (1, .int a1)]) hx hb dX8_takes_3 hl (by decide) rfl (fun ls hl => ?_)
  refine lv_iconst (v := 0) hx hb dX8_takes_5 (by decide) ?_
  refine lv_istore (lv' := [(6, .int ((0 : Int32))), (4, .long ((1 : Int64))), (2, .long ((0 : Int64))), (0, .ref (am 16)), (1, .int a1)]) hx hb dX8_takes_6 hl (by decide) rfl (fun ls hl => ?_)
  have hL_2 : ∀ (nf : Nat) (y2_k_1 : Int64) (y4_k_1 : Int64) (y6_k_1 : Int32) (H : Heap) (locs : List Loc) (ls : Array Slot) (t : Int64 × Int64), va_P D vwCl (wM am cm u) H → va_S (AM am) s.heap H locs → lv_has ls 9 [(0, .ref (am 16)), (1, .int a1), (2, .long y2_k_1), (4, .long y4_k_1), (6, .int y6_k_1)] → fX8_takes_8 a1 u nf y2_k_1 y4_k_1 y6_k_1 = some t → (∀ (H : Heap) (locs : List Loc) (ls : Array Slot), va_P D vwCl (wM am cm u) H → va_S (AM am) s.heap H locs → lv_has ls 9 [(0, .ref (am 16)), (1, .int a1), (2, .long t.1), (4, .long t.2)] → W p l e rX8_takes s m args below meth c H locs 0 0 (MQ below (va_Qv (fun (u' : UM) => u' = ru) (wB D (wM am cm)) (AM am)) args s 0 0 (AM am)) (F0 m 106 ls [])) → W p l e rX8_takes s m args below meth c H locs 0 0 (MQ below (va_Qv (fun (u' : UM) => u' = ru) (wB D (wM am cm)) (AM am)) args s 0 0 (AM am)) (F0 m 8 ls []) := by
    intro nf
    induction nf with
    | zero => intro y2_k_1 y4_k_1 y6_k_1 H locs ls t hP hS hl hf hK'; rw [fX8_takes_8] at hf; cases hf
    | succ nf ih =>
      intro y2_k_1 y4_k_1 y6_k_1 H locs ls t hP hS hl hf hK'
      rw [fX8_takes_8] at hf
      refine lv_iload hx hb dX8_takes_8 (lv_at hl 4 rfl) ?_
      refine lv_aload_n hx hb dX8_takes_10 rfl (lv_at hl 0 rfl) ?_
      refine va_get (D := D) (ci := 7) (v := .int u.2.2.2.1) (C := RX8) (T := TX8) (N := 20) hx hb hg inG_X8 hown hK hP 16 m_o16 rfl 2 (by decide) (hg _ kw_502) (fun _ h9 => h9) rfl dX8_takes_11 ?_
      refine lv_icmp_ge (tgt := 106) hx hb dX8_takes_14 (by decide) (fun c_3 => ?_) (fun c_3 => ?_)
      · skip
        replace hf := it_t c_3 hf
        have ht := Option.some.inj hf
        subst ht
        exact hK' _ _ _ hP hS (lv_sub hl [0, 1, 2, 3] rfl)
      · skip
        replace hf := it_f c_3 hf
        refine lv_aload_n hx hb dX8_takes_17 rfl (lv_at hl 0 rfl) ?_
        refine va_get (D := D) (ci := 7) (v := .ref (am 6)) (C := RX8) (T := TX8) (N := 20) hx hb hg inG_X8 hown hK hP 16 m_o16 rfl 9 (by decide) (hg _ kw_509) (fun _ h9 => h9) rfl dX8_takes_18 ?_
        refine lv_iconst (v := 5) hx hb dX8_takes_21 (by decide) ?_
        refine lv_iload hx hb dX8_takes_22 (lv_at hl 4 rfl) ?_
        refine lv_imul hx hb dX8_takes_24 ?_
        refine lv_iload_n hx hb dX8_takes_25 rfl (lv_at hl 1 rfl) ?_
        refine lv_iadd hx hb dX8_takes_26 ?_
        obtain ⟨hb_4, hf⟩ := gd_ok hf
        refine m_iald hx hb hK hP (by decide) (by decide) rfl hb_4 dX8_takes_27 ?_
        refine lv_if_le (tgt := 100) hx hb dX8_takes_28 (by decide) (fun c_5 => ?_) (fun c_5 => ?_)
        · skip
          replace hf := it_t c_5 hf
          refine lv_iinc (v := y6_k_1 + 1) (lv' := [(6, .int (y6_k_1 + 1)), (0, .ref (am 16)), (1, .int a1), (2, .long y2_k_1), (4, .long y4_k_1)]) hx hb dX8_takes_100 hl (k := 4) rfl rfl (by decide) rfl (fun ls hl => ?_)
          refine lv_goto (tgt := 8) hx hb dX8_takes_103 (by decide) ?_
          exact ih _ _ _ _ _ _ t hP hS (lv_sub hl [1, 2, 3, 4, 0] rfl) hf hK'
        · skip
          replace hf := it_f c_5 hf
          refine lv_lload hx hb dX8_takes_31 (lv_at hl 3 rfl) ?_
          refine lv_aload_n hx hb dX8_takes_33 rfl (lv_at hl 0 rfl) ?_
          refine va_get (D := D) (ci := 7) (v := .ref (am 13)) (C := RX8) (T := TX8) (N := 20) hx hb hg inG_X8 hown hK hP 16 m_o16 rfl 11 (by decide) (hg _ kw_511) (fun _ h9 => h9) rfl dX8_takes_34 ?_
          refine lv_iload hx hb dX8_takes_37 (lv_at hl 4 rfl) ?_
          obtain ⟨hb_6, hf⟩ := gd_ok hf
          refine m_lald hx hb hK hP (by decide) (by decide) hb_6 dX8_takes_39 ?_
          obtain ⟨r_7, hc_8, hf⟩ := bd_ok hf
          refine gcFl 2 ⟨hx, hb, hml, hown, hts⟩ (mX8_common l y4_k_1 (u.2.1 13 y6_k_1.toNatClampNeg) r_7 hc_8) (gG kw_609) kw_607 kw_608 kw_28 hX8_common ⟨rfl, rfl⟩ ⟨Nat.le_of_ble_eq_true rfl, Nat.le_of_ble_eq_true rfl⟩ ⟨Nat.zero_le _, Nat.zero_le _⟩ rfl hl.1 rfl (Nat.le_of_ble_eq_true rfl) dX8_takes_40 ?_
          refine lv_lstore (lv' := [(7, .long r_7), (0, .ref (am 16)), (1, .int a1), (2, .long y2_k_1), (4, .long y4_k_1), (6, .int y6_k_1)]) hx hb dX8_takes_43 hl (by decide) rfl (fun ls hl => ?_)
          refine lv_lload_n hx hb dX8_takes_45 rfl (lv_at hl 3 rfl) ?_
          refine lv_aload_n hx hb dX8_takes_46 rfl (lv_at hl 1 rfl) ?_
          refine va_get (D := D) (ci := 7) (v := .ref (am 13)) (C := RX8) (T := TX8) (N := 20) hx hb hg inG_X8 hown hK hP 16 m_o16 rfl 11 (by decide) (hg _ kw_511) (fun _ h9 => h9) rfl dX8_takes_47 ?_
          refine lv_iload hx hb dX8_takes_50 (lv_at hl 5 rfl) ?_
          refine m_lald hx hb hK hP (by decide) (by decide) hb_6 dX8_takes_52 ?_
          refine lv_lload hx hb dX8_takes_53 (lv_at hl 0 rfl) ?_
          obtain ⟨hb_9, hf⟩ := gd_ok hf
          refine lv_ldiv hx hb dX8_takes_55 (nz8_ok hb_9) ?_
          refine lv_lmul hx hb dX8_takes_56 ?_
          refine lv_aload_n hx hb dX8_takes_57 rfl (lv_at hl 1 rfl) ?_
          refine va_get (D := D) (ci := 7) (v := .ref (am 12)) (C := RX8) (T := TX8) (N := 20) hx hb hg inG_X8 hown hK hP 16 m_o16 rfl 10 (by decide) (hg _ kw_510) (fun _ h9 => h9) rfl dX8_takes_58 ?_
          refine lv_iload hx hb dX8_takes_61 (lv_at hl 5 rfl) ?_
          refine m_lald hx hb hK hP (by decide) (by decide) hb_6 dX8_takes_63 ?_
          refine lv_aload_n hx hb dX8_takes_64 rfl (lv_at hl 1 rfl) ?_
          refine va_get (D := D) (ci := 7) (v := .ref (am 6)) (C := RX8) (T := TX8) (N := 20) hx hb hg inG_X8 hown hK hP 16 m_o16 rfl 9 (by decide) (hg _ kw_509) (fun _ h9 => h9) rfl dX8_takes_65 ?_
          refine lv_iconst (v := 5) hx hb dX8_takes_68 (by decide) ?_
          refine lv_iload hx hb dX8_takes_69 (lv_at hl 5 rfl) ?_
          refine lv_imul hx hb dX8_takes_71 ?_
          refine lv_iload_n hx hb dX8_takes_72 rfl (lv_at hl 2 rfl) ?_
          refine lv_iadd hx hb dX8_takes_73 ?_
          refine m_iald hx hb hK hP (by decide) (by decide) rfl hb_4 dX8_takes_74 ?_
          refine lv_i2l hx hb dX8_takes_75 rfl ?_
          refine lv_lmul hx hb dX8_takes_76 ?_
          refine lv_lload hx hb dX8_takes_77 (lv_at hl 4 rfl) ?_
          refine lv_lload hx hb dX8_takes_79 (lv_at hl 0 rfl) ?_
          refine lv_ldiv hx hb dX8_takes_81 (nz8_ok hb_9) ?_
          refine lv_lmul hx hb dX8_takes_82 ?_
          refine lv_ladd hx hb dX8_takes_83 ?_
          refine lv_lstore_n (lv' := [(2, .long ((y2_k_1 * ((u.2.1 13 y6_k_1.toNatClampNeg) / r_7)) + (((u.2.1 12 y6_k_1.toNatClampNeg) * ((u.1 6 ((((5 : Int32)) * y6_k_1) + a1).toNatClampNeg).toInt64)) * (y4_k_1 / r_7)))), (7, .long r_7), (0, .ref (am 16)), (1, .int a1), (4, .long y4_k_1), (6, .int y6_k_1)]) hx hb dX8_takes_84 rfl hl (by decide) rfl (fun ls hl => ?_)
          refine lv_lload hx hb dX8_takes_85 (lv_at hl 4 rfl) ?_
          refine lv_lload hx hb dX8_takes_87 (lv_at hl 1 rfl) ?_
          refine lv_ldiv hx hb dX8_takes_89 (nz8_ok hb_9) ?_
          refine lv_aload_n hx hb dX8_takes_90 rfl (lv_at hl 2 rfl) ?_
          refine va_get (D := D) (ci := 7) (v := .ref (am 13)) (C := RX8) (T := TX8) (N := 20) hx hb hg inG_X8 hown hK hP 16 m_o16 rfl 11 (by decide) (hg _ kw_511) (fun _ h9 => h9) rfl dX8_takes_91 ?_
          refine lv_iload hx hb dX8_takes_94 (lv_at hl 5 rfl) ?_
          refine m_lald hx hb hK hP (by decide) (by decide) hb_6 dX8_takes_96 ?_
          refine lv_lmul hx hb dX8_takes_97 ?_
          refine lv_lstore (lv' := [(4, .long ((y4_k_1 / r_7) * (u.2.1 13 y6_k_1.toNatClampNeg))), (2, .long ((y2_k_1 * ((u.2.1 13 y6_k_1.toNatClampNeg) / r_7)) + (((u.2.1 12 y6_k_1.toNatClampNeg) * ((u.1 6 ((((5 : Int32)) * y6_k_1) + a1).toNatClampNeg).toInt64)) * (y4_k_1 / r_7)))), (7, .long r_7), (0, .ref (am 16)), (1, .int a1), (6, .int y6_k_1)]) hx hb dX8_takes_98 hl (by decide) rfl (fun ls hl => ?_)
          refine lv_iinc (v := y6_k_1 + 1) (lv' := [(6, .int (y6_k_1 + 1)), (4, .long ((y4_k_1 / r_7) * (u.2.1 13 y6_k_1.toNatClampNeg))), (2, .long ((y2_k_1 * ((u.2.1 13 y6_k_1.toNatClampNeg) / r_7)) + (((u.2.1 12 y6_k_1.toNatClampNeg) * ((u.1 6 ((((5 : Int32)) * y6_k_1) + a1).toNatClampNeg).toInt64)) * (y4_k_1 / r_7)))), (7, .long r_7), (0, .ref (am 16)), (1, .int a1)]) hx hb dX8_takes_100 hl (k := 5) rfl rfl (by decide) rfl (fun ls hl => ?_)
          refine lv_goto (tgt := 8) hx hb dX8_takes_103 (by decide) ?_
          exact ih _ _ _ _ _ _ t hP hS (lv_sub hl [4, 5, 2, 1, 0] rfl) hf hK'
  obtain ⟨t_10, hq_11, hf⟩ := bd_ok hf
  refine hL_2 FU _ _ _ _ _ _ t_10 hP hS (lv_sub hl [3, 4, 2, 1, 0] rfl) hq_11 (fun H locs ls hP hS hl => ?_)
  refine lv_aload_n hx hb dX8_takes_106 rfl (lv_at hl 0 rfl) ?_
  refine lv_iload_n hx hb dX8_takes_107 rfl (lv_at hl 1 rfl) ?_
  obtain ⟨r_12, hc_13, hf⟩ := bd_ok hf
  refine gcVi 1 (mC_ok D am cm hJ) hC ⟨hx, hb, hml, hown, hts⟩ (mX8_comes l D am cm u a1 r_12 hc_13) (gG kw_637) kw_634 kw_636 kw_13 kw_28 hX8_comes ⟨rfl, rfl⟩ ⟨Nat.le_of_ble_eq_true rfl, Nat.le_of_ble_eq_true rfl⟩ (x_rec (C := RX8) (T := TX8) (N := 20) (ci := 7) hK hP rfl m_o16) hP hS ⟨Nat.zero_le _, Nat.zero_le _⟩ rfl hl.1 rfl (Nat.le_of_ble_eq_true rfl) dX8_takes_108 (fun H locs hP hS => ?_)
  refine lv_istore (lv' := [(6, .int r_12), (0, .ref (am 16)), (1, .int a1), (2, .long t_10.1), (4, .long t_10.2)]) hx hb dX8_takes_111 hl (by decide) rfl (fun ls hl => ?_)
  refine lv_lload_n hx hb dX8_takes_113 rfl (lv_at hl 3 rfl) ?_
  refine lv_lload hx hb dX8_takes_114 (lv_at hl 4 rfl) ?_
  refine lv_iload hx hb dX8_takes_116 (lv_at hl 0 rfl) ?_
  refine lv_i2l hx hb dX8_takes_118 rfl ?_
  refine lv_lmul hx hb dX8_takes_119 ?_
  obtain ⟨r_14, hc_15, hf⟩ := bd_ok hf
  refine gcFl 2 ⟨hx, hb, hml, hown, hts⟩ (mX8_common l t_10.1 (t_10.2 * r_12.toInt64) r_14 hc_15) (gG kw_609) kw_607 kw_608 kw_28 hX8_common ⟨rfl, rfl⟩ ⟨Nat.le_of_ble_eq_true rfl, Nat.le_of_ble_eq_true rfl⟩ ⟨Nat.zero_le _, Nat.zero_le _⟩ rfl hl.1 rfl (Nat.le_of_ble_eq_true rfl) dX8_takes_120 ?_
  refine lv_lstore (lv' := [(7, .long r_14), (6, .int r_12), (0, .ref (am 16)), (1, .int a1), (2, .long t_10.1), (4, .long t_10.2)]) hx hb dX8_takes_123 hl (by decide) rfl (fun ls hl => ?_)
  refine lv_aload_n hx hb dX8_takes_125 rfl (lv_at hl 2 rfl) ?_
  refine va_get (D := D) (ci := 7) (v := .ref (am 14)) (C := RX8) (T := TX8) (N := 20) hx hb hg inG_X8 hown hK hP 16 m_o16 rfl 12 (by decide) (hg _ kw_512) (fun _ h9 => h9) rfl dX8_takes_126 ?_
  refine lv_iload_n hx hb dX8_takes_129 rfl (lv_at hl 3 rfl) ?_
  refine lv_lload_n hx hb dX8_takes_130 rfl (lv_at hl 4 rfl) ?_
  refine lv_lload hx hb dX8_takes_131 (lv_at hl 0 rfl) ?_
  obtain ⟨hb_16, hf⟩ := gd_ok hf
  refine lv_ldiv hx hb dX8_takes_133 (nz8_ok hb_16) ?_
  obtain ⟨hb_17, hf⟩ := gd_ok hf
  refine m_last hx hb hK hP hJ hS (by decide) (by decide) hb_17 dX8_takes_134 (fun H locs hP hS => ?_)
  refine lv_aload_n hx hb dX8_takes_135 rfl (lv_at hl 2 rfl) ?_
  refine va_get (D := D) (ci := 7) (v := .ref (am 15)) (C := RX8) (T := TX8) (N := 20) hx hb hg inG_X8 hown hK hP 16 m_o16 rfl 13 (by decide) (hg _ kw_513) (fun _ h9 => h9) rfl dX8_takes_136 ?_
  refine lv_iload_n hx hb dX8_takes_139 rfl (lv_at hl 3 rfl) ?_
  refine lv_lload hx hb dX8_takes_140 (lv_at hl 5 rfl) ?_
  refine lv_iload hx hb dX8_takes_142 (lv_at hl 1 rfl) ?_
  refine lv_i2l hx hb dX8_takes_144 rfl ?_
  refine lv_lmul hx hb dX8_takes_145 ?_
  refine lv_lload hx hb dX8_takes_146 (lv_at hl 0 rfl) ?_
  refine lv_ldiv hx hb dX8_takes_148 (nz8_ok hb_16) ?_
  refine m_last hx hb hK hP hJ hS (by decide) (by decide) hb_17 dX8_takes_149 (fun H locs hP hS => ?_)
  refine lv_lload_n hx hb dX8_takes_150 rfl (lv_at hl 4 rfl) ?_
  refine lv_aload_n hx hb dX8_takes_151 rfl (lv_at hl 2 rfl) ?_
  refine va_get (D := D) (ci := 7) (v := .ref (am 0)) (C := RX8) (T := TX8) (N := 20) hx hb hg inG_X8 hown hK hP 16 m_o16 rfl 3 (by decide) (hg _ kw_503) (fun _ h9 => h9) rfl dX8_takes_152 ?_
  refine lv_iload_n hx hb dX8_takes_155 rfl (lv_at hl 3 rfl) ?_
  refine m_iald hx hb hK hP (by decide) (by decide) rfl hb_17 dX8_takes_156 ?_
  refine lv_i2l hx hb dX8_takes_157 rfl ?_
  refine lv_lload hx hb dX8_takes_158 (lv_at hl 5 rfl) ?_
  refine lv_lmul hx hb dX8_takes_160 ?_
  refine lv_ladd hx hb dX8_takes_161 ?_
  refine lv_lstore_n (lv' := [(2, .long (t_10.1 + ((((msl (msl u 14 a1.toNatClampNeg (t_10.1 / r_14)) 15 a1.toNatClampNeg ((t_10.2 * r_12.toInt64) / r_14)).1 0 a1.toNatClampNeg).toInt64) * t_10.2))), (7, .long r_14), (6, .int r_12), (0, .ref (am 16)), (1, .int a1), (4, .long t_10.2)]) hx hb dX8_takes_162 rfl hl (by decide) rfl (fun ls hl => ?_)
  refine lv_lload_n hx hb dX8_takes_163 rfl (lv_at hl 0 rfl) ?_
  refine lv_lload hx hb dX8_takes_164 (lv_at hl 5 rfl) ?_
  refine lv_iload hx hb dX8_takes_166 (lv_at hl 2 rfl) ?_
  refine lv_i2l hx hb dX8_takes_168 rfl ?_
  refine lv_lmul hx hb dX8_takes_169 ?_
  obtain ⟨r_18, hc_19, hf⟩ := bd_ok hf
  refine gcFl 2 ⟨hx, hb, hml, hown, hts⟩ (mX8_common l (t_10.1 + ((((msl (msl u 14 a1.toNatClampNeg (t_10.1 / r_14)) 15 a1.toNatClampNeg ((t_10.2 * r_12.toInt64) / r_14)).1 0 a1.toNatClampNeg).toInt64) * t_10.2)) (t_10.2 * r_12.toInt64) r_18 hc_19) (gG kw_609) kw_607 kw_608 kw_28 hX8_common ⟨rfl, rfl⟩ ⟨Nat.le_of_ble_eq_true rfl, Nat.le_of_ble_eq_true rfl⟩ ⟨Nat.zero_le _, Nat.zero_le _⟩ rfl hl.1 rfl (Nat.le_of_ble_eq_true rfl) dX8_takes_170 ?_
  refine lv_lstore (lv' := [(7, .long r_18), (2, .long (t_10.1 + ((((msl (msl u 14 a1.toNatClampNeg (t_10.1 / r_14)) 15 a1.toNatClampNeg ((t_10.2 * r_12.toInt64) / r_14)).1 0 a1.toNatClampNeg).toInt64) * t_10.2))), (6, .int r_12), (0, .ref (am 16)), (1, .int a1), (4, .long t_10.2)]) hx hb dX8_takes_173 hl (by decide) rfl (fun ls hl => ?_)
  refine lv_aload_n hx hb dX8_takes_175 rfl (lv_at hl 3 rfl) ?_
  refine va_get (D := D) (ci := 7) (v := .ref (am 12)) (C := RX8) (T := TX8) (N := 20) hx hb hg inG_X8 hown hK hP 16 m_o16 rfl 10 (by decide) (hg _ kw_510) (fun _ h9 => h9) rfl dX8_takes_176 ?_
  refine lv_iload_n hx hb dX8_takes_179 rfl (lv_at hl 4 rfl) ?_
  refine lv_lload_n hx hb dX8_takes_180 rfl (lv_at hl 1 rfl) ?_
  refine lv_lload hx hb dX8_takes_181 (lv_at hl 0 rfl) ?_
  obtain ⟨hb_20, hf⟩ := gd_ok hf
  refine lv_ldiv hx hb dX8_takes_183 (nz8_ok hb_20) ?_
  refine m_last hx hb hK hP hJ hS (by decide) (by decide) hb_17 dX8_takes_184 (fun H locs hP hS => ?_)
  refine lv_aload_n hx hb dX8_takes_185 rfl (lv_at hl 3 rfl) ?_
  refine va_get (D := D) (ci := 7) (v := .ref (am 13)) (C := RX8) (T := TX8) (N := 20) hx hb hg inG_X8 hown hK hP 16 m_o16 rfl 11 (by decide) (hg _ kw_511) (fun _ h9 => h9) rfl dX8_takes_186 ?_
  refine lv_iload_n hx hb dX8_takes_189 rfl (lv_at hl 4 rfl) ?_
  refine lv_lload hx hb dX8_takes_190 (lv_at hl 5 rfl) ?_
  refine lv_iload hx hb dX8_takes_192 (lv_at hl 2 rfl) ?_
  refine lv_i2l hx hb dX8_takes_194 rfl ?_
  refine lv_lmul hx hb dX8_takes_195 ?_
  refine lv_lload hx hb dX8_takes_196 (lv_at hl 0 rfl) ?_
  refine lv_ldiv hx hb dX8_takes_198 (nz8_ok hb_20) ?_
  refine m_last hx hb hK hP hJ hS (by decide) (by decide) hb_17 dX8_takes_199 (fun H locs hP hS => ?_)
  refine lv_aload_n hx hb dX8_takes_200 rfl (lv_at hl 3 rfl) ?_
  refine va_get (D := D) (ci := 7) (v := .ref (am 7)) (C := RX8) (T := TX8) (N := 20) hx hb hg inG_X8 hown hK hP 16 m_o16 rfl 14 (by decide) (hg _ kw_514) (fun _ h9 => h9) rfl dX8_takes_201 ?_
  refine lv_iload_n hx hb dX8_takes_204 rfl (lv_at hl 4 rfl) ?_
  refine lv_iconst (v := 1) hx hb dX8_takes_205 (by decide) ?_
  refine m_zast hx hb hK hP hJ hS (by decide) hb_17 dX8_takes_206 (fun H locs hP hS => ?_)
  exact grV hx hb hr hlocks hP hS dX8_takes_207 (Option.some.inj hf)
abbrev rX8_failsFirst : Room := { frames := 2, cells := 0, slots := 0, locals := 57 }
theorem hX8_failsFirst : yX8_failsFirst.cls ≠ "java/lang/invoke/MethodHandle" ∧ yX8_failsFirst.cls ≠ "java/lang/invoke/VarHandle" ∧ (parseMethodDescriptor yX8_failsFirst.desc).map (fun d => d.parameters.length) = some 0 := by decide +kernel
set_option maxHeartbeats 4000000 in
set_option maxRecDepth 100000 in
theorem mX8_failsFirst (l : Launch) (D : va_G) (am : Nat → Nat) (cm : Nat → ClassId) (u : UM)   (ru : Int32 × UM) (hok : fX8_failsFirst u = some ru) : Met l yX8_failsFirst (Cond.code yX8_failsFirst cX8_failsFirst 5 (some .int) :: wsG) rX8_failsFirst (va_Pc [.ref (am 16)] (wI D (wM am cm) (mC D am cm) u)) (va_Qi (fun (r : Int32) (u' : UM) => r = ru.1 ∧ u' = ru.2) (wB D (wM am cm)) (AM am)) 0 0 (AM am) := by
  refine Met.ofW (cc := cX8_failsFirst) (maxL := 5) (ret := (some .int)) (by decide) rfl ?_
  intro p e s m args below meth c s₁ B hml hv
  have hx := B.exec
  have hb := B.bytes
  have hr := B.returns
  have hts := atoms_spec (ws := (Cond.code yX8_failsFirst cX8_failsFirst 5 (some .int) :: wsG)) B.pre
  have hg : ∀ w ∈ wsG, w.before args s = true := fun w h => hts w (List.mem_cons_of_mem _ h)
  have hown : s.vm.findClass RX8 = some m.cls := findClass_of_methodNamed B.named
  have hlocks := B.notSynchronized
  obtain ⟨ha, hP, hC⟩ := hv
  obtain ⟨hK, hJ⟩ := id hC
  have hS : va_S (AM am) s.heap s.heap [] := va_S.rf
  refine W.eq (show entryFrame m args 5 = entryFrame m ([.ref (am 16)] : List Value).toArray 5 by rw [ha]) ?_
  have hl := lv_entry ([.ref (am 16)]) (n := 5) (Nat.le_of_ble_eq_true rfl)
  rw [lg_entry_eq]
  generalize (lg_sl ([.ref (am 16)]) ++ List.replicate (5 - (lg_sl ([.ref (am 16)])).length) Slot.unset).toArray = ls at hl ⊢
  have hl : lv_has ls 5 [(0, .ref (am 16))] := hl
  show W p l e rX8_failsFirst s m args below meth c s.heap [] 0 0 (MQ below (va_Qi (fun (r : Int32) (u' : UM) => r = ru.1 ∧ u' = ru.2) (wB D (wM am cm)) (AM am)) args s 0 0 (AM am)) (F0 m 0 ls [])
  have hf := hok
  unfold fX8_failsFirst at hf
  refine lv_iconst (v := 0) hx hb dX8_failsFirst_0 (by decide) ?_
  refine lv_istore_n (lv' := [(1, .int ((0 : Int32))), (0, .ref (am 16))]) hx hb dX8_failsFirst_1 rfl hl (by decide) rfl (fun ls hl => ?_)
  have hL_2 : ∀ (nf : Nat) (y1_k_1 : Int32) (H : Heap) (locs : List Loc) (ls : Array Slot), va_P D vwCl (wM am cm u) H → va_S (AM am) s.heap H locs → lv_has ls 5 [(0, .ref (am 16)), (1, .int y1_k_1)] → fX8_failsFirst_2 u nf y1_k_1 = some ru → W p l e rX8_failsFirst s m args below meth c H locs 0 0 (MQ below (va_Qi (fun (r : Int32) (u' : UM) => r = ru.1 ∧ u' = ru.2) (wB D (wM am cm)) (AM am)) args s 0 0 (AM am)) (F0 m 2 ls []) := by
    intro nf
    induction nf with
    | zero => intro y1_k_1 H locs ls hP hS hl hf; rw [fX8_failsFirst_2] at hf; cases hf
    | succ nf ih =>
      intro y1_k_1 H locs ls hP hS hl hf
      rw [fX8_failsFirst_2] at hf
      refine lv_iload_n hx hb dX8_failsFirst_2 rfl (lv_at hl 1 rfl) ?_
      refine lv_aload_n hx hb dX8_failsFirst_3 rfl (lv_at hl 0 rfl) ?_
      refine va_get (D := D) (ci := 7) (v := .int u.2.2.2.1) (C := RX8) (T := TX8) (N := 20) hx hb hg inG_X8 hown hK hP 16 m_o16 rfl 2 (by decide) (hg _ kw_502) (fun _ h9 => h9) rfl dX8_failsFirst_4 ?_
      refine lv_icmp_ge (tgt := 29) hx hb dX8_failsFirst_7 (by decide) (fun c_3 => ?_) (fun c_3 => ?_)
      · skip
        replace hf := it_t c_3 hf
        refine lv_iconst (v := 0) hx hb dX8_failsFirst_29 (by decide) ?_
        refine lv_istore_n (lv' := [(1, .int ((0 : Int32))), (0, .ref (am 16))]) hx hb dX8_failsFirst_30 rfl hl (by decide) rfl (fun ls hl => ?_)
        have hL_5 : ∀ (nf : Nat) (y1_k_4 : Int32) (H : Heap) (locs : List Loc) (ls : Array Slot), va_P D vwCl (wM am cm u) H → va_S (AM am) s.heap H locs → lv_has ls 5 [(0, .ref (am 16)), (1, .int y1_k_4)] → fX8_failsFirst_31 u nf y1_k_4 = some ru → W p l e rX8_failsFirst s m args below meth c H locs 0 0 (MQ below (va_Qi (fun (r : Int32) (u' : UM) => r = ru.1 ∧ u' = ru.2) (wB D (wM am cm)) (AM am)) args s 0 0 (AM am)) (F0 m 31 ls []) := by
          intro nf
          induction nf with
          | zero => intro y1_k_4 H locs ls hP hS hl hf; rw [fX8_failsFirst_31] at hf; cases hf
          | succ nf ih =>
            intro y1_k_4 H locs ls hP hS hl hf
            rw [fX8_failsFirst_31] at hf
            refine lv_iload_n hx hb dX8_failsFirst_31 rfl (lv_at hl 1 rfl) ?_
            refine lv_aload_n hx hb dX8_failsFirst_32 rfl (lv_at hl 0 rfl) ?_
            refine va_get (D := D) (ci := 7) (v := .int u.2.2.2.1) (C := RX8) (T := TX8) (N := 20) hx hb hg inG_X8 hown hK hP 16 m_o16 rfl 2 (by decide) (hg _ kw_502) (fun _ h9 => h9) rfl dX8_failsFirst_33 ?_
            refine lv_icmp_ge (tgt := 63) hx hb dX8_failsFirst_36 (by decide) (fun c_6 => ?_) (fun c_6 => ?_)
            · skip
              replace hf := it_t c_6 hf
              refine lv_iconst (v := 0) hx hb dX8_failsFirst_63 (by decide) ?_
              refine lv_istore_n (lv' := [(1, .int ((0 : Int32))), (0, .ref (am 16))]) hx hb dX8_failsFirst_64 rfl hl (by decide) rfl (fun ls hl => ?_)
              have hL_8 : ∀ (nf : Nat) (y1_k_7 : Int32) (u_k_7 : UM) (H : Heap) (locs : List Loc) (ls : Array Slot) (t : UM), va_P D vwCl (wM am cm u_k_7) H → va_S (AM am) s.heap H locs → lv_has ls 5 [(0, .ref (am 16)), (1, .int y1_k_7)] → fX8_failsFirst_65 nf y1_k_7 u_k_7 = some t → (∀ (H : Heap) (locs : List Loc) (ls : Array Slot), va_P D vwCl (wM am cm t) H → va_S (AM am) s.heap H locs → lv_has ls 5 [(0, .ref (am 16))] → W p l e rX8_failsFirst s m args below meth c H locs 0 0 (MQ below (va_Qi (fun (r : Int32) (u' : UM) => r = ru.1 ∧ u' = ru.2) (wB D (wM am cm)) (AM am)) args s 0 0 (AM am)) (F0 m 86 ls [])) → W p l e rX8_failsFirst s m args below meth c H locs 0 0 (MQ below (va_Qi (fun (r : Int32) (u' : UM) => r = ru.1 ∧ u' = ru.2) (wB D (wM am cm)) (AM am)) args s 0 0 (AM am)) (F0 m 65 ls []) := by
                intro nf
                induction nf with
                | zero => intro y1_k_7 u_k_7 H locs ls t hP hS hl hf hK'; rw [fX8_failsFirst_65] at hf; cases hf
                | succ nf ih =>
                  intro y1_k_7 u_k_7 H locs ls t hP hS hl hf hK'
                  rw [fX8_failsFirst_65] at hf
                  refine lv_iload_n hx hb dX8_failsFirst_65 rfl (lv_at hl 1 rfl) ?_
                  refine lv_aload_n hx hb dX8_failsFirst_66 rfl (lv_at hl 0 rfl) ?_
                  refine va_get (D := D) (ci := 7) (v := .int u_k_7.2.2.2.1) (C := RX8) (T := TX8) (N := 20) hx hb hg inG_X8 hown hK hP 16 m_o16 rfl 2 (by decide) (hg _ kw_502) (fun _ h9 => h9) rfl dX8_failsFirst_67 ?_
                  refine lv_icmp_ge (tgt := 86) hx hb dX8_failsFirst_70 (by decide) (fun c_9 => ?_) (fun c_9 => ?_)
                  · skip
                    replace hf := it_t c_9 hf
                    have ht := Option.some.inj hf
                    subst ht
                    exact hK' _ _ _ hP hS (lv_sub hl [0] rfl)
                  · skip
                    replace hf := it_f c_9 hf
                    refine lv_aload_n hx hb dX8_failsFirst_73 rfl (lv_at hl 0 rfl) ?_
                    refine va_get (D := D) (ci := 7) (v := .ref (am 7)) (C := RX8) (T := TX8) (N := 20) hx hb hg inG_X8 hown hK hP 16 m_o16 rfl 14 (by decide) (hg _ kw_514) (fun _ h9 => h9) rfl dX8_failsFirst_74 ?_
                    refine lv_iload_n hx hb dX8_failsFirst_77 rfl (lv_at hl 1 rfl) ?_
                    refine lv_iconst (v := 0) hx hb dX8_failsFirst_78 (by decide) ?_
                    obtain ⟨hb_10, hf⟩ := gd_ok hf
                    refine m_zast hx hb hK hP hJ hS (by decide) hb_10 dX8_failsFirst_79 (fun H locs hP hS => ?_)
                    refine lv_iinc (v := y1_k_7 + 1) (lv' := [(1, .int (y1_k_7 + 1)), (0, .ref (am 16))]) hx hb dX8_failsFirst_80 hl (k := 1) rfl rfl (by decide) rfl (fun ls hl => ?_)
                    refine lv_goto (tgt := 65) hx hb dX8_failsFirst_83 (by decide) ?_
                    exact ih _ _ _ _ _ t hP hS (lv_sub hl [1, 0] rfl) hf hK'
              obtain ⟨t_11, hq_12, hf⟩ := bd_ok hf
              refine hL_8 FU _ _ _ _ _ t_11 hP hS (lv_sub hl [1, 0] rfl) hq_12 (fun H locs ls hP hS hl => ?_)
              refine lv_iconst (v := 1) hx hb dX8_failsFirst_86 (by decide) ?_
              refine lv_istore_n (lv' := [(1, .int ((1 : Int32))), (0, .ref (am 16))]) hx hb dX8_failsFirst_87 rfl hl (by decide) rfl (fun ls hl => ?_)
              have hL_14 : ∀ (nf : Nat) (y1_k_13 : Int32) (u_k_13 : UM) (H : Heap) (locs : List Loc) (ls : Array Slot) (t : UM), va_P D vwCl (wM am cm u_k_13) H → va_S (AM am) s.heap H locs → lv_has ls 5 [(0, .ref (am 16)), (1, .int y1_k_13)] → fX8_failsFirst_88 nf y1_k_13 u_k_13 = some t → (∀ (H : Heap) (locs : List Loc) (ls : Array Slot), va_P D vwCl (wM am cm t) H → va_S (AM am) s.heap H locs → lv_has ls 5 [(0, .ref (am 16))] → W p l e rX8_failsFirst s m args below meth c H locs 0 0 (MQ below (va_Qi (fun (r : Int32) (u' : UM) => r = ru.1 ∧ u' = ru.2) (wB D (wM am cm)) (AM am)) args s 0 0 (AM am)) (F0 m 189 ls [])) → W p l e rX8_failsFirst s m args below meth c H locs 0 0 (MQ below (va_Qi (fun (r : Int32) (u' : UM) => r = ru.1 ∧ u' = ru.2) (wB D (wM am cm)) (AM am)) args s 0 0 (AM am)) (F0 m 88 ls []) := by
                intro nf
                induction nf with
                | zero => intro y1_k_13 u_k_13 H locs ls t hP hS hl hf hK'; rw [fX8_failsFirst_88] at hf; cases hf
                | succ nf ih =>
                  intro y1_k_13 u_k_13 H locs ls t hP hS hl hf hK'
                  rw [fX8_failsFirst_88] at hf
                  refine lv_iload_n hx hb dX8_failsFirst_88 rfl (lv_at hl 1 rfl) ?_
                  refine lv_if_eq (tgt := 189) hx hb dX8_failsFirst_89 (by decide) (fun c_15 => ?_) (fun c_15 => ?_)
                  · skip
                    replace hf := it_t c_15 hf
                    have ht := Option.some.inj hf
                    subst ht
                    exact hK' _ _ _ hP hS (lv_sub hl [0] rfl)
                  · skip
                    replace hf := it_f c_15 hf
                    refine lv_iconst (v := 0) hx hb dX8_failsFirst_92 (by decide) ?_
                    refine lv_istore_n (lv' := [(1, .int ((0 : Int32))), (0, .ref (am 16))]) hx hb dX8_failsFirst_93 rfl hl (by decide) rfl (fun ls hl => ?_)
                    refine lv_iconst (v := 0) hx hb dX8_failsFirst_94 (by decide) ?_
                    refine lv_istore_n (lv' := [(2, .int ((0 : Int32))), (1, .int ((0 : Int32))), (0, .ref (am 16))]) hx hb dX8_failsFirst_95 rfl hl (by decide) rfl (fun ls hl => ?_)
                    have hL_17 : ∀ (nf : Nat) (y1_k_16 : Int32) (y2_k_16 : Int32) (u_k_16 : UM) (H : Heap) (locs : List Loc) (ls : Array Slot) (t : Int32 × UM), va_P D vwCl (wM am cm u_k_16) H → va_S (AM am) s.heap H locs → lv_has ls 5 [(0, .ref (am 16)), (1, .int y1_k_16), (2, .int y2_k_16)] → fX8_failsFirst_96 nf y1_k_16 y2_k_16 u_k_16 = some t → (∀ (H : Heap) (locs : List Loc) (ls : Array Slot), va_P D vwCl (wM am cm t.2) H → va_S (AM am) s.heap H locs → lv_has ls 5 [(0, .ref (am 16)), (1, .int t.1)] → W p l e rX8_failsFirst s m args below meth c H locs 0 0 (MQ below (va_Qi (fun (r : Int32) (u' : UM) => r = ru.1 ∧ u' = ru.2) (wB D (wM am cm)) (AM am)) args s 0 0 (AM am)) (F0 m 186 ls [])) → W p l e rX8_failsFirst s m args below meth c H locs 0 0 (MQ below (va_Qi (fun (r : Int32) (u' : UM) => r = ru.1 ∧ u' = ru.2) (wB D (wM am cm)) (AM am)) args s 0 0 (AM am)) (F0 m 96 ls []) := by
                      intro nf
                      induction nf with
                      | zero => intro y1_k_16 y2_k_16 u_k_16 H locs ls t hP hS hl hf hK'; rw [fX8_failsFirst_96] at hf; cases hf
                      | succ nf ih =>
                        intro y1_k_16 y2_k_16 u_k_16 H locs ls t hP hS hl hf hK'
                        rw [fX8_failsFirst_96] at hf
                        refine lv_iload_n hx hb dX8_failsFirst_96 rfl (lv_at hl 2 rfl) ?_
                        refine lv_aload_n hx hb dX8_failsFirst_97 rfl (lv_at hl 0 rfl) ?_
                        refine va_get (D := D) (ci := 7) (v := .int u_k_16.2.2.2.1) (C := RX8) (T := TX8) (N := 20) hx hb hg inG_X8 hown hK hP 16 m_o16 rfl 2 (by decide) (hg _ kw_502) (fun _ h9 => h9) rfl dX8_failsFirst_98 ?_
                        refine lv_icmp_ge (tgt := 186) hx hb dX8_failsFirst_101 (by decide) (fun c_18 => ?_) (fun c_18 => ?_)
                        · skip
                          replace hf := it_t c_18 hf
                          have ht := Option.some.inj hf
                          subst ht
                          exact hK' _ _ _ hP hS (lv_sub hl [0, 1] rfl)
                        · skip
                          replace hf := it_f c_18 hf
                          refine lv_aload_n hx hb dX8_failsFirst_104 rfl (lv_at hl 0 rfl) ?_
                          refine va_get (D := D) (ci := 7) (v := .ref (am 7)) (C := RX8) (T := TX8) (N := 20) hx hb hg inG_X8 hown hK hP 16 m_o16 rfl 14 (by decide) (hg _ kw_514) (fun _ h9 => h9) rfl dX8_failsFirst_105 ?_
                          refine lv_iload_n hx hb dX8_failsFirst_108 rfl (lv_at hl 2 rfl) ?_
                          obtain ⟨hb_19, hf⟩ := gd_ok hf
                          refine m_zald hx hb hK hP hb_19 dX8_failsFirst_109 ?_
                          obtain ⟨t_20, hq_21, hf⟩ := bd_ok hf
                          have hJ_22 : ∀ (H : Heap) (locs : List Loc) (ls : Array Slot), va_P D vwCl (wM am cm u_k_16) H → va_S (AM am) s.heap H locs → lv_has ls 5 [(0, .ref (am 16)), (1, .int y1_k_16), (2, .int y2_k_16)] → W p l e rX8_failsFirst s m args below meth c H locs 0 0 (MQ below (va_Qi (fun (r : Int32) (u' : UM) => r = ru.1 ∧ u' = ru.2) (wB D (wM am cm)) (AM am)) args s 0 0 (AM am)) (F0 m 118 ls [.int t_20]) := by
                            intro H locs ls hP hS hl
                            refine lv_istore_n (lv' := [(3, .int t_20), (0, .ref (am 16)), (1, .int y1_k_16), (2, .int y2_k_16)]) hx hb dX8_failsFirst_118 rfl hl (by decide) rfl (fun ls hl => ?_)
                            refine lv_iconst (v := 0) hx hb dX8_failsFirst_119 (by decide) ?_
                            refine lv_istore (lv' := [(4, .int ((0 : Int32))), (3, .int t_20), (0, .ref (am 16)), (1, .int y1_k_16), (2, .int y2_k_16)]) hx hb dX8_failsFirst_120 hl (by decide) rfl (fun ls hl => ?_)
                            have hL_24 : ∀ (nf : Nat) (y3_k_23 : Int32) (y4_k_23 : Int32) (H : Heap) (locs : List Loc) (ls : Array Slot) (t : Int32), va_P D vwCl (wM am cm u_k_16) H → va_S (AM am) s.heap H locs → lv_has ls 5 [(0, .ref (am 16)), (1, .int y1_k_16), (2, .int y2_k_16), (3, .int y3_k_23), (4, .int y4_k_23)] → fX8_failsFirst_122 y2_k_16 u_k_16 nf y3_k_23 y4_k_23 = some t → (∀ (H : Heap) (locs : List Loc) (ls : Array Slot), va_P D vwCl (wM am cm u_k_16) H → va_S (AM am) s.heap H locs → lv_has ls 5 [(0, .ref (am 16)), (1, .int y1_k_16), (2, .int y2_k_16), (3, .int t)] → W p l e rX8_failsFirst s m args below meth c H locs 0 0 (MQ below (va_Qi (fun (r : Int32) (u' : UM) => r = ru.1 ∧ u' = ru.2) (wB D (wM am cm)) (AM am)) args s 0 0 (AM am)) (F0 m 169 ls [])) → W p l e rX8_failsFirst s m args below meth c H locs 0 0 (MQ below (va_Qi (fun (r : Int32) (u' : UM) => r = ru.1 ∧ u' = ru.2) (wB D (wM am cm)) (AM am)) args s 0 0 (AM am)) (F0 m 122 ls []) := by
                              intro nf
                              induction nf with
                              | zero => intro y3_k_23 y4_k_23 H locs ls t hP hS hl hf hK'; rw [fX8_failsFirst_122] at hf; cases hf
                              | succ nf ih =>
                                intro y3_k_23 y4_k_23 H locs ls t hP hS hl hf hK'
                                rw [fX8_failsFirst_122] at hf
                                refine lv_iload hx hb dX8_failsFirst_122 (lv_at hl 4 rfl) ?_
                                refine lv_aload_n hx hb dX8_failsFirst_124 rfl (lv_at hl 0 rfl) ?_
                                refine va_get (D := D) (ci := 7) (v := .int u_k_16.2.2.2.1) (C := RX8) (T := TX8) (N := 20) hx hb hg inG_X8 hown hK hP 16 m_o16 rfl 2 (by decide) (hg _ kw_502) (fun _ h9 => h9) rfl dX8_failsFirst_125 ?_
                                refine lv_icmp_ge (tgt := 169) hx hb dX8_failsFirst_128 (by decide) (fun c_25 => ?_) (fun c_25 => ?_)
                                · skip
                                  replace hf := it_t c_25 hf
                                  have ht := Option.some.inj hf
                                  subst ht
                                  exact hK' _ _ _ hP hS (lv_sub hl [0, 1, 2, 3] rfl)
                                · skip
                                  replace hf := it_f c_25 hf
                                  refine lv_iload_n hx hb dX8_failsFirst_131 rfl (lv_at hl 3 rfl) ?_
                                  refine lv_aload_n hx hb dX8_failsFirst_132 rfl (lv_at hl 0 rfl) ?_
                                  refine va_get (D := D) (ci := 7) (v := .ref (am 6)) (C := RX8) (T := TX8) (N := 20) hx hb hg inG_X8 hown hK hP 16 m_o16 rfl 9 (by decide) (hg _ kw_509) (fun _ h9 => h9) rfl dX8_failsFirst_133 ?_
                                  refine lv_iconst (v := 5) hx hb dX8_failsFirst_136 (by decide) ?_
                                  refine lv_iload hx hb dX8_failsFirst_137 (lv_at hl 4 rfl) ?_
                                  refine lv_imul hx hb dX8_failsFirst_139 ?_
                                  refine lv_iload_n hx hb dX8_failsFirst_140 rfl (lv_at hl 2 rfl) ?_
                                  refine lv_iadd hx hb dX8_failsFirst_141 ?_
                                  obtain ⟨hb_26, hf⟩ := gd_ok hf
                                  refine m_iald hx hb hK hP (by decide) (by decide) rfl hb_26 dX8_failsFirst_142 ?_
                                  refine lv_if_eq (tgt := 156) hx hb dX8_failsFirst_143 (by decide) (fun c_27 => ?_) (fun c_27 => ?_)
                                  · skip
                                    replace hf := it_t c_27 hf
                                    refine lv_iconst (v := 1) hx hb dX8_failsFirst_156 (by decide) ?_
                                    refine lv_goto (tgt := 161) hx hb dX8_failsFirst_157 (by decide) ?_
                                    refine lv_iand hx hb dX8_failsFirst_161 ?_
                                    refine lv_istore_n (lv' := [(3, .int (y3_k_23 &&& ((1 : Int32)))), (0, .ref (am 16)), (1, .int y1_k_16), (2, .int y2_k_16), (4, .int y4_k_23)]) hx hb dX8_failsFirst_162 rfl hl (by decide) rfl (fun ls hl => ?_)
                                    refine lv_iinc (v := y4_k_23 + 1) (lv' := [(4, .int (y4_k_23 + 1)), (3, .int (y3_k_23 &&& ((1 : Int32)))), (0, .ref (am 16)), (1, .int y1_k_16), (2, .int y2_k_16)]) hx hb dX8_failsFirst_163 hl (k := 4) rfl rfl (by decide) rfl (fun ls hl => ?_)
                                    refine lv_goto (tgt := 122) hx hb dX8_failsFirst_166 (by decide) ?_
                                    exact ih _ _ _ _ _ t hP hS (lv_sub hl [2, 3, 4, 1, 0] rfl) hf hK'
                                  · skip
                                    replace hf := it_f c_27 hf
                                    refine lv_aload_n hx hb dX8_failsFirst_146 rfl (lv_at hl 0 rfl) ?_
                                    refine va_get (D := D) (ci := 7) (v := .ref (am 7)) (C := RX8) (T := TX8) (N := 20) hx hb hg inG_X8 hown hK hP 16 m_o16 rfl 14 (by decide) (hg _ kw_514) (fun _ h9 => h9) rfl dX8_failsFirst_147 ?_
                                    refine lv_iload hx hb dX8_failsFirst_150 (lv_at hl 4 rfl) ?_
                                    obtain ⟨hb_28, hf⟩ := gd_ok hf
                                    refine m_zald hx hb hK hP hb_28 dX8_failsFirst_152 ?_
                                    refine lv_if_eq (tgt := 160) hx hb dX8_failsFirst_153 (by decide) (fun c_29 => ?_) (fun c_29 => ?_)
                                    · skip
                                      replace hf := it_t c_29 hf
                                      refine lv_iconst (v := 0) hx hb dX8_failsFirst_160 (by decide) ?_
                                      refine lv_iand hx hb dX8_failsFirst_161 ?_
                                      refine lv_istore_n (lv' := [(3, .int (y3_k_23 &&& ((0 : Int32)))), (0, .ref (am 16)), (1, .int y1_k_16), (2, .int y2_k_16), (4, .int y4_k_23)]) hx hb dX8_failsFirst_162 rfl hl (by decide) rfl (fun ls hl => ?_)
                                      refine lv_iinc (v := y4_k_23 + 1) (lv' := [(4, .int (y4_k_23 + 1)), (3, .int (y3_k_23 &&& ((0 : Int32)))), (0, .ref (am 16)), (1, .int y1_k_16), (2, .int y2_k_16)]) hx hb dX8_failsFirst_163 hl (k := 4) rfl rfl (by decide) rfl (fun ls hl => ?_)
                                      refine lv_goto (tgt := 122) hx hb dX8_failsFirst_166 (by decide) ?_
                                      exact ih _ _ _ _ _ t hP hS (lv_sub hl [2, 3, 4, 1, 0] rfl) hf hK'
                                    · skip
                                      replace hf := it_f c_29 hf
                                      refine lv_iconst (v := 1) hx hb dX8_failsFirst_156 (by decide) ?_
                                      refine lv_goto (tgt := 161) hx hb dX8_failsFirst_157 (by decide) ?_
                                      refine lv_iand hx hb dX8_failsFirst_161 ?_
                                      refine lv_istore_n (lv' := [(3, .int (y3_k_23 &&& ((1 : Int32)))), (0, .ref (am 16)), (1, .int y1_k_16), (2, .int y2_k_16), (4, .int y4_k_23)]) hx hb dX8_failsFirst_162 rfl hl (by decide) rfl (fun ls hl => ?_)
                                      refine lv_iinc (v := y4_k_23 + 1) (lv' := [(4, .int (y4_k_23 + 1)), (3, .int (y3_k_23 &&& ((1 : Int32)))), (0, .ref (am 16)), (1, .int y1_k_16), (2, .int y2_k_16)]) hx hb dX8_failsFirst_163 hl (k := 4) rfl rfl (by decide) rfl (fun ls hl => ?_)
                                      refine lv_goto (tgt := 122) hx hb dX8_failsFirst_166 (by decide) ?_
                                      exact ih _ _ _ _ _ t hP hS (lv_sub hl [2, 3, 4, 1, 0] rfl) hf hK'
                            obtain ⟨t_30, hq_31, hf⟩ := bd_ok hf
                            refine hL_24 FU _ _ _ _ _ t_30 hP hS (lv_sub hl [2, 3, 4, 1, 0] rfl) hq_31 (fun H locs ls hP hS hl => ?_)
                            refine lv_iload_n hx hb dX8_failsFirst_169 rfl (lv_at hl 3 rfl) ?_
                            refine lv_if_eq (tgt := 180) hx hb dX8_failsFirst_170 (by decide) (fun c_32 => ?_) (fun c_32 => ?_)
                            · skip
                              replace hf := it_t c_32 hf
                              refine lv_iinc (v := y2_k_16 + 1) (lv' := [(2, .int (y2_k_16 + 1)), (0, .ref (am 16)), (1, .int y1_k_16), (3, .int t_30)]) hx hb dX8_failsFirst_180 hl (k := 2) rfl rfl (by decide) rfl (fun ls hl => ?_)
                              refine lv_goto (tgt := 96) hx hb dX8_failsFirst_183 (by decide) ?_
                              exact ih _ _ _ _ _ _ t hP hS (lv_sub hl [1, 2, 0] rfl) hf hK'
                            · skip
                              replace hf := it_f c_32 hf
                              refine lv_aload_n hx hb dX8_failsFirst_173 rfl (lv_at hl 0 rfl) ?_
                              refine lv_iload_n hx hb dX8_failsFirst_174 rfl (lv_at hl 2 rfl) ?_
                              obtain ⟨r_33, hc_34, hf⟩ := bd_ok hf
                              refine gcVv 1 (mC_ok D am cm hJ) hC ⟨hx, hb, hml, hown, hts⟩ (mX8_takes l D am cm u_k_16 y2_k_16 r_33 hc_34) (gG kw_653) kw_650 kw_652 kw_16 kw_28 hX8_takes ⟨rfl, rfl⟩ ⟨Nat.le_of_ble_eq_true rfl, Nat.le_of_ble_eq_true rfl⟩ (x_rec (C := RX8) (T := TX8) (N := 20) (ci := 7) hK hP rfl m_o16) hP hS ⟨Nat.zero_le _, Nat.zero_le _⟩ rfl hl.1 rfl (Nat.le_of_ble_eq_true rfl) dX8_failsFirst_175 (fun H locs hP hS => ?_)
                              refine lv_iconst (v := 1) hx hb dX8_failsFirst_178 (by decide) ?_
                              refine lv_istore_n (lv' := [(1, .int ((1 : Int32))), (0, .ref (am 16)), (2, .int y2_k_16), (3, .int t_30)]) hx hb dX8_failsFirst_179 rfl hl (by decide) rfl (fun ls hl => ?_)
                              refine lv_iinc (v := y2_k_16 + 1) (lv' := [(2, .int (y2_k_16 + 1)), (1, .int ((1 : Int32))), (0, .ref (am 16)), (3, .int t_30)]) hx hb dX8_failsFirst_180 hl (k := 2) rfl rfl (by decide) rfl (fun ls hl => ?_)
                              refine lv_goto (tgt := 96) hx hb dX8_failsFirst_183 (by decide) ?_
                              exact ih _ _ _ _ _ _ t hP hS (lv_sub hl [2, 1, 0] rfl) hf hK'
                          clear hf
                          have hf := hq_21
                          refine lv_if_ne (tgt := 117) hx hb dX8_failsFirst_110 (by decide) (fun c_35 => ?_) (fun c_35 => ?_)
                          · skip
                            replace hf := it_f c_35 hf
                            refine lv_iconst (v := 0) hx hb dX8_failsFirst_117 (by decide) ?_
                            have ht := Option.some.inj hf
                            subst ht
                            exact hJ_22 _ _ _ hP hS (lv_sub hl [0, 1, 2] rfl)
                          · skip
                            replace hf := it_t c_35 hf
                            refine lv_iconst (v := 1) hx hb dX8_failsFirst_113 (by decide) ?_
                            refine lv_goto (tgt := 118) hx hb dX8_failsFirst_114 (by decide) ?_
                            have ht := Option.some.inj hf
                            subst ht
                            exact hJ_22 _ _ _ hP hS (lv_sub hl [0, 1, 2] rfl)
                    obtain ⟨t_36, hq_37, hf⟩ := bd_ok hf
                    refine hL_17 FU _ _ _ _ _ _ t_36 hP hS (lv_sub hl [2, 1, 0] rfl) hq_37 (fun H locs ls hP hS hl => ?_)
                    refine lv_goto (tgt := 88) hx hb dX8_failsFirst_186 (by decide) ?_
                    exact ih _ _ _ _ _ t hP hS (lv_sub hl [0, 1] rfl) hf hK'
              obtain ⟨t_38, hq_39, hf⟩ := bd_ok hf
              refine hL_14 FU _ _ _ _ _ t_38 hP hS (lv_sub hl [1, 0] rfl) hq_39 (fun H locs ls hP hS hl => ?_)
              refine lv_iconst (v := 0) hx hb dX8_failsFirst_189 (by decide) ?_
              refine lv_istore_n (lv' := [(2, .int ((0 : Int32))), (0, .ref (am 16))]) hx hb dX8_failsFirst_190 rfl hl (by decide) rfl (fun ls hl => ?_)
              have hL_41 : ∀ (nf : Nat) (y2_k_40 : Int32) (H : Heap) (locs : List Loc) (ls : Array Slot), va_P D vwCl (wM am cm t_38) H → va_S (AM am) s.heap H locs → lv_has ls 5 [(0, .ref (am 16)), (2, .int y2_k_40)] → fX8_failsFirst_191 t_38 nf y2_k_40 = some ru → W p l e rX8_failsFirst s m args below meth c H locs 0 0 (MQ below (va_Qi (fun (r : Int32) (u' : UM) => r = ru.1 ∧ u' = ru.2) (wB D (wM am cm)) (AM am)) args s 0 0 (AM am)) (F0 m 191 ls []) := by
                intro nf
                induction nf with
                | zero => intro y2_k_40 H locs ls hP hS hl hf; rw [fX8_failsFirst_191] at hf; cases hf
                | succ nf ih =>
                  intro y2_k_40 H locs ls hP hS hl hf
                  rw [fX8_failsFirst_191] at hf
                  refine lv_iload_n hx hb dX8_failsFirst_191 rfl (lv_at hl 1 rfl) ?_
                  refine lv_aload_n hx hb dX8_failsFirst_192 rfl (lv_at hl 0 rfl) ?_
                  refine va_get (D := D) (ci := 7) (v := .int t_38.2.2.2.1) (C := RX8) (T := TX8) (N := 20) hx hb hg inG_X8 hown hK hP 16 m_o16 rfl 2 (by decide) (hg _ kw_502) (fun _ h9 => h9) rfl dX8_failsFirst_193 ?_
                  refine lv_icmp_ge (tgt := 219) hx hb dX8_failsFirst_196 (by decide) (fun c_42 => ?_) (fun c_42 => ?_)
                  · skip
                    replace hf := it_t c_42 hf
                    refine lv_iconst (v := 0) hx hb dX8_failsFirst_219 (by decide) ?_
                    exact grI hx hb hr hlocks hP hS dX8_failsFirst_220 (pf1 hf) (pf2 hf)
                  · skip
                    replace hf := it_f c_42 hf
                    refine lv_aload_n hx hb dX8_failsFirst_199 rfl (lv_at hl 0 rfl) ?_
                    refine va_get (D := D) (ci := 7) (v := .ref (am 7)) (C := RX8) (T := TX8) (N := 20) hx hb hg inG_X8 hown hK hP 16 m_o16 rfl 14 (by decide) (hg _ kw_514) (fun _ h9 => h9) rfl dX8_failsFirst_200 ?_
                    refine lv_iload_n hx hb dX8_failsFirst_203 rfl (lv_at hl 1 rfl) ?_
                    obtain ⟨hb_43, hf⟩ := gd_ok hf
                    refine m_zald hx hb hK hP hb_43 dX8_failsFirst_204 ?_
                    refine lv_if_ne (tgt := 213) hx hb dX8_failsFirst_205 (by decide) (fun c_44 => ?_) (fun c_44 => ?_)
                    · skip
                      replace hf := it_f c_44 hf
                      refine lv_iinc (v := y2_k_40 + 1) (lv' := [(2, .int (y2_k_40 + 1)), (0, .ref (am 16))]) hx hb dX8_failsFirst_213 hl (k := 1) rfl rfl (by decide) rfl (fun ls hl => ?_)
                      refine lv_goto (tgt := 191) hx hb dX8_failsFirst_216 (by decide) ?_
                      exact ih _ _ _ _ hP hS (lv_sub hl [1, 0] rfl) hf
                    · skip
                      replace hf := it_t c_44 hf
                      refine lv_bipush (v := 30) hx hb dX8_failsFirst_208 (by decide) ?_
                      refine lv_iload_n hx hb dX8_failsFirst_210 rfl (lv_at hl 1 rfl) ?_
                      refine lv_iadd hx hb dX8_failsFirst_211 ?_
                      exact grI hx hb hr hlocks hP hS dX8_failsFirst_212 (pf1 hf) (pf2 hf)
              exact hL_41 FU _ _ _ _ hP hS (lv_sub hl [1, 0] rfl) hf
            · skip
              replace hf := it_f c_6 hf
              refine lv_aload_n hx hb dX8_failsFirst_39 rfl (lv_at hl 0 rfl) ?_
              refine lv_iload_n hx hb dX8_failsFirst_40 rfl (lv_at hl 1 rfl) ?_
              obtain ⟨r_45, hc_46, hf⟩ := bd_ok hf
              refine gcVi 1 (mC_ok D am cm hJ) hC ⟨hx, hb, hml, hown, hts⟩ (mX8_goes l D am cm u y1_k_4 r_45 hc_46) (gG kw_641) kw_638 kw_640 kw_14 kw_28 hX8_goes ⟨rfl, rfl⟩ ⟨Nat.le_of_ble_eq_true rfl, Nat.le_of_ble_eq_true rfl⟩ (x_rec (C := RX8) (T := TX8) (N := 20) (ci := 7) hK hP rfl m_o16) hP hS ⟨Nat.zero_le _, Nat.zero_le _⟩ rfl hl.1 rfl (Nat.le_of_ble_eq_true rfl) dX8_failsFirst_41 (fun H locs hP hS => ?_)
              refine lv_aload_n hx hb dX8_failsFirst_44 rfl (lv_at hl 0 rfl) ?_
              refine lv_iload_n hx hb dX8_failsFirst_45 rfl (lv_at hl 1 rfl) ?_
              obtain ⟨r_47, hc_48, hf⟩ := bd_ok hf
              refine gcVi 1 (mC_ok D am cm hJ) hC ⟨hx, hb, hml, hown, hts⟩ (mX8_comes l D am cm u y1_k_4 r_47 hc_48) (gG kw_637) kw_634 kw_636 kw_13 kw_28 hX8_comes ⟨rfl, rfl⟩ ⟨Nat.le_of_ble_eq_true rfl, Nat.le_of_ble_eq_true rfl⟩ (x_rec (C := RX8) (T := TX8) (N := 20) (ci := 7) hK hP rfl m_o16) hP hS ⟨Nat.zero_le _, Nat.zero_le _⟩ rfl hl.1 rfl (Nat.le_of_ble_eq_true rfl) dX8_failsFirst_46 (fun H locs hP hS => ?_)
              refine lv_icmp_le (tgt := 57) hx hb dX8_failsFirst_49 (by decide) (fun c_49 => ?_) (fun c_49 => ?_)
              · skip
                replace hf := it_t c_49 hf
                refine lv_iinc (v := y1_k_4 + 1) (lv' := [(1, .int (y1_k_4 + 1)), (0, .ref (am 16))]) hx hb dX8_failsFirst_57 hl (k := 1) rfl rfl (by decide) rfl (fun ls hl => ?_)
                refine lv_goto (tgt := 31) hx hb dX8_failsFirst_60 (by decide) ?_
                exact ih _ _ _ _ hP hS (lv_sub hl [1, 0] rfl) hf
              · skip
                replace hf := it_f c_49 hf
                refine lv_bipush (v := 20) hx hb dX8_failsFirst_52 (by decide) ?_
                refine lv_iload_n hx hb dX8_failsFirst_54 rfl (lv_at hl 1 rfl) ?_
                refine lv_iadd hx hb dX8_failsFirst_55 ?_
                exact grI hx hb hr hlocks hP hS dX8_failsFirst_56 (pf1 hf) (pf2 hf)
        exact hL_5 FU _ _ _ _ hP hS (lv_sub hl [1, 0] rfl) hf
      · skip
        replace hf := it_f c_3 hf
        refine lv_aload_n hx hb dX8_failsFirst_10 rfl (lv_at hl 0 rfl) ?_
        refine lv_iload_n hx hb dX8_failsFirst_11 rfl (lv_at hl 1 rfl) ?_
        obtain ⟨r_50, hc_51, hf⟩ := bd_ok hf
        refine gcVi 1 (mC_ok D am cm hJ) hC ⟨hx, hb, hml, hown, hts⟩ (mX8_comes l D am cm u y1_k_1 r_50 hc_51) (gG kw_637) kw_634 kw_636 kw_13 kw_28 hX8_comes ⟨rfl, rfl⟩ ⟨Nat.le_of_ble_eq_true rfl, Nat.le_of_ble_eq_true rfl⟩ (x_rec (C := RX8) (T := TX8) (N := 20) (ci := 7) hK hP rfl m_o16) hP hS ⟨Nat.zero_le _, Nat.zero_le _⟩ rfl hl.1 rfl (Nat.le_of_ble_eq_true rfl) dX8_failsFirst_12 (fun H locs hP hS => ?_)
        refine lv_if_ne (tgt := 23) hx hb dX8_failsFirst_15 (by decide) (fun c_52 => ?_) (fun c_52 => ?_)
        · skip
          replace hf := it_f c_52 hf
          refine lv_iinc (v := y1_k_1 + 1) (lv' := [(1, .int (y1_k_1 + 1)), (0, .ref (am 16))]) hx hb dX8_failsFirst_23 hl (k := 1) rfl rfl (by decide) rfl (fun ls hl => ?_)
          refine lv_goto (tgt := 2) hx hb dX8_failsFirst_26 (by decide) ?_
          exact ih _ _ _ _ hP hS (lv_sub hl [1, 0] rfl) hf
        · skip
          replace hf := it_t c_52 hf
          refine lv_bipush (v := 10) hx hb dX8_failsFirst_18 (by decide) ?_
          refine lv_iload_n hx hb dX8_failsFirst_20 rfl (lv_at hl 1 rfl) ?_
          refine lv_iadd hx hb dX8_failsFirst_21 ?_
          exact grI hx hb hr hlocks hP hS dX8_failsFirst_22 (pf1 hf) (pf2 hf)
  exact hL_2 FU _ _ _ _ hP hS (lv_sub hl [1, 0] rfl) hf
abbrev rX8_fails : Room := { frames := 3, cells := 0, slots := 0, locals := 81 }
theorem hX8_fails : yX8_fails.cls ≠ "java/lang/invoke/MethodHandle" ∧ yX8_fails.cls ≠ "java/lang/invoke/VarHandle" ∧ (parseMethodDescriptor yX8_fails.desc).map (fun d => d.parameters.length) = some 0 := by decide +kernel
set_option maxHeartbeats 4000000 in
set_option maxRecDepth 100000 in
theorem mX8_fails (l : Launch) (D : va_G) (am : Nat → Nat) (cm : Nat → ClassId) (u : UM)   (ru : Int32 × UM) (hok : fX8_fails u = some ru) : Met l yX8_fails (Cond.code yX8_fails cX8_fails 3 (some .int) :: wsG) rX8_fails (va_Pc [.ref (am 16)] (wI D (wM am cm) (mC D am cm) u)) (va_Qi (fun (r : Int32) (u' : UM) => r = ru.1 ∧ u' = ru.2) (wB D (wM am cm)) (AM am)) 0 0 (AM am) := by
  refine Met.ofW (cc := cX8_fails) (maxL := 3) (ret := (some .int)) (by decide) rfl ?_
  intro p e s m args below meth c s₁ B hml hv
  have hx := B.exec
  have hb := B.bytes
  have hr := B.returns
  have hts := atoms_spec (ws := (Cond.code yX8_fails cX8_fails 3 (some .int) :: wsG)) B.pre
  have hg : ∀ w ∈ wsG, w.before args s = true := fun w h => hts w (List.mem_cons_of_mem _ h)
  have hown : s.vm.findClass RX8 = some m.cls := findClass_of_methodNamed B.named
  have hlocks := B.notSynchronized
  obtain ⟨ha, hP, hC⟩ := hv
  obtain ⟨hK, hJ⟩ := id hC
  have hS : va_S (AM am) s.heap s.heap [] := va_S.rf
  refine W.eq (show entryFrame m args 3 = entryFrame m ([.ref (am 16)] : List Value).toArray 3 by rw [ha]) ?_
  have hl := lv_entry ([.ref (am 16)]) (n := 3) (Nat.le_of_ble_eq_true rfl)
  rw [lg_entry_eq]
  generalize (lg_sl ([.ref (am 16)]) ++ List.replicate (3 - (lg_sl ([.ref (am 16)])).length) Slot.unset).toArray = ls at hl ⊢
  have hl : lv_has ls 3 [(0, .ref (am 16))] := hl
  show W p l e rX8_fails s m args below meth c s.heap [] 0 0 (MQ below (va_Qi (fun (r : Int32) (u' : UM) => r = ru.1 ∧ u' = ru.2) (wB D (wM am cm)) (AM am)) args s 0 0 (AM am)) (F0 m 0 ls [])
  have hf := hok
  unfold fX8_fails at hf
  refine lv_aload_n hx hb dX8_fails_0 rfl (lv_at hl 0 rfl) ?_
  refine lv_iconst (v := 0) hx hb dX8_fails_1 (by decide) ?_
  refine m_putZ hx hb hg hown hK hP hJ hS (hg _ kw_500) dX8_fails_2 (fun H locs hP hS => ?_)
  refine lv_aload_n hx hb dX8_fails_5 rfl (lv_at hl 0 rfl) ?_
  obtain ⟨r_1, hc_2, hf⟩ := bd_ok hf
  refine gcVi 0 (mC_ok D am cm hJ) hC ⟨hx, hb, hml, hown, hts⟩ (mX8_failsFirst l D am cm u r_1 hc_2) (gG kw_649) kw_646 kw_648 kw_15 kw_28 hX8_failsFirst ⟨rfl, rfl⟩ ⟨Nat.le_of_ble_eq_true rfl, Nat.le_of_ble_eq_true rfl⟩ (x_rec (C := RX8) (T := TX8) (N := 20) (ci := 7) hK hP rfl m_o16) hP hS ⟨Nat.zero_le _, Nat.zero_le _⟩ rfl hl.1 rfl (Nat.le_of_ble_eq_true rfl) dX8_fails_6 (fun H locs hP hS => ?_)
  refine lv_istore_n (lv' := [(1, .int r_1.1), (0, .ref (am 16))]) hx hb dX8_fails_9 rfl hl (by decide) rfl (fun ls hl => ?_)
  refine lv_iload_n hx hb dX8_fails_10 rfl (lv_at hl 0 rfl) ?_
  refine lv_if_le (tgt := 16) hx hb dX8_fails_11 (by decide) (fun c_3 => ?_) (fun c_3 => ?_)
  · skip
    replace hf := it_t c_3 hf
    refine lv_iconst (v := 0) hx hb dX8_fails_16 (by decide) ?_
    refine lv_istore_n (lv' := [(2, .int ((0 : Int32))), (1, .int r_1.1), (0, .ref (am 16))]) hx hb dX8_fails_17 rfl hl (by decide) rfl (fun ls hl => ?_)
    have hL_5 : ∀ (nf : Nat) (y2_k_4 : Int32) (H : Heap) (locs : List Loc) (ls : Array Slot), va_P D vwCl (wM am cm r_1.2) H → va_S (AM am) s.heap H locs → lv_has ls 3 [(0, .ref (am 16)), (2, .int y2_k_4)] → fX8_fails_18 r_1 nf y2_k_4 = some ru → W p l e rX8_fails s m args below meth c H locs 0 0 (MQ below (va_Qi (fun (r : Int32) (u' : UM) => r = ru.1 ∧ u' = ru.2) (wB D (wM am cm)) (AM am)) args s 0 0 (AM am)) (F0 m 18 ls []) := by
      intro nf
      induction nf with
      | zero => intro y2_k_4 H locs ls hP hS hl hf; rw [fX8_fails_18] at hf; cases hf
      | succ nf ih =>
        intro y2_k_4 H locs ls hP hS hl hf
        rw [fX8_fails_18] at hf
        refine lv_iload_n hx hb dX8_fails_18 rfl (lv_at hl 1 rfl) ?_
        refine lv_aload_n hx hb dX8_fails_19 rfl (lv_at hl 0 rfl) ?_
        refine va_get (D := D) (ci := 7) (v := .int r_1.2.2.2.2.1) (C := RX8) (T := TX8) (N := 20) hx hb hg inG_X8 hown hK hP 16 m_o16 rfl 2 (by decide) (hg _ kw_502) (fun _ h9 => h9) rfl dX8_fails_20 ?_
        refine lv_icmp_ge (tgt := 61) hx hb dX8_fails_23 (by decide) (fun c_6 => ?_) (fun c_6 => ?_)
        · skip
          replace hf := it_t c_6 hf
          refine lv_iconst (v := 0) hx hb dX8_fails_61 (by decide) ?_
          refine lv_istore_n (lv' := [(2, .int ((0 : Int32))), (0, .ref (am 16))]) hx hb dX8_fails_62 rfl hl (by decide) rfl (fun ls hl => ?_)
          have hL_8 : ∀ (nf : Nat) (y2_k_7 : Int32) (H : Heap) (locs : List Loc) (ls : Array Slot), va_P D vwCl (wM am cm r_1.2) H → va_S (AM am) s.heap H locs → lv_has ls 3 [(0, .ref (am 16)), (2, .int y2_k_7)] → fX8_fails_63 r_1 nf y2_k_7 = some ru → W p l e rX8_fails s m args below meth c H locs 0 0 (MQ below (va_Qi (fun (r : Int32) (u' : UM) => r = ru.1 ∧ u' = ru.2) (wB D (wM am cm)) (AM am)) args s 0 0 (AM am)) (F0 m 63 ls []) := by
            intro nf
            induction nf with
            | zero => intro y2_k_7 H locs ls hP hS hl hf; rw [fX8_fails_63] at hf; cases hf
            | succ nf ih =>
              intro y2_k_7 H locs ls hP hS hl hf
              rw [fX8_fails_63] at hf
              refine lv_iload_n hx hb dX8_fails_63 rfl (lv_at hl 1 rfl) ?_
              refine lv_aload_n hx hb dX8_fails_64 rfl (lv_at hl 0 rfl) ?_
              refine va_get (D := D) (ci := 7) (v := .int r_1.2.2.2.2.1) (C := RX8) (T := TX8) (N := 20) hx hb hg inG_X8 hown hK hP 16 m_o16 rfl 2 (by decide) (hg _ kw_502) (fun _ h9 => h9) rfl dX8_fails_65 ?_
              refine lv_icmp_ge (tgt := 111) hx hb dX8_fails_68 (by decide) (fun c_9 => ?_) (fun c_9 => ?_)
              · skip
                replace hf := it_t c_9 hf
                refine lv_iconst (v := 0) hx hb dX8_fails_111 (by decide) ?_
                exact grI hx hb hr hlocks hP hS dX8_fails_112 (pf1 hf) (pf2 hf)
              · skip
                replace hf := it_f c_9 hf
                refine lv_aload_n hx hb dX8_fails_71 rfl (lv_at hl 0 rfl) ?_
                refine va_get (D := D) (ci := 7) (v := .ref (am 12)) (C := RX8) (T := TX8) (N := 20) hx hb hg inG_X8 hown hK hP 16 m_o16 rfl 10 (by decide) (hg _ kw_510) (fun _ h9 => h9) rfl dX8_fails_72 ?_
                refine lv_iload_n hx hb dX8_fails_75 rfl (lv_at hl 1 rfl) ?_
                obtain ⟨hb_10, hf⟩ := gd_ok hf
                refine m_lald hx hb hK hP (by decide) (by decide) hb_10 dX8_fails_76 ?_
                refine lv_aload_n hx hb dX8_fails_77 rfl (lv_at hl 0 rfl) ?_
                refine lv_aload_n hx hb dX8_fails_78 rfl (lv_at hl 0 rfl) ?_
                refine va_get (D := D) (ci := 7) (v := .ref (am 4)) (C := RX8) (T := TX8) (N := 20) hx hb hg inG_X8 hown hK hP 16 m_o16 rfl 7 (by decide) (hg _ kw_507) (fun _ h9 => h9) rfl dX8_fails_79 ?_
                refine lv_iconst (v := 2) hx hb dX8_fails_82 (by decide) ?_
                obtain ⟨hb_11, hf⟩ := gd_ok hf
                refine m_iald hx hb hK hP (by decide) (by decide) rfl hb_11 dX8_fails_83 ?_
                refine lv_iload_n hx hb dX8_fails_84 rfl (lv_at hl 1 rfl) ?_
                obtain ⟨r_12, hc_13, hf⟩ := bd_ok hf
                refine gcVi 2 (mC_ok D am cm hJ) hC ⟨hx, hb, hml, hown, hts⟩ (mX8_limitOf l D am cm r_1.2 (r_1.2.1 4 ((2 : Int32)).toNatClampNeg) y2_k_7 r_12 hc_13) (gG kw_597) kw_594 kw_596 kw_9 kw_28 hX8_limitOf ⟨rfl, rfl⟩ ⟨Nat.le_of_ble_eq_true rfl, Nat.le_of_ble_eq_true rfl⟩ (x_rec (C := RX8) (T := TX8) (N := 20) (ci := 7) hK hP rfl m_o16) hP hS ⟨Nat.zero_le _, Nat.zero_le _⟩ rfl hl.1 rfl (Nat.le_of_ble_eq_true rfl) dX8_fails_85 (fun H locs hP hS => ?_)
                refine lv_i2l hx hb dX8_fails_88 rfl ?_
                refine lv_aload_n hx hb dX8_fails_89 rfl (lv_at hl 0 rfl) ?_
                refine va_get (D := D) (ci := 7) (v := .ref (am 13)) (C := RX8) (T := TX8) (N := 20) hx hb hg inG_X8 hown hK hP 16 m_o16 rfl 11 (by decide) (hg _ kw_511) (fun _ h9 => h9) rfl dX8_fails_90 ?_
                refine lv_iload_n hx hb dX8_fails_93 rfl (lv_at hl 1 rfl) ?_
                refine m_lald hx hb hK hP (by decide) (by decide) hb_10 dX8_fails_94 ?_
                refine lv_lmul hx hb dX8_fails_95 ?_
                refine W.lcmp hx hb dX8_fails_96 ?_
                refine lv_if_le (tgt := 105) hx hb dX8_fails_97 (by decide) (fun c_14 => ?_) (fun c_14 => ?_)
                · replace c_14 := lc_le.mp c_14
                  replace hf := it_t c_14 hf
                  refine lv_iinc (v := y2_k_7 + 1) (lv' := [(2, .int (y2_k_7 + 1)), (0, .ref (am 16))]) hx hb dX8_fails_105 hl (k := 1) rfl rfl (by decide) rfl (fun ls hl => ?_)
                  refine lv_goto (tgt := 63) hx hb dX8_fails_108 (by decide) ?_
                  exact ih _ _ _ _ hP hS (lv_sub hl [1, 0] rfl) hf
                · replace c_14 := fun q => c_14 (lc_le.mpr q)
                  replace hf := it_f c_14 hf
                  refine lv_bipush (v := 50) hx hb dX8_fails_100 (by decide) ?_
                  refine lv_iload_n hx hb dX8_fails_102 rfl (lv_at hl 1 rfl) ?_
                  refine lv_iadd hx hb dX8_fails_103 ?_
                  exact grI hx hb hr hlocks hP hS dX8_fails_104 (pf1 hf) (pf2 hf)
          exact hL_8 FU _ _ _ _ hP hS (lv_sub hl [1, 0] rfl) hf
        · skip
          replace hf := it_f c_6 hf
          refine lv_aload_n hx hb dX8_fails_26 rfl (lv_at hl 0 rfl) ?_
          refine va_get (D := D) (ci := 7) (v := .ref (am 14)) (C := RX8) (T := TX8) (N := 20) hx hb hg inG_X8 hown hK hP 16 m_o16 rfl 12 (by decide) (hg _ kw_512) (fun _ h9 => h9) rfl dX8_fails_27 ?_
          refine lv_iload_n hx hb dX8_fails_30 rfl (lv_at hl 1 rfl) ?_
          obtain ⟨hb_15, hf⟩ := gd_ok hf
          refine m_lald hx hb hK hP (by decide) (by decide) hb_15 dX8_fails_31 ?_
          refine lv_aload_n hx hb dX8_fails_32 rfl (lv_at hl 0 rfl) ?_
          refine va_get (D := D) (ci := 7) (v := .ref (am 1)) (C := RX8) (T := TX8) (N := 20) hx hb hg inG_X8 hown hK hP 16 m_o16 rfl 4 (by decide) (hg _ kw_504) (fun _ h9 => h9) rfl dX8_fails_33 ?_
          refine lv_iload_n hx hb dX8_fails_36 rfl (lv_at hl 1 rfl) ?_
          refine m_iald hx hb hK hP (by decide) (by decide) rfl hb_15 dX8_fails_37 ?_
          refine lv_i2l hx hb dX8_fails_38 rfl ?_
          refine lv_aload_n hx hb dX8_fails_39 rfl (lv_at hl 0 rfl) ?_
          refine va_get (D := D) (ci := 7) (v := .ref (am 15)) (C := RX8) (T := TX8) (N := 20) hx hb hg inG_X8 hown hK hP 16 m_o16 rfl 13 (by decide) (hg _ kw_513) (fun _ h9 => h9) rfl dX8_fails_40 ?_
          refine lv_iload_n hx hb dX8_fails_43 rfl (lv_at hl 1 rfl) ?_
          refine m_lald hx hb hK hP (by decide) (by decide) hb_15 dX8_fails_44 ?_
          refine lv_lmul hx hb dX8_fails_45 ?_
          refine W.lcmp hx hb dX8_fails_46 ?_
          refine lv_if_le (tgt := 55) hx hb dX8_fails_47 (by decide) (fun c_16 => ?_) (fun c_16 => ?_)
          · replace c_16 := lc_le.mp c_16
            replace hf := it_t c_16 hf
            refine lv_iinc (v := y2_k_4 + 1) (lv' := [(2, .int (y2_k_4 + 1)), (0, .ref (am 16))]) hx hb dX8_fails_55 hl (k := 1) rfl rfl (by decide) rfl (fun ls hl => ?_)
            refine lv_goto (tgt := 18) hx hb dX8_fails_58 (by decide) ?_
            exact ih _ _ _ _ hP hS (lv_sub hl [1, 0] rfl) hf
          · replace c_16 := fun q => c_16 (lc_le.mpr q)
            replace hf := it_f c_16 hf
            refine lv_bipush (v := 40) hx hb dX8_fails_50 (by decide) ?_
            refine lv_iload_n hx hb dX8_fails_52 rfl (lv_at hl 1 rfl) ?_
            refine lv_iadd hx hb dX8_fails_53 ?_
            exact grI hx hb hr hlocks hP hS dX8_fails_54 (pf1 hf) (pf2 hf)
    exact hL_5 FU _ _ _ _ hP hS (lv_sub hl [2, 0] rfl) hf
  · skip
    replace hf := it_f c_3 hf
    refine lv_iload_n hx hb dX8_fails_14 rfl (lv_at hl 0 rfl) ?_
    exact grI hx hb hr hlocks hP hS dX8_fails_15 (pf1 hf) (pf2 hf)
abbrev rX8_at : Room := { frames := 3, cells := 0, slots := 0, locals := 81 }
theorem hX8_at : yX8_at.cls ≠ "java/lang/invoke/MethodHandle" ∧ yX8_at.cls ≠ "java/lang/invoke/VarHandle" ∧ (parseMethodDescriptor yX8_at.desc).map (fun d => d.parameters.length) = some 2 := by decide +kernel
set_option maxHeartbeats 4000000 in
set_option maxRecDepth 100000 in
theorem mX8_at (l : Launch) (D : va_G) (am : Nat → Nat) (cm : Nat → ClassId) (u : UM) (a1 : Int32) (a2 : Int32)  (ru : Int64 × UM) (hok : fX8_at u a1 a2 = some ru) : Met l yX8_at (Cond.code yX8_at cX8_at 3 (some .long) :: wsG) rX8_at (va_Pc [.ref (am 16), .int a1, .int a2] (wI D (wM am cm) (mC D am cm) u)) (va_Ql (fun (r : Int64) (u' : UM) => r = ru.1 ∧ u' = ru.2) (wB D (wM am cm)) (AM am)) 0 0 (AM am) := by
  refine Met.ofW (cc := cX8_at) (maxL := 3) (ret := (some .long)) (by decide) rfl ?_
  intro p e s m args below meth c s₁ B hml hv
  have hx := B.exec
  have hb := B.bytes
  have hr := B.returns
  have hts := atoms_spec (ws := (Cond.code yX8_at cX8_at 3 (some .long) :: wsG)) B.pre
  have hg : ∀ w ∈ wsG, w.before args s = true := fun w h => hts w (List.mem_cons_of_mem _ h)
  have hown : s.vm.findClass RX8 = some m.cls := findClass_of_methodNamed B.named
  have hlocks := B.notSynchronized
  obtain ⟨ha, hP, hC⟩ := hv
  obtain ⟨hK, hJ⟩ := id hC
  have hS : va_S (AM am) s.heap s.heap [] := va_S.rf
  refine W.eq (show entryFrame m args 3 = entryFrame m ([.ref (am 16), .int a1, .int a2] : List Value).toArray 3 by rw [ha]) ?_
  have hl := lv_entry ([.ref (am 16), .int a1, .int a2]) (n := 3) (Nat.le_of_ble_eq_true rfl)
  rw [lg_entry_eq]
  generalize (lg_sl ([.ref (am 16), .int a1, .int a2]) ++ List.replicate (3 - (lg_sl ([.ref (am 16), .int a1, .int a2])).length) Slot.unset).toArray = ls at hl ⊢
  have hl : lv_has ls 3 [(0, .ref (am 16)), (1, .int a1), (2, .int a2)] := hl
  show W p l e rX8_at s m args below meth c s.heap [] 0 0 (MQ below (va_Ql (fun (r : Int64) (u' : UM) => r = ru.1 ∧ u' = ru.2) (wB D (wM am cm)) (AM am)) args s 0 0 (AM am)) (F0 m 0 ls [])
  have hf := hok
  unfold fX8_at at hf
  refine lv_aload_n hx hb dX8_at_0 rfl (lv_at hl 0 rfl) ?_
  refine lv_iconst (v := 0) hx hb dX8_at_1 (by decide) ?_
  refine m_putZ hx hb hg hown hK hP hJ hS (hg _ kw_500) dX8_at_2 (fun H locs hP hS => ?_)
  refine lv_aload_n hx hb dX8_at_5 rfl (lv_at hl 0 rfl) ?_
  refine lv_iload_n hx hb dX8_at_6 rfl (lv_at hl 1 rfl) ?_
  obtain ⟨r_1, hc_2, hf⟩ := bd_ok hf
  refine gcVi 1 (mC_ok D am cm hJ) hC ⟨hx, hb, hml, hown, hts⟩ (mX8_isStep l D am cm u a1 r_1 hc_2) (gG kw_579) kw_576 kw_578 kw_8 kw_28 hX8_isStep ⟨rfl, rfl⟩ ⟨Nat.le_of_ble_eq_true rfl, Nat.le_of_ble_eq_true rfl⟩ (x_rec (C := RX8) (T := TX8) (N := 20) (ci := 7) hK hP rfl m_o16) hP hS ⟨Nat.zero_le _, Nat.zero_le _⟩ rfl hl.1 rfl (Nat.le_of_ble_eq_true rfl) dX8_at_7 (fun H locs hP hS => ?_)
  refine lv_if_eq (tgt := 23) hx hb dX8_at_10 (by decide) (fun c_3 => ?_) (fun c_3 => ?_)
  · skip
    replace hf := it_t c_3 hf
    refine lv_ldc2 (v := -1) hx hb hown (hg _ kw_602) dX8_at_23 ?_
    exact grL hx hb hr hlocks hP hS dX8_at_26 (pf1 hf) (pf2 hf)
  · skip
    replace hf := it_f c_3 hf
    refine lv_iload_n hx hb dX8_at_13 rfl (lv_at hl 2 rfl) ?_
    refine lv_i2l hx hb dX8_at_14 rfl ?_
    refine lv_lconst (v := 0) hx hb dX8_at_15 (by decide) ?_
    refine lv_lconst (v := 1) hx hb dX8_at_16 (by decide) ?_
    obtain ⟨r_4, hc_5, hf⟩ := bd_ok hf
    refine gcFi 3 ⟨hx, hb, hml, hown, hts⟩ (mX8_in l a2.toInt64 ((0 : Int64)) ((1 : Int64)) r_4 hc_5) (gG kw_569) kw_567 kw_568 kw_28 hX8_in ⟨rfl, rfl⟩ ⟨Nat.le_of_ble_eq_true rfl, Nat.le_of_ble_eq_true rfl⟩ ⟨Nat.zero_le _, Nat.zero_le _⟩ rfl hl.1 rfl (Nat.le_of_ble_eq_true rfl) dX8_at_17 ?_
    refine lv_if_ne (tgt := 27) hx hb dX8_at_20 (by decide) (fun c_6 => ?_) (fun c_6 => ?_)
    · skip
      replace hf := it_f c_6 hf
      refine lv_aload_n hx hb dX8_at_27 rfl (lv_at hl 0 rfl) ?_
      obtain ⟨r_7, hc_8, hf⟩ := bd_ok hf
      refine gcVi 0 (mC_ok D am cm hJ) hC ⟨hx, hb, hml, hown, hts⟩ (mX8_failsFirst l D am cm u r_7 hc_8) (gG kw_649) kw_646 kw_648 kw_15 kw_28 hX8_failsFirst ⟨rfl, rfl⟩ ⟨Nat.le_of_ble_eq_true rfl, Nat.le_of_ble_eq_true rfl⟩ (x_rec (C := RX8) (T := TX8) (N := 20) (ci := 7) hK hP rfl m_o16) hP hS ⟨Nat.zero_le _, Nat.zero_le _⟩ rfl hl.1 rfl (Nat.le_of_ble_eq_true rfl) dX8_at_28 (fun H locs hP hS => ?_)
      refine lv_if_le (tgt := 38) hx hb dX8_at_31 (by decide) (fun c_9 => ?_) (fun c_9 => ?_)
      · skip
        replace hf := it_t c_9 hf
        refine lv_iload_n hx hb dX8_at_38 rfl (lv_at hl 2 rfl) ?_
        refine lv_if_ne (tgt := 51) hx hb dX8_at_39 (by decide) (fun c_10 => ?_) (fun c_10 => ?_)
        · skip
          replace hf := it_f c_10 hf
          refine lv_aload_n hx hb dX8_at_51 rfl (lv_at hl 0 rfl) ?_
          refine va_get (D := D) (ci := 7) (v := .ref (am 13)) (C := RX8) (T := TX8) (N := 20) hx hb hg inG_X8 hown hK hP 16 m_o16 rfl 11 (by decide) (hg _ kw_511) (fun _ h9 => h9) rfl dX8_at_52 ?_
          refine lv_iload_n hx hb dX8_at_55 rfl (lv_at hl 1 rfl) ?_
          obtain ⟨hb_11, hf⟩ := gd_ok hf
          refine m_lald hx hb hK hP (by decide) (by decide) hb_11 dX8_at_56 ?_
          exact grL hx hb hr hlocks hP hS dX8_at_57 (pf1 hf) (pf2 hf)
        · skip
          replace hf := it_t c_10 hf
          refine lv_aload_n hx hb dX8_at_42 rfl (lv_at hl 0 rfl) ?_
          refine va_get (D := D) (ci := 7) (v := .ref (am 12)) (C := RX8) (T := TX8) (N := 20) hx hb hg inG_X8 hown hK hP 16 m_o16 rfl 10 (by decide) (hg _ kw_510) (fun _ h9 => h9) rfl dX8_at_43 ?_
          refine lv_iload_n hx hb dX8_at_46 rfl (lv_at hl 1 rfl) ?_
          obtain ⟨hb_12, hf⟩ := gd_ok hf
          refine m_lald hx hb hK hP (by decide) (by decide) hb_12 dX8_at_47 ?_
          refine lv_goto (tgt := 57) hx hb dX8_at_48 (by decide) ?_
          exact grL hx hb hr hlocks hP hS dX8_at_57 (pf1 hf) (pf2 hf)
      · skip
        replace hf := it_f c_9 hf
        refine lv_ldc2 (v := -2) hx hb hown (hg _ kw_658) dX8_at_34 ?_
        exact grL hx hb hr hlocks hP hS dX8_at_37 (pf1 hf) (pf2 hf)
    · skip
      replace hf := it_t c_6 hf
      refine lv_ldc2 (v := -1) hx hb hown (hg _ kw_602) dX8_at_23 ?_
      exact grL hx hb hr hlocks hP hS dX8_at_26 (pf1 hf) (pf2 hf)
abbrev rX8_hit : Room := { frames := 2, cells := 0, slots := 0, locals := 46 }
theorem hX8_hit : yX8_hit.cls ≠ "java/lang/invoke/MethodHandle" ∧ yX8_hit.cls ≠ "java/lang/invoke/VarHandle" ∧ (parseMethodDescriptor yX8_hit.desc).map (fun d => d.parameters.length) = some 3 := by decide +kernel
set_option maxHeartbeats 4000000 in
set_option maxRecDepth 100000 in
theorem mX8_hit (l : Launch) (D : va_G) (am : Nat → Nat) (cm : Nat → ClassId) (u : UM) (a1 : Int32) (a2 : Int32) (a3 : Int32)  (ru : Int32 × UM) (hok : fX8_hit u a1 a2 a3 = some ru) : Met l yX8_hit (Cond.code yX8_hit cX8_hit 7 (some .int) :: wsG) rX8_hit (va_Pc [.ref (am 16), .int a1, .int a2, .int a3] (wI D (wM am cm) (mC D am cm) u)) (va_Qi (fun (r : Int32) (u' : UM) => r = ru.1 ∧ u' = ru.2) (wB D (wM am cm)) (AM am)) 0 0 (AM am) := by
  refine Met.ofW (cc := cX8_hit) (maxL := 7) (ret := (some .int)) (by decide) rfl ?_
  intro p e s m args below meth c s₁ B hml hv
  have hx := B.exec
  have hb := B.bytes
  have hr := B.returns
  have hts := atoms_spec (ws := (Cond.code yX8_hit cX8_hit 7 (some .int) :: wsG)) B.pre
  have hg : ∀ w ∈ wsG, w.before args s = true := fun w h => hts w (List.mem_cons_of_mem _ h)
  have hown : s.vm.findClass RX8 = some m.cls := findClass_of_methodNamed B.named
  have hlocks := B.notSynchronized
  obtain ⟨ha, hP, hC⟩ := hv
  obtain ⟨hK, hJ⟩ := id hC
  have hS : va_S (AM am) s.heap s.heap [] := va_S.rf
  refine W.eq (show entryFrame m args 7 = entryFrame m ([.ref (am 16), .int a1, .int a2, .int a3] : List Value).toArray 7 by rw [ha]) ?_
  have hl := lv_entry ([.ref (am 16), .int a1, .int a2, .int a3]) (n := 7) (Nat.le_of_ble_eq_true rfl)
  rw [lg_entry_eq]
  generalize (lg_sl ([.ref (am 16), .int a1, .int a2, .int a3]) ++ List.replicate (7 - (lg_sl ([.ref (am 16), .int a1, .int a2, .int a3])).length) Slot.unset).toArray = ls at hl ⊢
  have hl : lv_has ls 7 [(0, .ref (am 16)), (1, .int a1), (2, .int a2), (3, .int a3)] := hl
  show W p l e rX8_hit s m args below meth c s.heap [] 0 0 (MQ below (va_Qi (fun (r : Int32) (u' : UM) => r = ru.1 ∧ u' = ru.2) (wB D (wM am cm)) (AM am)) args s 0 0 (AM am)) (F0 m 0 ls [])
  have hf := hok
  unfold fX8_hit at hf
  refine lv_aload_n hx hb dX8_hit_0 rfl (lv_at hl 0 rfl) ?_
  refine lv_iconst (v := 0) hx hb dX8_hit_1 (by decide) ?_
  refine m_putZ hx hb hg hown hK hP hJ hS (hg _ kw_500) dX8_hit_2 (fun H locs hP hS => ?_)
  refine lv_aload_n hx hb dX8_hit_5 rfl (lv_at hl 0 rfl) ?_
  refine lv_iload_n hx hb dX8_hit_6 rfl (lv_at hl 1 rfl) ?_
  obtain ⟨r_1, hc_2, hf⟩ := bd_ok hf
  refine gcVi 1 (mC_ok D am cm hJ) hC ⟨hx, hb, hml, hown, hts⟩ (mX8_isStep l D am cm u a1 r_1 hc_2) (gG kw_579) kw_576 kw_578 kw_8 kw_28 hX8_isStep ⟨rfl, rfl⟩ ⟨Nat.le_of_ble_eq_true rfl, Nat.le_of_ble_eq_true rfl⟩ (x_rec (C := RX8) (T := TX8) (N := 20) (ci := 7) hK hP rfl m_o16) hP hS ⟨Nat.zero_le _, Nat.zero_le _⟩ rfl hl.1 rfl (Nat.le_of_ble_eq_true rfl) dX8_hit_7 (fun H locs hP hS => ?_)
  refine lv_if_eq (tgt := 33) hx hb dX8_hit_10 (by decide) (fun c_3 => ?_) (fun c_3 => ?_)
  · skip
    replace hf := it_t c_3 hf
    refine lv_iconst (v := -1) hx hb dX8_hit_33 (by decide) ?_
    exact grI hx hb hr hlocks hP hS dX8_hit_34 (pf1 hf) (pf2 hf)
  · skip
    replace hf := it_f c_3 hf
    refine lv_iload_n hx hb dX8_hit_13 rfl (lv_at hl 2 rfl) ?_
    refine lv_i2l hx hb dX8_hit_14 rfl ?_
    refine lv_lconst (v := 0) hx hb dX8_hit_15 (by decide) ?_
    refine lv_ldc2 (v := 1000) hx hb hown (hg _ kw_566) dX8_hit_16 ?_
    obtain ⟨r_4, hc_5, hf⟩ := bd_ok hf
    refine gcFi 3 ⟨hx, hb, hml, hown, hts⟩ (mX8_in l a2.toInt64 ((0 : Int64)) ((1000 : Int64)) r_4 hc_5) (gG kw_569) kw_567 kw_568 kw_28 hX8_in ⟨rfl, rfl⟩ ⟨Nat.le_of_ble_eq_true rfl, Nat.le_of_ble_eq_true rfl⟩ ⟨Nat.zero_le _, Nat.zero_le _⟩ rfl hl.1 rfl (Nat.le_of_ble_eq_true rfl) dX8_hit_19 ?_
    refine lv_if_eq (tgt := 33) hx hb dX8_hit_22 (by decide) (fun c_6 => ?_) (fun c_6 => ?_)
    · skip
      replace hf := it_t c_6 hf
      refine lv_iconst (v := -1) hx hb dX8_hit_33 (by decide) ?_
      exact grI hx hb hr hlocks hP hS dX8_hit_34 (pf1 hf) (pf2 hf)
    · skip
      replace hf := it_f c_6 hf
      refine lv_aload_n hx hb dX8_hit_25 rfl (lv_at hl 0 rfl) ?_
      refine lv_iload_n hx hb dX8_hit_26 rfl (lv_at hl 3 rfl) ?_
      obtain ⟨r_7, hc_8, hf⟩ := bd_ok hf
      refine gcVi 1 (mC_ok D am cm hJ) hC ⟨hx, hb, hml, hown, hts⟩ (mX8_isStep l D am cm u a3 r_7 hc_8) (gG kw_579) kw_576 kw_578 kw_8 kw_28 hX8_isStep ⟨rfl, rfl⟩ ⟨Nat.le_of_ble_eq_true rfl, Nat.le_of_ble_eq_true rfl⟩ (x_rec (C := RX8) (T := TX8) (N := 20) (ci := 7) hK hP rfl m_o16) hP hS ⟨Nat.zero_le _, Nat.zero_le _⟩ rfl hl.1 rfl (Nat.le_of_ble_eq_true rfl) dX8_hit_27 (fun H locs hP hS => ?_)
      refine lv_if_ne (tgt := 35) hx hb dX8_hit_30 (by decide) (fun c_9 => ?_) (fun c_9 => ?_)
      · skip
        replace hf := it_f c_9 hf
        refine lv_iconst (v := 0) hx hb dX8_hit_35 (by decide) ?_
        refine lv_istore (lv' := [(4, .int ((0 : Int32))), (0, .ref (am 16)), (1, .int a1), (2, .int a2), (3, .int a3)]) hx hb dX8_hit_36 hl (by decide) rfl (fun ls hl => ?_)
        have hL_11 : ∀ (nf : Nat) (y4_k_10 : Int32) (u_k_10 : UM) (H : Heap) (locs : List Loc) (ls : Array Slot) (t : UM), va_P D vwCl (wM am cm u_k_10) H → va_S (AM am) s.heap H locs → lv_has ls 7 [(0, .ref (am 16)), (1, .int a1), (2, .int a2), (3, .int a3), (4, .int y4_k_10)] → fX8_hit_38 a1 a2 nf y4_k_10 u_k_10 = some t → (∀ (H : Heap) (locs : List Loc) (ls : Array Slot), va_P D vwCl (wM am cm t) H → va_S (AM am) s.heap H locs → lv_has ls 7 [(0, .ref (am 16)), (1, .int a1), (3, .int a3)] → W p l e rX8_hit s m args below meth c H locs 0 0 (MQ below (va_Qi (fun (r : Int32) (u' : UM) => r = ru.1 ∧ u' = ru.2) (wB D (wM am cm)) (AM am)) args s 0 0 (AM am)) (F0 m 72 ls [])) → W p l e rX8_hit s m args below meth c H locs 0 0 (MQ below (va_Qi (fun (r : Int32) (u' : UM) => r = ru.1 ∧ u' = ru.2) (wB D (wM am cm)) (AM am)) args s 0 0 (AM am)) (F0 m 38 ls []) := by
          intro nf
          induction nf with
          | zero => intro y4_k_10 u_k_10 H locs ls t hP hS hl hf hK'; rw [fX8_hit_38] at hf; cases hf
          | succ nf ih =>
            intro y4_k_10 u_k_10 H locs ls t hP hS hl hf hK'
            rw [fX8_hit_38] at hf
            refine lv_iload hx hb dX8_hit_38 (lv_at hl 4 rfl) ?_
            refine lv_aload_n hx hb dX8_hit_40 rfl (lv_at hl 0 rfl) ?_
            refine va_get (D := D) (ci := 7) (v := .int u_k_10.2.2.2.1) (C := RX8) (T := TX8) (N := 20) hx hb hg inG_X8 hown hK hP 16 m_o16 rfl 2 (by decide) (hg _ kw_502) (fun _ h9 => h9) rfl dX8_hit_41 ?_
            refine lv_icmp_ge (tgt := 72) hx hb dX8_hit_44 (by decide) (fun c_12 => ?_) (fun c_12 => ?_)
            · skip
              replace hf := it_t c_12 hf
              have ht := Option.some.inj hf
              subst ht
              exact hK' _ _ _ hP hS (lv_sub hl [0, 1, 3] rfl)
            · skip
              replace hf := it_f c_12 hf
              refine lv_aload_n hx hb dX8_hit_47 rfl (lv_at hl 0 rfl) ?_
              refine va_get (D := D) (ci := 7) (v := .ref (am 8)) (C := RX8) (T := TX8) (N := 20) hx hb hg inG_X8 hown hK hP 16 m_o16 rfl 15 (by decide) (hg _ kw_515) (fun _ h9 => h9) rfl dX8_hit_48 ?_
              refine lv_iload hx hb dX8_hit_51 (lv_at hl 4 rfl) ?_
              refine lv_iload hx hb dX8_hit_53 (lv_at hl 4 rfl) ?_
              refine lv_iload_n hx hb dX8_hit_55 rfl (lv_at hl 1 rfl) ?_
              refine lv_icmp_ne (tgt := 63) hx hb dX8_hit_56 (by decide) (fun c_13 => ?_) (fun c_13 => ?_)
              · skip
                replace hf := it_f c_13 hf
                refine lv_ldc (v := 100000) hx hb hown (hg _ kw_663) dX8_hit_63 ?_
                obtain ⟨hb_14, hf⟩ := gd_ok hf
                refine m_iast hx hb hK hP hJ hS (by decide) (by decide) rfl hb_14 dX8_hit_65 (fun H locs hP hS => ?_)
                refine lv_iinc (v := y4_k_10 + 1) (lv' := [(4, .int (y4_k_10 + 1)), (0, .ref (am 16)), (1, .int a1), (2, .int a2), (3, .int a3)]) hx hb dX8_hit_66 hl (k := 4) rfl rfl (by decide) rfl (fun ls hl => ?_)
                refine lv_goto (tgt := 38) hx hb dX8_hit_69 (by decide) ?_
                exact ih _ _ _ _ _ t hP hS (lv_sub hl [1, 2, 3, 4, 0] rfl) hf hK'
              · skip
                replace hf := it_t c_13 hf
                refine lv_iload_n hx hb dX8_hit_59 rfl (lv_at hl 2 rfl) ?_
                refine lv_goto (tgt := 65) hx hb dX8_hit_60 (by decide) ?_
                obtain ⟨hb_15, hf⟩ := gd_ok hf
                refine m_iast hx hb hK hP hJ hS (by decide) (by decide) rfl hb_15 dX8_hit_65 (fun H locs hP hS => ?_)
                refine lv_iinc (v := y4_k_10 + 1) (lv' := [(4, .int (y4_k_10 + 1)), (0, .ref (am 16)), (1, .int a1), (2, .int a2), (3, .int a3)]) hx hb dX8_hit_66 hl (k := 4) rfl rfl (by decide) rfl (fun ls hl => ?_)
                refine lv_goto (tgt := 38) hx hb dX8_hit_69 (by decide) ?_
                exact ih _ _ _ _ _ t hP hS (lv_sub hl [1, 2, 3, 4, 0] rfl) hf hK'
        obtain ⟨t_16, hq_17, hf⟩ := bd_ok hf
        refine hL_11 FU _ _ _ _ _ t_16 hP hS (lv_sub hl [1, 2, 3, 4, 0] rfl) hq_17 (fun H locs ls hP hS hl => ?_)
        refine lv_iconst (v := 0) hx hb dX8_hit_72 (by decide) ?_
        refine lv_istore (lv' := [(4, .int ((0 : Int32))), (0, .ref (am 16)), (1, .int a1), (3, .int a3)]) hx hb dX8_hit_73 hl (by decide) rfl (fun ls hl => ?_)
        have hL_19 : ∀ (nf : Nat) (y4_k_18 : Int32) (u_k_18 : UM) (H : Heap) (locs : List Loc) (ls : Array Slot) (t : UM), va_P D vwCl (wM am cm u_k_18) H → va_S (AM am) s.heap H locs → lv_has ls 7 [(0, .ref (am 16)), (1, .int a1), (3, .int a3), (4, .int y4_k_18)] → fX8_hit_75 a1 nf y4_k_18 u_k_18 = some t → (∀ (H : Heap) (locs : List Loc) (ls : Array Slot), va_P D vwCl (wM am cm t) H → va_S (AM am) s.heap H locs → lv_has ls 7 [(0, .ref (am 16)), (3, .int a3)] → W p l e rX8_hit s m args below meth c H locs 0 0 (MQ below (va_Qi (fun (r : Int32) (u' : UM) => r = ru.1 ∧ u' = ru.2) (wB D (wM am cm)) (AM am)) args s 0 0 (AM am)) (F0 m 191 ls [])) → W p l e rX8_hit s m args below meth c H locs 0 0 (MQ below (va_Qi (fun (r : Int32) (u' : UM) => r = ru.1 ∧ u' = ru.2) (wB D (wM am cm)) (AM am)) args s 0 0 (AM am)) (F0 m 75 ls []) := by
          intro nf
          induction nf with
          | zero => intro y4_k_18 u_k_18 H locs ls t hP hS hl hf hK'; rw [fX8_hit_75] at hf; cases hf
          | succ nf ih =>
            intro y4_k_18 u_k_18 H locs ls t hP hS hl hf hK'
            rw [fX8_hit_75] at hf
            refine lv_iload hx hb dX8_hit_75 (lv_at hl 3 rfl) ?_
            refine lv_iconst (v := 5) hx hb dX8_hit_77 (by decide) ?_
            refine lv_icmp_ge (tgt := 191) hx hb dX8_hit_78 (by decide) (fun c_20 => ?_) (fun c_20 => ?_)
            · skip
              replace hf := it_t c_20 hf
              have ht := Option.some.inj hf
              subst ht
              exact hK' _ _ _ hP hS (lv_sub hl [0, 2] rfl)
            · skip
              replace hf := it_f c_20 hf
              refine lv_iconst (v := 0) hx hb dX8_hit_81 (by decide) ?_
              refine lv_istore (lv' := [(5, .int ((0 : Int32))), (0, .ref (am 16)), (1, .int a1), (3, .int a3), (4, .int y4_k_18)]) hx hb dX8_hit_82 hl (by decide) rfl (fun ls hl => ?_)
              have hL_22 : ∀ (nf : Nat) (y5_k_21 : Int32) (u_k_21 : UM) (H : Heap) (locs : List Loc) (ls : Array Slot) (t : UM), va_P D vwCl (wM am cm u_k_21) H → va_S (AM am) s.heap H locs → lv_has ls 7 [(0, .ref (am 16)), (1, .int a1), (3, .int a3), (4, .int y4_k_18), (5, .int y5_k_21)] → fX8_hit_84 a1 nf y5_k_21 u_k_21 = some t → (∀ (H : Heap) (locs : List Loc) (ls : Array Slot), va_P D vwCl (wM am cm t) H → va_S (AM am) s.heap H locs → lv_has ls 7 [(0, .ref (am 16)), (1, .int a1), (3, .int a3), (4, .int y4_k_18)] → W p l e rX8_hit s m args below meth c H locs 0 0 (MQ below (va_Qi (fun (r : Int32) (u' : UM) => r = ru.1 ∧ u' = ru.2) (wB D (wM am cm)) (AM am)) args s 0 0 (AM am)) (F0 m 185 ls [])) → W p l e rX8_hit s m args below meth c H locs 0 0 (MQ below (va_Qi (fun (r : Int32) (u' : UM) => r = ru.1 ∧ u' = ru.2) (wB D (wM am cm)) (AM am)) args s 0 0 (AM am)) (F0 m 84 ls []) := by
                intro nf
                induction nf with
                | zero => intro y5_k_21 u_k_21 H locs ls t hP hS hl hf hK'; rw [fX8_hit_84] at hf; cases hf
                | succ nf ih =>
                  intro y5_k_21 u_k_21 H locs ls t hP hS hl hf hK'
                  rw [fX8_hit_84] at hf
                  refine lv_iload hx hb dX8_hit_84 (lv_at hl 4 rfl) ?_
                  refine lv_aload_n hx hb dX8_hit_86 rfl (lv_at hl 0 rfl) ?_
                  refine va_get (D := D) (ci := 7) (v := .int u_k_21.2.2.2.1) (C := RX8) (T := TX8) (N := 20) hx hb hg inG_X8 hown hK hP 16 m_o16 rfl 2 (by decide) (hg _ kw_502) (fun _ h9 => h9) rfl dX8_hit_87 ?_
                  refine lv_icmp_ge (tgt := 185) hx hb dX8_hit_90 (by decide) (fun c_23 => ?_) (fun c_23 => ?_)
                  · skip
                    replace hf := it_t c_23 hf
                    have ht := Option.some.inj hf
                    subst ht
                    exact hK' _ _ _ hP hS (lv_sub hl [0, 1, 2, 3] rfl)
                  · skip
                    replace hf := it_f c_23 hf
                    refine lv_iconst (v := 0) hx hb dX8_hit_93 (by decide) ?_
                    refine lv_istore (lv' := [(6, .int ((0 : Int32))), (0, .ref (am 16)), (1, .int a1), (3, .int a3), (4, .int y4_k_18), (5, .int y5_k_21)]) hx hb dX8_hit_94 hl (by decide) rfl (fun ls hl => ?_)
                    have hL_25 : ∀ (nf : Nat) (y6_k_24 : Int32) (u_k_24 : UM) (H : Heap) (locs : List Loc) (ls : Array Slot) (t : UM), va_P D vwCl (wM am cm u_k_24) H → va_S (AM am) s.heap H locs → lv_has ls 7 [(0, .ref (am 16)), (1, .int a1), (3, .int a3), (4, .int y4_k_18), (5, .int y5_k_21), (6, .int y6_k_24)] → fX8_hit_96 a1 y5_k_21 nf y6_k_24 u_k_24 = some t → (∀ (H : Heap) (locs : List Loc) (ls : Array Slot), va_P D vwCl (wM am cm t) H → va_S (AM am) s.heap H locs → lv_has ls 7 [(0, .ref (am 16)), (1, .int a1), (3, .int a3), (4, .int y4_k_18), (5, .int y5_k_21)] → W p l e rX8_hit s m args below meth c H locs 0 0 (MQ below (va_Qi (fun (r : Int32) (u' : UM) => r = ru.1 ∧ u' = ru.2) (wB D (wM am cm)) (AM am)) args s 0 0 (AM am)) (F0 m 179 ls [])) → W p l e rX8_hit s m args below meth c H locs 0 0 (MQ below (va_Qi (fun (r : Int32) (u' : UM) => r = ru.1 ∧ u' = ru.2) (wB D (wM am cm)) (AM am)) args s 0 0 (AM am)) (F0 m 96 ls []) := by
                      intro nf
                      induction nf with
                      | zero => intro y6_k_24 u_k_24 H locs ls t hP hS hl hf hK'; rw [fX8_hit_96] at hf; cases hf
                      | succ nf ih =>
                        intro y6_k_24 u_k_24 H locs ls t hP hS hl hf hK'
                        rw [fX8_hit_96] at hf
                        refine lv_iload hx hb dX8_hit_96 (lv_at hl 5 rfl) ?_
                        refine lv_aload_n hx hb dX8_hit_98 rfl (lv_at hl 0 rfl) ?_
                        refine va_get (D := D) (ci := 7) (v := .int u_k_24.2.2.2.1) (C := RX8) (T := TX8) (N := 20) hx hb hg inG_X8 hown hK hP 16 m_o16 rfl 2 (by decide) (hg _ kw_502) (fun _ h9 => h9) rfl dX8_hit_99 ?_
                        refine lv_icmp_ge (tgt := 179) hx hb dX8_hit_102 (by decide) (fun c_26 => ?_) (fun c_26 => ?_)
                        · skip
                          replace hf := it_t c_26 hf
                          have ht := Option.some.inj hf
                          subst ht
                          exact hK' _ _ _ hP hS (lv_sub hl [0, 1, 2, 3, 4] rfl)
                        · skip
                          replace hf := it_f c_26 hf
                          refine lv_iload hx hb dX8_hit_105 (lv_at hl 4 rfl) ?_
                          refine lv_iload_n hx hb dX8_hit_107 rfl (lv_at hl 1 rfl) ?_
                          refine lv_icmp_eq (tgt := 173) hx hb dX8_hit_108 (by decide) (fun c_27 => ?_) (fun c_27 => ?_)
                          · skip
                            replace hf := it_t c_27 hf
                            refine lv_iinc (v := y6_k_24 + 1) (lv' := [(6, .int (y6_k_24 + 1)), (0, .ref (am 16)), (1, .int a1), (3, .int a3), (4, .int y4_k_18), (5, .int y5_k_21)]) hx hb dX8_hit_173 hl (k := 5) rfl rfl (by decide) rfl (fun ls hl => ?_)
                            refine lv_goto (tgt := 96) hx hb dX8_hit_176 (by decide) ?_
                            exact ih _ _ _ _ _ t hP hS (lv_sub hl [1, 2, 3, 4, 5, 0] rfl) hf hK'
                          · skip
                            replace hf := it_f c_27 hf
                            refine lv_aload_n hx hb dX8_hit_111 rfl (lv_at hl 0 rfl) ?_
                            refine va_get (D := D) (ci := 7) (v := .ref (am 6)) (C := RX8) (T := TX8) (N := 20) hx hb hg inG_X8 hown hK hP 16 m_o16 rfl 9 (by decide) (hg _ kw_509) (fun _ h9 => h9) rfl dX8_hit_112 ?_
                            refine lv_iconst (v := 5) hx hb dX8_hit_115 (by decide) ?_
                            refine lv_iload hx hb dX8_hit_116 (lv_at hl 5 rfl) ?_
                            refine lv_imul hx hb dX8_hit_118 ?_
                            refine lv_iload hx hb dX8_hit_119 (lv_at hl 4 rfl) ?_
                            refine lv_iadd hx hb dX8_hit_121 ?_
                            obtain ⟨hb_28, hf⟩ := gd_ok hf
                            refine m_iald hx hb hK hP (by decide) (by decide) rfl hb_28 dX8_hit_122 ?_
                            refine lv_if_le (tgt := 173) hx hb dX8_hit_123 (by decide) (fun c_29 => ?_) (fun c_29 => ?_)
                            · skip
                              replace hf := it_t c_29 hf
                              refine lv_iinc (v := y6_k_24 + 1) (lv' := [(6, .int (y6_k_24 + 1)), (0, .ref (am 16)), (1, .int a1), (3, .int a3), (4, .int y4_k_18), (5, .int y5_k_21)]) hx hb dX8_hit_173 hl (k := 5) rfl rfl (by decide) rfl (fun ls hl => ?_)
                              refine lv_goto (tgt := 96) hx hb dX8_hit_176 (by decide) ?_
                              exact ih _ _ _ _ _ t hP hS (lv_sub hl [1, 2, 3, 4, 5, 0] rfl) hf hK'
                            · skip
                              replace hf := it_f c_29 hf
                              refine lv_aload_n hx hb dX8_hit_126 rfl (lv_at hl 0 rfl) ?_
                              refine va_get (D := D) (ci := 7) (v := .ref (am 8)) (C := RX8) (T := TX8) (N := 20) hx hb hg inG_X8 hown hK hP 16 m_o16 rfl 15 (by decide) (hg _ kw_515) (fun _ h9 => h9) rfl dX8_hit_127 ?_
                              refine lv_iload hx hb dX8_hit_130 (lv_at hl 5 rfl) ?_
                              obtain ⟨hb_30, hf⟩ := gd_ok hf
                              refine m_iald hx hb hK hP (by decide) (by decide) rfl hb_30 dX8_hit_132 ?_
                              refine lv_aload_n hx hb dX8_hit_133 rfl (lv_at hl 0 rfl) ?_
                              refine va_get (D := D) (ci := 7) (v := .ref (am 3)) (C := RX8) (T := TX8) (N := 20) hx hb hg inG_X8 hown hK hP 16 m_o16 rfl 6 (by decide) (hg _ kw_506) (fun _ h9 => h9) rfl dX8_hit_134 ?_
                              refine lv_iload hx hb dX8_hit_137 (lv_at hl 4 rfl) ?_
                              obtain ⟨hb_31, hf⟩ := gd_ok hf
                              refine m_iald hx hb hK hP (by decide) (by decide) rfl hb_31 dX8_hit_139 ?_
                              refine lv_iadd hx hb dX8_hit_140 ?_
                              refine lv_aload_n hx hb dX8_hit_141 rfl (lv_at hl 0 rfl) ?_
                              refine va_get (D := D) (ci := 7) (v := .ref (am 8)) (C := RX8) (T := TX8) (N := 20) hx hb hg inG_X8 hown hK hP 16 m_o16 rfl 15 (by decide) (hg _ kw_515) (fun _ h9 => h9) rfl dX8_hit_142 ?_
                              refine lv_iload hx hb dX8_hit_145 (lv_at hl 4 rfl) ?_
                              refine m_iald hx hb hK hP (by decide) (by decide) rfl hb_31 dX8_hit_147 ?_
                              refine lv_icmp_ge (tgt := 173) hx hb dX8_hit_148 (by decide) (fun c_32 => ?_) (fun c_32 => ?_)
                              · skip
                                replace hf := it_t c_32 hf
                                refine lv_iinc (v := y6_k_24 + 1) (lv' := [(6, .int (y6_k_24 + 1)), (0, .ref (am 16)), (1, .int a1), (3, .int a3), (4, .int y4_k_18), (5, .int y5_k_21)]) hx hb dX8_hit_173 hl (k := 5) rfl rfl (by decide) rfl (fun ls hl => ?_)
                                refine lv_goto (tgt := 96) hx hb dX8_hit_176 (by decide) ?_
                                exact ih _ _ _ _ _ t hP hS (lv_sub hl [1, 2, 3, 4, 5, 0] rfl) hf hK'
                              · skip
                                replace hf := it_f c_32 hf
                                refine lv_aload_n hx hb dX8_hit_151 rfl (lv_at hl 0 rfl) ?_
                                refine va_get (D := D) (ci := 7) (v := .ref (am 8)) (C := RX8) (T := TX8) (N := 20) hx hb hg inG_X8 hown hK hP 16 m_o16 rfl 15 (by decide) (hg _ kw_515) (fun _ h9 => h9) rfl dX8_hit_152 ?_
                                refine lv_iload hx hb dX8_hit_155 (lv_at hl 4 rfl) ?_
                                refine lv_aload_n hx hb dX8_hit_157 rfl (lv_at hl 0 rfl) ?_
                                refine va_get (D := D) (ci := 7) (v := .ref (am 8)) (C := RX8) (T := TX8) (N := 20) hx hb hg inG_X8 hown hK hP 16 m_o16 rfl 15 (by decide) (hg _ kw_515) (fun _ h9 => h9) rfl dX8_hit_158 ?_
                                refine lv_iload hx hb dX8_hit_161 (lv_at hl 5 rfl) ?_
                                refine m_iald hx hb hK hP (by decide) (by decide) rfl hb_30 dX8_hit_163 ?_
                                refine lv_aload_n hx hb dX8_hit_164 rfl (lv_at hl 0 rfl) ?_
                                refine va_get (D := D) (ci := 7) (v := .ref (am 3)) (C := RX8) (T := TX8) (N := 20) hx hb hg inG_X8 hown hK hP 16 m_o16 rfl 6 (by decide) (hg _ kw_506) (fun _ h9 => h9) rfl dX8_hit_165 ?_
                                refine lv_iload hx hb dX8_hit_168 (lv_at hl 4 rfl) ?_
                                refine m_iald hx hb hK hP (by decide) (by decide) rfl hb_31 dX8_hit_170 ?_
                                refine lv_iadd hx hb dX8_hit_171 ?_
                                refine m_iast hx hb hK hP hJ hS (by decide) (by decide) rfl hb_31 dX8_hit_172 (fun H locs hP hS => ?_)
                                refine lv_iinc (v := y6_k_24 + 1) (lv' := [(6, .int (y6_k_24 + 1)), (0, .ref (am 16)), (1, .int a1), (3, .int a3), (4, .int y4_k_18), (5, .int y5_k_21)]) hx hb dX8_hit_173 hl (k := 5) rfl rfl (by decide) rfl (fun ls hl => ?_)
                                refine lv_goto (tgt := 96) hx hb dX8_hit_176 (by decide) ?_
                                exact ih _ _ _ _ _ t hP hS (lv_sub hl [1, 2, 3, 4, 5, 0] rfl) hf hK'
                    obtain ⟨t_33, hq_34, hf⟩ := bd_ok hf
                    refine hL_25 FU _ _ _ _ _ t_33 hP hS (lv_sub hl [1, 2, 3, 4, 5, 0] rfl) hq_34 (fun H locs ls hP hS hl => ?_)
                    refine lv_iinc (v := y5_k_21 + 1) (lv' := [(5, .int (y5_k_21 + 1)), (0, .ref (am 16)), (1, .int a1), (3, .int a3), (4, .int y4_k_18)]) hx hb dX8_hit_179 hl (k := 4) rfl rfl (by decide) rfl (fun ls hl => ?_)
                    refine lv_goto (tgt := 84) hx hb dX8_hit_182 (by decide) ?_
                    exact ih _ _ _ _ _ t hP hS (lv_sub hl [1, 2, 3, 4, 0] rfl) hf hK'
              obtain ⟨t_35, hq_36, hf⟩ := bd_ok hf
              refine hL_22 FU _ _ _ _ _ t_35 hP hS (lv_sub hl [1, 2, 3, 4, 0] rfl) hq_36 (fun H locs ls hP hS hl => ?_)
              refine lv_iinc (v := y4_k_18 + 1) (lv' := [(4, .int (y4_k_18 + 1)), (0, .ref (am 16)), (1, .int a1), (3, .int a3)]) hx hb dX8_hit_185 hl (k := 3) rfl rfl (by decide) rfl (fun ls hl => ?_)
              refine lv_goto (tgt := 75) hx hb dX8_hit_188 (by decide) ?_
              exact ih _ _ _ _ _ t hP hS (lv_sub hl [1, 2, 3, 0] rfl) hf hK'
        obtain ⟨t_37, hq_38, hf⟩ := bd_ok hf
        refine hL_19 FU _ _ _ _ _ t_37 hP hS (lv_sub hl [1, 2, 3, 0] rfl) hq_38 (fun H locs ls hP hS hl => ?_)
        refine lv_aload_n hx hb dX8_hit_191 rfl (lv_at hl 0 rfl) ?_
        refine va_get (D := D) (ci := 7) (v := .ref (am 8)) (C := RX8) (T := TX8) (N := 20) hx hb hg inG_X8 hown hK hP 16 m_o16 rfl 15 (by decide) (hg _ kw_515) (fun _ h9 => h9) rfl dX8_hit_192 ?_
        refine lv_iload_n hx hb dX8_hit_195 rfl (lv_at hl 1 rfl) ?_
        obtain ⟨hb_39, hf⟩ := gd_ok hf
        refine m_iald hx hb hK hP (by decide) (by decide) rfl hb_39 dX8_hit_196 ?_
        refine lv_ldc (v := 100000) hx hb hown (hg _ kw_663) dX8_hit_197 ?_
        refine lv_icmp_lt (tgt := 207) hx hb dX8_hit_199 (by decide) (fun c_40 => ?_) (fun c_40 => ?_)
        · skip
          replace hf := it_t c_40 hf
          refine lv_aload_n hx hb dX8_hit_207 rfl (lv_at hl 0 rfl) ?_
          refine va_get (D := D) (ci := 7) (v := .ref (am 8)) (C := RX8) (T := TX8) (N := 20) hx hb hg inG_X8 hown hK hP 16 m_o16 rfl 15 (by decide) (hg _ kw_515) (fun _ h9 => h9) rfl dX8_hit_208 ?_
          refine lv_iload_n hx hb dX8_hit_211 rfl (lv_at hl 1 rfl) ?_
          refine m_iald hx hb hK hP (by decide) (by decide) rfl hb_39 dX8_hit_212 ?_
          exact grI hx hb hr hlocks hP hS dX8_hit_213 (pf1 hf) (pf2 hf)
        · skip
          replace hf := it_f c_40 hf
          refine lv_bipush (v := -9) hx hb dX8_hit_202 (by decide) ?_
          refine lv_goto (tgt := 213) hx hb dX8_hit_204 (by decide) ?_
          exact grI hx hb hr hlocks hP hS dX8_hit_213 (pf1 hf) (pf2 hf)
      · skip
        replace hf := it_t c_9 hf
        refine lv_iconst (v := -1) hx hb dX8_hit_33 (by decide) ?_
        exact grI hx hb hr hlocks hP hS dX8_hit_34 (pf1 hf) (pf2 hf)
abbrev rX8_steady : Room := { frames := 1, cells := 0, slots := 0, locals := 26 }
theorem hX8_steady : yX8_steady.cls ≠ "java/lang/invoke/MethodHandle" ∧ yX8_steady.cls ≠ "java/lang/invoke/VarHandle" ∧ (parseMethodDescriptor yX8_steady.desc).map (fun d => d.parameters.length) = some 5 := by decide +kernel
set_option maxHeartbeats 4000000 in
set_option maxRecDepth 100000 in
theorem mX8_steady (l : Launch) (D : va_G) (am : Nat → Nat) (cm : Nat → ClassId) (u : UM) (a1 : Int32) (a2 : Int32) (a3 : Int32) (a4 : Int32) (a5 : Int32)  (r0 : Int32) (hok : fX8_steady u a1 a2 a3 a4 a5 = some r0) : Met l yX8_steady (Cond.code yX8_steady cX8_steady 11 (some .int) :: wsG) rX8_steady (va_Pc [.ref (am 16), .int a1, .int a2, .int a3, .int a4, .int a5] (wI D (wM am cm) (mC D am cm) u)) (va_Qi (fun (r : Int32) (u' : UM) => r = r0 ∧ u' = u) (wB D (wM am cm)) (AM am)) 0 0 (AM am) := by
  refine Met.ofW (cc := cX8_steady) (maxL := 11) (ret := (some .int)) (by decide) rfl ?_
  intro p e s m args below meth c s₁ B hml hv
  have hx := B.exec
  have hb := B.bytes
  have hr := B.returns
  have hts := atoms_spec (ws := (Cond.code yX8_steady cX8_steady 11 (some .int) :: wsG)) B.pre
  have hg : ∀ w ∈ wsG, w.before args s = true := fun w h => hts w (List.mem_cons_of_mem _ h)
  have hown : s.vm.findClass RX8 = some m.cls := findClass_of_methodNamed B.named
  have hlocks := B.notSynchronized
  obtain ⟨ha, hP, hC⟩ := hv
  obtain ⟨hK, hJ⟩ := id hC
  have hS : va_S (AM am) s.heap s.heap [] := va_S.rf
  refine W.eq (show entryFrame m args 11 = entryFrame m ([.ref (am 16), .int a1, .int a2, .int a3, .int a4, .int a5] : List Value).toArray 11 by rw [ha]) ?_
  have hl := lv_entry ([.ref (am 16), .int a1, .int a2, .int a3, .int a4, .int a5]) (n := 11) (Nat.le_of_ble_eq_true rfl)
  rw [lg_entry_eq]
  generalize (lg_sl ([.ref (am 16), .int a1, .int a2, .int a3, .int a4, .int a5]) ++ List.replicate (11 - (lg_sl ([.ref (am 16), .int a1, .int a2, .int a3, .int a4, .int a5])).length) Slot.unset).toArray = ls at hl ⊢
  have hl : lv_has ls 11 [(0, .ref (am 16)), (1, .int a1), (2, .int a2), (3, .int a3), (4, .int a4), (5, .int a5)] := hl
  show W p l e rX8_steady s m args below meth c s.heap [] 0 0 (MQ below (va_Qi (fun (r : Int32) (u' : UM) => r = r0 ∧ u' = u) (wB D (wM am cm)) (AM am)) args s 0 0 (AM am)) (F0 m 0 ls [])
  have hf := hok
  unfold fX8_steady at hf
  refine lv_aload_n hx hb dX8_steady_0 rfl (lv_at hl 0 rfl) ?_
  refine lv_iconst (v := 0) hx hb dX8_steady_1 (by decide) ?_
  refine m_putZ hx hb hg hown hK hP hJ hS (hg _ kw_500) dX8_steady_2 (fun H locs hP hS => ?_)
  refine lv_iload_n hx hb dX8_steady_5 rfl (lv_at hl 1 rfl) ?_
  refine lv_i2l hx hb dX8_steady_6 rfl ?_
  refine lv_lconst (v := 1) hx hb dX8_steady_7 (by decide) ?_
  refine lv_ldc2 (v := 1000) hx hb hown (hg _ kw_566) dX8_steady_8 ?_
  obtain ⟨r_1, hc_2, hf⟩ := bd_ok hf
  refine gcFi 3 ⟨hx, hb, hml, hown, hts⟩ (mX8_in l a1.toInt64 ((1 : Int64)) ((1000 : Int64)) r_1 hc_2) (gG kw_569) kw_567 kw_568 kw_28 hX8_in ⟨rfl, rfl⟩ ⟨Nat.le_of_ble_eq_true rfl, Nat.le_of_ble_eq_true rfl⟩ ⟨Nat.zero_le _, Nat.zero_le _⟩ rfl hl.1 rfl (Nat.le_of_ble_eq_true rfl) dX8_steady_11 ?_
  refine lv_if_eq (tgt := 64) hx hb dX8_steady_14 (by decide) (fun c_3 => ?_) (fun c_3 => ?_)
  · skip
    replace hf := it_t c_3 hf
    refine lv_iconst (v := -1) hx hb dX8_steady_64 (by decide) ?_
    exact grI hx hb hr hlocks hP hS dX8_steady_65 (Option.some.inj hf) rfl
  · skip
    replace hf := it_f c_3 hf
    refine lv_iload_n hx hb dX8_steady_17 rfl (lv_at hl 2 rfl) ?_
    refine lv_i2l hx hb dX8_steady_18 rfl ?_
    refine lv_lconst (v := 0) hx hb dX8_steady_19 (by decide) ?_
    refine lv_ldc2 (v := 1000000) hx hb hown (hg _ kw_668) dX8_steady_20 ?_
    obtain ⟨r_4, hc_5, hf⟩ := bd_ok hf
    refine gcFi 3 ⟨hx, hb, hml, hown, hts⟩ (mX8_in l a2.toInt64 ((0 : Int64)) ((1000000 : Int64)) r_4 hc_5) (gG kw_569) kw_567 kw_568 kw_28 hX8_in ⟨rfl, rfl⟩ ⟨Nat.le_of_ble_eq_true rfl, Nat.le_of_ble_eq_true rfl⟩ ⟨Nat.zero_le _, Nat.zero_le _⟩ rfl hl.1 rfl (Nat.le_of_ble_eq_true rfl) dX8_steady_23 ?_
    refine lv_if_eq (tgt := 64) hx hb dX8_steady_26 (by decide) (fun c_6 => ?_) (fun c_6 => ?_)
    · skip
      replace hf := it_t c_6 hf
      refine lv_iconst (v := -1) hx hb dX8_steady_64 (by decide) ?_
      exact grI hx hb hr hlocks hP hS dX8_steady_65 (Option.some.inj hf) rfl
    · skip
      replace hf := it_f c_6 hf
      refine lv_iload_n hx hb dX8_steady_29 rfl (lv_at hl 3 rfl) ?_
      refine lv_i2l hx hb dX8_steady_30 rfl ?_
      refine lv_lconst (v := 0) hx hb dX8_steady_31 (by decide) ?_
      refine lv_ldc2 (v := 1000) hx hb hown (hg _ kw_566) dX8_steady_32 ?_
      obtain ⟨r_7, hc_8, hf⟩ := bd_ok hf
      refine gcFi 3 ⟨hx, hb, hml, hown, hts⟩ (mX8_in l a3.toInt64 ((0 : Int64)) ((1000 : Int64)) r_7 hc_8) (gG kw_569) kw_567 kw_568 kw_28 hX8_in ⟨rfl, rfl⟩ ⟨Nat.le_of_ble_eq_true rfl, Nat.le_of_ble_eq_true rfl⟩ ⟨Nat.zero_le _, Nat.zero_le _⟩ rfl hl.1 rfl (Nat.le_of_ble_eq_true rfl) dX8_steady_35 ?_
      refine lv_if_eq (tgt := 64) hx hb dX8_steady_38 (by decide) (fun c_9 => ?_) (fun c_9 => ?_)
      · skip
        replace hf := it_t c_9 hf
        refine lv_iconst (v := -1) hx hb dX8_steady_64 (by decide) ?_
        exact grI hx hb hr hlocks hP hS dX8_steady_65 (Option.some.inj hf) rfl
      · skip
        replace hf := it_f c_9 hf
        refine lv_iload hx hb dX8_steady_41 (lv_at hl 4 rfl) ?_
        refine lv_i2l hx hb dX8_steady_43 rfl ?_
        refine lv_lconst (v := 0) hx hb dX8_steady_44 (by decide) ?_
        refine lv_iload_n hx hb dX8_steady_45 rfl (lv_at hl 1 rfl) ?_
        refine lv_i2l hx hb dX8_steady_46 rfl ?_
        obtain ⟨r_10, hc_11, hf⟩ := bd_ok hf
        refine gcFi 3 ⟨hx, hb, hml, hown, hts⟩ (mX8_in l a4.toInt64 ((0 : Int64)) a1.toInt64 r_10 hc_11) (gG kw_569) kw_567 kw_568 kw_28 hX8_in ⟨rfl, rfl⟩ ⟨Nat.le_of_ble_eq_true rfl, Nat.le_of_ble_eq_true rfl⟩ ⟨Nat.zero_le _, Nat.zero_le _⟩ rfl hl.1 rfl (Nat.le_of_ble_eq_true rfl) dX8_steady_47 ?_
        refine lv_if_eq (tgt := 64) hx hb dX8_steady_50 (by decide) (fun c_12 => ?_) (fun c_12 => ?_)
        · skip
          replace hf := it_t c_12 hf
          refine lv_iconst (v := -1) hx hb dX8_steady_64 (by decide) ?_
          exact grI hx hb hr hlocks hP hS dX8_steady_65 (Option.some.inj hf) rfl
        · skip
          replace hf := it_f c_12 hf
          refine lv_iload hx hb dX8_steady_53 (lv_at hl 5 rfl) ?_
          refine lv_i2l hx hb dX8_steady_55 rfl ?_
          refine lv_lconst (v := 0) hx hb dX8_steady_56 (by decide) ?_
          refine lv_lconst (v := 1) hx hb dX8_steady_57 (by decide) ?_
          obtain ⟨r_13, hc_14, hf⟩ := bd_ok hf
          refine gcFi 3 ⟨hx, hb, hml, hown, hts⟩ (mX8_in l a5.toInt64 ((0 : Int64)) ((1 : Int64)) r_13 hc_14) (gG kw_569) kw_567 kw_568 kw_28 hX8_in ⟨rfl, rfl⟩ ⟨Nat.le_of_ble_eq_true rfl, Nat.le_of_ble_eq_true rfl⟩ ⟨Nat.zero_le _, Nat.zero_le _⟩ rfl hl.1 rfl (Nat.le_of_ble_eq_true rfl) dX8_steady_58 ?_
          refine lv_if_ne (tgt := 66) hx hb dX8_steady_61 (by decide) (fun c_15 => ?_) (fun c_15 => ?_)
          · skip
            replace hf := it_f c_15 hf
            refine lv_iload_n hx hb dX8_steady_66 rfl (lv_at hl 2 rfl) ?_
            refine lv_i2l hx hb dX8_steady_67 rfl ?_
            refine lv_iload_n hx hb dX8_steady_68 rfl (lv_at hl 1 rfl) ?_
            refine lv_iload_n hx hb dX8_steady_69 rfl (lv_at hl 3 rfl) ?_
            refine lv_iload hx hb dX8_steady_70 (lv_at hl 4 rfl) ?_
            obtain ⟨r_16, hc_17, hf⟩ := bd_ok hf
            refine gcFl 4 ⟨hx, hb, hml, hown, hts⟩ (mX8_hour l a2.toInt64 a1 a3 a4 r_16 hc_17) (gG kw_671) kw_669 kw_670 kw_28 hX8_hour ⟨rfl, rfl⟩ ⟨Nat.le_of_ble_eq_true rfl, Nat.le_of_ble_eq_true rfl⟩ ⟨Nat.zero_le _, Nat.zero_le _⟩ rfl hl.1 rfl (Nat.le_of_ble_eq_true rfl) dX8_steady_72 ?_
            refine lv_lstore (lv' := [(6, .long r_16), (0, .ref (am 16)), (1, .int a1), (2, .int a2), (3, .int a3), (4, .int a4), (5, .int a5)]) hx hb dX8_steady_75 hl (by decide) rfl (fun ls hl => ?_)
            refine lv_iconst (v := 1) hx hb dX8_steady_77 (by decide) ?_
            refine lv_istore (lv' := [(8, .int ((1 : Int32))), (6, .long r_16), (0, .ref (am 16)), (1, .int a1), (2, .int a2), (3, .int a3), (4, .int a4), (5, .int a5)]) hx hb dX8_steady_78 hl (by decide) rfl (fun ls hl => ?_)
            have hL_19 : ∀ (nf : Nat) (y6_k_18 : Int64) (y8_k_18 : Int32) (H : Heap) (locs : List Loc) (ls : Array Slot), va_P D vwCl (wM am cm u) H → va_S (AM am) s.heap H locs → lv_has ls 11 [(1, .int a1), (3, .int a3), (4, .int a4), (5, .int a5), (6, .long y6_k_18), (8, .int y8_k_18)] → fX8_steady_80 a1 a3 a4 a5 nf y6_k_18 y8_k_18 = some r0 → W p l e rX8_steady s m args below meth c H locs 0 0 (MQ below (va_Qi (fun (r : Int32) (u' : UM) => r = r0 ∧ u' = u) (wB D (wM am cm)) (AM am)) args s 0 0 (AM am)) (F0 m 80 ls []) := by
              intro nf
              induction nf with
              | zero => intro y6_k_18 y8_k_18 H locs ls hP hS hl hf; rw [fX8_steady_80] at hf; cases hf
              | succ nf ih =>
                intro y6_k_18 y8_k_18 H locs ls hP hS hl hf
                rw [fX8_steady_80] at hf
                refine lv_iload hx hb dX8_steady_80 (lv_at hl 5 rfl) ?_
                refine lv_sipush (v := 5000) hx hb dX8_steady_82 (by decide) ?_
                refine lv_icmp_gt (tgt := 131) hx hb dX8_steady_85 (by decide) (fun c_20 => ?_) (fun c_20 => ?_)
                · skip
                  replace hf := it_t c_20 hf
                  refine lv_bipush (v := -9) hx hb dX8_steady_131 (by decide) ?_
                  exact grI hx hb hr hlocks hP hS dX8_steady_133 (Option.some.inj hf) rfl
                · skip
                  replace hf := it_f c_20 hf
                  refine lv_lload hx hb dX8_steady_88 (lv_at hl 4 rfl) ?_
                  refine lv_iload_n hx hb dX8_steady_90 rfl (lv_at hl 0 rfl) ?_
                  refine lv_iload_n hx hb dX8_steady_91 rfl (lv_at hl 1 rfl) ?_
                  refine lv_iload hx hb dX8_steady_92 (lv_at hl 2 rfl) ?_
                  obtain ⟨r_21, hc_22, hf⟩ := bd_ok hf
                  refine gcFl 4 ⟨hx, hb, hml, hown, hts⟩ (mX8_hour l y6_k_18 a1 a3 a4 r_21 hc_22) (gG kw_671) kw_669 kw_670 kw_28 hX8_hour ⟨rfl, rfl⟩ ⟨Nat.le_of_ble_eq_true rfl, Nat.le_of_ble_eq_true rfl⟩ ⟨Nat.zero_le _, Nat.zero_le _⟩ rfl hl.1 rfl (Nat.le_of_ble_eq_true rfl) dX8_steady_94 ?_
                  refine lv_lstore (lv' := [(9, .long r_21), (1, .int a1), (3, .int a3), (4, .int a4), (5, .int a5), (6, .long y6_k_18), (8, .int y8_k_18)]) hx hb dX8_steady_97 hl (by decide) rfl (fun ls hl => ?_)
                  refine lv_lload hx hb dX8_steady_99 (lv_at hl 0 rfl) ?_
                  refine lv_lload hx hb dX8_steady_101 (lv_at hl 5 rfl) ?_
                  refine W.lcmp hx hb dX8_steady_103 ?_
                  refine lv_if_ne (tgt := 121) hx hb dX8_steady_104 (by decide) (fun c_23 => ?_) (fun c_23 => ?_)
                  · replace c_23 := fun q => c_23 (lc_eq.mpr q)
                    replace hf := it_f c_23 hf
                    refine lv_lload hx hb dX8_steady_121 (lv_at hl 0 rfl) ?_
                    refine lv_lstore (lv' := [(6, .long r_21), (9, .long r_21), (1, .int a1), (3, .int a3), (4, .int a4), (5, .int a5), (8, .int y8_k_18)]) hx hb dX8_steady_123 hl (by decide) rfl (fun ls hl => ?_)
                    refine lv_iinc (v := y8_k_18 + 1) (lv' := [(8, .int (y8_k_18 + 1)), (6, .long r_21), (9, .long r_21), (1, .int a1), (3, .int a3), (4, .int a4), (5, .int a5)]) hx hb dX8_steady_125 hl (k := 6) rfl rfl (by decide) rfl (fun ls hl => ?_)
                    refine lv_goto (tgt := 80) hx hb dX8_steady_128 (by decide) ?_
                    exact ih _ _ _ _ _ hP hS (lv_sub hl [3, 4, 5, 6, 1, 0] rfl) hf
                  · replace c_23 := lc_eq.mp c_23
                    replace hf := it_t c_23 hf
                    refine lv_iload hx hb dX8_steady_107 (lv_at hl 4 rfl) ?_
                    refine lv_if_ne (tgt := 117) hx hb dX8_steady_109 (by decide) (fun c_24 => ?_) (fun c_24 => ?_)
                    · skip
                      replace hf := it_f c_24 hf
                      refine lv_lload hx hb dX8_steady_117 (lv_at hl 5 rfl) ?_
                      refine lv_l2i hx hb dX8_steady_119 rfl ?_
                      exact grI hx hb hr hlocks hP hS dX8_steady_120 (Option.some.inj hf) rfl
                    · skip
                      replace hf := it_t c_24 hf
                      refine lv_iload hx hb dX8_steady_112 (lv_at hl 6 rfl) ?_
                      refine lv_goto (tgt := 120) hx hb dX8_steady_114 (by decide) ?_
                      exact grI hx hb hr hlocks hP hS dX8_steady_120 (Option.some.inj hf) rfl
            exact hL_19 FU _ _ _ _ _ hP hS (lv_sub hl [3, 5, 6, 7, 1, 0] rfl) hf
          · skip
            replace hf := it_t c_15 hf
            refine lv_iconst (v := -1) hx hb dX8_steady_64 (by decide) ?_
            exact grI hx hb hr hlocks hP hS dX8_steady_65 (Option.some.inj hf) rfl
abbrev rX8_store : Room := { frames := 1, cells := 0, slots := 0, locals := 25 }
theorem hX8_store : yX8_store.cls ≠ "java/lang/invoke/MethodHandle" ∧ yX8_store.cls ≠ "java/lang/invoke/VarHandle" ∧ (parseMethodDescriptor yX8_store.desc).map (fun d => d.parameters.length) = some 3 := by decide +kernel
set_option maxHeartbeats 4000000 in
set_option maxRecDepth 100000 in
theorem mX8_store (l : Launch) (D : va_G) (am : Nat → Nat) (cm : Nat → ClassId) (u : UM) (a1 : Int32) (a2 : Int32) (a3 : Int32)  (ru : Int32 × UM) (hok : fX8_store u a1 a2 a3 = some ru) : Met l yX8_store (Cond.code yX8_store cX8_store 5 (some .int) :: wsG) rX8_store (va_Pc [.ref (am 16), .int a1, .int a2, .int a3] (wI D (wM am cm) (mC D am cm) u)) (va_Qi (fun (r : Int32) (u' : UM) => r = ru.1 ∧ u' = ru.2) (wB D (wM am cm)) (AM am)) 0 0 (AM am) := by
  refine Met.ofW (cc := cX8_store) (maxL := 5) (ret := (some .int)) (by decide) rfl ?_
  intro p e s m args below meth c s₁ B hml hv
  have hx := B.exec
  have hb := B.bytes
  have hr := B.returns
  have hts := atoms_spec (ws := (Cond.code yX8_store cX8_store 5 (some .int) :: wsG)) B.pre
  have hg : ∀ w ∈ wsG, w.before args s = true := fun w h => hts w (List.mem_cons_of_mem _ h)
  have hown : s.vm.findClass RX8 = some m.cls := findClass_of_methodNamed B.named
  have hlocks := B.notSynchronized
  obtain ⟨ha, hP, hC⟩ := hv
  obtain ⟨hK, hJ⟩ := id hC
  have hS : va_S (AM am) s.heap s.heap [] := va_S.rf
  refine W.eq (show entryFrame m args 5 = entryFrame m ([.ref (am 16), .int a1, .int a2, .int a3] : List Value).toArray 5 by rw [ha]) ?_
  have hl := lv_entry ([.ref (am 16), .int a1, .int a2, .int a3]) (n := 5) (Nat.le_of_ble_eq_true rfl)
  rw [lg_entry_eq]
  generalize (lg_sl ([.ref (am 16), .int a1, .int a2, .int a3]) ++ List.replicate (5 - (lg_sl ([.ref (am 16), .int a1, .int a2, .int a3])).length) Slot.unset).toArray = ls at hl ⊢
  have hl : lv_has ls 5 [(0, .ref (am 16)), (1, .int a1), (2, .int a2), (3, .int a3)] := hl
  show W p l e rX8_store s m args below meth c s.heap [] 0 0 (MQ below (va_Qi (fun (r : Int32) (u' : UM) => r = ru.1 ∧ u' = ru.2) (wB D (wM am cm)) (AM am)) args s 0 0 (AM am)) (F0 m 0 ls [])
  have hf := hok
  unfold fX8_store at hf
  refine lv_aload_n hx hb dX8_store_0 rfl (lv_at hl 0 rfl) ?_
  refine lv_iconst (v := 0) hx hb dX8_store_1 (by decide) ?_
  refine m_putZ hx hb hg hown hK hP hJ hS (hg _ kw_500) dX8_store_2 (fun H locs hP hS => ?_)
  refine lv_iload_n hx hb dX8_store_5 rfl (lv_at hl 1 rfl) ?_
  refine lv_i2l hx hb dX8_store_6 rfl ?_
  refine lv_lconst (v := 0) hx hb dX8_store_7 (by decide) ?_
  refine lv_ldc2 (v := 23) hx hb hown (hg _ kw_676) dX8_store_8 ?_
  obtain ⟨r_1, hc_2, hf⟩ := bd_ok hf
  refine gcFi 3 ⟨hx, hb, hml, hown, hts⟩ (mX8_in l a1.toInt64 ((0 : Int64)) ((23 : Int64)) r_1 hc_2) (gG kw_569) kw_567 kw_568 kw_28 hX8_in ⟨rfl, rfl⟩ ⟨Nat.le_of_ble_eq_true rfl, Nat.le_of_ble_eq_true rfl⟩ ⟨Nat.zero_le _, Nat.zero_le _⟩ rfl hl.1 rfl (Nat.le_of_ble_eq_true rfl) dX8_store_11 ?_
  refine lv_if_eq (tgt := 39) hx hb dX8_store_14 (by decide) (fun c_3 => ?_) (fun c_3 => ?_)
  · skip
    replace hf := it_t c_3 hf
    refine lv_iconst (v := -1) hx hb dX8_store_39 (by decide) ?_
    exact grI hx hb hr hlocks hP hS dX8_store_40 (pf1 hf) (pf2 hf)
  · skip
    replace hf := it_f c_3 hf
    refine lv_iload_n hx hb dX8_store_17 rfl (lv_at hl 2 rfl) ?_
    refine lv_i2l hx hb dX8_store_18 rfl ?_
    refine lv_lconst (v := 0) hx hb dX8_store_19 (by decide) ?_
    refine lv_lconst (v := 1) hx hb dX8_store_20 (by decide) ?_
    obtain ⟨r_4, hc_5, hf⟩ := bd_ok hf
    refine gcFi 3 ⟨hx, hb, hml, hown, hts⟩ (mX8_in l a2.toInt64 ((0 : Int64)) ((1 : Int64)) r_4 hc_5) (gG kw_569) kw_567 kw_568 kw_28 hX8_in ⟨rfl, rfl⟩ ⟨Nat.le_of_ble_eq_true rfl, Nat.le_of_ble_eq_true rfl⟩ ⟨Nat.zero_le _, Nat.zero_le _⟩ rfl hl.1 rfl (Nat.le_of_ble_eq_true rfl) dX8_store_21 ?_
    refine lv_if_eq (tgt := 39) hx hb dX8_store_24 (by decide) (fun c_6 => ?_) (fun c_6 => ?_)
    · skip
      replace hf := it_t c_6 hf
      refine lv_iconst (v := -1) hx hb dX8_store_39 (by decide) ?_
      exact grI hx hb hr hlocks hP hS dX8_store_40 (pf1 hf) (pf2 hf)
    · skip
      replace hf := it_f c_6 hf
      refine lv_iload_n hx hb dX8_store_27 rfl (lv_at hl 3 rfl) ?_
      refine lv_i2l hx hb dX8_store_28 rfl ?_
      refine lv_lconst (v := 0) hx hb dX8_store_29 (by decide) ?_
      refine lv_ldc2 (v := 500) hx hb hown (hg _ kw_571) dX8_store_30 ?_
      obtain ⟨r_7, hc_8, hf⟩ := bd_ok hf
      refine gcFi 3 ⟨hx, hb, hml, hown, hts⟩ (mX8_in l a3.toInt64 ((0 : Int64)) ((500 : Int64)) r_7 hc_8) (gG kw_569) kw_567 kw_568 kw_28 hX8_in ⟨rfl, rfl⟩ ⟨Nat.le_of_ble_eq_true rfl, Nat.le_of_ble_eq_true rfl⟩ ⟨Nat.zero_le _, Nat.zero_le _⟩ rfl hl.1 rfl (Nat.le_of_ble_eq_true rfl) dX8_store_33 ?_
      refine lv_if_ne (tgt := 41) hx hb dX8_store_36 (by decide) (fun c_9 => ?_) (fun c_9 => ?_)
      · skip
        replace hf := it_f c_9 hf
        refine lv_aload_n hx hb dX8_store_41 rfl (lv_at hl 0 rfl) ?_
        refine va_get (D := D) (ci := 7) (v := .ref (am 9)) (C := RX8) (T := TX8) (N := 20) hx hb hg inG_X8 hown hK hP 16 m_o16 rfl 16 (by decide) (hg _ kw_516) (fun _ h9 => h9) rfl dX8_store_42 ?_
        refine lv_iconst (v := 2) hx hb dX8_store_45 (by decide) ?_
        refine lv_iload_n hx hb dX8_store_46 rfl (lv_at hl 1 rfl) ?_
        refine lv_imul hx hb dX8_store_47 ?_
        refine lv_iload_n hx hb dX8_store_48 rfl (lv_at hl 2 rfl) ?_
        refine lv_iadd hx hb dX8_store_49 ?_
        obtain ⟨hb_10, hf⟩ := gd_ok hf
        refine m_iald hx hb hK hP (by decide) (by decide) rfl hb_10 dX8_store_50 ?_
        refine lv_istore (lv' := [(4, .int (u.1 9 ((((2 : Int32)) * a1) + a2).toNatClampNeg)), (0, .ref (am 16)), (1, .int a1), (2, .int a2), (3, .int a3)]) hx hb dX8_store_51 hl (by decide) rfl (fun ls hl => ?_)
        refine lv_aload_n hx hb dX8_store_53 rfl (lv_at hl 1 rfl) ?_
        refine va_get (D := D) (ci := 7) (v := .ref (am 9)) (C := RX8) (T := TX8) (N := 20) hx hb hg inG_X8 hown hK hP 16 m_o16 rfl 16 (by decide) (hg _ kw_516) (fun _ h9 => h9) rfl dX8_store_54 ?_
        refine lv_iconst (v := 2) hx hb dX8_store_57 (by decide) ?_
        refine lv_iload_n hx hb dX8_store_58 rfl (lv_at hl 2 rfl) ?_
        refine lv_imul hx hb dX8_store_59 ?_
        refine lv_iload_n hx hb dX8_store_60 rfl (lv_at hl 3 rfl) ?_
        refine lv_iadd hx hb dX8_store_61 ?_
        refine lv_iload_n hx hb dX8_store_62 rfl (lv_at hl 4 rfl) ?_
        refine m_iast hx hb hK hP hJ hS (by decide) (by decide) rfl hb_10 dX8_store_63 (fun H locs hP hS => ?_)
        refine lv_iload hx hb dX8_store_64 (lv_at hl 0 rfl) ?_
        exact grI hx hb hr hlocks hP hS dX8_store_66 (pf1 hf) (pf2 hf)
      · skip
        replace hf := it_t c_9 hf
        refine lv_iconst (v := -1) hx hb dX8_store_39 (by decide) ?_
        exact grI hx hb hr hlocks hP hS dX8_store_40 (pf1 hf) (pf2 hf)
abbrev rX8_room : Room := { frames := 1, cells := 0, slots := 0, locals := 25 }
theorem hX8_room : yX8_room.cls ≠ "java/lang/invoke/MethodHandle" ∧ yX8_room.cls ≠ "java/lang/invoke/VarHandle" ∧ (parseMethodDescriptor yX8_room.desc).map (fun d => d.parameters.length) = some 1 := by decide +kernel
set_option maxHeartbeats 4000000 in
set_option maxRecDepth 100000 in
theorem mX8_room (l : Launch) (D : va_G) (am : Nat → Nat) (cm : Nat → ClassId) (u : UM) (a1 : Int32)  (r0 : Int32) (hok : fX8_room u a1 = some r0) : Met l yX8_room (Cond.code yX8_room cX8_room 6 (some .int) :: wsG) rX8_room (va_Pc [.ref (am 16), .int a1] (wI D (wM am cm) (mC D am cm) u)) (va_Qi (fun (r : Int32) (u' : UM) => r = r0 ∧ u' = u) (wB D (wM am cm)) (AM am)) 0 0 (AM am) := by
  refine Met.ofW (cc := cX8_room) (maxL := 6) (ret := (some .int)) (by decide) rfl ?_
  intro p e s m args below meth c s₁ B hml hv
  have hx := B.exec
  have hb := B.bytes
  have hr := B.returns
  have hts := atoms_spec (ws := (Cond.code yX8_room cX8_room 6 (some .int) :: wsG)) B.pre
  have hg : ∀ w ∈ wsG, w.before args s = true := fun w h => hts w (List.mem_cons_of_mem _ h)
  have hown : s.vm.findClass RX8 = some m.cls := findClass_of_methodNamed B.named
  have hlocks := B.notSynchronized
  obtain ⟨ha, hP, hC⟩ := hv
  obtain ⟨hK, hJ⟩ := id hC
  have hS : va_S (AM am) s.heap s.heap [] := va_S.rf
  refine W.eq (show entryFrame m args 6 = entryFrame m ([.ref (am 16), .int a1] : List Value).toArray 6 by rw [ha]) ?_
  have hl := lv_entry ([.ref (am 16), .int a1]) (n := 6) (Nat.le_of_ble_eq_true rfl)
  rw [lg_entry_eq]
  generalize (lg_sl ([.ref (am 16), .int a1]) ++ List.replicate (6 - (lg_sl ([.ref (am 16), .int a1])).length) Slot.unset).toArray = ls at hl ⊢
  have hl : lv_has ls 6 [(0, .ref (am 16)), (1, .int a1)] := hl
  show W p l e rX8_room s m args below meth c s.heap [] 0 0 (MQ below (va_Qi (fun (r : Int32) (u' : UM) => r = r0 ∧ u' = u) (wB D (wM am cm)) (AM am)) args s 0 0 (AM am)) (F0 m 0 ls [])
  have hf := hok
  unfold fX8_room at hf
  refine lv_aload_n hx hb dX8_room_0 rfl (lv_at hl 0 rfl) ?_
  refine lv_iconst (v := 0) hx hb dX8_room_1 (by decide) ?_
  refine m_putZ hx hb hg hown hK hP hJ hS (hg _ kw_500) dX8_room_2 (fun H locs hP hS => ?_)
  refine lv_iload_n hx hb dX8_room_5 rfl (lv_at hl 1 rfl) ?_
  refine lv_i2l hx hb dX8_room_6 rfl ?_
  refine lv_lconst (v := 0) hx hb dX8_room_7 (by decide) ?_
  refine lv_lconst (v := 1) hx hb dX8_room_8 (by decide) ?_
  obtain ⟨r_1, hc_2, hf⟩ := bd_ok hf
  refine gcFi 3 ⟨hx, hb, hml, hown, hts⟩ (mX8_in l a1.toInt64 ((0 : Int64)) ((1 : Int64)) r_1 hc_2) (gG kw_569) kw_567 kw_568 kw_28 hX8_in ⟨rfl, rfl⟩ ⟨Nat.le_of_ble_eq_true rfl, Nat.le_of_ble_eq_true rfl⟩ ⟨Nat.zero_le _, Nat.zero_le _⟩ rfl hl.1 rfl (Nat.le_of_ble_eq_true rfl) dX8_room_9 ?_
  refine lv_if_ne (tgt := 17) hx hb dX8_room_12 (by decide) (fun c_3 => ?_) (fun c_3 => ?_)
  · skip
    replace hf := it_f c_3 hf
    refine lv_iconst (v := 0) hx hb dX8_room_17 (by decide) ?_
    refine lv_istore_n (lv' := [(2, .int ((0 : Int32))), (0, .ref (am 16)), (1, .int a1)]) hx hb dX8_room_18 rfl hl (by decide) rfl (fun ls hl => ?_)
    refine lv_iconst (v := 0) hx hb dX8_room_19 (by decide) ?_
    refine lv_istore_n (lv' := [(3, .int ((0 : Int32))), (2, .int ((0 : Int32))), (0, .ref (am 16)), (1, .int a1)]) hx hb dX8_room_20 rfl hl (by decide) rfl (fun ls hl => ?_)
    refine lv_iconst (v := 0) hx hb dX8_room_21 (by decide) ?_
    refine lv_istore (lv' := [(4, .int ((0 : Int32))), (3, .int ((0 : Int32))), (2, .int ((0 : Int32))), (0, .ref (am 16)), (1, .int a1)]) hx hb dX8_room_22 hl (by decide) rfl (fun ls hl => ?_)
    refine lv_iconst (v := 0) hx hb dX8_room_24 (by decide) ?_
    refine lv_istore (lv' := [(5, .int ((0 : Int32))), (4, .int ((0 : Int32))), (3, .int ((0 : Int32))), (2, .int ((0 : Int32))), (0, .ref (am 16)), (1, .int a1)]) hx hb dX8_room_25 hl (by decide) rfl (fun ls hl => ?_)
    have hL_5 : ∀ (nf : Nat) (y2_k_4 : Int32) (y3_k_4 : Int32) (y4_k_4 : Int32) (y5_k_4 : Int32) (H : Heap) (locs : List Loc) (ls : Array Slot) (t : Int32 × Int32), va_P D vwCl (wM am cm u) H → va_S (AM am) s.heap H locs → lv_has ls 6 [(0, .ref (am 16)), (1, .int a1), (2, .int y2_k_4), (3, .int y3_k_4), (4, .int y4_k_4), (5, .int y5_k_4)] → fX8_room_27 u nf y2_k_4 y3_k_4 y4_k_4 y5_k_4 = some t → (∀ (H : Heap) (locs : List Loc) (ls : Array Slot), va_P D vwCl (wM am cm u) H → va_S (AM am) s.heap H locs → lv_has ls 6 [(1, .int a1), (3, .int t.1), (4, .int t.2)] → W p l e rX8_room s m args below meth c H locs 0 0 (MQ below (va_Qi (fun (r : Int32) (u' : UM) => r = r0 ∧ u' = u) (wB D (wM am cm)) (AM am)) args s 0 0 (AM am)) (F0 m 91 ls [])) → W p l e rX8_room s m args below meth c H locs 0 0 (MQ below (va_Qi (fun (r : Int32) (u' : UM) => r = r0 ∧ u' = u) (wB D (wM am cm)) (AM am)) args s 0 0 (AM am)) (F0 m 27 ls []) := by
      intro nf
      induction nf with
      | zero => intro y2_k_4 y3_k_4 y4_k_4 y5_k_4 H locs ls t hP hS hl hf hK'; rw [fX8_room_27] at hf; cases hf
      | succ nf ih =>
        intro y2_k_4 y3_k_4 y4_k_4 y5_k_4 H locs ls t hP hS hl hf hK'
        rw [fX8_room_27] at hf
        refine lv_iload hx hb dX8_room_27 (lv_at hl 5 rfl) ?_
        refine lv_bipush (v := 24) hx hb dX8_room_29 (by decide) ?_
        refine lv_icmp_ge (tgt := 91) hx hb dX8_room_31 (by decide) (fun c_6 => ?_) (fun c_6 => ?_)
        · skip
          replace hf := it_t c_6 hf
          have ht := Option.some.inj hf
          subst ht
          exact hK' _ _ _ hP hS (lv_sub hl [1, 3, 4] rfl)
        · skip
          replace hf := it_f c_6 hf
          refine lv_iload_n hx hb dX8_room_34 rfl (lv_at hl 2 rfl) ?_
          refine lv_aload_n hx hb dX8_room_35 rfl (lv_at hl 0 rfl) ?_
          refine va_get (D := D) (ci := 7) (v := .ref (am 9)) (C := RX8) (T := TX8) (N := 20) hx hb hg inG_X8 hown hK hP 16 m_o16 rfl 16 (by decide) (hg _ kw_516) (fun _ h9 => h9) rfl dX8_room_36 ?_
          refine lv_iconst (v := 2) hx hb dX8_room_39 (by decide) ?_
          refine lv_iload hx hb dX8_room_40 (lv_at hl 5 rfl) ?_
          refine lv_imul hx hb dX8_room_42 ?_
          obtain ⟨hb_7, hf⟩ := gd_ok hf
          refine m_iald hx hb hK hP (by decide) (by decide) rfl hb_7 dX8_room_43 ?_
          refine lv_iadd hx hb dX8_room_44 ?_
          refine lv_istore_n (lv' := [(2, .int (y2_k_4 + (u.1 9 (((2 : Int32)) * y5_k_4).toNatClampNeg))), (0, .ref (am 16)), (1, .int a1), (3, .int y3_k_4), (4, .int y4_k_4), (5, .int y5_k_4)]) hx hb dX8_room_45 rfl hl (by decide) rfl (fun ls hl => ?_)
          refine lv_iload_n hx hb dX8_room_46 rfl (lv_at hl 0 rfl) ?_
          refine lv_iload hx hb dX8_room_47 (lv_at hl 4 rfl) ?_
          obtain ⟨t_8, hq_9, hf⟩ := bd_ok hf
          have hJ_10 : ∀ (H : Heap) (locs : List Loc) (ls : Array Slot), va_P D vwCl (wM am cm u) H → va_S (AM am) s.heap H locs → lv_has ls 6 [(0, .ref (am 16)), (1, .int a1), (2, .int (y2_k_4 + (u.1 9 (((2 : Int32)) * y5_k_4).toNatClampNeg))), (3, .int y3_k_4), (5, .int y5_k_4)] → W p l e rX8_room s m args below meth c H locs 0 0 (MQ below (va_Qi (fun (r : Int32) (u' : UM) => r = r0 ∧ u' = u) (wB D (wM am cm)) (AM am)) args s 0 0 (AM am)) (F0 m 58 ls [.int t_8]) := by
            intro H locs ls hP hS hl
            refine lv_istore (lv' := [(4, .int t_8), (0, .ref (am 16)), (1, .int a1), (2, .int (y2_k_4 + (u.1 9 (((2 : Int32)) * y5_k_4).toNatClampNeg))), (3, .int y3_k_4), (5, .int y5_k_4)]) hx hb dX8_room_58 hl (by decide) rfl (fun ls hl => ?_)
            refine lv_iload_n hx hb dX8_room_60 rfl (lv_at hl 3 rfl) ?_
            refine lv_aload_n hx hb dX8_room_61 rfl (lv_at hl 1 rfl) ?_
            refine va_get (D := D) (ci := 7) (v := .ref (am 9)) (C := RX8) (T := TX8) (N := 20) hx hb hg inG_X8 hown hK hP 16 m_o16 rfl 16 (by decide) (hg _ kw_516) (fun _ h9 => h9) rfl dX8_room_62 ?_
            refine lv_iconst (v := 2) hx hb dX8_room_65 (by decide) ?_
            refine lv_iload hx hb dX8_room_66 (lv_at hl 5 rfl) ?_
            refine lv_imul hx hb dX8_room_68 ?_
            refine lv_iconst (v := 1) hx hb dX8_room_69 (by decide) ?_
            refine lv_iadd hx hb dX8_room_70 ?_
            obtain ⟨hb_11, hf⟩ := gd_ok hf
            refine m_iald hx hb hK hP (by decide) (by decide) rfl hb_11 dX8_room_71 ?_
            refine lv_isub hx hb dX8_room_72 ?_
            refine lv_istore_n (lv' := [(2, .int ((y2_k_4 + (u.1 9 (((2 : Int32)) * y5_k_4).toNatClampNeg)) - (u.1 9 ((((2 : Int32)) * y5_k_4) + ((1 : Int32))).toNatClampNeg))), (4, .int t_8), (0, .ref (am 16)), (1, .int a1), (3, .int y3_k_4), (5, .int y5_k_4)]) hx hb dX8_room_73 rfl hl (by decide) rfl (fun ls hl => ?_)
            refine lv_iload_n hx hb dX8_room_74 rfl (lv_at hl 0 rfl) ?_
            refine lv_iload_n hx hb dX8_room_75 rfl (lv_at hl 4 rfl) ?_
            refine lv_icmp_ge (tgt := 83) hx hb dX8_room_76 (by decide) (fun c_12 => ?_) (fun c_12 => ?_)
            · skip
              replace hf := it_t c_12 hf
              refine lv_iload_n hx hb dX8_room_83 rfl (lv_at hl 4 rfl) ?_
              refine lv_istore_n (lv' := [(3, .int y3_k_4), (2, .int ((y2_k_4 + (u.1 9 (((2 : Int32)) * y5_k_4).toNatClampNeg)) - (u.1 9 ((((2 : Int32)) * y5_k_4) + ((1 : Int32))).toNatClampNeg))), (4, .int t_8), (0, .ref (am 16)), (1, .int a1), (5, .int y5_k_4)]) hx hb dX8_room_84 rfl hl (by decide) rfl (fun ls hl => ?_)
              refine lv_iinc (v := y5_k_4 + 1) (lv' := [(5, .int (y5_k_4 + 1)), (3, .int y3_k_4), (2, .int ((y2_k_4 + (u.1 9 (((2 : Int32)) * y5_k_4).toNatClampNeg)) - (u.1 9 ((((2 : Int32)) * y5_k_4) + ((1 : Int32))).toNatClampNeg))), (4, .int t_8), (0, .ref (am 16)), (1, .int a1)]) hx hb dX8_room_85 hl (k := 5) rfl rfl (by decide) rfl (fun ls hl => ?_)
              refine lv_goto (tgt := 27) hx hb dX8_room_88 (by decide) ?_
              exact ih _ _ _ _ _ _ _ t hP hS (lv_sub hl [4, 5, 2, 1, 3, 0] rfl) hf hK'
            · skip
              replace hf := it_f c_12 hf
              refine lv_iload_n hx hb dX8_room_79 rfl (lv_at hl 0 rfl) ?_
              refine lv_goto (tgt := 84) hx hb dX8_room_80 (by decide) ?_
              refine lv_istore_n (lv' := [(3, .int ((y2_k_4 + (u.1 9 (((2 : Int32)) * y5_k_4).toNatClampNeg)) - (u.1 9 ((((2 : Int32)) * y5_k_4) + ((1 : Int32))).toNatClampNeg))), (2, .int ((y2_k_4 + (u.1 9 (((2 : Int32)) * y5_k_4).toNatClampNeg)) - (u.1 9 ((((2 : Int32)) * y5_k_4) + ((1 : Int32))).toNatClampNeg))), (4, .int t_8), (0, .ref (am 16)), (1, .int a1), (5, .int y5_k_4)]) hx hb dX8_room_84 rfl hl (by decide) rfl (fun ls hl => ?_)
              refine lv_iinc (v := y5_k_4 + 1) (lv' := [(5, .int (y5_k_4 + 1)), (3, .int ((y2_k_4 + (u.1 9 (((2 : Int32)) * y5_k_4).toNatClampNeg)) - (u.1 9 ((((2 : Int32)) * y5_k_4) + ((1 : Int32))).toNatClampNeg))), (2, .int ((y2_k_4 + (u.1 9 (((2 : Int32)) * y5_k_4).toNatClampNeg)) - (u.1 9 ((((2 : Int32)) * y5_k_4) + ((1 : Int32))).toNatClampNeg))), (4, .int t_8), (0, .ref (am 16)), (1, .int a1)]) hx hb dX8_room_85 hl (k := 5) rfl rfl (by decide) rfl (fun ls hl => ?_)
              refine lv_goto (tgt := 27) hx hb dX8_room_88 (by decide) ?_
              exact ih _ _ _ _ _ _ _ t hP hS (lv_sub hl [4, 5, 2, 1, 3, 0] rfl) hf hK'
          clear hf
          have hf := hq_9
          refine lv_icmp_le (tgt := 56) hx hb dX8_room_49 (by decide) (fun c_13 => ?_) (fun c_13 => ?_)
          · skip
            replace hf := it_t c_13 hf
            refine lv_iload hx hb dX8_room_56 (lv_at hl 4 rfl) ?_
            have ht := Option.some.inj hf
            subst ht
            exact hJ_10 _ _ _ hP hS (lv_sub hl [1, 2, 0, 3, 5] rfl)
          · skip
            replace hf := it_f c_13 hf
            refine lv_iload_n hx hb dX8_room_52 rfl (lv_at hl 0 rfl) ?_
            refine lv_goto (tgt := 58) hx hb dX8_room_53 (by decide) ?_
            have ht := Option.some.inj hf
            subst ht
            exact hJ_10 _ _ _ hP hS (lv_sub hl [1, 2, 0, 3, 5] rfl)
    obtain ⟨t_14, hq_15, hf⟩ := bd_ok hf
    refine hL_5 FU _ _ _ _ _ _ _ t_14 hP hS (lv_sub hl [4, 5, 3, 2, 1, 0] rfl) hq_15 (fun H locs ls hP hS hl => ?_)
    refine lv_iload_n hx hb dX8_room_91 rfl (lv_at hl 0 rfl) ?_
    refine lv_if_ne (tgt := 100) hx hb dX8_room_92 (by decide) (fun c_16 => ?_) (fun c_16 => ?_)
    · skip
      replace hf := it_f c_16 hf
      refine lv_iload hx hb dX8_room_100 (lv_at hl 2 rfl) ?_
      refine lv_iload_n hx hb dX8_room_102 rfl (lv_at hl 1 rfl) ?_
      refine lv_isub hx hb dX8_room_103 ?_
      exact grI hx hb hr hlocks hP hS dX8_room_104 (Option.some.inj hf) rfl
    · skip
      replace hf := it_t c_16 hf
      refine lv_iload_n hx hb dX8_room_95 rfl (lv_at hl 1 rfl) ?_
      refine lv_ineg hx hb dX8_room_96 ?_
      refine lv_goto (tgt := 104) hx hb dX8_room_97 (by decide) ?_
      exact grI hx hb hr hlocks hP hS dX8_room_104 (Option.some.inj hf) rfl
  · skip
    replace hf := it_t c_3 hf
    refine lv_iconst (v := -1) hx hb dX8_room_15 (by decide) ?_
    exact grI hx hb hr hlocks hP hS dX8_room_16 (Option.some.inj hf) rfl
abbrev rX8_meter : Room := { frames := 0, cells := 0, slots := 0, locals := 0 }
theorem hX8_meter : yX8_meter.cls ≠ "java/lang/invoke/MethodHandle" ∧ yX8_meter.cls ≠ "java/lang/invoke/VarHandle" ∧ (parseMethodDescriptor yX8_meter.desc).map (fun d => d.parameters.length) = some 1 := by decide +kernel
set_option maxHeartbeats 4000000 in
set_option maxRecDepth 100000 in
theorem mX8_meter (l : Launch) (D : va_G) (am : Nat → Nat) (cm : Nat → ClassId) (u : UM) (a1 : Int32)  (ru : Int32 × UM) (hok : fX8_meter u a1 = some ru) : Met l yX8_meter (Cond.code yX8_meter cX8_meter 2 (some .int) :: wsG) rX8_meter (va_Pc [.ref (am 16), .int a1] (wI D (wM am cm) (mC D am cm) u)) (va_Qi (fun (r : Int32) (u' : UM) => r = ru.1 ∧ u' = ru.2) (wB D (wM am cm)) (AM am)) 0 0 (AM am) := by
  refine Met.ofW (cc := cX8_meter) (maxL := 2) (ret := (some .int)) (by decide) rfl ?_
  intro p e s m args below meth c s₁ B hml hv
  have hx := B.exec
  have hb := B.bytes
  have hr := B.returns
  have hts := atoms_spec (ws := (Cond.code yX8_meter cX8_meter 2 (some .int) :: wsG)) B.pre
  have hg : ∀ w ∈ wsG, w.before args s = true := fun w h => hts w (List.mem_cons_of_mem _ h)
  have hown : s.vm.findClass RX8 = some m.cls := findClass_of_methodNamed B.named
  have hlocks := B.notSynchronized
  obtain ⟨ha, hP, hC⟩ := hv
  obtain ⟨hK, hJ⟩ := id hC
  have hS : va_S (AM am) s.heap s.heap [] := va_S.rf
  refine W.eq (show entryFrame m args 2 = entryFrame m ([.ref (am 16), .int a1] : List Value).toArray 2 by rw [ha]) ?_
  have hl := lv_entry ([.ref (am 16), .int a1]) (n := 2) (Nat.le_of_ble_eq_true rfl)
  rw [lg_entry_eq]
  generalize (lg_sl ([.ref (am 16), .int a1]) ++ List.replicate (2 - (lg_sl ([.ref (am 16), .int a1])).length) Slot.unset).toArray = ls at hl ⊢
  have hl : lv_has ls 2 [(0, .ref (am 16)), (1, .int a1)] := hl
  show W p l e rX8_meter s m args below meth c s.heap [] 0 0 (MQ below (va_Qi (fun (r : Int32) (u' : UM) => r = ru.1 ∧ u' = ru.2) (wB D (wM am cm)) (AM am)) args s 0 0 (AM am)) (F0 m 0 ls [])
  have hf := hok
  unfold fX8_meter at hf
  refine lv_aload_n hx hb dX8_meter_0 rfl (lv_at hl 0 rfl) ?_
  refine lv_iconst (v := 0) hx hb dX8_meter_1 (by decide) ?_
  refine m_putZ hx hb hg hown hK hP hJ hS (hg _ kw_500) dX8_meter_2 (fun H locs hP hS => ?_)
  refine lv_iload_n hx hb dX8_meter_5 rfl (lv_at hl 1 rfl) ?_
  refine lv_iconst (v := 1) hx hb dX8_meter_6 (by decide) ?_
  refine lv_icmp_eq (tgt := 17) hx hb dX8_meter_7 (by decide) (fun c_1 => ?_) (fun c_1 => ?_)
  · skip
    replace hf := it_t c_1 hf
    refine lv_aload_n hx hb dX8_meter_17 rfl (lv_at hl 0 rfl) ?_
    refine va_get (D := D) (ci := 7) (v := .int u.2.2.2.2) (C := RX8) (T := TX8) (N := 20) hx hb hg inG_X8 hown hK hP 16 m_o16 rfl 17 (by decide) (hg _ kw_517) (fun _ h9 => h9) rfl dX8_meter_18 ?_
    refine lv_bipush (v := 8) hx hb dX8_meter_21 (by decide) ?_
    refine lv_icmp_ne (tgt := 29) hx hb dX8_meter_23 (by decide) (fun c_2 => ?_) (fun c_2 => ?_)
    · skip
      replace hf := it_f c_2 hf
      refine lv_aload_n hx hb dX8_meter_29 rfl (lv_at hl 0 rfl) ?_
      refine va_get (D := D) (ci := 7) (v := .ref (am 10)) (C := RX8) (T := TX8) (N := 20) hx hb hg inG_X8 hown hK hP 16 m_o16 rfl 18 (by decide) (hg _ kw_518) (fun _ h9 => h9) rfl dX8_meter_30 ?_
      refine lv_aload_n hx hb dX8_meter_33 rfl (lv_at hl 0 rfl) ?_
      refine va_get (D := D) (ci := 7) (v := .int u.2.2.2.2) (C := RX8) (T := TX8) (N := 20) hx hb hg inG_X8 hown hK hP 16 m_o16 rfl 17 (by decide) (hg _ kw_517) (fun _ h9 => h9) rfl dX8_meter_34 ?_
      refine lv_iload_n hx hb dX8_meter_37 rfl (lv_at hl 1 rfl) ?_
      obtain ⟨hb_3, hf⟩ := gd_ok hf
      refine m_iast hx hb hK hP hJ hS (by decide) (by decide) rfl hb_3 dX8_meter_38 (fun H locs hP hS => ?_)
      refine lv_aload_n hx hb dX8_meter_39 rfl (lv_at hl 0 rfl) ?_
      refine va_get (D := D) (ci := 7) (v := .ref (am 11)) (C := RX8) (T := TX8) (N := 20) hx hb hg inG_X8 hown hK hP 16 m_o16 rfl 19 (by decide) (hg _ kw_519) (fun _ h9 => h9) rfl dX8_meter_40 ?_
      refine lv_aload_n hx hb dX8_meter_43 rfl (lv_at hl 0 rfl) ?_
      refine va_get (D := D) (ci := 7) (v := .int ((mst u 10 u.2.2.2.2.toNatClampNeg a1).2.2.2.2)) (C := RX8) (T := TX8) (N := 20) hx hb hg inG_X8 hown hK hP 16 m_o16 rfl 17 (by decide) (hg _ kw_517) (fun _ h9 => h9) rfl dX8_meter_44 ?_
      refine lv_bipush (v := -9) hx hb dX8_meter_47 (by decide) ?_
      obtain ⟨hb_4, hf⟩ := gd_ok hf
      refine m_iast hx hb hK hP hJ hS (by decide) (by decide) rfl hb_4 dX8_meter_49 (fun H locs hP hS => ?_)
      refine lv_aload_n hx hb dX8_meter_50 rfl (lv_at hl 0 rfl) ?_
      refine lv_dup hx hb dX8_meter_51 rfl ?_
      refine va_get (D := D) (ci := 7) (v := .int ((mst (mst u 10 u.2.2.2.2.toNatClampNeg a1) 11 ((mst u 10 u.2.2.2.2.toNatClampNeg a1).2.2.2.2).toNatClampNeg ((-9 : Int32))).2.2.2.2)) (C := RX8) (T := TX8) (N := 20) hx hb hg inG_X8 hown hK hP 16 m_o16 rfl 17 (by decide) (hg _ kw_517) (fun _ h9 => h9) rfl dX8_meter_52 ?_
      refine lv_iconst (v := 1) hx hb dX8_meter_55 (by decide) ?_
      refine lv_iadd hx hb dX8_meter_56 ?_
      refine m_putM hx hb hg hown hK hP hJ hS (hg _ kw_517) dX8_meter_57 (fun H locs hP hS => ?_)
      refine lv_aload_n hx hb dX8_meter_60 rfl (lv_at hl 0 rfl) ?_
      refine va_get (D := D) (ci := 7) (v := .int ((mms (mst (mst u 10 u.2.2.2.2.toNatClampNeg a1) 11 ((mst u 10 u.2.2.2.2.toNatClampNeg a1).2.2.2.2).toNatClampNeg ((-9 : Int32))) (((mst (mst u 10 u.2.2.2.2.toNatClampNeg a1) 11 ((mst u 10 u.2.2.2.2.toNatClampNeg a1).2.2.2.2).toNatClampNeg ((-9 : Int32))).2.2.2.2) + ((1 : Int32)))).2.2.2.2)) (C := RX8) (T := TX8) (N := 20) hx hb hg inG_X8 hown hK hP 16 m_o16 rfl 17 (by decide) (hg _ kw_517) (fun _ h9 => h9) rfl dX8_meter_61 ?_
      refine lv_iconst (v := 1) hx hb dX8_meter_64 (by decide) ?_
      refine lv_isub hx hb dX8_meter_65 ?_
      exact grI hx hb hr hlocks hP hS dX8_meter_66 (pf1 hf) (pf2 hf)
    · skip
      replace hf := it_t c_2 hf
      refine lv_bipush (v := -3) hx hb dX8_meter_26 (by decide) ?_
      exact grI hx hb hr hlocks hP hS dX8_meter_28 (pf1 hf) (pf2 hf)
  · skip
    replace hf := it_f c_1 hf
    refine lv_iload_n hx hb dX8_meter_10 rfl (lv_at hl 1 rfl) ?_
    refine lv_iconst (v := -1) hx hb dX8_meter_11 (by decide) ?_
    refine lv_icmp_eq (tgt := 17) hx hb dX8_meter_12 (by decide) (fun c_5 => ?_) (fun c_5 => ?_)
    · skip
      replace hf := it_t c_5 hf
      refine lv_aload_n hx hb dX8_meter_17 rfl (lv_at hl 0 rfl) ?_
      refine va_get (D := D) (ci := 7) (v := .int u.2.2.2.2) (C := RX8) (T := TX8) (N := 20) hx hb hg inG_X8 hown hK hP 16 m_o16 rfl 17 (by decide) (hg _ kw_517) (fun _ h9 => h9) rfl dX8_meter_18 ?_
      refine lv_bipush (v := 8) hx hb dX8_meter_21 (by decide) ?_
      refine lv_icmp_ne (tgt := 29) hx hb dX8_meter_23 (by decide) (fun c_6 => ?_) (fun c_6 => ?_)
      · skip
        replace hf := it_f c_6 hf
        refine lv_aload_n hx hb dX8_meter_29 rfl (lv_at hl 0 rfl) ?_
        refine va_get (D := D) (ci := 7) (v := .ref (am 10)) (C := RX8) (T := TX8) (N := 20) hx hb hg inG_X8 hown hK hP 16 m_o16 rfl 18 (by decide) (hg _ kw_518) (fun _ h9 => h9) rfl dX8_meter_30 ?_
        refine lv_aload_n hx hb dX8_meter_33 rfl (lv_at hl 0 rfl) ?_
        refine va_get (D := D) (ci := 7) (v := .int u.2.2.2.2) (C := RX8) (T := TX8) (N := 20) hx hb hg inG_X8 hown hK hP 16 m_o16 rfl 17 (by decide) (hg _ kw_517) (fun _ h9 => h9) rfl dX8_meter_34 ?_
        refine lv_iload_n hx hb dX8_meter_37 rfl (lv_at hl 1 rfl) ?_
        obtain ⟨hb_7, hf⟩ := gd_ok hf
        refine m_iast hx hb hK hP hJ hS (by decide) (by decide) rfl hb_7 dX8_meter_38 (fun H locs hP hS => ?_)
        refine lv_aload_n hx hb dX8_meter_39 rfl (lv_at hl 0 rfl) ?_
        refine va_get (D := D) (ci := 7) (v := .ref (am 11)) (C := RX8) (T := TX8) (N := 20) hx hb hg inG_X8 hown hK hP 16 m_o16 rfl 19 (by decide) (hg _ kw_519) (fun _ h9 => h9) rfl dX8_meter_40 ?_
        refine lv_aload_n hx hb dX8_meter_43 rfl (lv_at hl 0 rfl) ?_
        refine va_get (D := D) (ci := 7) (v := .int ((mst u 10 u.2.2.2.2.toNatClampNeg a1).2.2.2.2)) (C := RX8) (T := TX8) (N := 20) hx hb hg inG_X8 hown hK hP 16 m_o16 rfl 17 (by decide) (hg _ kw_517) (fun _ h9 => h9) rfl dX8_meter_44 ?_
        refine lv_bipush (v := -9) hx hb dX8_meter_47 (by decide) ?_
        obtain ⟨hb_8, hf⟩ := gd_ok hf
        refine m_iast hx hb hK hP hJ hS (by decide) (by decide) rfl hb_8 dX8_meter_49 (fun H locs hP hS => ?_)
        refine lv_aload_n hx hb dX8_meter_50 rfl (lv_at hl 0 rfl) ?_
        refine lv_dup hx hb dX8_meter_51 rfl ?_
        refine va_get (D := D) (ci := 7) (v := .int ((mst (mst u 10 u.2.2.2.2.toNatClampNeg a1) 11 ((mst u 10 u.2.2.2.2.toNatClampNeg a1).2.2.2.2).toNatClampNeg ((-9 : Int32))).2.2.2.2)) (C := RX8) (T := TX8) (N := 20) hx hb hg inG_X8 hown hK hP 16 m_o16 rfl 17 (by decide) (hg _ kw_517) (fun _ h9 => h9) rfl dX8_meter_52 ?_
        refine lv_iconst (v := 1) hx hb dX8_meter_55 (by decide) ?_
        refine lv_iadd hx hb dX8_meter_56 ?_
        refine m_putM hx hb hg hown hK hP hJ hS (hg _ kw_517) dX8_meter_57 (fun H locs hP hS => ?_)
        refine lv_aload_n hx hb dX8_meter_60 rfl (lv_at hl 0 rfl) ?_
        refine va_get (D := D) (ci := 7) (v := .int ((mms (mst (mst u 10 u.2.2.2.2.toNatClampNeg a1) 11 ((mst u 10 u.2.2.2.2.toNatClampNeg a1).2.2.2.2).toNatClampNeg ((-9 : Int32))) (((mst (mst u 10 u.2.2.2.2.toNatClampNeg a1) 11 ((mst u 10 u.2.2.2.2.toNatClampNeg a1).2.2.2.2).toNatClampNeg ((-9 : Int32))).2.2.2.2) + ((1 : Int32)))).2.2.2.2)) (C := RX8) (T := TX8) (N := 20) hx hb hg inG_X8 hown hK hP 16 m_o16 rfl 17 (by decide) (hg _ kw_517) (fun _ h9 => h9) rfl dX8_meter_61 ?_
        refine lv_iconst (v := 1) hx hb dX8_meter_64 (by decide) ?_
        refine lv_isub hx hb dX8_meter_65 ?_
        exact grI hx hb hr hlocks hP hS dX8_meter_66 (pf1 hf) (pf2 hf)
      · skip
        replace hf := it_t c_6 hf
        refine lv_bipush (v := -3) hx hb dX8_meter_26 (by decide) ?_
        exact grI hx hb hr hlocks hP hS dX8_meter_28 (pf1 hf) (pf2 hf)
    · skip
      replace hf := it_f c_5 hf
      refine lv_iconst (v := -1) hx hb dX8_meter_15 (by decide) ?_
      exact grI hx hb hr hlocks hP hS dX8_meter_16 (pf1 hf) (pf2 hf)
abbrev rX8_isMeter : Room := { frames := 1, cells := 0, slots := 0, locals := 25 }
theorem hX8_isMeter : yX8_isMeter.cls ≠ "java/lang/invoke/MethodHandle" ∧ yX8_isMeter.cls ≠ "java/lang/invoke/VarHandle" ∧ (parseMethodDescriptor yX8_isMeter.desc).map (fun d => d.parameters.length) = some 1 := by decide +kernel
set_option maxHeartbeats 4000000 in
set_option maxRecDepth 100000 in
theorem mX8_isMeter (l : Launch) (D : va_G) (am : Nat → Nat) (cm : Nat → ClassId) (u : UM) (a1 : Int32)  (r0 : Int32) (hok : fX8_isMeter u a1 = some r0) : Met l yX8_isMeter (Cond.code yX8_isMeter cX8_isMeter 2 (some .boolean) :: wsG) rX8_isMeter (va_Pc [.ref (am 16), .int a1] (wI D (wM am cm) (mC D am cm) u)) (va_Qi (fun (r : Int32) (u' : UM) => r = r0 ∧ u' = u) (wB D (wM am cm)) (AM am)) 0 0 (AM am) := by
  refine Met.ofW (cc := cX8_isMeter) (maxL := 2) (ret := (some .boolean)) (by decide) rfl ?_
  intro p e s m args below meth c s₁ B hml hv
  have hx := B.exec
  have hb := B.bytes
  have hr := B.returns
  have hts := atoms_spec (ws := (Cond.code yX8_isMeter cX8_isMeter 2 (some .boolean) :: wsG)) B.pre
  have hg : ∀ w ∈ wsG, w.before args s = true := fun w h => hts w (List.mem_cons_of_mem _ h)
  have hown : s.vm.findClass RX8 = some m.cls := findClass_of_methodNamed B.named
  have hlocks := B.notSynchronized
  obtain ⟨ha, hP, hC⟩ := hv
  obtain ⟨hK, hJ⟩ := id hC
  have hS : va_S (AM am) s.heap s.heap [] := va_S.rf
  refine W.eq (show entryFrame m args 2 = entryFrame m ([.ref (am 16), .int a1] : List Value).toArray 2 by rw [ha]) ?_
  have hl := lv_entry ([.ref (am 16), .int a1]) (n := 2) (Nat.le_of_ble_eq_true rfl)
  rw [lg_entry_eq]
  generalize (lg_sl ([.ref (am 16), .int a1]) ++ List.replicate (2 - (lg_sl ([.ref (am 16), .int a1])).length) Slot.unset).toArray = ls at hl ⊢
  have hl : lv_has ls 2 [(0, .ref (am 16)), (1, .int a1)] := hl
  show W p l e rX8_isMeter s m args below meth c s.heap [] 0 0 (MQ below (va_Qi (fun (r : Int32) (u' : UM) => r = r0 ∧ u' = u) (wB D (wM am cm)) (AM am)) args s 0 0 (AM am)) (F0 m 0 ls [])
  have hf := hok
  unfold fX8_isMeter at hf
  refine lv_iload_n hx hb dX8_isMeter_0 rfl (lv_at hl 1 rfl) ?_
  refine lv_i2l hx hb dX8_isMeter_1 rfl ?_
  refine lv_lconst (v := 0) hx hb dX8_isMeter_2 (by decide) ?_
  refine lv_aload_n hx hb dX8_isMeter_3 rfl (lv_at hl 0 rfl) ?_
  refine va_get (D := D) (ci := 7) (v := .int u.2.2.2.2) (C := RX8) (T := TX8) (N := 20) hx hb hg inG_X8 hown hK hP 16 m_o16 rfl 17 (by decide) (hg _ kw_517) (fun _ h9 => h9) rfl dX8_isMeter_4 ?_
  refine lv_iconst (v := 1) hx hb dX8_isMeter_7 (by decide) ?_
  refine lv_isub hx hb dX8_isMeter_8 ?_
  refine lv_i2l hx hb dX8_isMeter_9 rfl ?_
  obtain ⟨r_1, hc_2, hf⟩ := bd_ok hf
  refine gcFi 3 ⟨hx, hb, hml, hown, hts⟩ (mX8_in l a1.toInt64 ((0 : Int64)) ((u.2.2.2.2 - ((1 : Int32))).toInt64) r_1 hc_2) (gG kw_569) kw_567 kw_568 kw_28 hX8_in ⟨rfl, rfl⟩ ⟨Nat.le_of_ble_eq_true rfl, Nat.le_of_ble_eq_true rfl⟩ ⟨Nat.zero_le _, Nat.zero_le _⟩ rfl hl.1 rfl (Nat.le_of_ble_eq_true rfl) dX8_isMeter_10 ?_
  obtain ⟨hb_3, hf⟩ := gd_ok hf
  exact grZ hx hb hr hlocks (isb_ok hb_3) hP hS dX8_isMeter_13 (Option.some.inj hf) rfl
abbrev rX8_read : Room := { frames := 2, cells := 0, slots := 0, locals := 46 }
theorem hX8_read : yX8_read.cls ≠ "java/lang/invoke/MethodHandle" ∧ yX8_read.cls ≠ "java/lang/invoke/VarHandle" ∧ (parseMethodDescriptor yX8_read.desc).map (fun d => d.parameters.length) = some 2 := by decide +kernel
set_option maxHeartbeats 4000000 in
set_option maxRecDepth 100000 in
theorem mX8_read (l : Launch) (D : va_G) (am : Nat → Nat) (cm : Nat → ClassId) (u : UM) (a1 : Int32) (a2 : Int32)  (ru : Int32 × UM) (hok : fX8_read u a1 a2 = some ru) : Met l yX8_read (Cond.code yX8_read cX8_read 4 (some .int) :: wsG) rX8_read (va_Pc [.ref (am 16), .int a1, .int a2] (wI D (wM am cm) (mC D am cm) u)) (va_Qi (fun (r : Int32) (u' : UM) => r = ru.1 ∧ u' = ru.2) (wB D (wM am cm)) (AM am)) 0 0 (AM am) := by
  refine Met.ofW (cc := cX8_read) (maxL := 4) (ret := (some .int)) (by decide) rfl ?_
  intro p e s m args below meth c s₁ B hml hv
  have hx := B.exec
  have hb := B.bytes
  have hr := B.returns
  have hts := atoms_spec (ws := (Cond.code yX8_read cX8_read 4 (some .int) :: wsG)) B.pre
  have hg : ∀ w ∈ wsG, w.before args s = true := fun w h => hts w (List.mem_cons_of_mem _ h)
  have hown : s.vm.findClass RX8 = some m.cls := findClass_of_methodNamed B.named
  have hlocks := B.notSynchronized
  obtain ⟨ha, hP, hC⟩ := hv
  obtain ⟨hK, hJ⟩ := id hC
  have hS : va_S (AM am) s.heap s.heap [] := va_S.rf
  refine W.eq (show entryFrame m args 4 = entryFrame m ([.ref (am 16), .int a1, .int a2] : List Value).toArray 4 by rw [ha]) ?_
  have hl := lv_entry ([.ref (am 16), .int a1, .int a2]) (n := 4) (Nat.le_of_ble_eq_true rfl)
  rw [lg_entry_eq]
  generalize (lg_sl ([.ref (am 16), .int a1, .int a2]) ++ List.replicate (4 - (lg_sl ([.ref (am 16), .int a1, .int a2])).length) Slot.unset).toArray = ls at hl ⊢
  have hl : lv_has ls 4 [(0, .ref (am 16)), (1, .int a1), (2, .int a2)] := hl
  show W p l e rX8_read s m args below meth c s.heap [] 0 0 (MQ below (va_Qi (fun (r : Int32) (u' : UM) => r = ru.1 ∧ u' = ru.2) (wB D (wM am cm)) (AM am)) args s 0 0 (AM am)) (F0 m 0 ls [])
  have hf := hok
  unfold fX8_read at hf
  refine lv_aload_n hx hb dX8_read_0 rfl (lv_at hl 0 rfl) ?_
  refine lv_iconst (v := 0) hx hb dX8_read_1 (by decide) ?_
  refine m_putZ hx hb hg hown hK hP hJ hS (hg _ kw_500) dX8_read_2 (fun H locs hP hS => ?_)
  refine lv_aload_n hx hb dX8_read_5 rfl (lv_at hl 0 rfl) ?_
  refine lv_iload_n hx hb dX8_read_6 rfl (lv_at hl 1 rfl) ?_
  obtain ⟨r_1, hc_2, hf⟩ := bd_ok hf
  refine gcVi 1 (mC_ok D am cm hJ) hC ⟨hx, hb, hml, hown, hts⟩ (mX8_isMeter l D am cm u a1 r_1 hc_2) (gG kw_692) kw_689 kw_691 kw_17 kw_28 hX8_isMeter ⟨rfl, rfl⟩ ⟨Nat.le_of_ble_eq_true rfl, Nat.le_of_ble_eq_true rfl⟩ (x_rec (C := RX8) (T := TX8) (N := 20) (ci := 7) hK hP rfl m_o16) hP hS ⟨Nat.zero_le _, Nat.zero_le _⟩ rfl hl.1 rfl (Nat.le_of_ble_eq_true rfl) dX8_read_7 (fun H locs hP hS => ?_)
  refine lv_if_eq (tgt := 31) hx hb dX8_read_10 (by decide) (fun c_3 => ?_) (fun c_3 => ?_)
  · skip
    replace hf := it_t c_3 hf
    refine lv_iconst (v := -1) hx hb dX8_read_31 (by decide) ?_
    exact grI hx hb hr hlocks hP hS dX8_read_32 (pf1 hf) (pf2 hf)
  · skip
    replace hf := it_f c_3 hf
    refine lv_iload_n hx hb dX8_read_13 rfl (lv_at hl 2 rfl) ?_
    refine lv_bipush (v := -9) hx hb dX8_read_14 (by decide) ?_
    refine lv_icmp_eq (tgt := 33) hx hb dX8_read_16 (by decide) (fun c_4 => ?_) (fun c_4 => ?_)
    · skip
      replace hf := it_t c_4 hf
      refine lv_aload_n hx hb dX8_read_33 rfl (lv_at hl 0 rfl) ?_
      refine va_get (D := D) (ci := 7) (v := .ref (am 11)) (C := RX8) (T := TX8) (N := 20) hx hb hg inG_X8 hown hK hP 16 m_o16 rfl 19 (by decide) (hg _ kw_519) (fun _ h9 => h9) rfl dX8_read_34 ?_
      refine lv_iload_n hx hb dX8_read_37 rfl (lv_at hl 1 rfl) ?_
      obtain ⟨hb_5, hf⟩ := gd_ok hf
      refine m_iald hx hb hK hP (by decide) (by decide) rfl hb_5 dX8_read_38 ?_
      refine lv_istore_n (lv' := [(3, .int (u.1 11 a1.toNatClampNeg)), (0, .ref (am 16)), (1, .int a1), (2, .int a2)]) hx hb dX8_read_39 rfl hl (by decide) rfl (fun ls hl => ?_)
      refine lv_aload_n hx hb dX8_read_40 rfl (lv_at hl 1 rfl) ?_
      refine va_get (D := D) (ci := 7) (v := .ref (am 11)) (C := RX8) (T := TX8) (N := 20) hx hb hg inG_X8 hown hK hP 16 m_o16 rfl 19 (by decide) (hg _ kw_519) (fun _ h9 => h9) rfl dX8_read_41 ?_
      refine lv_iload_n hx hb dX8_read_44 rfl (lv_at hl 2 rfl) ?_
      refine lv_iload_n hx hb dX8_read_45 rfl (lv_at hl 3 rfl) ?_
      refine m_iast hx hb hK hP hJ hS (by decide) (by decide) rfl hb_5 dX8_read_46 (fun H locs hP hS => ?_)
      refine lv_iload_n hx hb dX8_read_47 rfl (lv_at hl 0 rfl) ?_
      exact grI hx hb hr hlocks hP hS dX8_read_48 (pf1 hf) (pf2 hf)
    · skip
      replace hf := it_f c_4 hf
      refine lv_iload_n hx hb dX8_read_19 rfl (lv_at hl 2 rfl) ?_
      refine lv_i2l hx hb dX8_read_20 rfl ?_
      refine lv_lconst (v := 0) hx hb dX8_read_21 (by decide) ?_
      refine lv_ldc2 (v := 100000) hx hb hown (hg _ kw_693) dX8_read_22 ?_
      obtain ⟨r_6, hc_7, hf⟩ := bd_ok hf
      refine gcFi 3 ⟨hx, hb, hml, hown, hts⟩ (mX8_in l a2.toInt64 ((0 : Int64)) ((100000 : Int64)) r_6 hc_7) (gG kw_569) kw_567 kw_568 kw_28 hX8_in ⟨rfl, rfl⟩ ⟨Nat.le_of_ble_eq_true rfl, Nat.le_of_ble_eq_true rfl⟩ ⟨Nat.zero_le _, Nat.zero_le _⟩ rfl hl.1 rfl (Nat.le_of_ble_eq_true rfl) dX8_read_25 ?_
      refine lv_if_ne (tgt := 33) hx hb dX8_read_28 (by decide) (fun c_8 => ?_) (fun c_8 => ?_)
      · skip
        replace hf := it_f c_8 hf
        refine lv_aload_n hx hb dX8_read_33 rfl (lv_at hl 0 rfl) ?_
        refine va_get (D := D) (ci := 7) (v := .ref (am 11)) (C := RX8) (T := TX8) (N := 20) hx hb hg inG_X8 hown hK hP 16 m_o16 rfl 19 (by decide) (hg _ kw_519) (fun _ h9 => h9) rfl dX8_read_34 ?_
        refine lv_iload_n hx hb dX8_read_37 rfl (lv_at hl 1 rfl) ?_
        obtain ⟨hb_9, hf⟩ := gd_ok hf
        refine m_iald hx hb hK hP (by decide) (by decide) rfl hb_9 dX8_read_38 ?_
        refine lv_istore_n (lv' := [(3, .int (u.1 11 a1.toNatClampNeg)), (0, .ref (am 16)), (1, .int a1), (2, .int a2)]) hx hb dX8_read_39 rfl hl (by decide) rfl (fun ls hl => ?_)
        refine lv_aload_n hx hb dX8_read_40 rfl (lv_at hl 1 rfl) ?_
        refine va_get (D := D) (ci := 7) (v := .ref (am 11)) (C := RX8) (T := TX8) (N := 20) hx hb hg inG_X8 hown hK hP 16 m_o16 rfl 19 (by decide) (hg _ kw_519) (fun _ h9 => h9) rfl dX8_read_41 ?_
        refine lv_iload_n hx hb dX8_read_44 rfl (lv_at hl 2 rfl) ?_
        refine lv_iload_n hx hb dX8_read_45 rfl (lv_at hl 3 rfl) ?_
        refine m_iast hx hb hK hP hJ hS (by decide) (by decide) rfl hb_9 dX8_read_46 (fun H locs hP hS => ?_)
        refine lv_iload_n hx hb dX8_read_47 rfl (lv_at hl 0 rfl) ?_
        exact grI hx hb hr hlocks hP hS dX8_read_48 (pf1 hf) (pf2 hf)
      · skip
        replace hf := it_t c_8 hf
        refine lv_iconst (v := -1) hx hb dX8_read_31 (by decide) ?_
        exact grI hx hb hr hlocks hP hS dX8_read_32 (pf1 hf) (pf2 hf)
abbrev rX8_missing : Room := { frames := 0, cells := 0, slots := 0, locals := 0 }
theorem hX8_missing : yX8_missing.cls ≠ "java/lang/invoke/MethodHandle" ∧ yX8_missing.cls ≠ "java/lang/invoke/VarHandle" ∧ (parseMethodDescriptor yX8_missing.desc).map (fun d => d.parameters.length) = some 0 := by decide +kernel
set_option maxHeartbeats 4000000 in
set_option maxRecDepth 100000 in
theorem mX8_missing (l : Launch) (D : va_G) (am : Nat → Nat) (cm : Nat → ClassId) (u : UM)   (r0 : Int32) (hok : fX8_missing u = some r0) : Met l yX8_missing (Cond.code yX8_missing cX8_missing 3 (some .int) :: wsG) rX8_missing (va_Pc [.ref (am 16)] (wI D (wM am cm) (mC D am cm) u)) (va_Qi (fun (r : Int32) (u' : UM) => r = r0 ∧ u' = u) (wB D (wM am cm)) (AM am)) 0 0 (AM am) := by
  refine Met.ofW (cc := cX8_missing) (maxL := 3) (ret := (some .int)) (by decide) rfl ?_
  intro p e s m args below meth c s₁ B hml hv
  have hx := B.exec
  have hb := B.bytes
  have hr := B.returns
  have hts := atoms_spec (ws := (Cond.code yX8_missing cX8_missing 3 (some .int) :: wsG)) B.pre
  have hg : ∀ w ∈ wsG, w.before args s = true := fun w h => hts w (List.mem_cons_of_mem _ h)
  have hown : s.vm.findClass RX8 = some m.cls := findClass_of_methodNamed B.named
  have hlocks := B.notSynchronized
  obtain ⟨ha, hP, hC⟩ := hv
  obtain ⟨hK, hJ⟩ := id hC
  have hS : va_S (AM am) s.heap s.heap [] := va_S.rf
  refine W.eq (show entryFrame m args 3 = entryFrame m ([.ref (am 16)] : List Value).toArray 3 by rw [ha]) ?_
  have hl := lv_entry ([.ref (am 16)]) (n := 3) (Nat.le_of_ble_eq_true rfl)
  rw [lg_entry_eq]
  generalize (lg_sl ([.ref (am 16)]) ++ List.replicate (3 - (lg_sl ([.ref (am 16)])).length) Slot.unset).toArray = ls at hl ⊢
  have hl : lv_has ls 3 [(0, .ref (am 16))] := hl
  show W p l e rX8_missing s m args below meth c s.heap [] 0 0 (MQ below (va_Qi (fun (r : Int32) (u' : UM) => r = r0 ∧ u' = u) (wB D (wM am cm)) (AM am)) args s 0 0 (AM am)) (F0 m 0 ls [])
  have hf := hok
  unfold fX8_missing at hf
  refine lv_iconst (v := 0) hx hb dX8_missing_0 (by decide) ?_
  refine lv_istore_n (lv' := [(1, .int ((0 : Int32))), (0, .ref (am 16))]) hx hb dX8_missing_1 rfl hl (by decide) rfl (fun ls hl => ?_)
  refine lv_iconst (v := 0) hx hb dX8_missing_2 (by decide) ?_
  refine lv_istore_n (lv' := [(2, .int ((0 : Int32))), (1, .int ((0 : Int32))), (0, .ref (am 16))]) hx hb dX8_missing_3 rfl hl (by decide) rfl (fun ls hl => ?_)
  have hL_2 : ∀ (nf : Nat) (y1_k_1 : Int32) (y2_k_1 : Int32) (H : Heap) (locs : List Loc) (ls : Array Slot) (t : Int32), va_P D vwCl (wM am cm u) H → va_S (AM am) s.heap H locs → lv_has ls 3 [(0, .ref (am 16)), (1, .int y1_k_1), (2, .int y2_k_1)] → fX8_missing_4 u nf y1_k_1 y2_k_1 = some t → (∀ (H : Heap) (locs : List Loc) (ls : Array Slot), va_P D vwCl (wM am cm u) H → va_S (AM am) s.heap H locs → lv_has ls 3 [(1, .int t)] → W p l e rX8_missing s m args below meth c H locs 0 0 (MQ below (va_Qi (fun (r : Int32) (u' : UM) => r = r0 ∧ u' = u) (wB D (wM am cm)) (AM am)) args s 0 0 (AM am)) (F0 m 37 ls [])) → W p l e rX8_missing s m args below meth c H locs 0 0 (MQ below (va_Qi (fun (r : Int32) (u' : UM) => r = r0 ∧ u' = u) (wB D (wM am cm)) (AM am)) args s 0 0 (AM am)) (F0 m 4 ls []) := by
    intro nf
    induction nf with
    | zero => intro y1_k_1 y2_k_1 H locs ls t hP hS hl hf hK'; rw [fX8_missing_4] at hf; cases hf
    | succ nf ih =>
      intro y1_k_1 y2_k_1 H locs ls t hP hS hl hf hK'
      rw [fX8_missing_4] at hf
      refine lv_iload_n hx hb dX8_missing_4 rfl (lv_at hl 2 rfl) ?_
      refine lv_aload_n hx hb dX8_missing_5 rfl (lv_at hl 0 rfl) ?_
      refine va_get (D := D) (ci := 7) (v := .int u.2.2.2.2) (C := RX8) (T := TX8) (N := 20) hx hb hg inG_X8 hown hK hP 16 m_o16 rfl 17 (by decide) (hg _ kw_517) (fun _ h9 => h9) rfl dX8_missing_6 ?_
      refine lv_icmp_ge (tgt := 37) hx hb dX8_missing_9 (by decide) (fun c_3 => ?_) (fun c_3 => ?_)
      · skip
        replace hf := it_t c_3 hf
        have ht := Option.some.inj hf
        subst ht
        exact hK' _ _ _ hP hS (lv_sub hl [1] rfl)
      · skip
        replace hf := it_f c_3 hf
        refine lv_iload_n hx hb dX8_missing_12 rfl (lv_at hl 1 rfl) ?_
        refine lv_aload_n hx hb dX8_missing_13 rfl (lv_at hl 0 rfl) ?_
        refine va_get (D := D) (ci := 7) (v := .ref (am 11)) (C := RX8) (T := TX8) (N := 20) hx hb hg inG_X8 hown hK hP 16 m_o16 rfl 19 (by decide) (hg _ kw_519) (fun _ h9 => h9) rfl dX8_missing_14 ?_
        refine lv_iload_n hx hb dX8_missing_17 rfl (lv_at hl 2 rfl) ?_
        obtain ⟨hb_4, hf⟩ := gd_ok hf
        refine m_iald hx hb hK hP (by decide) (by decide) rfl hb_4 dX8_missing_18 ?_
        refine lv_bipush (v := -9) hx hb dX8_missing_19 (by decide) ?_
        refine lv_icmp_ne (tgt := 28) hx hb dX8_missing_21 (by decide) (fun c_5 => ?_) (fun c_5 => ?_)
        · skip
          replace hf := it_f c_5 hf
          refine lv_iconst (v := 0) hx hb dX8_missing_28 (by decide) ?_
          refine lv_iadd hx hb dX8_missing_29 ?_
          refine lv_istore_n (lv' := [(1, .int (y1_k_1 + ((0 : Int32)))), (0, .ref (am 16)), (2, .int y2_k_1)]) hx hb dX8_missing_30 rfl hl (by decide) rfl (fun ls hl => ?_)
          refine lv_iinc (v := y2_k_1 + 1) (lv' := [(2, .int (y2_k_1 + 1)), (1, .int (y1_k_1 + ((0 : Int32)))), (0, .ref (am 16))]) hx hb dX8_missing_31 hl (k := 2) rfl rfl (by decide) rfl (fun ls hl => ?_)
          refine lv_goto (tgt := 4) hx hb dX8_missing_34 (by decide) ?_
          exact ih _ _ _ _ _ t hP hS (lv_sub hl [2, 1, 0] rfl) hf hK'
        · skip
          replace hf := it_t c_5 hf
          refine lv_iconst (v := 1) hx hb dX8_missing_24 (by decide) ?_
          refine lv_goto (tgt := 29) hx hb dX8_missing_25 (by decide) ?_
          refine lv_iadd hx hb dX8_missing_29 ?_
          refine lv_istore_n (lv' := [(1, .int (y1_k_1 + ((1 : Int32)))), (0, .ref (am 16)), (2, .int y2_k_1)]) hx hb dX8_missing_30 rfl hl (by decide) rfl (fun ls hl => ?_)
          refine lv_iinc (v := y2_k_1 + 1) (lv' := [(2, .int (y2_k_1 + 1)), (1, .int (y1_k_1 + ((1 : Int32)))), (0, .ref (am 16))]) hx hb dX8_missing_31 hl (k := 2) rfl rfl (by decide) rfl (fun ls hl => ?_)
          refine lv_goto (tgt := 4) hx hb dX8_missing_34 (by decide) ?_
          exact ih _ _ _ _ _ t hP hS (lv_sub hl [2, 1, 0] rfl) hf hK'
  obtain ⟨t_6, hq_7, hf⟩ := bd_ok hf
  refine hL_2 FU _ _ _ _ _ t_6 hP hS (lv_sub hl [2, 1, 0] rfl) hq_7 (fun H locs ls hP hS hl => ?_)
  refine lv_iload_n hx hb dX8_missing_37 rfl (lv_at hl 0 rfl) ?_
  exact grI hx hb hr hlocks hP hS dX8_missing_38 (Option.some.inj hf) rfl
abbrev rX8_gapOf : Room := { frames := 0, cells := 0, slots := 0, locals := 0 }
theorem hX8_gapOf : yX8_gapOf.cls ≠ "java/lang/invoke/MethodHandle" ∧ yX8_gapOf.cls ≠ "java/lang/invoke/VarHandle" ∧ (parseMethodDescriptor yX8_gapOf.desc).map (fun d => d.parameters.length) = some 0 := by decide +kernel
set_option maxHeartbeats 4000000 in
set_option maxRecDepth 100000 in
theorem mX8_gapOf (l : Launch) (D : va_G) (am : Nat → Nat) (cm : Nat → ClassId) (u : UM)   (r0 : Int64) (hok : fX8_gapOf u = some r0) : Met l yX8_gapOf (Cond.code yX8_gapOf cX8_gapOf 4 (some .long) :: wsG) rX8_gapOf (va_Pc [.ref (am 16)] (wI D (wM am cm) (mC D am cm) u)) (va_Ql (fun (r : Int64) (u' : UM) => r = r0 ∧ u' = u) (wB D (wM am cm)) (AM am)) 0 0 (AM am) := by
  refine Met.ofW (cc := cX8_gapOf) (maxL := 4) (ret := (some .long)) (by decide) rfl ?_
  intro p e s m args below meth c s₁ B hml hv
  have hx := B.exec
  have hb := B.bytes
  have hr := B.returns
  have hts := atoms_spec (ws := (Cond.code yX8_gapOf cX8_gapOf 4 (some .long) :: wsG)) B.pre
  have hg : ∀ w ∈ wsG, w.before args s = true := fun w h => hts w (List.mem_cons_of_mem _ h)
  have hown : s.vm.findClass RX8 = some m.cls := findClass_of_methodNamed B.named
  have hlocks := B.notSynchronized
  obtain ⟨ha, hP, hC⟩ := hv
  obtain ⟨hK, hJ⟩ := id hC
  have hS : va_S (AM am) s.heap s.heap [] := va_S.rf
  refine W.eq (show entryFrame m args 4 = entryFrame m ([.ref (am 16)] : List Value).toArray 4 by rw [ha]) ?_
  have hl := lv_entry ([.ref (am 16)]) (n := 4) (Nat.le_of_ble_eq_true rfl)
  rw [lg_entry_eq]
  generalize (lg_sl ([.ref (am 16)]) ++ List.replicate (4 - (lg_sl ([.ref (am 16)])).length) Slot.unset).toArray = ls at hl ⊢
  have hl : lv_has ls 4 [(0, .ref (am 16))] := hl
  show W p l e rX8_gapOf s m args below meth c s.heap [] 0 0 (MQ below (va_Ql (fun (r : Int64) (u' : UM) => r = r0 ∧ u' = u) (wB D (wM am cm)) (AM am)) args s 0 0 (AM am)) (F0 m 0 ls [])
  have hf := hok
  unfold fX8_gapOf at hf
  refine lv_lconst (v := 0) hx hb dX8_gapOf_0 (by decide) ?_
  refine lv_lstore_n (lv' := [(1, .long ((0 : Int64))), (0, .ref (am 16))]) hx hb dX8_gapOf_1 rfl hl (by decide) rfl (fun ls hl => ?_)
  refine lv_iconst (v := 0) hx hb dX8_gapOf_2 (by decide) ?_
  refine lv_istore_n (lv' := [(3, .int ((0 : Int32))), (1, .long ((0 : Int64))), (0, .ref (am 16))]) hx hb dX8_gapOf_3 rfl hl (by decide) rfl (fun ls hl => ?_)
  have hL_2 : ∀ (nf : Nat) (y1_k_1 : Int64) (y3_k_1 : Int32) (H : Heap) (locs : List Loc) (ls : Array Slot) (t : Int64), va_P D vwCl (wM am cm u) H → va_S (AM am) s.heap H locs → lv_has ls 4 [(0, .ref (am 16)), (1, .long y1_k_1), (3, .int y3_k_1)] → fX8_gapOf_4 u nf y1_k_1 y3_k_1 = some t → (∀ (H : Heap) (locs : List Loc) (ls : Array Slot), va_P D vwCl (wM am cm u) H → va_S (AM am) s.heap H locs → lv_has ls 4 [(1, .long t)] → W p l e rX8_gapOf s m args below meth c H locs 0 0 (MQ below (va_Ql (fun (r : Int64) (u' : UM) => r = r0 ∧ u' = u) (wB D (wM am cm)) (AM am)) args s 0 0 (AM am)) (F0 m 50 ls [])) → W p l e rX8_gapOf s m args below meth c H locs 0 0 (MQ below (va_Ql (fun (r : Int64) (u' : UM) => r = r0 ∧ u' = u) (wB D (wM am cm)) (AM am)) args s 0 0 (AM am)) (F0 m 4 ls []) := by
    intro nf
    induction nf with
    | zero => intro y1_k_1 y3_k_1 H locs ls t hP hS hl hf hK'; rw [fX8_gapOf_4] at hf; cases hf
    | succ nf ih =>
      intro y1_k_1 y3_k_1 H locs ls t hP hS hl hf hK'
      rw [fX8_gapOf_4] at hf
      refine lv_iload_n hx hb dX8_gapOf_4 rfl (lv_at hl 2 rfl) ?_
      refine lv_aload_n hx hb dX8_gapOf_5 rfl (lv_at hl 0 rfl) ?_
      refine va_get (D := D) (ci := 7) (v := .int u.2.2.2.2) (C := RX8) (T := TX8) (N := 20) hx hb hg inG_X8 hown hK hP 16 m_o16 rfl 17 (by decide) (hg _ kw_517) (fun _ h9 => h9) rfl dX8_gapOf_6 ?_
      refine lv_icmp_ge (tgt := 50) hx hb dX8_gapOf_9 (by decide) (fun c_3 => ?_) (fun c_3 => ?_)
      · skip
        replace hf := it_t c_3 hf
        have ht := Option.some.inj hf
        subst ht
        exact hK' _ _ _ hP hS (lv_sub hl [1] rfl)
      · skip
        replace hf := it_f c_3 hf
        refine lv_lload_n hx hb dX8_gapOf_12 rfl (lv_at hl 1 rfl) ?_
        refine lv_aload_n hx hb dX8_gapOf_13 rfl (lv_at hl 0 rfl) ?_
        refine va_get (D := D) (ci := 7) (v := .ref (am 11)) (C := RX8) (T := TX8) (N := 20) hx hb hg inG_X8 hown hK hP 16 m_o16 rfl 19 (by decide) (hg _ kw_519) (fun _ h9 => h9) rfl dX8_gapOf_14 ?_
        refine lv_iload_n hx hb dX8_gapOf_17 rfl (lv_at hl 2 rfl) ?_
        obtain ⟨hb_4, hf⟩ := gd_ok hf
        refine m_iald hx hb hK hP (by decide) (by decide) rfl hb_4 dX8_gapOf_18 ?_
        refine lv_bipush (v := -9) hx hb dX8_gapOf_19 (by decide) ?_
        refine lv_icmp_ne (tgt := 28) hx hb dX8_gapOf_21 (by decide) (fun c_5 => ?_) (fun c_5 => ?_)
        · skip
          replace hf := it_f c_5 hf
          refine lv_aload_n hx hb dX8_gapOf_28 rfl (lv_at hl 0 rfl) ?_
          refine va_get (D := D) (ci := 7) (v := .ref (am 10)) (C := RX8) (T := TX8) (N := 20) hx hb hg inG_X8 hown hK hP 16 m_o16 rfl 18 (by decide) (hg _ kw_518) (fun _ h9 => h9) rfl dX8_gapOf_29 ?_
          refine lv_iload_n hx hb dX8_gapOf_32 rfl (lv_at hl 2 rfl) ?_
          refine m_iald hx hb hK hP (by decide) (by decide) rfl hb_4 dX8_gapOf_33 ?_
          refine lv_aload_n hx hb dX8_gapOf_34 rfl (lv_at hl 0 rfl) ?_
          refine va_get (D := D) (ci := 7) (v := .ref (am 11)) (C := RX8) (T := TX8) (N := 20) hx hb hg inG_X8 hown hK hP 16 m_o16 rfl 19 (by decide) (hg _ kw_519) (fun _ h9 => h9) rfl dX8_gapOf_35 ?_
          refine lv_iload_n hx hb dX8_gapOf_38 rfl (lv_at hl 2 rfl) ?_
          refine m_iald hx hb hK hP (by decide) (by decide) rfl hb_4 dX8_gapOf_39 ?_
          refine lv_imul hx hb dX8_gapOf_40 ?_
          refine lv_i2l hx hb dX8_gapOf_41 rfl ?_
          refine lv_ladd hx hb dX8_gapOf_42 ?_
          refine lv_lstore_n (lv' := [(1, .long (y1_k_1 + (((u.1 10 y3_k_1.toNatClampNeg) * (u.1 11 y3_k_1.toNatClampNeg)).toInt64))), (0, .ref (am 16)), (3, .int y3_k_1)]) hx hb dX8_gapOf_43 rfl hl (by decide) rfl (fun ls hl => ?_)
          refine lv_iinc (v := y3_k_1 + 1) (lv' := [(3, .int (y3_k_1 + 1)), (1, .long (y1_k_1 + (((u.1 10 y3_k_1.toNatClampNeg) * (u.1 11 y3_k_1.toNatClampNeg)).toInt64))), (0, .ref (am 16))]) hx hb dX8_gapOf_44 hl (k := 2) rfl rfl (by decide) rfl (fun ls hl => ?_)
          refine lv_goto (tgt := 4) hx hb dX8_gapOf_47 (by decide) ?_
          exact ih _ _ _ _ _ t hP hS (lv_sub hl [2, 1, 0] rfl) hf hK'
        · skip
          replace hf := it_t c_5 hf
          refine lv_lconst (v := 0) hx hb dX8_gapOf_24 (by decide) ?_
          refine lv_goto (tgt := 42) hx hb dX8_gapOf_25 (by decide) ?_
          refine lv_ladd hx hb dX8_gapOf_42 ?_
          refine lv_lstore_n (lv' := [(1, .long (y1_k_1 + ((0 : Int64)))), (0, .ref (am 16)), (3, .int y3_k_1)]) hx hb dX8_gapOf_43 rfl hl (by decide) rfl (fun ls hl => ?_)
          refine lv_iinc (v := y3_k_1 + 1) (lv' := [(3, .int (y3_k_1 + 1)), (1, .long (y1_k_1 + ((0 : Int64)))), (0, .ref (am 16))]) hx hb dX8_gapOf_44 hl (k := 2) rfl rfl (by decide) rfl (fun ls hl => ?_)
          refine lv_goto (tgt := 4) hx hb dX8_gapOf_47 (by decide) ?_
          exact ih _ _ _ _ _ t hP hS (lv_sub hl [2, 1, 0] rfl) hf hK'
  obtain ⟨t_6, hq_7, hf⟩ := bd_ok hf
  refine hL_2 FU _ _ _ _ _ t_6 hP hS (lv_sub hl [2, 1, 0] rfl) hq_7 (fun H locs ls hP hS hl => ?_)
  refine lv_lload_n hx hb dX8_gapOf_50 rfl (lv_at hl 0 rfl) ?_
  exact grL hx hb hr hlocks hP hS dX8_gapOf_51 (Option.some.inj hf) rfl
abbrev rX8_gap : Room := { frames := 1, cells := 0, slots := 0, locals := 25 }
theorem hX8_gap : yX8_gap.cls ≠ "java/lang/invoke/MethodHandle" ∧ yX8_gap.cls ≠ "java/lang/invoke/VarHandle" ∧ (parseMethodDescriptor yX8_gap.desc).map (fun d => d.parameters.length) = some 1 := by decide +kernel
set_option maxHeartbeats 4000000 in
set_option maxRecDepth 100000 in
theorem mX8_gap (l : Launch) (D : va_G) (am : Nat → Nat) (cm : Nat → ClassId) (u : UM) (a1 : Int32)  (r0 : Int64) (hok : fX8_gap u a1 = some r0) : Met l yX8_gap (Cond.code yX8_gap cX8_gap 4 (some .long) :: wsG) rX8_gap (va_Pc [.ref (am 16), .int a1] (wI D (wM am cm) (mC D am cm) u)) (va_Ql (fun (r : Int64) (u' : UM) => r = r0 ∧ u' = u) (wB D (wM am cm)) (AM am)) 0 0 (AM am) := by
  refine Met.ofW (cc := cX8_gap) (maxL := 4) (ret := (some .long)) (by decide) rfl ?_
  intro p e s m args below meth c s₁ B hml hv
  have hx := B.exec
  have hb := B.bytes
  have hr := B.returns
  have hts := atoms_spec (ws := (Cond.code yX8_gap cX8_gap 4 (some .long) :: wsG)) B.pre
  have hg : ∀ w ∈ wsG, w.before args s = true := fun w h => hts w (List.mem_cons_of_mem _ h)
  have hown : s.vm.findClass RX8 = some m.cls := findClass_of_methodNamed B.named
  have hlocks := B.notSynchronized
  obtain ⟨ha, hP, hC⟩ := hv
  obtain ⟨hK, hJ⟩ := id hC
  have hS : va_S (AM am) s.heap s.heap [] := va_S.rf
  refine W.eq (show entryFrame m args 4 = entryFrame m ([.ref (am 16), .int a1] : List Value).toArray 4 by rw [ha]) ?_
  have hl := lv_entry ([.ref (am 16), .int a1]) (n := 4) (Nat.le_of_ble_eq_true rfl)
  rw [lg_entry_eq]
  generalize (lg_sl ([.ref (am 16), .int a1]) ++ List.replicate (4 - (lg_sl ([.ref (am 16), .int a1])).length) Slot.unset).toArray = ls at hl ⊢
  have hl : lv_has ls 4 [(0, .ref (am 16)), (1, .int a1)] := hl
  show W p l e rX8_gap s m args below meth c s.heap [] 0 0 (MQ below (va_Ql (fun (r : Int64) (u' : UM) => r = r0 ∧ u' = u) (wB D (wM am cm)) (AM am)) args s 0 0 (AM am)) (F0 m 0 ls [])
  have hf := hok
  unfold fX8_gap at hf
  refine lv_aload_n hx hb dX8_gap_0 rfl (lv_at hl 0 rfl) ?_
  refine lv_iconst (v := 0) hx hb dX8_gap_1 (by decide) ?_
  refine m_putZ hx hb hg hown hK hP hJ hS (hg _ kw_500) dX8_gap_2 (fun H locs hP hS => ?_)
  refine lv_iload_n hx hb dX8_gap_5 rfl (lv_at hl 1 rfl) ?_
  refine lv_i2l hx hb dX8_gap_6 rfl ?_
  refine lv_lconst (v := 0) hx hb dX8_gap_7 (by decide) ?_
  refine lv_ldc2 (v := 3) hx hb hown (hg _ kw_698) dX8_gap_8 ?_
  obtain ⟨r_1, hc_2, hf⟩ := bd_ok hf
  refine gcFi 3 ⟨hx, hb, hml, hown, hts⟩ (mX8_in l a1.toInt64 ((0 : Int64)) ((3 : Int64)) r_1 hc_2) (gG kw_569) kw_567 kw_568 kw_28 hX8_in ⟨rfl, rfl⟩ ⟨Nat.le_of_ble_eq_true rfl, Nat.le_of_ble_eq_true rfl⟩ ⟨Nat.zero_le _, Nat.zero_le _⟩ rfl hl.1 rfl (Nat.le_of_ble_eq_true rfl) dX8_gap_11 ?_
  refine lv_if_ne (tgt := 21) hx hb dX8_gap_14 (by decide) (fun c_3 => ?_) (fun c_3 => ?_)
  · skip
    replace hf := it_f c_3 hf
    refine lv_bipush (v := -9) hx hb dX8_gap_21 (by decide) ?_
    refine lv_istore_n (lv' := [(2, .int ((-9 : Int32))), (0, .ref (am 16)), (1, .int a1)]) hx hb dX8_gap_23 rfl hl (by decide) rfl (fun ls hl => ?_)
    refine lv_iconst (v := 0) hx hb dX8_gap_24 (by decide) ?_
    refine lv_istore_n (lv' := [(3, .int ((0 : Int32))), (2, .int ((-9 : Int32))), (0, .ref (am 16)), (1, .int a1)]) hx hb dX8_gap_25 rfl hl (by decide) rfl (fun ls hl => ?_)
    have hL_5 : ∀ (nf : Nat) (y2_k_4 : Int32) (y3_k_4 : Int32) (H : Heap) (locs : List Loc) (ls : Array Slot) (t : Int32), va_P D vwCl (wM am cm u) H → va_S (AM am) s.heap H locs → lv_has ls 4 [(0, .ref (am 16)), (1, .int a1), (2, .int y2_k_4), (3, .int y3_k_4)] → fX8_gap_26 u nf y2_k_4 y3_k_4 = some t → (∀ (H : Heap) (locs : List Loc) (ls : Array Slot), va_P D vwCl (wM am cm u) H → va_S (AM am) s.heap H locs → lv_has ls 4 [(0, .ref (am 16)), (1, .int a1), (2, .int t)] → W p l e rX8_gap s m args below meth c H locs 0 0 (MQ below (va_Ql (fun (r : Int64) (u' : UM) => r = r0 ∧ u' = u) (wB D (wM am cm)) (AM am)) args s 0 0 (AM am)) (F0 m 65 ls [])) → W p l e rX8_gap s m args below meth c H locs 0 0 (MQ below (va_Ql (fun (r : Int64) (u' : UM) => r = r0 ∧ u' = u) (wB D (wM am cm)) (AM am)) args s 0 0 (AM am)) (F0 m 26 ls []) := by
      intro nf
      induction nf with
      | zero => intro y2_k_4 y3_k_4 H locs ls t hP hS hl hf hK'; rw [fX8_gap_26] at hf; cases hf
      | succ nf ih =>
        intro y2_k_4 y3_k_4 H locs ls t hP hS hl hf hK'
        rw [fX8_gap_26] at hf
        refine lv_iload_n hx hb dX8_gap_26 rfl (lv_at hl 3 rfl) ?_
        refine lv_aload_n hx hb dX8_gap_27 rfl (lv_at hl 0 rfl) ?_
        refine va_get (D := D) (ci := 7) (v := .int u.2.2.2.2) (C := RX8) (T := TX8) (N := 20) hx hb hg inG_X8 hown hK hP 16 m_o16 rfl 17 (by decide) (hg _ kw_517) (fun _ h9 => h9) rfl dX8_gap_28 ?_
        refine lv_icmp_ge (tgt := 65) hx hb dX8_gap_31 (by decide) (fun c_6 => ?_) (fun c_6 => ?_)
        · skip
          replace hf := it_t c_6 hf
          have ht := Option.some.inj hf
          subst ht
          exact hK' _ _ _ hP hS (lv_sub hl [0, 1, 2] rfl)
        · skip
          replace hf := it_f c_6 hf
          refine lv_aload_n hx hb dX8_gap_34 rfl (lv_at hl 0 rfl) ?_
          obtain ⟨r_7, hc_8, hf⟩ := bd_ok hf
          refine gcVi 0 (mC_ok D am cm hJ) hC ⟨hx, hb, hml, hown, hts⟩ (mX8_missing l D am cm u r_7 hc_8) (gG kw_703) kw_700 kw_702 kw_18 kw_28 hX8_missing ⟨rfl, rfl⟩ ⟨Nat.le_of_ble_eq_true rfl, Nat.le_of_ble_eq_true rfl⟩ (x_rec (C := RX8) (T := TX8) (N := 20) (ci := 7) hK hP rfl m_o16) hP hS ⟨Nat.zero_le _, Nat.zero_le _⟩ rfl hl.1 rfl (Nat.le_of_ble_eq_true rfl) dX8_gap_35 (fun H locs hP hS => ?_)
          refine lv_iconst (v := 1) hx hb dX8_gap_38 (by decide) ?_
          refine lv_icmp_ne (tgt := 65) hx hb dX8_gap_39 (by decide) (fun c_9 => ?_) (fun c_9 => ?_)
          · skip
            replace hf := it_f c_9 hf
            have ht := Option.some.inj hf
            subst ht
            exact hK' _ _ _ hP hS (lv_sub hl [0, 1, 2] rfl)
          · skip
            replace hf := it_t c_9 hf
            refine lv_aload_n hx hb dX8_gap_42 rfl (lv_at hl 0 rfl) ?_
            refine va_get (D := D) (ci := 7) (v := .ref (am 11)) (C := RX8) (T := TX8) (N := 20) hx hb hg inG_X8 hown hK hP 16 m_o16 rfl 19 (by decide) (hg _ kw_519) (fun _ h9 => h9) rfl dX8_gap_43 ?_
            refine lv_iload_n hx hb dX8_gap_46 rfl (lv_at hl 3 rfl) ?_
            obtain ⟨hb_10, hf⟩ := gd_ok hf
            refine m_iald hx hb hK hP (by decide) (by decide) rfl hb_10 dX8_gap_47 ?_
            refine lv_bipush (v := -9) hx hb dX8_gap_48 (by decide) ?_
            refine lv_icmp_ne (tgt := 57) hx hb dX8_gap_50 (by decide) (fun c_11 => ?_) (fun c_11 => ?_)
            · skip
              replace hf := it_f c_11 hf
              refine lv_iload_n hx hb dX8_gap_57 rfl (lv_at hl 2 rfl) ?_
              refine lv_istore_n (lv' := [(2, .int y2_k_4), (0, .ref (am 16)), (1, .int a1), (3, .int y3_k_4)]) hx hb dX8_gap_58 rfl hl (by decide) rfl (fun ls hl => ?_)
              refine lv_iinc (v := y3_k_4 + 1) (lv' := [(3, .int (y3_k_4 + 1)), (2, .int y2_k_4), (0, .ref (am 16)), (1, .int a1)]) hx hb dX8_gap_59 hl (k := 3) rfl rfl (by decide) rfl (fun ls hl => ?_)
              refine lv_goto (tgt := 26) hx hb dX8_gap_62 (by decide) ?_
              exact ih _ _ _ _ _ t hP hS (lv_sub hl [2, 3, 1, 0] rfl) hf hK'
            · skip
              replace hf := it_t c_11 hf
              refine lv_iload_n hx hb dX8_gap_53 rfl (lv_at hl 3 rfl) ?_
              refine lv_goto (tgt := 58) hx hb dX8_gap_54 (by decide) ?_
              refine lv_istore_n (lv' := [(2, .int y3_k_4), (0, .ref (am 16)), (1, .int a1), (3, .int y3_k_4)]) hx hb dX8_gap_58 rfl hl (by decide) rfl (fun ls hl => ?_)
              refine lv_iinc (v := y3_k_4 + 1) (lv' := [(3, .int (y3_k_4 + 1)), (2, .int y3_k_4), (0, .ref (am 16)), (1, .int a1)]) hx hb dX8_gap_59 hl (k := 3) rfl rfl (by decide) rfl (fun ls hl => ?_)
              refine lv_goto (tgt := 26) hx hb dX8_gap_62 (by decide) ?_
              exact ih _ _ _ _ _ t hP hS (lv_sub hl [2, 3, 1, 0] rfl) hf hK'
    obtain ⟨t_12, hq_13, hf⟩ := bd_ok hf
    refine hL_5 FU _ _ _ _ _ t_12 hP hS (lv_sub hl [2, 3, 1, 0] rfl) hq_13 (fun H locs ls hP hS hl => ?_)
    refine lv_iload_n hx hb dX8_gap_65 rfl (lv_at hl 1 rfl) ?_
    refine lv_if_ne (tgt := 76) hx hb dX8_gap_66 (by decide) (fun c_14 => ?_) (fun c_14 => ?_)
    · skip
      replace hf := it_f c_14 hf
      refine lv_iload_n hx hb dX8_gap_76 rfl (lv_at hl 1 rfl) ?_
      refine lv_iconst (v := 1) hx hb dX8_gap_77 (by decide) ?_
      refine lv_icmp_ne (tgt := 89) hx hb dX8_gap_78 (by decide) (fun c_15 => ?_) (fun c_15 => ?_)
      · skip
        replace hf := it_f c_15 hf
        refine lv_iload_n hx hb dX8_gap_89 rfl (lv_at hl 1 rfl) ?_
        refine lv_iconst (v := 2) hx hb dX8_gap_90 (by decide) ?_
        refine lv_icmp_ne (tgt := 99) hx hb dX8_gap_91 (by decide) (fun c_16 => ?_) (fun c_16 => ?_)
        · skip
          replace hf := it_f c_16 hf
          refine lv_iload_n hx hb dX8_gap_99 rfl (lv_at hl 2 rfl) ?_
          refine lv_bipush (v := -9) hx hb dX8_gap_100 (by decide) ?_
          refine lv_icmp_ne (tgt := 111) hx hb dX8_gap_102 (by decide) (fun c_17 => ?_) (fun c_17 => ?_)
          · skip
            replace hf := it_f c_17 hf
            refine lv_aload_n hx hb dX8_gap_111 rfl (lv_at hl 0 rfl) ?_
            refine va_get (D := D) (ci := 7) (v := .ref (am 10)) (C := RX8) (T := TX8) (N := 20) hx hb hg inG_X8 hown hK hP 16 m_o16 rfl 18 (by decide) (hg _ kw_518) (fun _ h9 => h9) rfl dX8_gap_112 ?_
            refine lv_iload_n hx hb dX8_gap_115 rfl (lv_at hl 2 rfl) ?_
            obtain ⟨hb_18, hf⟩ := gd_ok hf
            refine m_iald hx hb hK hP (by decide) (by decide) rfl hb_18 dX8_gap_116 ?_
            refine lv_ineg hx hb dX8_gap_117 ?_
            refine lv_i2l hx hb dX8_gap_118 rfl ?_
            refine lv_aload_n hx hb dX8_gap_119 rfl (lv_at hl 0 rfl) ?_
            obtain ⟨r_19, hc_20, hf⟩ := bd_ok hf
            refine gcVl 0 (mC_ok D am cm hJ) hC ⟨hx, hb, hml, hown, hts⟩ (mX8_gapOf l D am cm u r_19 hc_20) (gG kw_707) kw_704 kw_706 kw_19 kw_28 hX8_gapOf ⟨rfl, rfl⟩ ⟨Nat.le_of_ble_eq_true rfl, Nat.le_of_ble_eq_true rfl⟩ (x_rec (C := RX8) (T := TX8) (N := 20) (ci := 7) hK hP rfl m_o16) hP hS ⟨Nat.zero_le _, Nat.zero_le _⟩ rfl hl.1 rfl (Nat.le_of_ble_eq_true rfl) dX8_gap_120 (fun H locs hP hS => ?_)
            refine lv_lmul hx hb dX8_gap_123 ?_
            exact grL hx hb hr hlocks hP hS dX8_gap_124 (Option.some.inj hf) rfl
          · skip
            replace hf := it_t c_17 hf
            refine lv_ldc2 (v := -1000000000000) hx hb hown (hg _ kw_699) dX8_gap_105 ?_
            refine lv_goto (tgt := 124) hx hb dX8_gap_108 (by decide) ?_
            exact grL hx hb hr hlocks hP hS dX8_gap_124 (Option.some.inj hf) rfl
        · skip
          replace hf := it_t c_16 hf
          refine lv_iload_n hx hb dX8_gap_94 rfl (lv_at hl 2 rfl) ?_
          refine lv_i2l hx hb dX8_gap_95 rfl ?_
          refine lv_goto (tgt := 124) hx hb dX8_gap_96 (by decide) ?_
          exact grL hx hb hr hlocks hP hS dX8_gap_124 (Option.some.inj hf) rfl
      · skip
        replace hf := it_t c_15 hf
        refine lv_aload_n hx hb dX8_gap_81 rfl (lv_at hl 0 rfl) ?_
        obtain ⟨r_21, hc_22, hf⟩ := bd_ok hf
        refine gcVi 0 (mC_ok D am cm hJ) hC ⟨hx, hb, hml, hown, hts⟩ (mX8_missing l D am cm u r_21 hc_22) (gG kw_703) kw_700 kw_702 kw_18 kw_28 hX8_missing ⟨rfl, rfl⟩ ⟨Nat.le_of_ble_eq_true rfl, Nat.le_of_ble_eq_true rfl⟩ (x_rec (C := RX8) (T := TX8) (N := 20) (ci := 7) hK hP rfl m_o16) hP hS ⟨Nat.zero_le _, Nat.zero_le _⟩ rfl hl.1 rfl (Nat.le_of_ble_eq_true rfl) dX8_gap_82 (fun H locs hP hS => ?_)
        refine lv_i2l hx hb dX8_gap_85 rfl ?_
        refine lv_goto (tgt := 124) hx hb dX8_gap_86 (by decide) ?_
        exact grL hx hb hr hlocks hP hS dX8_gap_124 (Option.some.inj hf) rfl
    · skip
      replace hf := it_t c_14 hf
      refine lv_aload_n hx hb dX8_gap_69 rfl (lv_at hl 0 rfl) ?_
      obtain ⟨r_23, hc_24, hf⟩ := bd_ok hf
      refine gcVl 0 (mC_ok D am cm hJ) hC ⟨hx, hb, hml, hown, hts⟩ (mX8_gapOf l D am cm u r_23 hc_24) (gG kw_707) kw_704 kw_706 kw_19 kw_28 hX8_gapOf ⟨rfl, rfl⟩ ⟨Nat.le_of_ble_eq_true rfl, Nat.le_of_ble_eq_true rfl⟩ (x_rec (C := RX8) (T := TX8) (N := 20) (ci := 7) hK hP rfl m_o16) hP hS ⟨Nat.zero_le _, Nat.zero_le _⟩ rfl hl.1 rfl (Nat.le_of_ble_eq_true rfl) dX8_gap_70 (fun H locs hP hS => ?_)
      refine lv_goto (tgt := 124) hx hb dX8_gap_73 (by decide) ?_
      exact grL hx hb hr hlocks hP hS dX8_gap_124 (Option.some.inj hf) rfl
  · skip
    replace hf := it_t c_3 hf
    refine lv_ldc2 (v := -1000000000000) hx hb hown (hg _ kw_699) dX8_gap_17 ?_
    exact grL hx hb hr hlocks hP hS dX8_gap_20 (Option.some.inj hf) rfl
abbrev rX8_mended : Room := { frames := 2, cells := 0, slots := 0, locals := 46 }
theorem hX8_mended : yX8_mended.cls ≠ "java/lang/invoke/MethodHandle" ∧ yX8_mended.cls ≠ "java/lang/invoke/VarHandle" ∧ (parseMethodDescriptor yX8_mended.desc).map (fun d => d.parameters.length) = some 2 := by decide +kernel
set_option maxHeartbeats 4000000 in
set_option maxRecDepth 100000 in
theorem mX8_mended (l : Launch) (D : va_G) (am : Nat → Nat) (cm : Nat → ClassId) (u : UM) (a1 : Int32) (a2 : Int32)  (r0 : Int64) (hok : fX8_mended u a1 a2 = some r0) : Met l yX8_mended (Cond.code yX8_mended cX8_mended 7 (some .long) :: wsG) rX8_mended (va_Pc [.ref (am 16), .int a1, .int a2] (wI D (wM am cm) (mC D am cm) u)) (va_Ql (fun (r : Int64) (u' : UM) => r = r0 ∧ u' = u) (wB D (wM am cm)) (AM am)) 0 0 (AM am) := by
  refine Met.ofW (cc := cX8_mended) (maxL := 7) (ret := (some .long)) (by decide) rfl ?_
  intro p e s m args below meth c s₁ B hml hv
  have hx := B.exec
  have hb := B.bytes
  have hr := B.returns
  have hts := atoms_spec (ws := (Cond.code yX8_mended cX8_mended 7 (some .long) :: wsG)) B.pre
  have hg : ∀ w ∈ wsG, w.before args s = true := fun w h => hts w (List.mem_cons_of_mem _ h)
  have hown : s.vm.findClass RX8 = some m.cls := findClass_of_methodNamed B.named
  have hlocks := B.notSynchronized
  obtain ⟨ha, hP, hC⟩ := hv
  obtain ⟨hK, hJ⟩ := id hC
  have hS : va_S (AM am) s.heap s.heap [] := va_S.rf
  refine W.eq (show entryFrame m args 7 = entryFrame m ([.ref (am 16), .int a1, .int a2] : List Value).toArray 7 by rw [ha]) ?_
  have hl := lv_entry ([.ref (am 16), .int a1, .int a2]) (n := 7) (Nat.le_of_ble_eq_true rfl)
  rw [lg_entry_eq]
  generalize (lg_sl ([.ref (am 16), .int a1, .int a2]) ++ List.replicate (7 - (lg_sl ([.ref (am 16), .int a1, .int a2])).length) Slot.unset).toArray = ls at hl ⊢
  have hl : lv_has ls 7 [(0, .ref (am 16)), (1, .int a1), (2, .int a2)] := hl
  show W p l e rX8_mended s m args below meth c s.heap [] 0 0 (MQ below (va_Ql (fun (r : Int64) (u' : UM) => r = r0 ∧ u' = u) (wB D (wM am cm)) (AM am)) args s 0 0 (AM am)) (F0 m 0 ls [])
  have hf := hok
  unfold fX8_mended at hf
  refine lv_aload_n hx hb dX8_mended_0 rfl (lv_at hl 0 rfl) ?_
  refine lv_iconst (v := 0) hx hb dX8_mended_1 (by decide) ?_
  refine m_putZ hx hb hg hown hK hP hJ hS (hg _ kw_500) dX8_mended_2 (fun H locs hP hS => ?_)
  refine lv_aload_n hx hb dX8_mended_5 rfl (lv_at hl 0 rfl) ?_
  refine lv_iload_n hx hb dX8_mended_6 rfl (lv_at hl 1 rfl) ?_
  obtain ⟨r_1, hc_2, hf⟩ := bd_ok hf
  refine gcVi 1 (mC_ok D am cm hJ) hC ⟨hx, hb, hml, hown, hts⟩ (mX8_isMeter l D am cm u a1 r_1 hc_2) (gG kw_692) kw_689 kw_691 kw_17 kw_28 hX8_isMeter ⟨rfl, rfl⟩ ⟨Nat.le_of_ble_eq_true rfl, Nat.le_of_ble_eq_true rfl⟩ (x_rec (C := RX8) (T := TX8) (N := 20) (ci := 7) hK hP rfl m_o16) hP hS ⟨Nat.zero_le _, Nat.zero_le _⟩ rfl hl.1 rfl (Nat.le_of_ble_eq_true rfl) dX8_mended_7 (fun H locs hP hS => ?_)
  refine lv_if_eq (tgt := 23) hx hb dX8_mended_10 (by decide) (fun c_3 => ?_) (fun c_3 => ?_)
  · skip
    replace hf := it_t c_3 hf
    refine lv_ldc2 (v := -1000000000000) hx hb hown (hg _ kw_699) dX8_mended_23 ?_
    exact grL hx hb hr hlocks hP hS dX8_mended_26 (Option.some.inj hf) rfl
  · skip
    replace hf := it_f c_3 hf
    refine lv_iload_n hx hb dX8_mended_13 rfl (lv_at hl 2 rfl) ?_
    refine lv_i2l hx hb dX8_mended_14 rfl ?_
    refine lv_lconst (v := 0) hx hb dX8_mended_15 (by decide) ?_
    refine lv_lconst (v := 1) hx hb dX8_mended_16 (by decide) ?_
    obtain ⟨r_4, hc_5, hf⟩ := bd_ok hf
    refine gcFi 3 ⟨hx, hb, hml, hown, hts⟩ (mX8_in l a2.toInt64 ((0 : Int64)) ((1 : Int64)) r_4 hc_5) (gG kw_569) kw_567 kw_568 kw_28 hX8_in ⟨rfl, rfl⟩ ⟨Nat.le_of_ble_eq_true rfl, Nat.le_of_ble_eq_true rfl⟩ ⟨Nat.zero_le _, Nat.zero_le _⟩ rfl hl.1 rfl (Nat.le_of_ble_eq_true rfl) dX8_mended_17 ?_
    refine lv_if_ne (tgt := 27) hx hb dX8_mended_20 (by decide) (fun c_6 => ?_) (fun c_6 => ?_)
    · skip
      replace hf := it_f c_6 hf
      refine lv_aload_n hx hb dX8_mended_27 rfl (lv_at hl 0 rfl) ?_
      obtain ⟨r_7, hc_8, hf⟩ := bd_ok hf
      refine gcVi 0 (mC_ok D am cm hJ) hC ⟨hx, hb, hml, hown, hts⟩ (mX8_missing l D am cm u r_7 hc_8) (gG kw_703) kw_700 kw_702 kw_18 kw_28 hX8_missing ⟨rfl, rfl⟩ ⟨Nat.le_of_ble_eq_true rfl, Nat.le_of_ble_eq_true rfl⟩ (x_rec (C := RX8) (T := TX8) (N := 20) (ci := 7) hK hP rfl m_o16) hP hS ⟨Nat.zero_le _, Nat.zero_le _⟩ rfl hl.1 rfl (Nat.le_of_ble_eq_true rfl) dX8_mended_28 (fun H locs hP hS => ?_)
      refine lv_if_le (tgt := 38) hx hb dX8_mended_31 (by decide) (fun c_9 => ?_) (fun c_9 => ?_)
      · skip
        replace hf := it_t c_9 hf
        refine lv_aload_n hx hb dX8_mended_38 rfl (lv_at hl 0 rfl) ?_
        refine va_get (D := D) (ci := 7) (v := .ref (am 11)) (C := RX8) (T := TX8) (N := 20) hx hb hg inG_X8 hown hK hP 16 m_o16 rfl 19 (by decide) (hg _ kw_519) (fun _ h9 => h9) rfl dX8_mended_39 ?_
        refine lv_iload_n hx hb dX8_mended_42 rfl (lv_at hl 1 rfl) ?_
        obtain ⟨hb_10, hf⟩ := gd_ok hf
        refine m_iald hx hb hK hP (by decide) (by decide) rfl hb_10 dX8_mended_43 ?_
        refine lv_i2l hx hb dX8_mended_44 rfl ?_
        refine lv_aload_n hx hb dX8_mended_45 rfl (lv_at hl 0 rfl) ?_
        refine va_get (D := D) (ci := 7) (v := .int u.2.2.2.2) (C := RX8) (T := TX8) (N := 20) hx hb hg inG_X8 hown hK hP 16 m_o16 rfl 17 (by decide) (hg _ kw_517) (fun _ h9 => h9) rfl dX8_mended_46 ?_
        refine lv_i2l hx hb dX8_mended_49 rfl ?_
        refine lv_lmul hx hb dX8_mended_50 ?_
        refine lv_aload_n hx hb dX8_mended_51 rfl (lv_at hl 0 rfl) ?_
        refine va_get (D := D) (ci := 7) (v := .ref (am 10)) (C := RX8) (T := TX8) (N := 20) hx hb hg inG_X8 hown hK hP 16 m_o16 rfl 18 (by decide) (hg _ kw_518) (fun _ h9 => h9) rfl dX8_mended_52 ?_
        refine lv_iload_n hx hb dX8_mended_55 rfl (lv_at hl 1 rfl) ?_
        refine m_iald hx hb hK hP (by decide) (by decide) rfl hb_10 dX8_mended_56 ?_
        refine lv_i2l hx hb dX8_mended_57 rfl ?_
        refine lv_aload_n hx hb dX8_mended_58 rfl (lv_at hl 0 rfl) ?_
        obtain ⟨r_11, hc_12, hf⟩ := bd_ok hf
        refine gcVl 0 (mC_ok D am cm hJ) hC ⟨hx, hb, hml, hown, hts⟩ (mX8_gapOf l D am cm u r_11 hc_12) (gG kw_707) kw_704 kw_706 kw_19 kw_28 hX8_gapOf ⟨rfl, rfl⟩ ⟨Nat.le_of_ble_eq_true rfl, Nat.le_of_ble_eq_true rfl⟩ (x_rec (C := RX8) (T := TX8) (N := 20) (ci := 7) hK hP rfl m_o16) hP hS ⟨Nat.zero_le _, Nat.zero_le _⟩ rfl hl.1 rfl (Nat.le_of_ble_eq_true rfl) dX8_mended_59 (fun H locs hP hS => ?_)
        refine lv_lmul hx hb dX8_mended_62 ?_
        refine lv_lsub hx hb dX8_mended_63 ?_
        refine lv_lstore_n (lv' := [(3, .long ((((u.1 11 a1.toNatClampNeg).toInt64) * u.2.2.2.2.toInt64) - (((u.1 10 a1.toNatClampNeg).toInt64) * r_11))), (0, .ref (am 16)), (1, .int a1), (2, .int a2)]) hx hb dX8_mended_64 rfl hl (by decide) rfl (fun ls hl => ?_)
        refine lv_lload_n hx hb dX8_mended_65 rfl (lv_at hl 0 rfl) ?_
        refine lv_aload_n hx hb dX8_mended_66 rfl (lv_at hl 1 rfl) ?_
        refine va_get (D := D) (ci := 7) (v := .int u.2.2.2.2) (C := RX8) (T := TX8) (N := 20) hx hb hg inG_X8 hown hK hP 16 m_o16 rfl 17 (by decide) (hg _ kw_517) (fun _ h9 => h9) rfl dX8_mended_67 ?_
        refine lv_i2l hx hb dX8_mended_70 rfl ?_
        obtain ⟨r_13, hc_14, hf⟩ := bd_ok hf
        refine gcFl 2 ⟨hx, hb, hml, hown, hts⟩ (mX8_common l ((((u.1 11 a1.toNatClampNeg).toInt64) * u.2.2.2.2.toInt64) - (((u.1 10 a1.toNatClampNeg).toInt64) * r_11)) u.2.2.2.2.toInt64 r_13 hc_14) (gG kw_609) kw_607 kw_608 kw_28 hX8_common ⟨rfl, rfl⟩ ⟨Nat.le_of_ble_eq_true rfl, Nat.le_of_ble_eq_true rfl⟩ ⟨Nat.zero_le _, Nat.zero_le _⟩ rfl hl.1 rfl (Nat.le_of_ble_eq_true rfl) dX8_mended_71 ?_
        refine lv_lstore (lv' := [(5, .long r_13), (3, .long ((((u.1 11 a1.toNatClampNeg).toInt64) * u.2.2.2.2.toInt64) - (((u.1 10 a1.toNatClampNeg).toInt64) * r_11))), (0, .ref (am 16)), (1, .int a1), (2, .int a2)]) hx hb dX8_mended_74 hl (by decide) rfl (fun ls hl => ?_)
        refine lv_iload_n hx hb dX8_mended_76 rfl (lv_at hl 4 rfl) ?_
        refine lv_if_ne (tgt := 87) hx hb dX8_mended_77 (by decide) (fun c_15 => ?_) (fun c_15 => ?_)
        · skip
          replace hf := it_f c_15 hf
          refine lv_aload_n hx hb dX8_mended_87 rfl (lv_at hl 2 rfl) ?_
          refine va_get (D := D) (ci := 7) (v := .int u.2.2.2.2) (C := RX8) (T := TX8) (N := 20) hx hb hg inG_X8 hown hK hP 16 m_o16 rfl 17 (by decide) (hg _ kw_517) (fun _ h9 => h9) rfl dX8_mended_88 ?_
          refine lv_i2l hx hb dX8_mended_91 rfl ?_
          refine lv_lload hx hb dX8_mended_92 (lv_at hl 0 rfl) ?_
          obtain ⟨hb_16, hf⟩ := gd_ok hf
          refine lv_ldiv hx hb dX8_mended_94 (nz8_ok hb_16) ?_
          exact grL hx hb hr hlocks hP hS dX8_mended_95 (Option.some.inj hf) rfl
        · skip
          replace hf := it_t c_15 hf
          refine lv_lload_n hx hb dX8_mended_80 rfl (lv_at hl 1 rfl) ?_
          refine lv_lload hx hb dX8_mended_81 (lv_at hl 0 rfl) ?_
          obtain ⟨hb_17, hf⟩ := gd_ok hf
          refine lv_ldiv hx hb dX8_mended_83 (nz8_ok hb_17) ?_
          refine lv_goto (tgt := 95) hx hb dX8_mended_84 (by decide) ?_
          exact grL hx hb hr hlocks hP hS dX8_mended_95 (Option.some.inj hf) rfl
      · skip
        replace hf := it_f c_9 hf
        refine lv_ldc2 (v := -999999999999) hx hb hown (hg _ kw_712) dX8_mended_34 ?_
        exact grL hx hb hr hlocks hP hS dX8_mended_37 (Option.some.inj hf) rfl
    · skip
      replace hf := it_t c_6 hf
      refine lv_ldc2 (v := -1000000000000) hx hb hown (hg _ kw_699) dX8_mended_23 ?_
      exact grL hx hb hr hlocks hP hS dX8_mended_26 (Option.some.inj hf) rfl
abbrev rX8_count : Room := { frames := 0, cells := 0, slots := 0, locals := 0 }
theorem hX8_count : yX8_count.cls ≠ "java/lang/invoke/MethodHandle" ∧ yX8_count.cls ≠ "java/lang/invoke/VarHandle" ∧ (parseMethodDescriptor yX8_count.desc).map (fun d => d.parameters.length) = some 1 := by decide +kernel
set_option maxHeartbeats 4000000 in
set_option maxRecDepth 100000 in
theorem mX8_count (l : Launch) (D : va_G) (am : Nat → Nat) (cm : Nat → ClassId) (u : UM) (a1 : Int32)  (r0 : Int32) (hok : fX8_count u a1 = some r0) : Met l yX8_count (Cond.code yX8_count cX8_count 6 (some .int) :: wsG) rX8_count (va_Pc [.ref (am 16), .int a1] (wI D (wM am cm) (mC D am cm) u)) (va_Qi (fun (r : Int32) (u' : UM) => r = r0 ∧ u' = u) (wB D (wM am cm)) (AM am)) 0 0 (AM am) := by
  refine Met.ofW (cc := cX8_count) (maxL := 6) (ret := (some .int)) (by decide) rfl ?_
  intro p e s m args below meth c s₁ B hml hv
  have hx := B.exec
  have hb := B.bytes
  have hr := B.returns
  have hts := atoms_spec (ws := (Cond.code yX8_count cX8_count 6 (some .int) :: wsG)) B.pre
  have hg : ∀ w ∈ wsG, w.before args s = true := fun w h => hts w (List.mem_cons_of_mem _ h)
  have hown : s.vm.findClass RX8 = some m.cls := findClass_of_methodNamed B.named
  have hlocks := B.notSynchronized
  obtain ⟨ha, hP, hC⟩ := hv
  obtain ⟨hK, hJ⟩ := id hC
  have hS : va_S (AM am) s.heap s.heap [] := va_S.rf
  refine W.eq (show entryFrame m args 6 = entryFrame m ([.ref (am 16), .int a1] : List Value).toArray 6 by rw [ha]) ?_
  have hl := lv_entry ([.ref (am 16), .int a1]) (n := 6) (Nat.le_of_ble_eq_true rfl)
  rw [lg_entry_eq]
  generalize (lg_sl ([.ref (am 16), .int a1]) ++ List.replicate (6 - (lg_sl ([.ref (am 16), .int a1])).length) Slot.unset).toArray = ls at hl ⊢
  have hl : lv_has ls 6 [(0, .ref (am 16)), (1, .int a1)] := hl
  show W p l e rX8_count s m args below meth c s.heap [] 0 0 (MQ below (va_Qi (fun (r : Int32) (u' : UM) => r = r0 ∧ u' = u) (wB D (wM am cm)) (AM am)) args s 0 0 (AM am)) (F0 m 0 ls [])
  have hf := hok
  unfold fX8_count at hf
  refine lv_aload_n hx hb dX8_count_0 rfl (lv_at hl 0 rfl) ?_
  refine lv_iconst (v := 0) hx hb dX8_count_1 (by decide) ?_
  refine m_putZ hx hb hg hown hK hP hJ hS (hg _ kw_500) dX8_count_2 (fun H locs hP hS => ?_)
  refine lv_iconst (v := 0) hx hb dX8_count_5 (by decide) ?_
  refine lv_istore_n (lv' := [(2, .int ((0 : Int32))), (0, .ref (am 16)), (1, .int a1)]) hx hb dX8_count_6 rfl hl (by decide) rfl (fun ls hl => ?_)
  refine lv_iconst (v := 0) hx hb dX8_count_7 (by decide) ?_
  refine lv_istore_n (lv' := [(3, .int ((0 : Int32))), (2, .int ((0 : Int32))), (0, .ref (am 16)), (1, .int a1)]) hx hb dX8_count_8 rfl hl (by decide) rfl (fun ls hl => ?_)
  refine lv_iconst (v := 0) hx hb dX8_count_9 (by decide) ?_
  refine lv_istore (lv' := [(4, .int ((0 : Int32))), (3, .int ((0 : Int32))), (2, .int ((0 : Int32))), (0, .ref (am 16)), (1, .int a1)]) hx hb dX8_count_10 hl (by decide) rfl (fun ls hl => ?_)
  have hL_2 : ∀ (nf : Nat) (y2_k_1 : Int32) (y3_k_1 : Int32) (y4_k_1 : Int32) (H : Heap) (locs : List Loc) (ls : Array Slot) (t : Int32 × Int32), va_P D vwCl (wM am cm u) H → va_S (AM am) s.heap H locs → lv_has ls 6 [(0, .ref (am 16)), (1, .int a1), (2, .int y2_k_1), (3, .int y3_k_1), (4, .int y4_k_1)] → fX8_count_12 u nf y2_k_1 y3_k_1 y4_k_1 = some t → (∀ (H : Heap) (locs : List Loc) (ls : Array Slot), va_P D vwCl (wM am cm u) H → va_S (AM am) s.heap H locs → lv_has ls 6 [(0, .ref (am 16)), (1, .int a1), (2, .int t.1), (3, .int t.2)] → W p l e rX8_count s m args below meth c H locs 0 0 (MQ below (va_Qi (fun (r : Int32) (u' : UM) => r = r0 ∧ u' = u) (wB D (wM am cm)) (AM am)) args s 0 0 (AM am)) (F0 m 96 ls [])) → W p l e rX8_count s m args below meth c H locs 0 0 (MQ below (va_Qi (fun (r : Int32) (u' : UM) => r = r0 ∧ u' = u) (wB D (wM am cm)) (AM am)) args s 0 0 (AM am)) (F0 m 12 ls []) := by
    intro nf
    induction nf with
    | zero => intro y2_k_1 y3_k_1 y4_k_1 H locs ls t hP hS hl hf hK'; rw [fX8_count_12] at hf; cases hf
    | succ nf ih =>
      intro y2_k_1 y3_k_1 y4_k_1 H locs ls t hP hS hl hf hK'
      rw [fX8_count_12] at hf
      refine lv_iload hx hb dX8_count_12 (lv_at hl 4 rfl) ?_
      refine lv_aload_n hx hb dX8_count_14 rfl (lv_at hl 0 rfl) ?_
      refine va_get (D := D) (ci := 7) (v := .int u.2.2.2.1) (C := RX8) (T := TX8) (N := 20) hx hb hg inG_X8 hown hK hP 16 m_o16 rfl 2 (by decide) (hg _ kw_502) (fun _ h9 => h9) rfl dX8_count_15 ?_
      refine lv_icmp_ge (tgt := 96) hx hb dX8_count_18 (by decide) (fun c_3 => ?_) (fun c_3 => ?_)
      · skip
        replace hf := it_t c_3 hf
        have ht := Option.some.inj hf
        subst ht
        exact hK' _ _ _ hP hS (lv_sub hl [0, 1, 2, 3] rfl)
      · skip
        replace hf := it_f c_3 hf
        refine lv_iload_n hx hb dX8_count_21 rfl (lv_at hl 2 rfl) ?_
        refine lv_aload_n hx hb dX8_count_22 rfl (lv_at hl 0 rfl) ?_
        refine va_get (D := D) (ci := 7) (v := .ref (am 5)) (C := RX8) (T := TX8) (N := 20) hx hb hg inG_X8 hown hK hP 16 m_o16 rfl 8 (by decide) (hg _ kw_508) (fun _ h9 => h9) rfl dX8_count_23 ?_
        refine lv_iload hx hb dX8_count_26 (lv_at hl 4 rfl) ?_
        obtain ⟨hb_4, hf⟩ := gd_ok hf
        refine m_iald hx hb hK hP (by decide) (by decide) rfl hb_4 dX8_count_28 ?_
        refine lv_iadd hx hb dX8_count_29 ?_
        refine lv_istore_n (lv' := [(2, .int (y2_k_1 + (u.1 5 y4_k_1.toNatClampNeg))), (0, .ref (am 16)), (1, .int a1), (3, .int y3_k_1), (4, .int y4_k_1)]) hx hb dX8_count_30 rfl hl (by decide) rfl (fun ls hl => ?_)
        refine lv_iload_n hx hb dX8_count_31 rfl (lv_at hl 3 rfl) ?_
        refine lv_aload_n hx hb dX8_count_32 rfl (lv_at hl 1 rfl) ?_
        refine va_get (D := D) (ci := 7) (v := .ref (am 5)) (C := RX8) (T := TX8) (N := 20) hx hb hg inG_X8 hown hK hP 16 m_o16 rfl 8 (by decide) (hg _ kw_508) (fun _ h9 => h9) rfl dX8_count_33 ?_
        refine lv_iload hx hb dX8_count_36 (lv_at hl 4 rfl) ?_
        refine m_iald hx hb hK hP (by decide) (by decide) rfl hb_4 dX8_count_38 ?_
        obtain ⟨t_5, hq_6, hf⟩ := bd_ok hf
        have hJ_7 : ∀ (H : Heap) (locs : List Loc) (ls : Array Slot), va_P D vwCl (wM am cm u) H → va_S (AM am) s.heap H locs → lv_has ls 6 [(0, .ref (am 16)), (1, .int a1), (2, .int (y2_k_1 + (u.1 5 y4_k_1.toNatClampNeg))), (4, .int y4_k_1)] → W p l e rX8_count s m args below meth c H locs 0 0 (MQ below (va_Qi (fun (r : Int32) (u' : UM) => r = r0 ∧ u' = u) (wB D (wM am cm)) (AM am)) args s 0 0 (AM am)) (F0 m 47 ls [.int t_5, .int y3_k_1]) := by
          intro H locs ls hP hS hl
          refine lv_iadd hx hb dX8_count_47 ?_
          refine lv_istore_n (lv' := [(3, .int (y3_k_1 + t_5)), (0, .ref (am 16)), (1, .int a1), (2, .int (y2_k_1 + (u.1 5 y4_k_1.toNatClampNeg))), (4, .int y4_k_1)]) hx hb dX8_count_48 rfl hl (by decide) rfl (fun ls hl => ?_)
          refine lv_iconst (v := 0) hx hb dX8_count_49 (by decide) ?_
          refine lv_istore (lv' := [(5, .int ((0 : Int32))), (3, .int (y3_k_1 + t_5)), (0, .ref (am 16)), (1, .int a1), (2, .int (y2_k_1 + (u.1 5 y4_k_1.toNatClampNeg))), (4, .int y4_k_1)]) hx hb dX8_count_50 hl (by decide) rfl (fun ls hl => ?_)
          have hL_9 : ∀ (nf : Nat) (y3_k_8 : Int32) (y5_k_8 : Int32) (H : Heap) (locs : List Loc) (ls : Array Slot) (t : Int32), va_P D vwCl (wM am cm u) H → va_S (AM am) s.heap H locs → lv_has ls 6 [(0, .ref (am 16)), (1, .int a1), (2, .int (y2_k_1 + (u.1 5 y4_k_1.toNatClampNeg))), (3, .int y3_k_8), (4, .int y4_k_1), (5, .int y5_k_8)] → fX8_count_52 u y4_k_1 nf y3_k_8 y5_k_8 = some t → (∀ (H : Heap) (locs : List Loc) (ls : Array Slot), va_P D vwCl (wM am cm u) H → va_S (AM am) s.heap H locs → lv_has ls 6 [(0, .ref (am 16)), (1, .int a1), (2, .int (y2_k_1 + (u.1 5 y4_k_1.toNatClampNeg))), (3, .int t), (4, .int y4_k_1)] → W p l e rX8_count s m args below meth c H locs 0 0 (MQ below (va_Qi (fun (r : Int32) (u' : UM) => r = r0 ∧ u' = u) (wB D (wM am cm)) (AM am)) args s 0 0 (AM am)) (F0 m 90 ls [])) → W p l e rX8_count s m args below meth c H locs 0 0 (MQ below (va_Qi (fun (r : Int32) (u' : UM) => r = r0 ∧ u' = u) (wB D (wM am cm)) (AM am)) args s 0 0 (AM am)) (F0 m 52 ls []) := by
            intro nf
            induction nf with
            | zero => intro y3_k_8 y5_k_8 H locs ls t hP hS hl hf hK'; rw [fX8_count_52] at hf; cases hf
            | succ nf ih =>
              intro y3_k_8 y5_k_8 H locs ls t hP hS hl hf hK'
              rw [fX8_count_52] at hf
              refine lv_iload hx hb dX8_count_52 (lv_at hl 5 rfl) ?_
              refine lv_aload_n hx hb dX8_count_54 rfl (lv_at hl 0 rfl) ?_
              refine va_get (D := D) (ci := 7) (v := .int u.2.2.2.1) (C := RX8) (T := TX8) (N := 20) hx hb hg inG_X8 hown hK hP 16 m_o16 rfl 2 (by decide) (hg _ kw_502) (fun _ h9 => h9) rfl dX8_count_55 ?_
              refine lv_icmp_ge (tgt := 90) hx hb dX8_count_58 (by decide) (fun c_10 => ?_) (fun c_10 => ?_)
              · skip
                replace hf := it_t c_10 hf
                have ht := Option.some.inj hf
                subst ht
                exact hK' _ _ _ hP hS (lv_sub hl [0, 1, 2, 3, 4] rfl)
              · skip
                replace hf := it_f c_10 hf
                refine lv_iload_n hx hb dX8_count_61 rfl (lv_at hl 3 rfl) ?_
                refine lv_aload_n hx hb dX8_count_62 rfl (lv_at hl 0 rfl) ?_
                refine va_get (D := D) (ci := 7) (v := .ref (am 6)) (C := RX8) (T := TX8) (N := 20) hx hb hg inG_X8 hown hK hP 16 m_o16 rfl 9 (by decide) (hg _ kw_509) (fun _ h9 => h9) rfl dX8_count_63 ?_
                refine lv_iconst (v := 5) hx hb dX8_count_66 (by decide) ?_
                refine lv_iload hx hb dX8_count_67 (lv_at hl 4 rfl) ?_
                refine lv_imul hx hb dX8_count_69 ?_
                refine lv_iload hx hb dX8_count_70 (lv_at hl 5 rfl) ?_
                refine lv_iadd hx hb dX8_count_72 ?_
                obtain ⟨hb_11, hf⟩ := gd_ok hf
                refine m_iald hx hb hK hP (by decide) (by decide) rfl hb_11 dX8_count_73 ?_
                refine lv_if_le (tgt := 81) hx hb dX8_count_74 (by decide) (fun c_12 => ?_) (fun c_12 => ?_)
                · skip
                  replace hf := it_t c_12 hf
                  refine lv_iconst (v := 0) hx hb dX8_count_81 (by decide) ?_
                  refine lv_iadd hx hb dX8_count_82 ?_
                  refine lv_istore_n (lv' := [(3, .int (y3_k_8 + ((0 : Int32)))), (0, .ref (am 16)), (1, .int a1), (2, .int (y2_k_1 + (u.1 5 y4_k_1.toNatClampNeg))), (4, .int y4_k_1), (5, .int y5_k_8)]) hx hb dX8_count_83 rfl hl (by decide) rfl (fun ls hl => ?_)
                  refine lv_iinc (v := y5_k_8 + 1) (lv' := [(5, .int (y5_k_8 + 1)), (3, .int (y3_k_8 + ((0 : Int32)))), (0, .ref (am 16)), (1, .int a1), (2, .int (y2_k_1 + (u.1 5 y4_k_1.toNatClampNeg))), (4, .int y4_k_1)]) hx hb dX8_count_84 hl (k := 5) rfl rfl (by decide) rfl (fun ls hl => ?_)
                  refine lv_goto (tgt := 52) hx hb dX8_count_87 (by decide) ?_
                  exact ih _ _ _ _ _ t hP hS (lv_sub hl [2, 3, 4, 1, 5, 0] rfl) hf hK'
                · skip
                  replace hf := it_f c_12 hf
                  refine lv_iconst (v := 1) hx hb dX8_count_77 (by decide) ?_
                  refine lv_goto (tgt := 82) hx hb dX8_count_78 (by decide) ?_
                  refine lv_iadd hx hb dX8_count_82 ?_
                  refine lv_istore_n (lv' := [(3, .int (y3_k_8 + ((1 : Int32)))), (0, .ref (am 16)), (1, .int a1), (2, .int (y2_k_1 + (u.1 5 y4_k_1.toNatClampNeg))), (4, .int y4_k_1), (5, .int y5_k_8)]) hx hb dX8_count_83 rfl hl (by decide) rfl (fun ls hl => ?_)
                  refine lv_iinc (v := y5_k_8 + 1) (lv' := [(5, .int (y5_k_8 + 1)), (3, .int (y3_k_8 + ((1 : Int32)))), (0, .ref (am 16)), (1, .int a1), (2, .int (y2_k_1 + (u.1 5 y4_k_1.toNatClampNeg))), (4, .int y4_k_1)]) hx hb dX8_count_84 hl (k := 5) rfl rfl (by decide) rfl (fun ls hl => ?_)
                  refine lv_goto (tgt := 52) hx hb dX8_count_87 (by decide) ?_
                  exact ih _ _ _ _ _ t hP hS (lv_sub hl [2, 3, 4, 1, 5, 0] rfl) hf hK'
          obtain ⟨t_13, hq_14, hf⟩ := bd_ok hf
          refine hL_9 FU _ _ _ _ _ t_13 hP hS (lv_sub hl [2, 3, 4, 1, 5, 0] rfl) hq_14 (fun H locs ls hP hS hl => ?_)
          refine lv_iinc (v := y4_k_1 + 1) (lv' := [(4, .int (y4_k_1 + 1)), (0, .ref (am 16)), (1, .int a1), (2, .int (y2_k_1 + (u.1 5 y4_k_1.toNatClampNeg))), (3, .int t_13)]) hx hb dX8_count_90 hl (k := 4) rfl rfl (by decide) rfl (fun ls hl => ?_)
          refine lv_goto (tgt := 12) hx hb dX8_count_93 (by decide) ?_
          exact ih _ _ _ _ _ _ t hP hS (lv_sub hl [1, 2, 3, 4, 0] rfl) hf hK'
        clear hf
        have hf := hq_6
        refine lv_if_le (tgt := 46) hx hb dX8_count_39 (by decide) (fun c_15 => ?_) (fun c_15 => ?_)
        · skip
          replace hf := it_t c_15 hf
          refine lv_iconst (v := 0) hx hb dX8_count_46 (by decide) ?_
          have ht := Option.some.inj hf
          subst ht
          exact hJ_7 _ _ _ hP hS (lv_sub hl [1, 2, 0, 4] rfl)
        · skip
          replace hf := it_f c_15 hf
          refine lv_iconst (v := 1) hx hb dX8_count_42 (by decide) ?_
          refine lv_goto (tgt := 47) hx hb dX8_count_43 (by decide) ?_
          have ht := Option.some.inj hf
          subst ht
          exact hJ_7 _ _ _ hP hS (lv_sub hl [1, 2, 0, 4] rfl)
  obtain ⟨t_16, hq_17, hf⟩ := bd_ok hf
  refine hL_2 FU _ _ _ _ _ _ t_16 hP hS (lv_sub hl [3, 4, 2, 1, 0] rfl) hq_17 (fun H locs ls hP hS hl => ?_)
  refine lv_iload_n hx hb dX8_count_96 rfl (lv_at hl 1 rfl) ?_
  by_cases c_18 : a1 = 0
  · replace hf := it_t c_18 hf
    refine lv_tableIn (tgt := 140) hx hb dX8_count_97 (by rw [c_18] <;> decide) (by rw [c_18] <;> decide) (by rw [c_18] <;> rfl) (by decide) ?_
    refine lv_aload_n hx hb dX8_count_140 rfl (lv_at hl 0 rfl) ?_
    refine va_get (D := D) (ci := 7) (v := .int u.2.2.2.1) (C := RX8) (T := TX8) (N := 20) hx hb hg inG_X8 hown hK hP 16 m_o16 rfl 2 (by decide) (hg _ kw_502) (fun _ h9 => h9) rfl dX8_count_141 ?_
    exact grI hx hb hr hlocks hP hS dX8_count_144 (Option.some.inj hf) rfl
  · replace hf := it_f c_18 hf
    by_cases c_19 : a1 = 1
    · replace hf := it_t c_19 hf
      refine lv_tableIn (tgt := 145) hx hb dX8_count_97 (by rw [c_19] <;> decide) (by rw [c_19] <;> decide) (by rw [c_19] <;> rfl) (by decide) ?_
      refine lv_iload_n hx hb dX8_count_145 rfl (lv_at hl 2 rfl) ?_
      exact grI hx hb hr hlocks hP hS dX8_count_146 (Option.some.inj hf) rfl
    · replace hf := it_f c_19 hf
      by_cases c_20 : a1 = 2
      · replace hf := it_t c_20 hf
        refine lv_tableIn (tgt := 147) hx hb dX8_count_97 (by rw [c_20] <;> decide) (by rw [c_20] <;> decide) (by rw [c_20] <;> rfl) (by decide) ?_
        refine lv_iload_n hx hb dX8_count_147 rfl (lv_at hl 3 rfl) ?_
        exact grI hx hb hr hlocks hP hS dX8_count_148 (Option.some.inj hf) rfl
      · replace hf := it_f c_20 hf
        by_cases c_21 : a1 = 3
        · replace hf := it_t c_21 hf
          refine lv_tableIn (tgt := 149) hx hb dX8_count_97 (by rw [c_21] <;> decide) (by rw [c_21] <;> decide) (by rw [c_21] <;> rfl) (by decide) ?_
          refine lv_aload_n hx hb dX8_count_149 rfl (lv_at hl 0 rfl) ?_
          refine va_get (D := D) (ci := 7) (v := .int u.2.2.2.2) (C := RX8) (T := TX8) (N := 20) hx hb hg inG_X8 hown hK hP 16 m_o16 rfl 17 (by decide) (hg _ kw_517) (fun _ h9 => h9) rfl dX8_count_150 ?_
          exact grI hx hb hr hlocks hP hS dX8_count_153 (Option.some.inj hf) rfl
        · replace hf := it_f c_21 hf
          by_cases c_22 : a1 = 4
          · replace hf := it_t c_22 hf
            refine lv_tableIn (tgt := 154) hx hb dX8_count_97 (by rw [c_22] <;> decide) (by rw [c_22] <;> decide) (by rw [c_22] <;> rfl) (by decide) ?_
            refine lv_aload_n hx hb dX8_count_154 rfl (lv_at hl 0 rfl) ?_
            refine va_get (D := D) (ci := 7) (v := .ref (am 4)) (C := RX8) (T := TX8) (N := 20) hx hb hg inG_X8 hown hK hP 16 m_o16 rfl 7 (by decide) (hg _ kw_507) (fun _ h9 => h9) rfl dX8_count_155 ?_
            refine lv_iload_n hx hb dX8_count_158 rfl (lv_at hl 1 rfl) ?_
            refine lv_iconst (v := 4) hx hb dX8_count_159 (by decide) ?_
            refine lv_isub hx hb dX8_count_160 ?_
            obtain ⟨hb_23, hf⟩ := gd_ok hf
            refine m_iald hx hb hK hP (by decide) (by decide) rfl hb_23 dX8_count_161 ?_
            exact grI hx hb hr hlocks hP hS dX8_count_162 (Option.some.inj hf) rfl
          · replace hf := it_f c_22 hf
            by_cases c_24 : a1 = 5
            · replace hf := it_t c_24 hf
              refine lv_tableIn (tgt := 154) hx hb dX8_count_97 (by rw [c_24] <;> decide) (by rw [c_24] <;> decide) (by rw [c_24] <;> rfl) (by decide) ?_
              refine lv_aload_n hx hb dX8_count_154 rfl (lv_at hl 0 rfl) ?_
              refine va_get (D := D) (ci := 7) (v := .ref (am 4)) (C := RX8) (T := TX8) (N := 20) hx hb hg inG_X8 hown hK hP 16 m_o16 rfl 7 (by decide) (hg _ kw_507) (fun _ h9 => h9) rfl dX8_count_155 ?_
              refine lv_iload_n hx hb dX8_count_158 rfl (lv_at hl 1 rfl) ?_
              refine lv_iconst (v := 4) hx hb dX8_count_159 (by decide) ?_
              refine lv_isub hx hb dX8_count_160 ?_
              obtain ⟨hb_25, hf⟩ := gd_ok hf
              refine m_iald hx hb hK hP (by decide) (by decide) rfl hb_25 dX8_count_161 ?_
              exact grI hx hb hr hlocks hP hS dX8_count_162 (Option.some.inj hf) rfl
            · replace hf := it_f c_24 hf
              by_cases c_26 : a1 = 6
              · replace hf := it_t c_26 hf
                refine lv_tableIn (tgt := 154) hx hb dX8_count_97 (by rw [c_26] <;> decide) (by rw [c_26] <;> decide) (by rw [c_26] <;> rfl) (by decide) ?_
                refine lv_aload_n hx hb dX8_count_154 rfl (lv_at hl 0 rfl) ?_
                refine va_get (D := D) (ci := 7) (v := .ref (am 4)) (C := RX8) (T := TX8) (N := 20) hx hb hg inG_X8 hown hK hP 16 m_o16 rfl 7 (by decide) (hg _ kw_507) (fun _ h9 => h9) rfl dX8_count_155 ?_
                refine lv_iload_n hx hb dX8_count_158 rfl (lv_at hl 1 rfl) ?_
                refine lv_iconst (v := 4) hx hb dX8_count_159 (by decide) ?_
                refine lv_isub hx hb dX8_count_160 ?_
                obtain ⟨hb_27, hf⟩ := gd_ok hf
                refine m_iald hx hb hK hP (by decide) (by decide) rfl hb_27 dX8_count_161 ?_
                exact grI hx hb hr hlocks hP hS dX8_count_162 (Option.some.inj hf) rfl
              · replace hf := it_f c_26 hf
                have e0_c_18 := lv_neT (a := 0) c_18 (by decide)
                have e1_c_19 := lv_neT (a := 1) c_19 (by decide)
                have e2_c_20 := lv_neT (a := 2) c_20 (by decide)
                have e3_c_21 := lv_neT (a := 3) c_21 (by decide)
                have e4_c_22 := lv_neT (a := 4) c_22 (by decide)
                have e5_c_24 := lv_neT (a := 5) c_24 (by decide)
                have e6_c_26 := lv_neT (a := 6) c_26 (by decide)
                refine lv_tableOut (tgt := 163) hx hb dX8_count_97 (by omega) (by decide) ?_
                refine lv_iconst (v := -1) hx hb dX8_count_163 (by decide) ?_
                exact grI hx hb hr hlocks hP hS dX8_count_164 (Option.some.inj hf) rfl
abbrev rX8_trace : Room := { frames := 0, cells := 0, slots := 0, locals := 0 }
theorem hX8_trace : yX8_trace.cls ≠ "java/lang/invoke/MethodHandle" ∧ yX8_trace.cls ≠ "java/lang/invoke/VarHandle" ∧ (parseMethodDescriptor yX8_trace.desc).map (fun d => d.parameters.length) = some 0 := by decide +kernel
set_option maxHeartbeats 4000000 in
set_option maxRecDepth 100000 in
theorem mX8_trace (l : Launch) (D : va_G) (am : Nat → Nat) (cm : Nat → ClassId) (u : UM)   (r0 : Int64) (hok : fX8_trace u = some r0) : Met l yX8_trace (Cond.code yX8_trace cX8_trace 1 (some .long) :: wsG) rX8_trace (va_Pc [.ref (am 16)] (wI D (wM am cm) (mC D am cm) u)) (va_Ql (fun (r : Int64) (u' : UM) => r = r0 ∧ u' = u) (wB D (wM am cm)) (AM am)) 0 0 (AM am) := by
  refine Met.ofW (cc := cX8_trace) (maxL := 1) (ret := (some .long)) (by decide) rfl ?_
  intro p e s m args below meth c s₁ B hml hv
  have hx := B.exec
  have hb := B.bytes
  have hr := B.returns
  have hts := atoms_spec (ws := (Cond.code yX8_trace cX8_trace 1 (some .long) :: wsG)) B.pre
  have hg : ∀ w ∈ wsG, w.before args s = true := fun w h => hts w (List.mem_cons_of_mem _ h)
  have hown : s.vm.findClass RX8 = some m.cls := findClass_of_methodNamed B.named
  have hlocks := B.notSynchronized
  obtain ⟨ha, hP, hC⟩ := hv
  obtain ⟨hK, hJ⟩ := id hC
  have hS : va_S (AM am) s.heap s.heap [] := va_S.rf
  refine W.eq (show entryFrame m args 1 = entryFrame m ([.ref (am 16)] : List Value).toArray 1 by rw [ha]) ?_
  have hl := lv_entry ([.ref (am 16)]) (n := 1) (Nat.le_of_ble_eq_true rfl)
  rw [lg_entry_eq]
  generalize (lg_sl ([.ref (am 16)]) ++ List.replicate (1 - (lg_sl ([.ref (am 16)])).length) Slot.unset).toArray = ls at hl ⊢
  have hl : lv_has ls 1 [(0, .ref (am 16))] := hl
  show W p l e rX8_trace s m args below meth c s.heap [] 0 0 (MQ below (va_Ql (fun (r : Int64) (u' : UM) => r = r0 ∧ u' = u) (wB D (wM am cm)) (AM am)) args s 0 0 (AM am)) (F0 m 0 ls [])
  have hf := hok
  unfold fX8_trace at hf
  refine lv_aload_n hx hb dX8_trace_0 rfl (lv_at hl 0 rfl) ?_
  refine lv_iconst (v := 0) hx hb dX8_trace_1 (by decide) ?_
  refine m_putZ hx hb hg hown hK hP hJ hS (hg _ kw_500) dX8_trace_2 (fun H locs hP hS => ?_)
  refine lv_aload_n hx hb dX8_trace_5 rfl (lv_at hl 0 rfl) ?_
  refine va_get (D := D) (ci := 7) (v := .long u.2.2.1) (C := RX8) (T := TX8) (N := 20) hx hb hg inG_X8 hown hK hP 16 m_o16 rfl 1 (by decide) (hg _ kw_501) (fun _ h9 => h9) rfl dX8_trace_6 ?_
  exact grL hx hb hr hlocks hP hS dX8_trace_9 (Option.some.inj hf) rfl
