abbrev rX7_step : Room := { frames := 1, cells := 0, slots := 0, locals := 24 }
theorem hX7_step : yX7_step.cls ≠ "java/lang/invoke/MethodHandle" ∧ yX7_step.cls ≠ "java/lang/invoke/VarHandle" ∧ (parseMethodDescriptor yX7_step.desc).map (fun d => d.parameters.length) = some 3 := by decide +kernel
set_option maxHeartbeats 4000000 in
set_option maxRecDepth 100000 in
theorem mX7_step (l : Launch) (D : va_G) (ad : Nat → Nat) (cs : Nat → ClassId) (tM : Nat) (u : UX) (a1 : Int32) (a2 : Int32) (a3 : Int32)  (ru : Int32 × UX) (hok : fX7_step u a1 a2 a3 = some ru) : Met l yX7_step (Cond.code yX7_step cX7_step 4 (some .int) :: wsG) rX7_step (va_Pc [.ref (ad 29), .int a1, .int a2, .int a3] (wI D (wX ad cs) (xC D ad cs tM) u)) (va_Qi (fun (r : Int32) (u' : UX) => r = ru.1 ∧ u' = ru.2) (wB D (wX ad cs)) (AX ad)) 0 0 (AX ad) := by
  refine Met.ofW (cc := cX7_step) (maxL := 4) (ret := (some .int)) (by decide) rfl ?_
  intro p e s m args below meth c s₁ B hml hv
  have hx := B.exec
  have hb := B.bytes
  have hr := B.returns
  have hts := atoms_spec (ws := (Cond.code yX7_step cX7_step 4 (some .int) :: wsG)) B.pre
  have hg : ∀ w ∈ wsG, w.before args s = true := fun w h => hts w (List.mem_cons_of_mem _ h)
  have hown : s.vm.findClass RX7 = some m.cls := findClass_of_methodNamed B.named
  have hlocks := B.notSynchronized
  obtain ⟨ha, hP, hC⟩ := hv
  obtain ⟨hK, hJ, hN, hZ, hT⟩ := id hC
  have hS : va_S (AX ad) s.heap s.heap [] := va_S.rf
  refine W.eq (show entryFrame m args 4 = entryFrame m ([.ref (ad 29), .int a1, .int a2, .int a3] : List Value).toArray 4 by rw [ha]) ?_
  have hl := lv_entry ([.ref (ad 29), .int a1, .int a2, .int a3]) (n := 4) (Nat.le_of_ble_eq_true rfl)
  rw [lg_entry_eq]
  generalize (lg_sl ([.ref (ad 29), .int a1, .int a2, .int a3]) ++ List.replicate (4 - (lg_sl ([.ref (ad 29), .int a1, .int a2, .int a3])).length) Slot.unset).toArray = ls at hl ⊢
  have hl : lv_has ls 4 [(0, .ref (ad 29)), (1, .int a1), (2, .int a2), (3, .int a3)] := hl
  show W p l e rX7_step s m args below meth c s.heap [] 0 0 (MQ below (va_Qi (fun (r : Int32) (u' : UX) => r = ru.1 ∧ u' = ru.2) (wB D (wX ad cs)) (AX ad)) args s 0 0 (AX ad)) (F0 m 0 ls [])
  have hf := hok
  unfold fX7_step at hf
  refine lv_iload_n hx hb dX7_step_0 rfl (lv_at hl 1 rfl) ?_
  refine lv_iconst (v := 1) hx hb dX7_step_1 (by decide) ?_
  refine lv_sipush (v := 1000) hx hb dX7_step_2 (by decide) ?_
  obtain ⟨r_1, hc_2, hf⟩ := bd_ok hf
  refine gcFi 3 ⟨hx, hb, hml, hown, hts⟩ (mX7_within l a1 ((1 : Int32)) ((1000 : Int32)) r_1 hc_2) (gG kw_203) kw_201 kw_202 kw_21 hX7_within ⟨rfl, rfl⟩ ⟨Nat.le_of_ble_eq_true rfl, Nat.le_of_ble_eq_true rfl⟩ ⟨Nat.zero_le _, Nat.zero_le _⟩ rfl hl.1 rfl (Nat.le_of_ble_eq_true rfl) dX7_step_5 ?_
  refine lv_if_eq (tgt := 22) hx hb dX7_step_8 (by decide) (fun c_3 => ?_) (fun c_3 => ?_)
  · skip
    replace hf := it_t c_3 hf
    refine lv_iconst (v := -1) hx hb dX7_step_22 (by decide) ?_
    exact grI hx hb hr hlocks hP hS dX7_step_23 (pf1 hf) (pf2 hf)
  · skip
    replace hf := it_f c_3 hf
    refine lv_iload_n hx hb dX7_step_11 rfl (lv_at hl 2 rfl) ?_
    refine lv_iconst (v := 0) hx hb dX7_step_12 (by decide) ?_
    refine lv_sipush (v := 400) hx hb dX7_step_13 (by decide) ?_
    obtain ⟨r_4, hc_5, hf⟩ := bd_ok hf
    refine gcFi 3 ⟨hx, hb, hml, hown, hts⟩ (mX7_within l a2 ((0 : Int32)) ((400 : Int32)) r_4 hc_5) (gG kw_203) kw_201 kw_202 kw_21 hX7_within ⟨rfl, rfl⟩ ⟨Nat.le_of_ble_eq_true rfl, Nat.le_of_ble_eq_true rfl⟩ ⟨Nat.zero_le _, Nat.zero_le _⟩ rfl hl.1 rfl (Nat.le_of_ble_eq_true rfl) dX7_step_16 ?_
    refine lv_if_ne (tgt := 24) hx hb dX7_step_19 (by decide) (fun c_6 => ?_) (fun c_6 => ?_)
    · skip
      replace hf := it_f c_6 hf
      refine lv_iload_n hx hb dX7_step_24 rfl (lv_at hl 3 rfl) ?_
      refine lv_iload_n hx hb dX7_step_25 rfl (lv_at hl 2 rfl) ?_
      refine lv_iconst (v := 1) hx hb dX7_step_26 (by decide) ?_
      refine lv_iadd hx hb dX7_step_27 ?_
      refine lv_sipush (v := 500) hx hb dX7_step_28 (by decide) ?_
      obtain ⟨r_7, hc_8, hf⟩ := bd_ok hf
      refine gcFi 3 ⟨hx, hb, hml, hown, hts⟩ (mX7_within l a3 (a2 + ((1 : Int32))) ((500 : Int32)) r_7 hc_8) (gG kw_203) kw_201 kw_202 kw_21 hX7_within ⟨rfl, rfl⟩ ⟨Nat.le_of_ble_eq_true rfl, Nat.le_of_ble_eq_true rfl⟩ ⟨Nat.zero_le _, Nat.zero_le _⟩ rfl hl.1 rfl (Nat.le_of_ble_eq_true rfl) dX7_step_31 ?_
      refine lv_if_ne (tgt := 39) hx hb dX7_step_34 (by decide) (fun c_9 => ?_) (fun c_9 => ?_)
      · skip
        replace hf := it_f c_9 hf
        refine lv_aload_n hx hb dX7_step_39 rfl (lv_at hl 0 rfl) ?_
        refine va_get (D := D) (ci := 6) (v := .ref (ad 30)) (C := RX7) (T := TX7) (N := 7) hx hb hg inG_X7 hown hK hP 29 x_o29 rfl 0 (by decide) (hg _ kw_175) (fun _ h9 => h9) rfl dX7_step_40 ?_
        refine lv_iload_n hx hb dX7_step_43 rfl (lv_at hl 1 rfl) ?_
        refine lv_iload_n hx hb dX7_step_44 rfl (lv_at hl 2 rfl) ?_
        refine lv_iload_n hx hb dX7_step_45 rfl (lv_at hl 3 rfl) ?_
        obtain ⟨r_10, hc_11, hf⟩ := bd_ok hf
        refine gcVi 3 (xC_ok D ad cs tM hJ) hC ⟨hx, hb, hml, hown, hts⟩ (mX5_append l D ad cs tM u a1 a2 a3 r_10 hc_11) (gG kw_207) kw_204 kw_205 kw_206 kw_22 hX5_append ⟨rfl, rfl⟩ ⟨Nat.le_of_ble_eq_true rfl, Nat.le_of_ble_eq_true rfl⟩ (x_rec (C := RX5) (T := TX5) (N := 5) (ci := 4) hK hP rfl x_o30) hP hS ⟨Nat.zero_le _, Nat.zero_le _⟩ rfl hl.1 rfl (Nat.le_of_ble_eq_true rfl) dX7_step_46 (fun H locs hP hS => ?_)
        exact grI hx hb hr hlocks hP hS dX7_step_49 (pf1 hf) (pf2 hf)
      · skip
        replace hf := it_t c_9 hf
        refine lv_iconst (v := -1) hx hb dX7_step_37 (by decide) ?_
        exact grI hx hb hr hlocks hP hS dX7_step_38 (pf1 hf) (pf2 hf)
    · skip
      replace hf := it_t c_6 hf
      refine lv_iconst (v := -1) hx hb dX7_step_22 (by decide) ?_
      exact grI hx hb hr hlocks hP hS dX7_step_23 (pf1 hf) (pf2 hf)
abbrev rX7_replace : Room := { frames := 0, cells := 0, slots := 0, locals := 0 }
theorem hX7_replace : yX7_replace.cls ≠ "java/lang/invoke/MethodHandle" ∧ yX7_replace.cls ≠ "java/lang/invoke/VarHandle" ∧ (parseMethodDescriptor yX7_replace.desc).map (fun d => d.parameters.length) = some 3 := by decide +kernel
set_option maxHeartbeats 4000000 in
set_option maxRecDepth 100000 in
theorem mX7_replace (l : Launch) (D : va_G) (ad : Nat → Nat) (cs : Nat → ClassId) (tM : Nat) (u : UX) (k0 : Nat) (a1 : Int32) (a2 : Int32) (hk0 : k0 < 18) (hz0 : ¬ k0 = 11) (ru : Int32 × UX) (hok : fX7_replace u k0 a1 a2 = some ru) : Met l yX7_replace (Cond.code yX7_replace cX7_replace 4 (some .int) :: wsG) rX7_replace (va_Pc [.ref (ad k0), .int a1, .int a2] (wI D (wX ad cs) (xC D ad cs tM) u)) (va_Qi (fun (r : Int32) (u' : UX) => r = ru.1 ∧ u' = ru.2) (wB D (wX ad cs)) (AX ad)) 0 0 (AX ad) := by
  refine Met.ofW (cc := cX7_replace) (maxL := 4) (ret := (some .int)) (by decide) rfl ?_
  intro p e s m args below meth c s₁ B hml hv
  have hx := B.exec
  have hb := B.bytes
  have hr := B.returns
  have hts := atoms_spec (ws := (Cond.code yX7_replace cX7_replace 4 (some .int) :: wsG)) B.pre
  have hg : ∀ w ∈ wsG, w.before args s = true := fun w h => hts w (List.mem_cons_of_mem _ h)
  have hown : s.vm.findClass RX7 = some m.cls := findClass_of_methodNamed B.named
  have hlocks := B.notSynchronized
  obtain ⟨ha, hP, hC⟩ := hv
  obtain ⟨hK, hJ, hN, hZ, hT⟩ := id hC
  have hS : va_S (AX ad) s.heap s.heap [] := va_S.rf
  refine W.eq (show entryFrame m args 4 = entryFrame m ([.ref (ad k0), .int a1, .int a2] : List Value).toArray 4 by rw [ha]) ?_
  have hl := lv_entry ([.ref (ad k0), .int a1, .int a2]) (n := 4) (Nat.le_of_ble_eq_true rfl)
  rw [lg_entry_eq]
  generalize (lg_sl ([.ref (ad k0), .int a1, .int a2]) ++ List.replicate (4 - (lg_sl ([.ref (ad k0), .int a1, .int a2])).length) Slot.unset).toArray = ls at hl ⊢
  have hl : lv_has ls 4 [(0, .ref (ad k0)), (1, .int a1), (2, .int a2)] := hl
  show W p l e rX7_replace s m args below meth c s.heap [] 0 0 (MQ below (va_Qi (fun (r : Int32) (u' : UX) => r = ru.1 ∧ u' = ru.2) (wB D (wX ad cs)) (AX ad)) args s 0 0 (AX ad)) (F0 m 0 ls [])
  have hf := hok
  unfold fX7_replace at hf
  refine lv_iload_n hx hb dX7_replace_0 rfl (lv_at hl 1 rfl) ?_
  refine lv_if_lt (tgt := 10) hx hb dX7_replace_1 (by decide) (fun c_1 => ?_) (fun c_1 => ?_)
  · skip
    replace hf := it_t c_1 hf
    refine lv_iconst (v := -1) hx hb dX7_replace_10 (by decide) ?_
    exact grI hx hb hr hlocks hP hS dX7_replace_11 (pf1 hf) (pf2 hf)
  · skip
    replace hf := it_f c_1 hf
    refine lv_iload_n hx hb dX7_replace_4 rfl (lv_at hl 1 rfl) ?_
    refine lv_aload_n hx hb dX7_replace_5 rfl (lv_at hl 0 rfl) ?_
    refine x_alen hx hb hK hP hk0 hz0 dX7_replace_6 ?_
    refine lv_icmp_lt (tgt := 12) hx hb dX7_replace_7 (by decide) (fun c_2 => ?_) (fun c_2 => ?_)
    · skip
      replace hf := it_t c_2 hf
      refine lv_aload_n hx hb dX7_replace_12 rfl (lv_at hl 0 rfl) ?_
      refine lv_iload_n hx hb dX7_replace_13 rfl (lv_at hl 1 rfl) ?_
      obtain ⟨hb_3, hf⟩ := gd_ok hf
      refine x_iald hx hb hK hP hk0 hz0 rfl hb_3 dX7_replace_14 ?_
      refine lv_istore_n (lv' := [(3, .int (u.1 k0 a1.toNatClampNeg)), (0, .ref (ad k0)), (1, .int a1), (2, .int a2)]) hx hb dX7_replace_15 rfl hl (by decide) rfl (fun ls hl => ?_)
      refine lv_aload_n hx hb dX7_replace_16 rfl (lv_at hl 1 rfl) ?_
      refine lv_iload_n hx hb dX7_replace_17 rfl (lv_at hl 2 rfl) ?_
      refine lv_iload_n hx hb dX7_replace_18 rfl (lv_at hl 3 rfl) ?_
      refine x_iast hx hb hK hP hJ hS hk0 hz0 rfl hb_3 dX7_replace_19 (fun H locs hP hS => ?_)
      refine lv_iload_n hx hb dX7_replace_20 rfl (lv_at hl 0 rfl) ?_
      exact grI hx hb hr hlocks hP hS dX7_replace_21 (pf1 hf) (pf2 hf)
    · skip
      replace hf := it_f c_2 hf
      refine lv_iconst (v := -1) hx hb dX7_replace_10 (by decide) ?_
      exact grI hx hb hr hlocks hP hS dX7_replace_11 (pf1 hf) (pf2 hf)
abbrev rX7_change : Room := { frames := 1, cells := 0, slots := 0, locals := 23 }
theorem hX7_change : yX7_change.cls ≠ "java/lang/invoke/MethodHandle" ∧ yX7_change.cls ≠ "java/lang/invoke/VarHandle" ∧ (parseMethodDescriptor yX7_change.desc).map (fun d => d.parameters.length) = some 3 := by decide +kernel
set_option maxHeartbeats 4000000 in
set_option maxRecDepth 100000 in
theorem mX7_change (l : Launch) (D : va_G) (ad : Nat → Nat) (cs : Nat → ClassId) (tM : Nat) (u : UX) (a1 : Int32) (a2 : Int32) (a3 : Int32)  (ru : Int32 × UX) (hok : fX7_change u a1 a2 a3 = some ru) : Met l yX7_change (Cond.code yX7_change cX7_change 4 (some .int) :: wsG) rX7_change (va_Pc [.ref (ad 29), .int a1, .int a2, .int a3] (wI D (wX ad cs) (xC D ad cs tM) u)) (va_Qi (fun (r : Int32) (u' : UX) => r = ru.1 ∧ u' = ru.2) (wB D (wX ad cs)) (AX ad)) 0 0 (AX ad) := by
  refine Met.ofW (cc := cX7_change) (maxL := 4) (ret := (some .int)) (by decide) rfl ?_
  intro p e s m args below meth c s₁ B hml hv
  have hx := B.exec
  have hb := B.bytes
  have hr := B.returns
  have hts := atoms_spec (ws := (Cond.code yX7_change cX7_change 4 (some .int) :: wsG)) B.pre
  have hg : ∀ w ∈ wsG, w.before args s = true := fun w h => hts w (List.mem_cons_of_mem _ h)
  have hown : s.vm.findClass RX7 = some m.cls := findClass_of_methodNamed B.named
  have hlocks := B.notSynchronized
  obtain ⟨ha, hP, hC⟩ := hv
  obtain ⟨hK, hJ, hN, hZ, hT⟩ := id hC
  have hS : va_S (AX ad) s.heap s.heap [] := va_S.rf
  refine W.eq (show entryFrame m args 4 = entryFrame m ([.ref (ad 29), .int a1, .int a2, .int a3] : List Value).toArray 4 by rw [ha]) ?_
  have hl := lv_entry ([.ref (ad 29), .int a1, .int a2, .int a3]) (n := 4) (Nat.le_of_ble_eq_true rfl)
  rw [lg_entry_eq]
  generalize (lg_sl ([.ref (ad 29), .int a1, .int a2, .int a3]) ++ List.replicate (4 - (lg_sl ([.ref (ad 29), .int a1, .int a2, .int a3])).length) Slot.unset).toArray = ls at hl ⊢
  have hl : lv_has ls 4 [(0, .ref (ad 29)), (1, .int a1), (2, .int a2), (3, .int a3)] := hl
  show W p l e rX7_change s m args below meth c s.heap [] 0 0 (MQ below (va_Qi (fun (r : Int32) (u' : UX) => r = ru.1 ∧ u' = ru.2) (wB D (wX ad cs)) (AX ad)) args s 0 0 (AX ad)) (F0 m 0 ls [])
  have hf := hok
  unfold fX7_change at hf
  refine lv_aload_n hx hb dX7_change_0 rfl (lv_at hl 0 rfl) ?_
  refine va_get (D := D) (ci := 6) (v := .ref (ad 30)) (C := RX7) (T := TX7) (N := 7) hx hb hg inG_X7 hown hK hP 29 x_o29 rfl 0 (by decide) (hg _ kw_175) (fun _ h9 => h9) rfl dX7_change_1 ?_
  refine lv_iload_n hx hb dX7_change_4 rfl (lv_at hl 1 rfl) ?_
  obtain ⟨r_1, hc_2, hf⟩ := bd_ok hf
  refine gcVi 1 (xC_ok D ad cs tM hJ) hC ⟨hx, hb, hml, hown, hts⟩ (mX5_has l D ad cs tM u a1 r_1 hc_2) (gG kw_215) kw_212 kw_213 kw_214 kw_22 hX5_has ⟨rfl, rfl⟩ ⟨Nat.le_of_ble_eq_true rfl, Nat.le_of_ble_eq_true rfl⟩ (x_rec (C := RX5) (T := TX5) (N := 5) (ci := 4) hK hP rfl x_o30) hP hS ⟨Nat.zero_le _, Nat.zero_le _⟩ rfl hl.1 rfl (Nat.le_of_ble_eq_true rfl) dX7_change_5 (fun H locs hP hS => ?_)
  refine lv_if_ne (tgt := 13) hx hb dX7_change_8 (by decide) (fun c_3 => ?_) (fun c_3 => ?_)
  · skip
    replace hf := it_f c_3 hf
    refine lv_iload_n hx hb dX7_change_13 rfl (lv_at hl 2 rfl) ?_
    refine lv_if_ne (tgt := 41) hx hb dX7_change_14 (by decide) (fun c_4 => ?_) (fun c_4 => ?_)
    · skip
      replace hf := it_f c_4 hf
      refine lv_iload_n hx hb dX7_change_41 rfl (lv_at hl 2 rfl) ?_
      refine lv_iconst (v := 1) hx hb dX7_change_42 (by decide) ?_
      refine lv_icmp_ne (tgt := 69) hx hb dX7_change_43 (by decide) (fun c_5 => ?_) (fun c_5 => ?_)
      · skip
        replace hf := it_f c_5 hf
        refine lv_iconst (v := -1) hx hb dX7_change_69 (by decide) ?_
        exact grI hx hb hr hlocks hP hS dX7_change_70 (pf1 hf) (pf2 hf)
      · skip
        replace hf := it_t c_5 hf
        refine lv_iload_n hx hb dX7_change_46 rfl (lv_at hl 3 rfl) ?_
        refine lv_iconst (v := 0) hx hb dX7_change_47 (by decide) ?_
        refine lv_bipush (v := 9) hx hb dX7_change_48 (by decide) ?_
        obtain ⟨r_6, hc_7, hf⟩ := bd_ok hf
        refine gcFi 3 ⟨hx, hb, hml, hown, hts⟩ (mX7_within l a3 ((0 : Int32)) ((9 : Int32)) r_6 hc_7) (gG kw_203) kw_201 kw_202 kw_21 hX7_within ⟨rfl, rfl⟩ ⟨Nat.le_of_ble_eq_true rfl, Nat.le_of_ble_eq_true rfl⟩ ⟨Nat.zero_le _, Nat.zero_le _⟩ rfl hl.1 rfl (Nat.le_of_ble_eq_true rfl) dX7_change_50 ?_
        refine lv_if_eq (tgt := 69) hx hb dX7_change_53 (by decide) (fun c_8 => ?_) (fun c_8 => ?_)
        · skip
          replace hf := it_t c_8 hf
          refine lv_iconst (v := -1) hx hb dX7_change_69 (by decide) ?_
          exact grI hx hb hr hlocks hP hS dX7_change_70 (pf1 hf) (pf2 hf)
        · skip
          replace hf := it_f c_8 hf
          refine lv_aload_n hx hb dX7_change_56 rfl (lv_at hl 0 rfl) ?_
          refine va_get (D := D) (ci := 6) (v := .ref (ad 30)) (C := RX7) (T := TX7) (N := 7) hx hb hg inG_X7 hown hK hP 29 x_o29 rfl 0 (by decide) (hg _ kw_175) (fun _ h9 => h9) rfl dX7_change_57 ?_
          refine va_getN (D := D) (ci := 4) (v := .ref (ad 3)) (C := RX5) (T := TX5) (N := 5) hx hb hg inG_X5 hown hK hP 30 x_o30 rfl 3 (by decide) (va_Nw.use rfl (hN _ kn_55)) (fun _ h9 => h9) rfl dX7_change_60 ?_
          refine lv_iload_n hx hb dX7_change_63 rfl (lv_at hl 1 rfl) ?_
          refine lv_iload_n hx hb dX7_change_64 rfl (lv_at hl 3 rfl) ?_
          obtain ⟨r_9, hc_10, hf⟩ := bd_ok hf
          refine gcSi 3 (xC_ok D ad cs tM hJ) hC ⟨hx, hb, hml, hown, hts⟩ (mX7_replace l D ad cs tM u 3 a1 a3 (by decide) (by decide) r_9 hc_10) (gG kw_218) kw_216 kw_217 kw_21 hX7_replace ⟨rfl, rfl⟩ ⟨Nat.le_of_ble_eq_true rfl, Nat.le_of_ble_eq_true rfl⟩ hP hS ⟨Nat.zero_le _, Nat.zero_le _⟩ rfl hl.1 rfl (Nat.le_of_ble_eq_true rfl) dX7_change_65 (fun H locs hP hS => ?_)
          exact grI hx hb hr hlocks hP hS dX7_change_68 (pf1 hf) (pf2 hf)
    · skip
      replace hf := it_t c_4 hf
      refine lv_iload_n hx hb dX7_change_17 rfl (lv_at hl 3 rfl) ?_
      refine lv_iconst (v := 1) hx hb dX7_change_18 (by decide) ?_
      refine lv_sipush (v := 1000) hx hb dX7_change_19 (by decide) ?_
      obtain ⟨r_11, hc_12, hf⟩ := bd_ok hf
      refine gcFi 3 ⟨hx, hb, hml, hown, hts⟩ (mX7_within l a3 ((1 : Int32)) ((1000 : Int32)) r_11 hc_12) (gG kw_203) kw_201 kw_202 kw_21 hX7_within ⟨rfl, rfl⟩ ⟨Nat.le_of_ble_eq_true rfl, Nat.le_of_ble_eq_true rfl⟩ ⟨Nat.zero_le _, Nat.zero_le _⟩ rfl hl.1 rfl (Nat.le_of_ble_eq_true rfl) dX7_change_22 ?_
      refine lv_if_eq (tgt := 41) hx hb dX7_change_25 (by decide) (fun c_13 => ?_) (fun c_13 => ?_)
      · skip
        replace hf := it_t c_13 hf
        refine lv_iload_n hx hb dX7_change_41 rfl (lv_at hl 2 rfl) ?_
        refine lv_iconst (v := 1) hx hb dX7_change_42 (by decide) ?_
        refine lv_icmp_ne (tgt := 69) hx hb dX7_change_43 (by decide) (fun c_14 => ?_) (fun c_14 => ?_)
        · skip
          replace hf := it_f c_14 hf
          refine lv_iconst (v := -1) hx hb dX7_change_69 (by decide) ?_
          exact grI hx hb hr hlocks hP hS dX7_change_70 (pf1 hf) (pf2 hf)
        · skip
          replace hf := it_t c_14 hf
          refine lv_iload_n hx hb dX7_change_46 rfl (lv_at hl 3 rfl) ?_
          refine lv_iconst (v := 0) hx hb dX7_change_47 (by decide) ?_
          refine lv_bipush (v := 9) hx hb dX7_change_48 (by decide) ?_
          obtain ⟨r_15, hc_16, hf⟩ := bd_ok hf
          refine gcFi 3 ⟨hx, hb, hml, hown, hts⟩ (mX7_within l a3 ((0 : Int32)) ((9 : Int32)) r_15 hc_16) (gG kw_203) kw_201 kw_202 kw_21 hX7_within ⟨rfl, rfl⟩ ⟨Nat.le_of_ble_eq_true rfl, Nat.le_of_ble_eq_true rfl⟩ ⟨Nat.zero_le _, Nat.zero_le _⟩ rfl hl.1 rfl (Nat.le_of_ble_eq_true rfl) dX7_change_50 ?_
          refine lv_if_eq (tgt := 69) hx hb dX7_change_53 (by decide) (fun c_17 => ?_) (fun c_17 => ?_)
          · skip
            replace hf := it_t c_17 hf
            refine lv_iconst (v := -1) hx hb dX7_change_69 (by decide) ?_
            exact grI hx hb hr hlocks hP hS dX7_change_70 (pf1 hf) (pf2 hf)
          · skip
            replace hf := it_f c_17 hf
            refine lv_aload_n hx hb dX7_change_56 rfl (lv_at hl 0 rfl) ?_
            refine va_get (D := D) (ci := 6) (v := .ref (ad 30)) (C := RX7) (T := TX7) (N := 7) hx hb hg inG_X7 hown hK hP 29 x_o29 rfl 0 (by decide) (hg _ kw_175) (fun _ h9 => h9) rfl dX7_change_57 ?_
            refine va_getN (D := D) (ci := 4) (v := .ref (ad 3)) (C := RX5) (T := TX5) (N := 5) hx hb hg inG_X5 hown hK hP 30 x_o30 rfl 3 (by decide) (va_Nw.use rfl (hN _ kn_55)) (fun _ h9 => h9) rfl dX7_change_60 ?_
            refine lv_iload_n hx hb dX7_change_63 rfl (lv_at hl 1 rfl) ?_
            refine lv_iload_n hx hb dX7_change_64 rfl (lv_at hl 3 rfl) ?_
            obtain ⟨r_18, hc_19, hf⟩ := bd_ok hf
            refine gcSi 3 (xC_ok D ad cs tM hJ) hC ⟨hx, hb, hml, hown, hts⟩ (mX7_replace l D ad cs tM u 3 a1 a3 (by decide) (by decide) r_18 hc_19) (gG kw_218) kw_216 kw_217 kw_21 hX7_replace ⟨rfl, rfl⟩ ⟨Nat.le_of_ble_eq_true rfl, Nat.le_of_ble_eq_true rfl⟩ hP hS ⟨Nat.zero_le _, Nat.zero_le _⟩ rfl hl.1 rfl (Nat.le_of_ble_eq_true rfl) dX7_change_65 (fun H locs hP hS => ?_)
            exact grI hx hb hr hlocks hP hS dX7_change_68 (pf1 hf) (pf2 hf)
      · skip
        replace hf := it_f c_13 hf
        refine lv_aload_n hx hb dX7_change_28 rfl (lv_at hl 0 rfl) ?_
        refine va_get (D := D) (ci := 6) (v := .ref (ad 30)) (C := RX7) (T := TX7) (N := 7) hx hb hg inG_X7 hown hK hP 29 x_o29 rfl 0 (by decide) (hg _ kw_175) (fun _ h9 => h9) rfl dX7_change_29 ?_
        refine va_getN (D := D) (ci := 4) (v := .ref (ad 0)) (C := RX5) (T := TX5) (N := 5) hx hb hg inG_X5 hown hK hP 30 x_o30 rfl 0 (by decide) (va_Nw.use rfl (hN _ kn_47)) (fun _ h9 => h9) rfl dX7_change_32 ?_
        refine lv_iload_n hx hb dX7_change_35 rfl (lv_at hl 1 rfl) ?_
        refine lv_iload_n hx hb dX7_change_36 rfl (lv_at hl 3 rfl) ?_
        obtain ⟨r_20, hc_21, hf⟩ := bd_ok hf
        refine gcSi 3 (xC_ok D ad cs tM hJ) hC ⟨hx, hb, hml, hown, hts⟩ (mX7_replace l D ad cs tM u 0 a1 a3 (by decide) (by decide) r_20 hc_21) (gG kw_218) kw_216 kw_217 kw_21 hX7_replace ⟨rfl, rfl⟩ ⟨Nat.le_of_ble_eq_true rfl, Nat.le_of_ble_eq_true rfl⟩ hP hS ⟨Nat.zero_le _, Nat.zero_le _⟩ rfl hl.1 rfl (Nat.le_of_ble_eq_true rfl) dX7_change_37 (fun H locs hP hS => ?_)
        exact grI hx hb hr hlocks hP hS dX7_change_40 (pf1 hf) (pf2 hf)
  · skip
    replace hf := it_t c_3 hf
    refine lv_iconst (v := -1) hx hb dX7_change_11 (by decide) ?_
    exact grI hx hb hr hlocks hP hS dX7_change_12 (pf1 hf) (pf2 hf)
abbrev rX7_set : Room := { frames := 1, cells := 0, slots := 0, locals := 23 }
theorem hX7_set : yX7_set.cls ≠ "java/lang/invoke/MethodHandle" ∧ yX7_set.cls ≠ "java/lang/invoke/VarHandle" ∧ (parseMethodDescriptor yX7_set.desc).map (fun d => d.parameters.length) = some 2 := by decide +kernel
set_option maxHeartbeats 4000000 in
set_option maxRecDepth 100000 in
theorem mX7_set (l : Launch) (D : va_G) (ad : Nat → Nat) (cs : Nat → ClassId) (tM : Nat) (u : UX) (a1 : Int32) (a2 : Int32)  (ru : Int32 × UX) (hok : fX7_set u a1 a2 = some ru) : Met l yX7_set (Cond.code yX7_set cX7_set 3 (some .int) :: wsG) rX7_set (va_Pc [.ref (ad 29), .int a1, .int a2] (wI D (wX ad cs) (xC D ad cs tM) u)) (va_Qi (fun (r : Int32) (u' : UX) => r = ru.1 ∧ u' = ru.2) (wB D (wX ad cs)) (AX ad)) 0 0 (AX ad) := by
  refine Met.ofW (cc := cX7_set) (maxL := 3) (ret := (some .int)) (by decide) rfl ?_
  intro p e s m args below meth c s₁ B hml hv
  have hx := B.exec
  have hb := B.bytes
  have hr := B.returns
  have hts := atoms_spec (ws := (Cond.code yX7_set cX7_set 3 (some .int) :: wsG)) B.pre
  have hg : ∀ w ∈ wsG, w.before args s = true := fun w h => hts w (List.mem_cons_of_mem _ h)
  have hown : s.vm.findClass RX7 = some m.cls := findClass_of_methodNamed B.named
  have hlocks := B.notSynchronized
  obtain ⟨ha, hP, hC⟩ := hv
  obtain ⟨hK, hJ, hN, hZ, hT⟩ := id hC
  have hS : va_S (AX ad) s.heap s.heap [] := va_S.rf
  refine W.eq (show entryFrame m args 3 = entryFrame m ([.ref (ad 29), .int a1, .int a2] : List Value).toArray 3 by rw [ha]) ?_
  have hl := lv_entry ([.ref (ad 29), .int a1, .int a2]) (n := 3) (Nat.le_of_ble_eq_true rfl)
  rw [lg_entry_eq]
  generalize (lg_sl ([.ref (ad 29), .int a1, .int a2]) ++ List.replicate (3 - (lg_sl ([.ref (ad 29), .int a1, .int a2])).length) Slot.unset).toArray = ls at hl ⊢
  have hl : lv_has ls 3 [(0, .ref (ad 29)), (1, .int a1), (2, .int a2)] := hl
  show W p l e rX7_set s m args below meth c s.heap [] 0 0 (MQ below (va_Qi (fun (r : Int32) (u' : UX) => r = ru.1 ∧ u' = ru.2) (wB D (wX ad cs)) (AX ad)) args s 0 0 (AX ad)) (F0 m 0 ls [])
  have hf := hok
  unfold fX7_set at hf
  refine lv_iload_n hx hb dX7_set_0 rfl (lv_at hl 1 rfl) ?_
  obtain ⟨r_1, hc_2, hf⟩ := bd_ok hf
  refine gcSi 1 (xC_ok D ad cs tM hJ) hC ⟨hx, hb, hml, hown, hts⟩ (mX3_isSetting l D ad cs tM u a1 r_1 hc_2) (gG kw_225) kw_223 kw_224 kw_23 hX3_isSetting ⟨rfl, rfl⟩ ⟨Nat.le_of_ble_eq_true rfl, Nat.le_of_ble_eq_true rfl⟩ hP hS ⟨Nat.zero_le _, Nat.zero_le _⟩ rfl hl.1 rfl (Nat.le_of_ble_eq_true rfl) dX7_set_1 (fun H locs hP hS => ?_)
  refine lv_if_eq (tgt := 20) hx hb dX7_set_4 (by decide) (fun c_3 => ?_) (fun c_3 => ?_)
  · skip
    replace hf := it_t c_3 hf
    refine lv_iconst (v := -1) hx hb dX7_set_20 (by decide) ?_
    exact grI hx hb hr hlocks hP hS dX7_set_21 (pf1 hf) (pf2 hf)
  · skip
    replace hf := it_f c_3 hf
    refine lv_iload_n hx hb dX7_set_7 rfl (lv_at hl 2 rfl) ?_
    refine lv_iconst (v := 0) hx hb dX7_set_8 (by decide) ?_
    refine va_getsN hx hb hZ hS hown (va_Nw.use rfl (hN _ kn_228)) (fun _ h9 => h9) dX7_set_9 ?_
    refine lv_iload_n hx hb dX7_set_12 rfl (lv_at hl 1 rfl) ?_
    obtain ⟨hb_4, hf⟩ := gd_ok hf
    refine va_ti hx hb hT hS (vin_ok hb_4) (v := .int (mostI a1.toNatClampNeg)) rfl dX7_set_13 ?_
    obtain ⟨r_5, hc_6, hf⟩ := bd_ok hf
    refine gcFi 3 ⟨hx, hb, hml, hown, hts⟩ (mX7_within l a2 ((0 : Int32)) (mostI a1.toNatClampNeg) r_5 hc_6) (gG kw_203) kw_201 kw_202 kw_21 hX7_within ⟨rfl, rfl⟩ ⟨Nat.le_of_ble_eq_true rfl, Nat.le_of_ble_eq_true rfl⟩ ⟨Nat.zero_le _, Nat.zero_le _⟩ rfl hl.1 rfl (Nat.le_of_ble_eq_true rfl) dX7_set_14 ?_
    refine lv_if_ne (tgt := 22) hx hb dX7_set_17 (by decide) (fun c_7 => ?_) (fun c_7 => ?_)
    · skip
      replace hf := it_f c_7 hf
      refine lv_aload_n hx hb dX7_set_22 rfl (lv_at hl 0 rfl) ?_
      refine va_get (D := D) (ci := 6) (v := .ref (ad 31)) (C := RX7) (T := TX7) (N := 7) hx hb hg inG_X7 hown hK hP 29 x_o29 rfl 1 (by decide) (hg _ kw_176) (fun _ h9 => h9) rfl dX7_set_23 ?_
      refine va_getN (D := D) (ci := 2) (v := .ref (ad 4)) (C := RX3) (T := TX3) (N := 2) hx hb hg inG_X3 hown hK hP 31 x_o31 rfl 1 (by decide) (va_Nw.use rfl (hN _ kn_80)) (fun _ h9 => h9) rfl dX7_set_26 ?_
      refine lv_iload_n hx hb dX7_set_29 rfl (lv_at hl 1 rfl) ?_
      refine lv_iload_n hx hb dX7_set_30 rfl (lv_at hl 2 rfl) ?_
      obtain ⟨r_8, hc_9, hf⟩ := bd_ok hf
      refine gcSi 3 (xC_ok D ad cs tM hJ) hC ⟨hx, hb, hml, hown, hts⟩ (mX7_replace l D ad cs tM u 4 a1 a2 (by decide) (by decide) r_8 hc_9) (gG kw_218) kw_216 kw_217 kw_21 hX7_replace ⟨rfl, rfl⟩ ⟨Nat.le_of_ble_eq_true rfl, Nat.le_of_ble_eq_true rfl⟩ hP hS ⟨Nat.zero_le _, Nat.zero_le _⟩ rfl hl.1 rfl (Nat.le_of_ble_eq_true rfl) dX7_set_31 (fun H locs hP hS => ?_)
      exact grI hx hb hr hlocks hP hS dX7_set_34 (pf1 hf) (pf2 hf)
    · skip
      replace hf := it_t c_7 hf
      refine lv_iconst (v := -1) hx hb dX7_set_20 (by decide) ?_
      exact grI hx hb hr hlocks hP hS dX7_set_21 (pf1 hf) (pf2 hf)
abbrev rX7_limit : Room := { frames := 2, cells := 0, slots := 0, locals := 47 }
theorem hX7_limit : yX7_limit.cls ≠ "java/lang/invoke/MethodHandle" ∧ yX7_limit.cls ≠ "java/lang/invoke/VarHandle" ∧ (parseMethodDescriptor yX7_limit.desc).map (fun d => d.parameters.length) = some 2 := by decide +kernel
set_option maxHeartbeats 4000000 in
set_option maxRecDepth 100000 in
theorem mX7_limit (l : Launch) (D : va_G) (ad : Nat → Nat) (cs : Nat → ClassId) (tM : Nat) (u : UX) (a1 : Int32) (a2 : Int32)  (ru : Int32 × UX) (hok : fX7_limit u a1 a2 = some ru) : Met l yX7_limit (Cond.code yX7_limit cX7_limit 3 (some .int) :: wsG) rX7_limit (va_Pc [.ref (ad 29), .int a1, .int a2] (wI D (wX ad cs) (xC D ad cs tM) u)) (va_Qi (fun (r : Int32) (u' : UX) => r = ru.1 ∧ u' = ru.2) (wB D (wX ad cs)) (AX ad)) 0 0 (AX ad) := by
  refine Met.ofW (cc := cX7_limit) (maxL := 3) (ret := (some .int)) (by decide) rfl ?_
  intro p e s m args below meth c s₁ B hml hv
  have hx := B.exec
  have hb := B.bytes
  have hr := B.returns
  have hts := atoms_spec (ws := (Cond.code yX7_limit cX7_limit 3 (some .int) :: wsG)) B.pre
  have hg : ∀ w ∈ wsG, w.before args s = true := fun w h => hts w (List.mem_cons_of_mem _ h)
  have hown : s.vm.findClass RX7 = some m.cls := findClass_of_methodNamed B.named
  have hlocks := B.notSynchronized
  obtain ⟨ha, hP, hC⟩ := hv
  obtain ⟨hK, hJ, hN, hZ, hT⟩ := id hC
  have hS : va_S (AX ad) s.heap s.heap [] := va_S.rf
  refine W.eq (show entryFrame m args 3 = entryFrame m ([.ref (ad 29), .int a1, .int a2] : List Value).toArray 3 by rw [ha]) ?_
  have hl := lv_entry ([.ref (ad 29), .int a1, .int a2]) (n := 3) (Nat.le_of_ble_eq_true rfl)
  rw [lg_entry_eq]
  generalize (lg_sl ([.ref (ad 29), .int a1, .int a2]) ++ List.replicate (3 - (lg_sl ([.ref (ad 29), .int a1, .int a2])).length) Slot.unset).toArray = ls at hl ⊢
  have hl : lv_has ls 3 [(0, .ref (ad 29)), (1, .int a1), (2, .int a2)] := hl
  show W p l e rX7_limit s m args below meth c s.heap [] 0 0 (MQ below (va_Qi (fun (r : Int32) (u' : UX) => r = ru.1 ∧ u' = ru.2) (wB D (wX ad cs)) (AX ad)) args s 0 0 (AX ad)) (F0 m 0 ls [])
  have hf := hok
  unfold fX7_limit at hf
  refine lv_iload_n hx hb dX7_limit_0 rfl (lv_at hl 1 rfl) ?_
  refine lv_iconst (v := 0) hx hb dX7_limit_1 (by decide) ?_
  refine lv_iconst (v := 2) hx hb dX7_limit_2 (by decide) ?_
  obtain ⟨r_1, hc_2, hf⟩ := bd_ok hf
  refine gcFi 3 ⟨hx, hb, hml, hown, hts⟩ (mX7_within l a1 ((0 : Int32)) ((2 : Int32)) r_1 hc_2) (gG kw_203) kw_201 kw_202 kw_21 hX7_within ⟨rfl, rfl⟩ ⟨Nat.le_of_ble_eq_true rfl, Nat.le_of_ble_eq_true rfl⟩ ⟨Nat.zero_le _, Nat.zero_le _⟩ rfl hl.1 rfl (Nat.le_of_ble_eq_true rfl) dX7_limit_3 ?_
  refine lv_if_eq (tgt := 20) hx hb dX7_limit_6 (by decide) (fun c_3 => ?_) (fun c_3 => ?_)
  · skip
    replace hf := it_t c_3 hf
    refine lv_iconst (v := -1) hx hb dX7_limit_20 (by decide) ?_
    exact grI hx hb hr hlocks hP hS dX7_limit_21 (pf1 hf) (pf2 hf)
  · skip
    replace hf := it_f c_3 hf
    refine lv_aload_n hx hb dX7_limit_9 rfl (lv_at hl 0 rfl) ?_
    refine va_get (D := D) (ci := 6) (v := .ref (ad 30)) (C := RX7) (T := TX7) (N := 7) hx hb hg inG_X7 hown hK hP 29 x_o29 rfl 0 (by decide) (hg _ kw_175) (fun _ h9 => h9) rfl dX7_limit_10 ?_
    refine lv_iload_n hx hb dX7_limit_13 rfl (lv_at hl 2 rfl) ?_
    obtain ⟨r_4, hc_5, hf⟩ := bd_ok hf
    refine gcVi 1 (xC_ok D ad cs tM hJ) hC ⟨hx, hb, hml, hown, hts⟩ (mX5_has l D ad cs tM u a2 r_4 hc_5) (gG kw_215) kw_212 kw_213 kw_214 kw_22 hX5_has ⟨rfl, rfl⟩ ⟨Nat.le_of_ble_eq_true rfl, Nat.le_of_ble_eq_true rfl⟩ (x_rec (C := RX5) (T := TX5) (N := 5) (ci := 4) hK hP rfl x_o30) hP hS ⟨Nat.zero_le _, Nat.zero_le _⟩ rfl hl.1 rfl (Nat.le_of_ble_eq_true rfl) dX7_limit_14 (fun H locs hP hS => ?_)
    refine lv_if_ne (tgt := 22) hx hb dX7_limit_17 (by decide) (fun c_6 => ?_) (fun c_6 => ?_)
    · skip
      replace hf := it_f c_6 hf
      refine lv_aload_n hx hb dX7_limit_22 rfl (lv_at hl 0 rfl) ?_
      refine lv_dup hx hb dX7_limit_23 rfl ?_
      refine va_get (D := D) (ci := 6) (v := .long u.2.2.2.2) (C := RX7) (T := TX7) (N := 7) hx hb hg inG_X7 hown hK hP 29 x_o29 rfl 6 (by decide) (hg _ kw_181) (fun _ h9 => h9) rfl dX7_limit_24 ?_
      refine lv_iload_n hx hb dX7_limit_27 rfl (lv_at hl 1 rfl) ?_
      obtain ⟨r_7, hc_8, hf⟩ := bd_ok hf
      refine gcFi 1 ⟨hx, hb, hml, hown, hts⟩ (mX3_tracesOf l a1 r_7 hc_8) (gG kw_235) kw_233 kw_234 kw_23 hX3_tracesOf ⟨rfl, rfl⟩ ⟨Nat.le_of_ble_eq_true rfl, Nat.le_of_ble_eq_true rfl⟩ ⟨Nat.zero_le _, Nat.zero_le _⟩ rfl hl.1 rfl (Nat.le_of_ble_eq_true rfl) dX7_limit_28 ?_
      refine lv_i2l hx hb dX7_limit_31 rfl ?_
      refine lv_ladd hx hb dX7_limit_32 ?_
      refine x_putT hx hb hg hown hK hP hJ hS (hg _ kw_181) dX7_limit_33 (fun H locs hP hS => ?_)
      refine lv_aload_n hx hb dX7_limit_36 rfl (lv_at hl 0 rfl) ?_
      refine va_get (D := D) (ci := 6) (v := .ref (ad 31)) (C := RX7) (T := TX7) (N := 7) hx hb hg inG_X7 hown hK hP 29 x_o29 rfl 1 (by decide) (hg _ kw_176) (fun _ h9 => h9) rfl dX7_limit_37 ?_
      refine lv_iload_n hx hb dX7_limit_40 rfl (lv_at hl 1 rfl) ?_
      refine lv_iload_n hx hb dX7_limit_41 rfl (lv_at hl 2 rfl) ?_
      obtain ⟨r_9, hc_10, hf⟩ := bd_ok hf
      refine gcVi 2 (xC_ok D ad cs tM hJ) hC ⟨hx, hb, hml, hown, hts⟩ (mX3_by l D ad cs tM (xtr u (u.2.2.2.2 + r_7.toInt64)) a1 a2 r_9 hc_10) (gG kw_239) kw_236 kw_237 kw_238 kw_23 hX3_by ⟨rfl, rfl⟩ ⟨Nat.le_of_ble_eq_true rfl, Nat.le_of_ble_eq_true rfl⟩ (x_rec (C := RX3) (T := TX3) (N := 2) (ci := 2) hK hP rfl x_o31) hP hS ⟨Nat.zero_le _, Nat.zero_le _⟩ rfl hl.1 rfl (Nat.le_of_ble_eq_true rfl) dX7_limit_42 (fun H locs hP hS => ?_)
      exact grI hx hb hr hlocks hP hS dX7_limit_45 (pf1 hf) (pf2 hf)
    · skip
      replace hf := it_t c_6 hf
      refine lv_iconst (v := -1) hx hb dX7_limit_20 (by decide) ?_
      exact grI hx hb hr hlocks hP hS dX7_limit_21 (pf1 hf) (pf2 hf)
abbrev rX7_dirt : Room := { frames := 4, cells := 0, slots := 0, locals := 96 }
theorem hX7_dirt : yX7_dirt.cls ≠ "java/lang/invoke/MethodHandle" ∧ yX7_dirt.cls ≠ "java/lang/invoke/VarHandle" ∧ (parseMethodDescriptor yX7_dirt.desc).map (fun d => d.parameters.length) = some 2 := by decide +kernel
set_option maxHeartbeats 4000000 in
set_option maxRecDepth 100000 in
theorem mX7_dirt (l : Launch) (D : va_G) (ad : Nat → Nat) (cs : Nat → ClassId) (tM : Nat) (u : UX) (a1 : Int32) (a2 : Int32)  (ru : Int64 × UX) (hok : fX7_dirt u a1 a2 = some ru) : Met l yX7_dirt (Cond.code yX7_dirt cX7_dirt 3 (some .long) :: wsG) rX7_dirt (va_Pc [.ref (ad 29), .int a1, .int a2] (wI D (wX ad cs) (xC D ad cs tM) u)) (va_Ql (fun (r : Int64) (u' : UX) => r = ru.1 ∧ u' = ru.2) (wB D (wX ad cs)) (AX ad)) 0 0 (AX ad) := by
  refine Met.ofW (cc := cX7_dirt) (maxL := 3) (ret := (some .long)) (by decide) rfl ?_
  intro p e s m args below meth c s₁ B hml hv
  have hx := B.exec
  have hb := B.bytes
  have hr := B.returns
  have hts := atoms_spec (ws := (Cond.code yX7_dirt cX7_dirt 3 (some .long) :: wsG)) B.pre
  have hg : ∀ w ∈ wsG, w.before args s = true := fun w h => hts w (List.mem_cons_of_mem _ h)
  have hown : s.vm.findClass RX7 = some m.cls := findClass_of_methodNamed B.named
  have hlocks := B.notSynchronized
  obtain ⟨ha, hP, hC⟩ := hv
  obtain ⟨hK, hJ, hN, hZ, hT⟩ := id hC
  have hS : va_S (AX ad) s.heap s.heap [] := va_S.rf
  refine W.eq (show entryFrame m args 3 = entryFrame m ([.ref (ad 29), .int a1, .int a2] : List Value).toArray 3 by rw [ha]) ?_
  have hl := lv_entry ([.ref (ad 29), .int a1, .int a2]) (n := 3) (Nat.le_of_ble_eq_true rfl)
  rw [lg_entry_eq]
  generalize (lg_sl ([.ref (ad 29), .int a1, .int a2]) ++ List.replicate (3 - (lg_sl ([.ref (ad 29), .int a1, .int a2])).length) Slot.unset).toArray = ls at hl ⊢
  have hl : lv_has ls 3 [(0, .ref (ad 29)), (1, .int a1), (2, .int a2)] := hl
  show W p l e rX7_dirt s m args below meth c s.heap [] 0 0 (MQ below (va_Ql (fun (r : Int64) (u' : UX) => r = ru.1 ∧ u' = ru.2) (wB D (wX ad cs)) (AX ad)) args s 0 0 (AX ad)) (F0 m 0 ls [])
  have hf := hok
  unfold fX7_dirt at hf
  refine lv_iload_n hx hb dX7_dirt_0 rfl (lv_at hl 1 rfl) ?_
  refine lv_iconst (v := 1) hx hb dX7_dirt_1 (by decide) ?_
  refine lv_sipush (v := 500) hx hb dX7_dirt_2 (by decide) ?_
  obtain ⟨r_1, hc_2, hf⟩ := bd_ok hf
  refine gcFi 3 ⟨hx, hb, hml, hown, hts⟩ (mX7_within l a1 ((1 : Int32)) ((500 : Int32)) r_1 hc_2) (gG kw_203) kw_201 kw_202 kw_21 hX7_within ⟨rfl, rfl⟩ ⟨Nat.le_of_ble_eq_true rfl, Nat.le_of_ble_eq_true rfl⟩ ⟨Nat.zero_le _, Nat.zero_le _⟩ rfl hl.1 rfl (Nat.le_of_ble_eq_true rfl) dX7_dirt_5 ?_
  refine lv_if_eq (tgt := 18) hx hb dX7_dirt_8 (by decide) (fun c_3 => ?_) (fun c_3 => ?_)
  · skip
    replace hf := it_t c_3 hf
    refine lv_ldc2 (v := -1) hx hb hown (hg _ kw_250) dX7_dirt_18 ?_
    exact grL hx hb hr hlocks hP hS dX7_dirt_21 (pf1 hf) (pf2 hf)
  · skip
    replace hf := it_f c_3 hf
    refine lv_iload_n hx hb dX7_dirt_11 rfl (lv_at hl 2 rfl) ?_
    obtain ⟨r_4, hc_5, hf⟩ := bd_ok hf
    refine gcFi 1 ⟨hx, hb, hml, hown, hts⟩ (mX7_isPart l a2 r_4 hc_5) (gG kw_249) kw_247 kw_248 kw_21 hX7_isPart ⟨rfl, rfl⟩ ⟨Nat.le_of_ble_eq_true rfl, Nat.le_of_ble_eq_true rfl⟩ ⟨Nat.zero_le _, Nat.zero_le _⟩ rfl hl.1 rfl (Nat.le_of_ble_eq_true rfl) dX7_dirt_12 ?_
    refine lv_if_ne (tgt := 22) hx hb dX7_dirt_15 (by decide) (fun c_6 => ?_) (fun c_6 => ?_)
    · skip
      replace hf := it_f c_6 hf
      refine lv_aload_n hx hb dX7_dirt_22 rfl (lv_at hl 0 rfl) ?_
      refine va_get (D := D) (ci := 6) (v := .ref (ad 30)) (C := RX7) (T := TX7) (N := 7) hx hb hg inG_X7 hown hK hP 29 x_o29 rfl 0 (by decide) (hg _ kw_175) (fun _ h9 => h9) rfl dX7_dirt_23 ?_
      refine lv_iload_n hx hb dX7_dirt_26 rfl (lv_at hl 1 rfl) ?_
      refine lv_aload_n hx hb dX7_dirt_27 rfl (lv_at hl 0 rfl) ?_
      refine va_get (D := D) (ci := 6) (v := .ref (ad 18)) (C := RX7) (T := TX7) (N := 7) hx hb hg inG_X7 hown hK hP 29 x_o29 rfl 5 (by decide) (hg _ kw_180) (fun _ h9 => h9) rfl dX7_dirt_28 ?_
      obtain ⟨r_7, hc_8, hf⟩ := bd_ok hf
      refine gcVv 2 (xC_ok D ad cs tM hJ) hC ⟨hx, hb, hml, hown, hts⟩ (mX5_tellDirtBelow l D ad cs tM u a1 18 (by decide) (by decide) r_7 hc_8) (gG kw_254) kw_251 kw_252 kw_253 kw_22 hX5_tellDirtBelow ⟨rfl, rfl⟩ ⟨Nat.le_of_ble_eq_true rfl, Nat.le_of_ble_eq_true rfl⟩ (x_rec (C := RX5) (T := TX5) (N := 5) (ci := 4) hK hP rfl x_o30) hP hS ⟨Nat.zero_le _, Nat.zero_le _⟩ rfl hl.1 rfl (Nat.le_of_ble_eq_true rfl) dX7_dirt_31 (fun H locs hP hS => ?_)
      refine lv_aload_n hx hb dX7_dirt_34 rfl (lv_at hl 0 rfl) ?_
      refine va_get (D := D) (ci := 6) (v := .ref (ad 18)) (C := RX7) (T := TX7) (N := 7) hx hb hg inG_X7 hown hK hP 29 x_o29 rfl 5 (by decide) (hg _ kw_180) (fun _ h9 => h9) rfl dX7_dirt_35 ?_
      refine lv_iload_n hx hb dX7_dirt_38 rfl (lv_at hl 2 rfl) ?_
      obtain ⟨r_9, hc_10, hf⟩ := bd_ok hf
      refine gcVl 1 (xC_ok D ad cs tM hJ) hC ⟨hx, hb, hml, hown, hts⟩ (mX2_part l D ad cs tM r_7 18 a2 (by decide) (by decide) r_9 hc_10) (gG kw_284) kw_281 kw_282 kw_283 kw_25 hX2_part ⟨rfl, rfl⟩ ⟨Nat.le_of_ble_eq_true rfl, Nat.le_of_ble_eq_true rfl⟩ (x_rec (C := RX2) (T := TX2) (N := 2) (ci := 1) hK hP rfl (x_fra (by decide) (by decide))) hP hS ⟨Nat.zero_le _, Nat.zero_le _⟩ rfl hl.1 rfl (Nat.le_of_ble_eq_true rfl) dX7_dirt_39 (fun H locs hP hS => ?_)
      exact grL hx hb hr hlocks hP hS dX7_dirt_42 (pf1 hf) (pf2 hf)
    · skip
      replace hf := it_t c_6 hf
      refine lv_ldc2 (v := -1) hx hb hown (hg _ kw_250) dX7_dirt_18 ?_
      exact grL hx hb hr hlocks hP hS dX7_dirt_21 (pf1 hf) (pf2 hf)
abbrev rX7_least : Room := { frames := 5, cells := 0, slots := 0, locals := 125 }
theorem hX7_least : yX7_least.cls ≠ "java/lang/invoke/MethodHandle" ∧ yX7_least.cls ≠ "java/lang/invoke/VarHandle" ∧ (parseMethodDescriptor yX7_least.desc).map (fun d => d.parameters.length) = some 1 := by decide +kernel
set_option maxHeartbeats 4000000 in
set_option maxRecDepth 100000 in
theorem mX7_least (l : Launch) (D : va_G) (ad : Nat → Nat) (cs : Nat → ClassId) (tM : Nat) (u : UX) (a1 : Int32)  (ru : Int64 × UX) (hok : fX7_least u a1 = some ru) : Met l yX7_least (Cond.code yX7_least cX7_least 3 (some .long) :: wsG) rX7_least (va_Pc [.ref (ad 29), .int a1] (wI D (wX ad cs) (xC D ad cs tM) u)) (va_Ql (fun (r : Int64) (u' : UX) => r = ru.1 ∧ u' = ru.2) (wB D (wX ad cs)) (AX ad)) 0 0 (AX ad) := by
  refine Met.ofW (cc := cX7_least) (maxL := 3) (ret := (some .long)) (by decide) rfl ?_
  intro p e s m args below meth c s₁ B hml hv
  have hx := B.exec
  have hb := B.bytes
  have hr := B.returns
  have hts := atoms_spec (ws := (Cond.code yX7_least cX7_least 3 (some .long) :: wsG)) B.pre
  have hg : ∀ w ∈ wsG, w.before args s = true := fun w h => hts w (List.mem_cons_of_mem _ h)
  have hown : s.vm.findClass RX7 = some m.cls := findClass_of_methodNamed B.named
  have hlocks := B.notSynchronized
  obtain ⟨ha, hP, hC⟩ := hv
  obtain ⟨hK, hJ, hN, hZ, hT⟩ := id hC
  have hS : va_S (AX ad) s.heap s.heap [] := va_S.rf
  refine W.eq (show entryFrame m args 3 = entryFrame m ([.ref (ad 29), .int a1] : List Value).toArray 3 by rw [ha]) ?_
  have hl := lv_entry ([.ref (ad 29), .int a1]) (n := 3) (Nat.le_of_ble_eq_true rfl)
  rw [lg_entry_eq]
  generalize (lg_sl ([.ref (ad 29), .int a1]) ++ List.replicate (3 - (lg_sl ([.ref (ad 29), .int a1])).length) Slot.unset).toArray = ls at hl ⊢
  have hl : lv_has ls 3 [(0, .ref (ad 29)), (1, .int a1)] := hl
  show W p l e rX7_least s m args below meth c s.heap [] 0 0 (MQ below (va_Ql (fun (r : Int64) (u' : UX) => r = ru.1 ∧ u' = ru.2) (wB D (wX ad cs)) (AX ad)) args s 0 0 (AX ad)) (F0 m 0 ls [])
  have hf := hok
  unfold fX7_least at hf
  refine lv_iload_n hx hb dX7_least_0 rfl (lv_at hl 1 rfl) ?_
  refine lv_iconst (v := 0) hx hb dX7_least_1 (by decide) ?_
  refine lv_iconst (v := 2) hx hb dX7_least_2 (by decide) ?_
  obtain ⟨r_1, hc_2, hf⟩ := bd_ok hf
  refine gcFi 3 ⟨hx, hb, hml, hown, hts⟩ (mX7_within l a1 ((0 : Int32)) ((2 : Int32)) r_1 hc_2) (gG kw_203) kw_201 kw_202 kw_21 hX7_within ⟨rfl, rfl⟩ ⟨Nat.le_of_ble_eq_true rfl, Nat.le_of_ble_eq_true rfl⟩ ⟨Nat.zero_le _, Nat.zero_le _⟩ rfl hl.1 rfl (Nat.le_of_ble_eq_true rfl) dX7_least_3 ?_
  refine lv_if_ne (tgt := 13) hx hb dX7_least_6 (by decide) (fun c_3 => ?_) (fun c_3 => ?_)
  · skip
    replace hf := it_f c_3 hf
    refine lv_aload_n hx hb dX7_least_13 rfl (lv_at hl 0 rfl) ?_
    refine va_get (D := D) (ci := 6) (v := .ref (ad 30)) (C := RX7) (T := TX7) (N := 7) hx hb hg inG_X7 hown hK hP 29 x_o29 rfl 0 (by decide) (hg _ kw_175) (fun _ h9 => h9) rfl dX7_least_14 ?_
    obtain ⟨r_4, hc_5, hf⟩ := bd_ok hf
    refine gcVi 0 (xC_ok D ad cs tM hJ) hC ⟨hx, hb, hml, hown, hts⟩ (mX5_pinch l D ad cs tM u r_4 hc_5) (gG kw_292) kw_289 kw_290 kw_291 kw_22 hX5_pinch ⟨rfl, rfl⟩ ⟨Nat.le_of_ble_eq_true rfl, Nat.le_of_ble_eq_true rfl⟩ (x_rec (C := RX5) (T := TX5) (N := 5) (ci := 4) hK hP rfl x_o30) hP hS ⟨Nat.zero_le _, Nat.zero_le _⟩ rfl hl.1 rfl (Nat.le_of_ble_eq_true rfl) dX7_least_17 (fun H locs hP hS => ?_)
    refine lv_istore_n (lv' := [(2, .int r_4), (0, .ref (ad 29)), (1, .int a1)]) hx hb dX7_least_20 rfl hl (by decide) rfl (fun ls hl => ?_)
    refine lv_iload_n hx hb dX7_least_21 rfl (lv_at hl 2 rfl) ?_
    refine lv_iconst (v := 2) hx hb dX7_least_22 (by decide) ?_
    refine lv_icmp_ne (tgt := 29) hx hb dX7_least_23 (by decide) (fun c_6 => ?_) (fun c_6 => ?_)
    · skip
      replace hf := it_f c_6 hf
      refine lv_aload_n hx hb dX7_least_29 rfl (lv_at hl 1 rfl) ?_
      refine va_get (D := D) (ci := 6) (v := .ref (ad 30)) (C := RX7) (T := TX7) (N := 7) hx hb hg inG_X7 hown hK hP 29 x_o29 rfl 0 (by decide) (hg _ kw_175) (fun _ h9 => h9) rfl dX7_least_30 ?_
      refine lv_iload_n hx hb dX7_least_33 rfl (lv_at hl 0 rfl) ?_
      refine lv_aload_n hx hb dX7_least_34 rfl (lv_at hl 1 rfl) ?_
      refine va_get (D := D) (ci := 6) (v := .ref (ad 18)) (C := RX7) (T := TX7) (N := 7) hx hb hg inG_X7 hown hK hP 29 x_o29 rfl 5 (by decide) (hg _ kw_180) (fun _ h9 => h9) rfl dX7_least_35 ?_
      obtain ⟨r_7, hc_8, hf⟩ := bd_ok hf
      refine gcVv 2 (xC_ok D ad cs tM hJ) hC ⟨hx, hb, hml, hown, hts⟩ (mX5_tellLeastFresh l D ad cs tM u r_4 18 (by decide) (by decide) r_7 hc_8) (gG kw_303) kw_300 kw_301 kw_302 kw_22 hX5_tellLeastFresh ⟨rfl, rfl⟩ ⟨Nat.le_of_ble_eq_true rfl, Nat.le_of_ble_eq_true rfl⟩ (x_rec (C := RX5) (T := TX5) (N := 5) (ci := 4) hK hP rfl x_o30) hP hS ⟨Nat.zero_le _, Nat.zero_le _⟩ rfl hl.1 rfl (Nat.le_of_ble_eq_true rfl) dX7_least_38 (fun H locs hP hS => ?_)
      refine lv_aload_n hx hb dX7_least_41 rfl (lv_at hl 1 rfl) ?_
      refine va_get (D := D) (ci := 6) (v := .ref (ad 18)) (C := RX7) (T := TX7) (N := 7) hx hb hg inG_X7 hown hK hP 29 x_o29 rfl 5 (by decide) (hg _ kw_180) (fun _ h9 => h9) rfl dX7_least_42 ?_
      refine lv_iload_n hx hb dX7_least_45 rfl (lv_at hl 2 rfl) ?_
      obtain ⟨r_9, hc_10, hf⟩ := bd_ok hf
      refine gcVl 1 (xC_ok D ad cs tM hJ) hC ⟨hx, hb, hml, hown, hts⟩ (mX2_part l D ad cs tM r_7 18 a1 (by decide) (by decide) r_9 hc_10) (gG kw_284) kw_281 kw_282 kw_283 kw_25 hX2_part ⟨rfl, rfl⟩ ⟨Nat.le_of_ble_eq_true rfl, Nat.le_of_ble_eq_true rfl⟩ (x_rec (C := RX2) (T := TX2) (N := 2) (ci := 1) hK hP rfl (x_fra (by decide) (by decide))) hP hS ⟨Nat.zero_le _, Nat.zero_le _⟩ rfl hl.1 rfl (Nat.le_of_ble_eq_true rfl) dX7_least_46 (fun H locs hP hS => ?_)
      exact grL hx hb hr hlocks hP hS dX7_least_49 (pf1 hf) (pf2 hf)
    · skip
      replace hf := it_t c_6 hf
      refine lv_iload_n hx hb dX7_least_26 rfl (lv_at hl 0 rfl) ?_
      refine lv_i2l hx hb dX7_least_27 rfl ?_
      exact grL hx hb hr hlocks hP hS dX7_least_28 (pf1 hf) (pf2 hf)
  · skip
    replace hf := it_t c_3 hf
    refine lv_ldc2 (v := -1) hx hb hown (hg _ kw_250) dX7_least_9 ?_
    exact grL hx hb hr hlocks hP hS dX7_least_12 (pf1 hf) (pf2 hf)
abbrev rX7_fresh : Room := { frames := 1, cells := 0, slots := 0, locals := 23 }
theorem hX7_fresh : yX7_fresh.cls ≠ "java/lang/invoke/MethodHandle" ∧ yX7_fresh.cls ≠ "java/lang/invoke/VarHandle" ∧ (parseMethodDescriptor yX7_fresh.desc).map (fun d => d.parameters.length) = some 2 := by decide +kernel
set_option maxHeartbeats 4000000 in
set_option maxRecDepth 100000 in
theorem mX7_fresh (l : Launch) (D : va_G) (ad : Nat → Nat) (cs : Nat → ClassId) (tM : Nat) (u : UX) (a1 : Int32) (a2 : Int32)  (ru : Int32 × UX) (hok : fX7_fresh u a1 a2 = some ru) : Met l yX7_fresh (Cond.code yX7_fresh cX7_fresh 3 (some .int) :: wsG) rX7_fresh (va_Pc [.ref (ad 29), .int a1, .int a2] (wI D (wX ad cs) (xC D ad cs tM) u)) (va_Qi (fun (r : Int32) (u' : UX) => r = ru.1 ∧ u' = ru.2) (wB D (wX ad cs)) (AX ad)) 0 0 (AX ad) := by
  refine Met.ofW (cc := cX7_fresh) (maxL := 3) (ret := (some .int)) (by decide) rfl ?_
  intro p e s m args below meth c s₁ B hml hv
  have hx := B.exec
  have hb := B.bytes
  have hr := B.returns
  have hts := atoms_spec (ws := (Cond.code yX7_fresh cX7_fresh 3 (some .int) :: wsG)) B.pre
  have hg : ∀ w ∈ wsG, w.before args s = true := fun w h => hts w (List.mem_cons_of_mem _ h)
  have hown : s.vm.findClass RX7 = some m.cls := findClass_of_methodNamed B.named
  have hlocks := B.notSynchronized
  obtain ⟨ha, hP, hC⟩ := hv
  obtain ⟨hK, hJ, hN, hZ, hT⟩ := id hC
  have hS : va_S (AX ad) s.heap s.heap [] := va_S.rf
  refine W.eq (show entryFrame m args 3 = entryFrame m ([.ref (ad 29), .int a1, .int a2] : List Value).toArray 3 by rw [ha]) ?_
  have hl := lv_entry ([.ref (ad 29), .int a1, .int a2]) (n := 3) (Nat.le_of_ble_eq_true rfl)
  rw [lg_entry_eq]
  generalize (lg_sl ([.ref (ad 29), .int a1, .int a2]) ++ List.replicate (3 - (lg_sl ([.ref (ad 29), .int a1, .int a2])).length) Slot.unset).toArray = ls at hl ⊢
  have hl : lv_has ls 3 [(0, .ref (ad 29)), (1, .int a1), (2, .int a2)] := hl
  show W p l e rX7_fresh s m args below meth c s.heap [] 0 0 (MQ below (va_Qi (fun (r : Int32) (u' : UX) => r = ru.1 ∧ u' = ru.2) (wB D (wX ad cs)) (AX ad)) args s 0 0 (AX ad)) (F0 m 0 ls [])
  have hf := hok
  unfold fX7_fresh at hf
  refine lv_aload_n hx hb dX7_fresh_0 rfl (lv_at hl 0 rfl) ?_
  refine va_get (D := D) (ci := 6) (v := .ref (ad 30)) (C := RX7) (T := TX7) (N := 7) hx hb hg inG_X7 hown hK hP 29 x_o29 rfl 0 (by decide) (hg _ kw_175) (fun _ h9 => h9) rfl dX7_fresh_1 ?_
  refine lv_iload_n hx hb dX7_fresh_4 rfl (lv_at hl 1 rfl) ?_
  obtain ⟨r_1, hc_2, hf⟩ := bd_ok hf
  refine gcVi 1 (xC_ok D ad cs tM hJ) hC ⟨hx, hb, hml, hown, hts⟩ (mX5_has l D ad cs tM u a1 r_1 hc_2) (gG kw_215) kw_212 kw_213 kw_214 kw_22 hX5_has ⟨rfl, rfl⟩ ⟨Nat.le_of_ble_eq_true rfl, Nat.le_of_ble_eq_true rfl⟩ (x_rec (C := RX5) (T := TX5) (N := 5) (ci := 4) hK hP rfl x_o30) hP hS ⟨Nat.zero_le _, Nat.zero_le _⟩ rfl hl.1 rfl (Nat.le_of_ble_eq_true rfl) dX7_fresh_5 (fun H locs hP hS => ?_)
  refine lv_if_eq (tgt := 21) hx hb dX7_fresh_8 (by decide) (fun c_3 => ?_) (fun c_3 => ?_)
  · skip
    replace hf := it_t c_3 hf
    refine lv_iconst (v := -1) hx hb dX7_fresh_21 (by decide) ?_
    exact grI hx hb hr hlocks hP hS dX7_fresh_22 (pf1 hf) (pf2 hf)
  · skip
    replace hf := it_f c_3 hf
    refine lv_iload_n hx hb dX7_fresh_11 rfl (lv_at hl 2 rfl) ?_
    refine lv_iconst (v := 0) hx hb dX7_fresh_12 (by decide) ?_
    refine lv_bipush (v := 100) hx hb dX7_fresh_13 (by decide) ?_
    obtain ⟨r_4, hc_5, hf⟩ := bd_ok hf
    refine gcFi 3 ⟨hx, hb, hml, hown, hts⟩ (mX7_within l a2 ((0 : Int32)) ((100 : Int32)) r_4 hc_5) (gG kw_203) kw_201 kw_202 kw_21 hX7_within ⟨rfl, rfl⟩ ⟨Nat.le_of_ble_eq_true rfl, Nat.le_of_ble_eq_true rfl⟩ ⟨Nat.zero_le _, Nat.zero_le _⟩ rfl hl.1 rfl (Nat.le_of_ble_eq_true rfl) dX7_fresh_15 ?_
    refine lv_if_ne (tgt := 23) hx hb dX7_fresh_18 (by decide) (fun c_6 => ?_) (fun c_6 => ?_)
    · skip
      replace hf := it_f c_6 hf
      refine lv_aload_n hx hb dX7_fresh_23 rfl (lv_at hl 0 rfl) ?_
      refine va_get (D := D) (ci := 6) (v := .ref (ad 32)) (C := RX7) (T := TX7) (N := 7) hx hb hg inG_X7 hown hK hP 29 x_o29 rfl 2 (by decide) (hg _ kw_177) (fun _ h9 => h9) rfl dX7_fresh_24 ?_
      refine va_getN (D := D) (ci := 0) (v := .ref (ad 5)) (C := RX1) (T := TX1) (N := 8) hx hb hg inG_X1 hown hK hP 32 x_o32 rfl 1 (by decide) (va_Nw.use rfl (hN _ kn_113)) (fun _ h9 => h9) rfl dX7_fresh_27 ?_
      refine lv_iload_n hx hb dX7_fresh_30 rfl (lv_at hl 1 rfl) ?_
      refine lv_iload_n hx hb dX7_fresh_31 rfl (lv_at hl 2 rfl) ?_
      obtain ⟨r_7, hc_8, hf⟩ := bd_ok hf
      refine gcSi 3 (xC_ok D ad cs tM hJ) hC ⟨hx, hb, hml, hown, hts⟩ (mX7_replace l D ad cs tM u 5 a1 a2 (by decide) (by decide) r_7 hc_8) (gG kw_218) kw_216 kw_217 kw_21 hX7_replace ⟨rfl, rfl⟩ ⟨Nat.le_of_ble_eq_true rfl, Nat.le_of_ble_eq_true rfl⟩ hP hS ⟨Nat.zero_le _, Nat.zero_le _⟩ rfl hl.1 rfl (Nat.le_of_ble_eq_true rfl) dX7_fresh_32 (fun H locs hP hS => ?_)
      exact grI hx hb hr hlocks hP hS dX7_fresh_35 (pf1 hf) (pf2 hf)
    · skip
      replace hf := it_t c_6 hf
      refine lv_iconst (v := -1) hx hb dX7_fresh_21 (by decide) ?_
      exact grI hx hb hr hlocks hP hS dX7_fresh_22 (pf1 hf) (pf2 hf)
abbrev rX7_pipe : Room := { frames := 1, cells := 0, slots := 0, locals := 23 }
theorem hX7_pipe : yX7_pipe.cls ≠ "java/lang/invoke/MethodHandle" ∧ yX7_pipe.cls ≠ "java/lang/invoke/VarHandle" ∧ (parseMethodDescriptor yX7_pipe.desc).map (fun d => d.parameters.length) = some 3 := by decide +kernel
set_option maxHeartbeats 4000000 in
set_option maxRecDepth 100000 in
theorem mX7_pipe (l : Launch) (D : va_G) (ad : Nat → Nat) (cs : Nat → ClassId) (tM : Nat) (u : UX) (a1 : Int32) (a2 : Int32) (a3 : Int32)  (ru : Int32 × UX) (hok : fX7_pipe u a1 a2 a3 = some ru) : Met l yX7_pipe (Cond.code yX7_pipe cX7_pipe 4 (some .int) :: wsG) rX7_pipe (va_Pc [.ref (ad 29), .int a1, .int a2, .int a3] (wI D (wX ad cs) (xC D ad cs tM) u)) (va_Qi (fun (r : Int32) (u' : UX) => r = ru.1 ∧ u' = ru.2) (wB D (wX ad cs)) (AX ad)) 0 0 (AX ad) := by
  refine Met.ofW (cc := cX7_pipe) (maxL := 4) (ret := (some .int)) (by decide) rfl ?_
  intro p e s m args below meth c s₁ B hml hv
  have hx := B.exec
  have hb := B.bytes
  have hr := B.returns
  have hts := atoms_spec (ws := (Cond.code yX7_pipe cX7_pipe 4 (some .int) :: wsG)) B.pre
  have hg : ∀ w ∈ wsG, w.before args s = true := fun w h => hts w (List.mem_cons_of_mem _ h)
  have hown : s.vm.findClass RX7 = some m.cls := findClass_of_methodNamed B.named
  have hlocks := B.notSynchronized
  obtain ⟨ha, hP, hC⟩ := hv
  obtain ⟨hK, hJ, hN, hZ, hT⟩ := id hC
  have hS : va_S (AX ad) s.heap s.heap [] := va_S.rf
  refine W.eq (show entryFrame m args 4 = entryFrame m ([.ref (ad 29), .int a1, .int a2, .int a3] : List Value).toArray 4 by rw [ha]) ?_
  have hl := lv_entry ([.ref (ad 29), .int a1, .int a2, .int a3]) (n := 4) (Nat.le_of_ble_eq_true rfl)
  rw [lg_entry_eq]
  generalize (lg_sl ([.ref (ad 29), .int a1, .int a2, .int a3]) ++ List.replicate (4 - (lg_sl ([.ref (ad 29), .int a1, .int a2, .int a3])).length) Slot.unset).toArray = ls at hl ⊢
  have hl : lv_has ls 4 [(0, .ref (ad 29)), (1, .int a1), (2, .int a2), (3, .int a3)] := hl
  show W p l e rX7_pipe s m args below meth c s.heap [] 0 0 (MQ below (va_Qi (fun (r : Int32) (u' : UX) => r = ru.1 ∧ u' = ru.2) (wB D (wX ad cs)) (AX ad)) args s 0 0 (AX ad)) (F0 m 0 ls [])
  have hf := hok
  unfold fX7_pipe at hf
  refine lv_aload_n hx hb dX7_pipe_0 rfl (lv_at hl 0 rfl) ?_
  refine va_get (D := D) (ci := 6) (v := .ref (ad 30)) (C := RX7) (T := TX7) (N := 7) hx hb hg inG_X7 hown hK hP 29 x_o29 rfl 0 (by decide) (hg _ kw_175) (fun _ h9 => h9) rfl dX7_pipe_1 ?_
  refine lv_iload_n hx hb dX7_pipe_4 rfl (lv_at hl 1 rfl) ?_
  obtain ⟨r_1, hc_2, hf⟩ := bd_ok hf
  refine gcVi 1 (xC_ok D ad cs tM hJ) hC ⟨hx, hb, hml, hown, hts⟩ (mX5_has l D ad cs tM u a1 r_1 hc_2) (gG kw_215) kw_212 kw_213 kw_214 kw_22 hX5_has ⟨rfl, rfl⟩ ⟨Nat.le_of_ble_eq_true rfl, Nat.le_of_ble_eq_true rfl⟩ (x_rec (C := RX5) (T := TX5) (N := 5) (ci := 4) hK hP rfl x_o30) hP hS ⟨Nat.zero_le _, Nat.zero_le _⟩ rfl hl.1 rfl (Nat.le_of_ble_eq_true rfl) dX7_pipe_5 (fun H locs hP hS => ?_)
  refine lv_if_eq (tgt := 37) hx hb dX7_pipe_8 (by decide) (fun c_3 => ?_) (fun c_3 => ?_)
  · skip
    replace hf := it_t c_3 hf
    refine lv_iconst (v := -1) hx hb dX7_pipe_37 (by decide) ?_
    exact grI hx hb hr hlocks hP hS dX7_pipe_38 (pf1 hf) (pf2 hf)
  · skip
    replace hf := it_f c_3 hf
    refine lv_aload_n hx hb dX7_pipe_11 rfl (lv_at hl 0 rfl) ?_
    refine va_get (D := D) (ci := 6) (v := .ref (ad 30)) (C := RX7) (T := TX7) (N := 7) hx hb hg inG_X7 hown hK hP 29 x_o29 rfl 0 (by decide) (hg _ kw_175) (fun _ h9 => h9) rfl dX7_pipe_12 ?_
    refine lv_iload_n hx hb dX7_pipe_15 rfl (lv_at hl 2 rfl) ?_
    obtain ⟨r_4, hc_5, hf⟩ := bd_ok hf
    refine gcVi 1 (xC_ok D ad cs tM hJ) hC ⟨hx, hb, hml, hown, hts⟩ (mX5_has l D ad cs tM u a2 r_4 hc_5) (gG kw_215) kw_212 kw_213 kw_214 kw_22 hX5_has ⟨rfl, rfl⟩ ⟨Nat.le_of_ble_eq_true rfl, Nat.le_of_ble_eq_true rfl⟩ (x_rec (C := RX5) (T := TX5) (N := 5) (ci := 4) hK hP rfl x_o30) hP hS ⟨Nat.zero_le _, Nat.zero_le _⟩ rfl hl.1 rfl (Nat.le_of_ble_eq_true rfl) dX7_pipe_16 (fun H locs hP hS => ?_)
    refine lv_if_eq (tgt := 37) hx hb dX7_pipe_19 (by decide) (fun c_6 => ?_) (fun c_6 => ?_)
    · skip
      replace hf := it_t c_6 hf
      refine lv_iconst (v := -1) hx hb dX7_pipe_37 (by decide) ?_
      exact grI hx hb hr hlocks hP hS dX7_pipe_38 (pf1 hf) (pf2 hf)
    · skip
      replace hf := it_f c_6 hf
      refine lv_iload_n hx hb dX7_pipe_22 rfl (lv_at hl 1 rfl) ?_
      refine lv_iload_n hx hb dX7_pipe_23 rfl (lv_at hl 2 rfl) ?_
      refine lv_icmp_eq (tgt := 37) hx hb dX7_pipe_24 (by decide) (fun c_7 => ?_) (fun c_7 => ?_)
      · skip
        replace hf := it_t c_7 hf
        refine lv_iconst (v := -1) hx hb dX7_pipe_37 (by decide) ?_
        exact grI hx hb hr hlocks hP hS dX7_pipe_38 (pf1 hf) (pf2 hf)
      · skip
        replace hf := it_f c_7 hf
        refine lv_iload_n hx hb dX7_pipe_27 rfl (lv_at hl 3 rfl) ?_
        refine lv_iconst (v := 0) hx hb dX7_pipe_28 (by decide) ?_
        refine lv_bipush (v := 100) hx hb dX7_pipe_29 (by decide) ?_
        obtain ⟨r_8, hc_9, hf⟩ := bd_ok hf
        refine gcFi 3 ⟨hx, hb, hml, hown, hts⟩ (mX7_within l a3 ((0 : Int32)) ((100 : Int32)) r_8 hc_9) (gG kw_203) kw_201 kw_202 kw_21 hX7_within ⟨rfl, rfl⟩ ⟨Nat.le_of_ble_eq_true rfl, Nat.le_of_ble_eq_true rfl⟩ ⟨Nat.zero_le _, Nat.zero_le _⟩ rfl hl.1 rfl (Nat.le_of_ble_eq_true rfl) dX7_pipe_31 ?_
        refine lv_if_ne (tgt := 39) hx hb dX7_pipe_34 (by decide) (fun c_10 => ?_) (fun c_10 => ?_)
        · skip
          replace hf := it_f c_10 hf
          refine lv_aload_n hx hb dX7_pipe_39 rfl (lv_at hl 0 rfl) ?_
          refine va_get (D := D) (ci := 6) (v := .ref (ad 32)) (C := RX7) (T := TX7) (N := 7) hx hb hg inG_X7 hown hK hP 29 x_o29 rfl 2 (by decide) (hg _ kw_177) (fun _ h9 => h9) rfl dX7_pipe_40 ?_
          refine va_getN (D := D) (ci := 0) (v := .ref (ad 35)) (C := RX1) (T := TX1) (N := 8) hx hb hg inG_X1 hown hK hP 32 x_o32 rfl 2 (by decide) (va_Nw.use rfl (hN _ kn_115)) (fun _ h9 => h9) rfl dX7_pipe_43 ?_
          refine lv_iload_n hx hb dX7_pipe_46 rfl (lv_at hl 1 rfl) ?_
          obtain ⟨hb_11, hf⟩ := gd_ok hf
          refine x_ald35 hx hb hK hP hb_11 dX7_pipe_47 ?_
          refine lv_iload_n hx hb dX7_pipe_48 rfl (lv_at hl 2 rfl) ?_
          refine lv_iload_n hx hb dX7_pipe_49 rfl (lv_at hl 3 rfl) ?_
          obtain ⟨r_12, hc_13, hf⟩ := bd_ok hf
          refine gcSi 3 (xC_ok D ad cs tM hJ) hC ⟨hx, hb, hml, hown, hts⟩ (mX7_replace l D ad cs tM u (6 + a1.toNatClampNeg) a2 a3 (by have := vin_lt hb_11; omega) (by have := vin_lt hb_11; omega) r_12 hc_13) (gG kw_218) kw_216 kw_217 kw_21 hX7_replace ⟨rfl, rfl⟩ ⟨Nat.le_of_ble_eq_true rfl, Nat.le_of_ble_eq_true rfl⟩ hP hS ⟨Nat.zero_le _, Nat.zero_le _⟩ rfl hl.1 rfl (Nat.le_of_ble_eq_true rfl) dX7_pipe_50 (fun H locs hP hS => ?_)
          exact grI hx hb hr hlocks hP hS dX7_pipe_53 (pf1 hf) (pf2 hf)
        · skip
          replace hf := it_t c_10 hf
          refine lv_iconst (v := -1) hx hb dX7_pipe_37 (by decide) ?_
          exact grI hx hb hr hlocks hP hS dX7_pipe_38 (pf1 hf) (pf2 hf)
abbrev rX7_water : Room := { frames := 1, cells := 0, slots := 0, locals := 23 }
theorem hX7_water : yX7_water.cls ≠ "java/lang/invoke/MethodHandle" ∧ yX7_water.cls ≠ "java/lang/invoke/VarHandle" ∧ (parseMethodDescriptor yX7_water.desc).map (fun d => d.parameters.length) = some 2 := by decide +kernel
set_option maxHeartbeats 4000000 in
set_option maxRecDepth 100000 in
theorem mX7_water (l : Launch) (D : va_G) (ad : Nat → Nat) (cs : Nat → ClassId) (tM : Nat) (u : UX) (a1 : Int32) (a2 : Int32)  (r0 : Int32) (hok : fX7_water u a1 a2 = some r0) : Met l yX7_water (Cond.code yX7_water cX7_water 3 (some .int) :: wsG) rX7_water (va_Pc [.ref (ad 29), .int a1, .int a2] (wI D (wX ad cs) (xC D ad cs tM) u)) (va_Qi (fun (r : Int32) (u' : UX) => r = r0 ∧ u' = u) (wB D (wX ad cs)) (AX ad)) 0 0 (AX ad) := by
  refine Met.ofW (cc := cX7_water) (maxL := 3) (ret := (some .int)) (by decide) rfl ?_
  intro p e s m args below meth c s₁ B hml hv
  have hx := B.exec
  have hb := B.bytes
  have hr := B.returns
  have hts := atoms_spec (ws := (Cond.code yX7_water cX7_water 3 (some .int) :: wsG)) B.pre
  have hg : ∀ w ∈ wsG, w.before args s = true := fun w h => hts w (List.mem_cons_of_mem _ h)
  have hown : s.vm.findClass RX7 = some m.cls := findClass_of_methodNamed B.named
  have hlocks := B.notSynchronized
  obtain ⟨ha, hP, hC⟩ := hv
  obtain ⟨hK, hJ, hN, hZ, hT⟩ := id hC
  have hS : va_S (AX ad) s.heap s.heap [] := va_S.rf
  refine W.eq (show entryFrame m args 3 = entryFrame m ([.ref (ad 29), .int a1, .int a2] : List Value).toArray 3 by rw [ha]) ?_
  have hl := lv_entry ([.ref (ad 29), .int a1, .int a2]) (n := 3) (Nat.le_of_ble_eq_true rfl)
  rw [lg_entry_eq]
  generalize (lg_sl ([.ref (ad 29), .int a1, .int a2]) ++ List.replicate (3 - (lg_sl ([.ref (ad 29), .int a1, .int a2])).length) Slot.unset).toArray = ls at hl ⊢
  have hl : lv_has ls 3 [(0, .ref (ad 29)), (1, .int a1), (2, .int a2)] := hl
  show W p l e rX7_water s m args below meth c s.heap [] 0 0 (MQ below (va_Qi (fun (r : Int32) (u' : UX) => r = r0 ∧ u' = u) (wB D (wX ad cs)) (AX ad)) args s 0 0 (AX ad)) (F0 m 0 ls [])
  have hf := hok
  unfold fX7_water at hf
  refine lv_aload_n hx hb dX7_water_0 rfl (lv_at hl 0 rfl) ?_
  refine va_get (D := D) (ci := 6) (v := .ref (ad 30)) (C := RX7) (T := TX7) (N := 7) hx hb hg inG_X7 hown hK hP 29 x_o29 rfl 0 (by decide) (hg _ kw_175) (fun _ h9 => h9) rfl dX7_water_1 ?_
  refine lv_iload_n hx hb dX7_water_4 rfl (lv_at hl 1 rfl) ?_
  obtain ⟨r_1, hc_2, hf⟩ := bd_ok hf
  refine gcVi 1 (xC_ok D ad cs tM hJ) hC ⟨hx, hb, hml, hown, hts⟩ (mX5_has l D ad cs tM u a1 r_1 hc_2) (gG kw_215) kw_212 kw_213 kw_214 kw_22 hX5_has ⟨rfl, rfl⟩ ⟨Nat.le_of_ble_eq_true rfl, Nat.le_of_ble_eq_true rfl⟩ (x_rec (C := RX5) (T := TX5) (N := 5) (ci := 4) hK hP rfl x_o30) hP hS ⟨Nat.zero_le _, Nat.zero_le _⟩ rfl hl.1 rfl (Nat.le_of_ble_eq_true rfl) dX7_water_5 (fun H locs hP hS => ?_)
  refine lv_if_eq (tgt := 20) hx hb dX7_water_8 (by decide) (fun c_3 => ?_) (fun c_3 => ?_)
  · skip
    replace hf := it_t c_3 hf
    refine lv_iconst (v := -1) hx hb dX7_water_20 (by decide) ?_
    exact grI hx hb hr hlocks hP hS dX7_water_21 (Option.some.inj hf) rfl
  · skip
    replace hf := it_f c_3 hf
    refine lv_iload_n hx hb dX7_water_11 rfl (lv_at hl 2 rfl) ?_
    refine lv_iconst (v := 0) hx hb dX7_water_12 (by decide) ?_
    refine lv_iconst (v := 1) hx hb dX7_water_13 (by decide) ?_
    obtain ⟨r_4, hc_5, hf⟩ := bd_ok hf
    refine gcFi 3 ⟨hx, hb, hml, hown, hts⟩ (mX7_within l a2 ((0 : Int32)) ((1 : Int32)) r_4 hc_5) (gG kw_203) kw_201 kw_202 kw_21 hX7_within ⟨rfl, rfl⟩ ⟨Nat.le_of_ble_eq_true rfl, Nat.le_of_ble_eq_true rfl⟩ ⟨Nat.zero_le _, Nat.zero_le _⟩ rfl hl.1 rfl (Nat.le_of_ble_eq_true rfl) dX7_water_14 ?_
    refine lv_if_ne (tgt := 22) hx hb dX7_water_17 (by decide) (fun c_6 => ?_) (fun c_6 => ?_)
    · skip
      replace hf := it_f c_6 hf
      refine lv_iload_n hx hb dX7_water_22 rfl (lv_at hl 2 rfl) ?_
      refine lv_if_ne (tgt := 37) hx hb dX7_water_23 (by decide) (fun c_7 => ?_) (fun c_7 => ?_)
      · skip
        replace hf := it_f c_7 hf
        refine lv_aload_n hx hb dX7_water_37 rfl (lv_at hl 0 rfl) ?_
        refine va_get (D := D) (ci := 6) (v := .ref (ad 32)) (C := RX7) (T := TX7) (N := 7) hx hb hg inG_X7 hown hK hP 29 x_o29 rfl 2 (by decide) (hg _ kw_177) (fun _ h9 => h9) rfl dX7_water_38 ?_
        refine lv_iload_n hx hb dX7_water_41 rfl (lv_at hl 1 rfl) ?_
        obtain ⟨r_8, hc_9, hf⟩ := bd_ok hf
        refine gcVi 1 (xC_ok D ad cs tM hJ) hC ⟨hx, hb, hml, hown, hts⟩ (mX1_goingFrom l D ad cs tM u a1 r_8 hc_9) (gG kw_329) kw_326 kw_327 kw_328 kw_24 hX1_goingFrom ⟨rfl, rfl⟩ ⟨Nat.le_of_ble_eq_true rfl, Nat.le_of_ble_eq_true rfl⟩ (x_rec (C := RX1) (T := TX1) (N := 8) (ci := 0) hK hP rfl x_o32) hP hS ⟨Nat.zero_le _, Nat.zero_le _⟩ rfl hl.1 rfl (Nat.le_of_ble_eq_true rfl) dX7_water_42 (fun H locs hP hS => ?_)
        exact grI hx hb hr hlocks hP hS dX7_water_45 (Option.some.inj hf) rfl
      · skip
        replace hf := it_t c_7 hf
        refine lv_aload_n hx hb dX7_water_26 rfl (lv_at hl 0 rfl) ?_
        refine va_get (D := D) (ci := 6) (v := .ref (ad 32)) (C := RX7) (T := TX7) (N := 7) hx hb hg inG_X7 hown hK hP 29 x_o29 rfl 2 (by decide) (hg _ kw_177) (fun _ h9 => h9) rfl dX7_water_27 ?_
        refine lv_iload_n hx hb dX7_water_30 rfl (lv_at hl 1 rfl) ?_
        obtain ⟨r_10, hc_11, hf⟩ := bd_ok hf
        refine gcVi 1 (xC_ok D ad cs tM hJ) hC ⟨hx, hb, hml, hown, hts⟩ (mX1_comingTo l D ad cs tM u a1 r_10 hc_11) (gG kw_325) kw_322 kw_323 kw_324 kw_24 hX1_comingTo ⟨rfl, rfl⟩ ⟨Nat.le_of_ble_eq_true rfl, Nat.le_of_ble_eq_true rfl⟩ (x_rec (C := RX1) (T := TX1) (N := 8) (ci := 0) hK hP rfl x_o32) hP hS ⟨Nat.zero_le _, Nat.zero_le _⟩ rfl hl.1 rfl (Nat.le_of_ble_eq_true rfl) dX7_water_31 (fun H locs hP hS => ?_)
        refine lv_goto (tgt := 45) hx hb dX7_water_34 (by decide) ?_
        exact grI hx hb hr hlocks hP hS dX7_water_45 (Option.some.inj hf) rfl
    · skip
      replace hf := it_t c_6 hf
      refine lv_iconst (v := -1) hx hb dX7_water_20 (by decide) ?_
      exact grI hx hb hr hlocks hP hS dX7_water_21 (Option.some.inj hf) rfl
abbrev rX7_fails : Room := { frames := 6, cells := 0, slots := 0, locals := 151 }
theorem hX7_fails : yX7_fails.cls ≠ "java/lang/invoke/MethodHandle" ∧ yX7_fails.cls ≠ "java/lang/invoke/VarHandle" ∧ (parseMethodDescriptor yX7_fails.desc).map (fun d => d.parameters.length) = some 0 := by decide +kernel
set_option maxHeartbeats 4000000 in
set_option maxRecDepth 100000 in
theorem mX7_fails (l : Launch) (D : va_G) (ad : Nat → Nat) (cs : Nat → ClassId) (tM : Nat) (u : UX)   (ru : Int32 × UX) (hok : fX7_fails u = some ru) : Met l yX7_fails (Cond.code yX7_fails cX7_fails 2 (some .int) :: wsG) rX7_fails (va_Pc [.ref (ad 29)] (wI D (wX ad cs) (xC D ad cs tM) u)) (va_Qi (fun (r : Int32) (u' : UX) => r = ru.1 ∧ u' = ru.2) (wB D (wX ad cs)) (AX ad)) 0 0 (AX ad) := by
  refine Met.ofW (cc := cX7_fails) (maxL := 2) (ret := (some .int)) (by decide) rfl ?_
  intro p e s m args below meth c s₁ B hml hv
  have hx := B.exec
  have hb := B.bytes
  have hr := B.returns
  have hts := atoms_spec (ws := (Cond.code yX7_fails cX7_fails 2 (some .int) :: wsG)) B.pre
  have hg : ∀ w ∈ wsG, w.before args s = true := fun w h => hts w (List.mem_cons_of_mem _ h)
  have hown : s.vm.findClass RX7 = some m.cls := findClass_of_methodNamed B.named
  have hlocks := B.notSynchronized
  obtain ⟨ha, hP, hC⟩ := hv
  obtain ⟨hK, hJ, hN, hZ, hT⟩ := id hC
  have hS : va_S (AX ad) s.heap s.heap [] := va_S.rf
  refine W.eq (show entryFrame m args 2 = entryFrame m ([.ref (ad 29)] : List Value).toArray 2 by rw [ha]) ?_
  have hl := lv_entry ([.ref (ad 29)]) (n := 2) (Nat.le_of_ble_eq_true rfl)
  rw [lg_entry_eq]
  generalize (lg_sl ([.ref (ad 29)]) ++ List.replicate (2 - (lg_sl ([.ref (ad 29)])).length) Slot.unset).toArray = ls at hl ⊢
  have hl : lv_has ls 2 [(0, .ref (ad 29))] := hl
  show W p l e rX7_fails s m args below meth c s.heap [] 0 0 (MQ below (va_Qi (fun (r : Int32) (u' : UX) => r = ru.1 ∧ u' = ru.2) (wB D (wX ad cs)) (AX ad)) args s 0 0 (AX ad)) (F0 m 0 ls [])
  have hf := hok
  unfold fX7_fails at hf
  refine lv_aload_n hx hb dX7_fails_0 rfl (lv_at hl 0 rfl) ?_
  refine va_get (D := D) (ci := 6) (v := .ref (ad 32)) (C := RX7) (T := TX7) (N := 7) hx hb hg inG_X7 hown hK hP 29 x_o29 rfl 2 (by decide) (hg _ kw_177) (fun _ h9 => h9) rfl dX7_fails_1 ?_
  obtain ⟨r_1, hc_2, hf⟩ := bd_ok hf
  refine gcVi 0 (xC_ok D ad cs tM hJ) hC ⟨hx, hb, hml, hown, hts⟩ (mX1_flawOfFlow l D ad cs tM u r_1 hc_2) (gG kw_337) kw_334 kw_335 kw_336 kw_24 hX1_flawOfFlow ⟨rfl, rfl⟩ ⟨Nat.le_of_ble_eq_true rfl, Nat.le_of_ble_eq_true rfl⟩ (x_rec (C := RX1) (T := TX1) (N := 8) (ci := 0) hK hP rfl x_o32) hP hS ⟨Nat.zero_le _, Nat.zero_le _⟩ rfl hl.1 rfl (Nat.le_of_ble_eq_true rfl) dX7_fails_4 (fun H locs hP hS => ?_)
  refine lv_istore_n (lv' := [(1, .int r_1.1), (0, .ref (ad 29))]) hx hb dX7_fails_7 rfl hl (by decide) rfl (fun ls hl => ?_)
  refine lv_iload_n hx hb dX7_fails_8 rfl (lv_at hl 0 rfl) ?_
  refine lv_if_eq (tgt := 16) hx hb dX7_fails_9 (by decide) (fun c_3 => ?_) (fun c_3 => ?_)
  · skip
    replace hf := it_t c_3 hf
    refine lv_aload_n hx hb dX7_fails_16 rfl (lv_at hl 1 rfl) ?_
    refine va_get (D := D) (ci := 6) (v := .ref (ad 32)) (C := RX7) (T := TX7) (N := 7) hx hb hg inG_X7 hown hK hP 29 x_o29 rfl 2 (by decide) (hg _ kw_177) (fun _ h9 => h9) rfl dX7_fails_17 ?_
    refine lv_aload_n hx hb dX7_fails_20 rfl (lv_at hl 1 rfl) ?_
    refine va_get (D := D) (ci := 6) (v := .ref (ad 31)) (C := RX7) (T := TX7) (N := 7) hx hb hg inG_X7 hown hK hP 29 x_o29 rfl 1 (by decide) (hg _ kw_176) (fun _ h9 => h9) rfl dX7_fails_21 ?_
    obtain ⟨r_4, hc_5, hf⟩ := bd_ok hf
    refine gcVi 1 (xC_ok D ad cs tM hJ) hC ⟨hx, hb, hml, hown, hts⟩ (mX1_flawOfDirt l D ad cs tM r_1.2 r_4 hc_5) (gG kw_351) kw_348 kw_349 kw_350 kw_24 hX1_flawOfDirt ⟨rfl, rfl⟩ ⟨Nat.le_of_ble_eq_true rfl, Nat.le_of_ble_eq_true rfl⟩ (x_rec (C := RX1) (T := TX1) (N := 8) (ci := 0) hK hP rfl x_o32) hP hS ⟨Nat.zero_le _, Nat.zero_le _⟩ rfl hl.1 rfl (Nat.le_of_ble_eq_true rfl) dX7_fails_24 (fun H locs hP hS => ?_)
    exact grI hx hb hr hlocks hP hS dX7_fails_27 (pf1 hf) (pf2 hf)
  · skip
    replace hf := it_f c_3 hf
    refine lv_iload_n hx hb dX7_fails_12 rfl (lv_at hl 0 rfl) ?_
    refine lv_goto (tgt := 27) hx hb dX7_fails_13 (by decide) ?_
    exact grI hx hb hr hlocks hP hS dX7_fails_27 (pf1 hf) (pf2 hf)
abbrev rX7_at : Room := { frames := 5, cells := 0, slots := 0, locals := 129 }
theorem hX7_at : yX7_at.cls ≠ "java/lang/invoke/MethodHandle" ∧ yX7_at.cls ≠ "java/lang/invoke/VarHandle" ∧ (parseMethodDescriptor yX7_at.desc).map (fun d => d.parameters.length) = some 2 := by decide +kernel
set_option maxHeartbeats 4000000 in
set_option maxRecDepth 100000 in
theorem mX7_at (l : Launch) (D : va_G) (ad : Nat → Nat) (cs : Nat → ClassId) (tM : Nat) (u : UX) (a1 : Int32) (a2 : Int32)  (ru : Int64 × UX) (hok : fX7_at u a1 a2 = some ru) : Met l yX7_at (Cond.code yX7_at cX7_at 3 (some .long) :: wsG) rX7_at (va_Pc [.ref (ad 29), .int a1, .int a2] (wI D (wX ad cs) (xC D ad cs tM) u)) (va_Ql (fun (r : Int64) (u' : UX) => r = ru.1 ∧ u' = ru.2) (wB D (wX ad cs)) (AX ad)) 0 0 (AX ad) := by
  refine Met.ofW (cc := cX7_at) (maxL := 3) (ret := (some .long)) (by decide) rfl ?_
  intro p e s m args below meth c s₁ B hml hv
  have hx := B.exec
  have hb := B.bytes
  have hr := B.returns
  have hts := atoms_spec (ws := (Cond.code yX7_at cX7_at 3 (some .long) :: wsG)) B.pre
  have hg : ∀ w ∈ wsG, w.before args s = true := fun w h => hts w (List.mem_cons_of_mem _ h)
  have hown : s.vm.findClass RX7 = some m.cls := findClass_of_methodNamed B.named
  have hlocks := B.notSynchronized
  obtain ⟨ha, hP, hC⟩ := hv
  obtain ⟨hK, hJ, hN, hZ, hT⟩ := id hC
  have hS : va_S (AX ad) s.heap s.heap [] := va_S.rf
  refine W.eq (show entryFrame m args 3 = entryFrame m ([.ref (ad 29), .int a1, .int a2] : List Value).toArray 3 by rw [ha]) ?_
  have hl := lv_entry ([.ref (ad 29), .int a1, .int a2]) (n := 3) (Nat.le_of_ble_eq_true rfl)
  rw [lg_entry_eq]
  generalize (lg_sl ([.ref (ad 29), .int a1, .int a2]) ++ List.replicate (3 - (lg_sl ([.ref (ad 29), .int a1, .int a2])).length) Slot.unset).toArray = ls at hl ⊢
  have hl : lv_has ls 3 [(0, .ref (ad 29)), (1, .int a1), (2, .int a2)] := hl
  show W p l e rX7_at s m args below meth c s.heap [] 0 0 (MQ below (va_Ql (fun (r : Int64) (u' : UX) => r = ru.1 ∧ u' = ru.2) (wB D (wX ad cs)) (AX ad)) args s 0 0 (AX ad)) (F0 m 0 ls [])
  have hf := hok
  unfold fX7_at at hf
  refine lv_aload_n hx hb dX7_at_0 rfl (lv_at hl 0 rfl) ?_
  refine va_get (D := D) (ci := 6) (v := .ref (ad 30)) (C := RX7) (T := TX7) (N := 7) hx hb hg inG_X7 hown hK hP 29 x_o29 rfl 0 (by decide) (hg _ kw_175) (fun _ h9 => h9) rfl dX7_at_1 ?_
  refine lv_iload_n hx hb dX7_at_4 rfl (lv_at hl 1 rfl) ?_
  obtain ⟨r_1, hc_2, hf⟩ := bd_ok hf
  refine gcVi 1 (xC_ok D ad cs tM hJ) hC ⟨hx, hb, hml, hown, hts⟩ (mX5_has l D ad cs tM u a1 r_1 hc_2) (gG kw_215) kw_212 kw_213 kw_214 kw_22 hX5_has ⟨rfl, rfl⟩ ⟨Nat.le_of_ble_eq_true rfl, Nat.le_of_ble_eq_true rfl⟩ (x_rec (C := RX5) (T := TX5) (N := 5) (ci := 4) hK hP rfl x_o30) hP hS ⟨Nat.zero_le _, Nat.zero_le _⟩ rfl hl.1 rfl (Nat.le_of_ble_eq_true rfl) dX7_at_5 (fun H locs hP hS => ?_)
  refine lv_if_eq (tgt := 18) hx hb dX7_at_8 (by decide) (fun c_3 => ?_) (fun c_3 => ?_)
  · skip
    replace hf := it_t c_3 hf
    refine lv_ldc2 (v := -1) hx hb hown (hg _ kw_250) dX7_at_18 ?_
    exact grL hx hb hr hlocks hP hS dX7_at_21 (pf1 hf) (pf2 hf)
  · skip
    replace hf := it_f c_3 hf
    refine lv_iload_n hx hb dX7_at_11 rfl (lv_at hl 2 rfl) ?_
    obtain ⟨r_4, hc_5, hf⟩ := bd_ok hf
    refine gcFi 1 ⟨hx, hb, hml, hown, hts⟩ (mX7_isPart l a2 r_4 hc_5) (gG kw_249) kw_247 kw_248 kw_21 hX7_isPart ⟨rfl, rfl⟩ ⟨Nat.le_of_ble_eq_true rfl, Nat.le_of_ble_eq_true rfl⟩ ⟨Nat.zero_le _, Nat.zero_le _⟩ rfl hl.1 rfl (Nat.le_of_ble_eq_true rfl) dX7_at_12 ?_
    refine lv_if_ne (tgt := 22) hx hb dX7_at_15 (by decide) (fun c_6 => ?_) (fun c_6 => ?_)
    · skip
      replace hf := it_f c_6 hf
      refine lv_aload_n hx hb dX7_at_22 rfl (lv_at hl 0 rfl) ?_
      refine va_get (D := D) (ci := 6) (v := .ref (ad 32)) (C := RX7) (T := TX7) (N := 7) hx hb hg inG_X7 hown hK hP 29 x_o29 rfl 2 (by decide) (hg _ kw_177) (fun _ h9 => h9) rfl dX7_at_23 ?_
      obtain ⟨r_7, hc_8, hf⟩ := bd_ok hf
      refine gcVi 0 (xC_ok D ad cs tM hJ) hC ⟨hx, hb, hml, hown, hts⟩ (mX1_flawOfFlow l D ad cs tM u r_7 hc_8) (gG kw_337) kw_334 kw_335 kw_336 kw_24 hX1_flawOfFlow ⟨rfl, rfl⟩ ⟨Nat.le_of_ble_eq_true rfl, Nat.le_of_ble_eq_true rfl⟩ (x_rec (C := RX1) (T := TX1) (N := 8) (ci := 0) hK hP rfl x_o32) hP hS ⟨Nat.zero_le _, Nat.zero_le _⟩ rfl hl.1 rfl (Nat.le_of_ble_eq_true rfl) dX7_at_26 (fun H locs hP hS => ?_)
      refine lv_if_eq (tgt := 36) hx hb dX7_at_29 (by decide) (fun c_9 => ?_) (fun c_9 => ?_)
      · skip
        replace hf := it_t c_9 hf
        refine lv_aload_n hx hb dX7_at_36 rfl (lv_at hl 0 rfl) ?_
        refine va_get (D := D) (ci := 6) (v := .ref (ad 32)) (C := RX7) (T := TX7) (N := 7) hx hb hg inG_X7 hown hK hP 29 x_o29 rfl 2 (by decide) (hg _ kw_177) (fun _ h9 => h9) rfl dX7_at_37 ?_
        obtain ⟨r_10, hc_11, hf⟩ := bd_ok hf
        refine gcVv 0 (xC_ok D ad cs tM hJ) hC ⟨hx, hb, hml, hown, hts⟩ (mX1_spreadDirt l D ad cs tM r_7.2 r_10 hc_11) (gG kw_355) kw_384 kw_353 kw_354 kw_24 hX1_spreadDirt ⟨rfl, rfl⟩ ⟨Nat.le_of_ble_eq_true rfl, Nat.le_of_ble_eq_true rfl⟩ (x_rec (C := RX1) (T := TX1) (N := 8) (ci := 0) hK hP rfl x_o32) hP hS ⟨Nat.zero_le _, Nat.zero_le _⟩ rfl hl.1 rfl (Nat.le_of_ble_eq_true rfl) dX7_at_40 (fun H locs hP hS => ?_)
        refine lv_aload_n hx hb dX7_at_43 rfl (lv_at hl 0 rfl) ?_
        refine va_get (D := D) (ci := 6) (v := .ref (ad 32)) (C := RX7) (T := TX7) (N := 7) hx hb hg inG_X7 hown hK hP 29 x_o29 rfl 2 (by decide) (hg _ kw_177) (fun _ h9 => h9) rfl dX7_at_44 ?_
        refine va_getN (D := D) (ci := 0) (v := .ref (ad 37)) (C := RX1) (T := TX1) (N := 8) hx hb hg inG_X1 hown hK hP 32 x_o32 rfl 6 (by decide) (va_Nw.use rfl (hN _ kn_120)) (fun _ h9 => h9) rfl dX7_at_47 ?_
        refine lv_iload_n hx hb dX7_at_50 rfl (lv_at hl 1 rfl) ?_
        obtain ⟨hb_12, hf⟩ := gd_ok hf
        refine x_ald37 hx hb hK hP hb_12 dX7_at_51 ?_
        refine lv_iload_n hx hb dX7_at_52 rfl (lv_at hl 2 rfl) ?_
        obtain ⟨r_13, hc_14, hf⟩ := bd_ok hf
        refine gcVl 1 (xC_ok D ad cs tM hJ) hC ⟨hx, hb, hml, hown, hts⟩ (mX2_part l D ad cs tM r_10 (24 + a1.toNatClampNeg) a2 (by have := vin_lt hb_12; omega) (by have := vin_lt hb_12; omega) r_13 hc_14) (gG kw_284) kw_281 kw_282 kw_283 kw_25 hX2_part ⟨rfl, rfl⟩ ⟨Nat.le_of_ble_eq_true rfl, Nat.le_of_ble_eq_true rfl⟩ (x_rec (C := RX2) (T := TX2) (N := 2) (ci := 1) hK hP rfl (x_fra (by have := vin_lt hb_12; omega) (by have := vin_lt hb_12; omega))) hP hS ⟨Nat.zero_le _, Nat.zero_le _⟩ rfl hl.1 rfl (Nat.le_of_ble_eq_true rfl) dX7_at_53 (fun H locs hP hS => ?_)
        exact grL hx hb hr hlocks hP hS dX7_at_56 (pf1 hf) (pf2 hf)
      · skip
        replace hf := it_f c_9 hf
        refine lv_ldc2 (v := -2) hx hb hown (hg _ kw_383) dX7_at_32 ?_
        exact grL hx hb hr hlocks hP hS dX7_at_35 (pf1 hf) (pf2 hf)
    · skip
      replace hf := it_t c_6 hf
      refine lv_ldc2 (v := -1) hx hb hown (hg _ kw_250) dX7_at_18 ?_
      exact grL hx hb hr hlocks hP hS dX7_at_21 (pf1 hf) (pf2 hf)
abbrev rX7_hit : Room := { frames := 2, cells := 0, slots := 0, locals := 47 }
theorem hX7_hit : yX7_hit.cls ≠ "java/lang/invoke/MethodHandle" ∧ yX7_hit.cls ≠ "java/lang/invoke/VarHandle" ∧ (parseMethodDescriptor yX7_hit.desc).map (fun d => d.parameters.length) = some 3 := by decide +kernel
set_option maxHeartbeats 4000000 in
set_option maxRecDepth 100000 in
theorem mX7_hit (l : Launch) (D : va_G) (ad : Nat → Nat) (cs : Nat → ClassId) (tM : Nat) (u : UX) (a1 : Int32) (a2 : Int32) (a3 : Int32)  (ru : Int32 × UX) (hok : fX7_hit u a1 a2 a3 = some ru) : Met l yX7_hit (Cond.code yX7_hit cX7_hit 4 (some .int) :: wsG) rX7_hit (va_Pc [.ref (ad 29), .int a1, .int a2, .int a3] (wI D (wX ad cs) (xC D ad cs tM) u)) (va_Qi (fun (r : Int32) (u' : UX) => r = ru.1 ∧ u' = ru.2) (wB D (wX ad cs)) (AX ad)) 0 0 (AX ad) := by
  refine Met.ofW (cc := cX7_hit) (maxL := 4) (ret := (some .int)) (by decide) rfl ?_
  intro p e s m args below meth c s₁ B hml hv
  have hx := B.exec
  have hb := B.bytes
  have hr := B.returns
  have hts := atoms_spec (ws := (Cond.code yX7_hit cX7_hit 4 (some .int) :: wsG)) B.pre
  have hg : ∀ w ∈ wsG, w.before args s = true := fun w h => hts w (List.mem_cons_of_mem _ h)
  have hown : s.vm.findClass RX7 = some m.cls := findClass_of_methodNamed B.named
  have hlocks := B.notSynchronized
  obtain ⟨ha, hP, hC⟩ := hv
  obtain ⟨hK, hJ, hN, hZ, hT⟩ := id hC
  have hS : va_S (AX ad) s.heap s.heap [] := va_S.rf
  refine W.eq (show entryFrame m args 4 = entryFrame m ([.ref (ad 29), .int a1, .int a2, .int a3] : List Value).toArray 4 by rw [ha]) ?_
  have hl := lv_entry ([.ref (ad 29), .int a1, .int a2, .int a3]) (n := 4) (Nat.le_of_ble_eq_true rfl)
  rw [lg_entry_eq]
  generalize (lg_sl ([.ref (ad 29), .int a1, .int a2, .int a3]) ++ List.replicate (4 - (lg_sl ([.ref (ad 29), .int a1, .int a2, .int a3])).length) Slot.unset).toArray = ls at hl ⊢
  have hl : lv_has ls 4 [(0, .ref (ad 29)), (1, .int a1), (2, .int a2), (3, .int a3)] := hl
  show W p l e rX7_hit s m args below meth c s.heap [] 0 0 (MQ below (va_Qi (fun (r : Int32) (u' : UX) => r = ru.1 ∧ u' = ru.2) (wB D (wX ad cs)) (AX ad)) args s 0 0 (AX ad)) (F0 m 0 ls [])
  have hf := hok
  unfold fX7_hit at hf
  refine lv_aload_n hx hb dX7_hit_0 rfl (lv_at hl 0 rfl) ?_
  refine va_get (D := D) (ci := 6) (v := .ref (ad 30)) (C := RX7) (T := TX7) (N := 7) hx hb hg inG_X7 hown hK hP 29 x_o29 rfl 0 (by decide) (hg _ kw_175) (fun _ h9 => h9) rfl dX7_hit_1 ?_
  refine lv_iload_n hx hb dX7_hit_4 rfl (lv_at hl 1 rfl) ?_
  obtain ⟨r_1, hc_2, hf⟩ := bd_ok hf
  refine gcVi 1 (xC_ok D ad cs tM hJ) hC ⟨hx, hb, hml, hown, hts⟩ (mX5_has l D ad cs tM u a1 r_1 hc_2) (gG kw_215) kw_212 kw_213 kw_214 kw_22 hX5_has ⟨rfl, rfl⟩ ⟨Nat.le_of_ble_eq_true rfl, Nat.le_of_ble_eq_true rfl⟩ (x_rec (C := RX5) (T := TX5) (N := 5) (ci := 4) hK hP rfl x_o30) hP hS ⟨Nat.zero_le _, Nat.zero_le _⟩ rfl hl.1 rfl (Nat.le_of_ble_eq_true rfl) dX7_hit_5 (fun H locs hP hS => ?_)
  refine lv_if_eq (tgt := 33) hx hb dX7_hit_8 (by decide) (fun c_3 => ?_) (fun c_3 => ?_)
  · skip
    replace hf := it_t c_3 hf
    refine lv_iconst (v := -1) hx hb dX7_hit_33 (by decide) ?_
    exact grI hx hb hr hlocks hP hS dX7_hit_34 (pf1 hf) (pf2 hf)
  · skip
    replace hf := it_f c_3 hf
    refine lv_iload_n hx hb dX7_hit_11 rfl (lv_at hl 2 rfl) ?_
    refine lv_iconst (v := 0) hx hb dX7_hit_12 (by decide) ?_
    refine lv_sipush (v := 1000) hx hb dX7_hit_13 (by decide) ?_
    obtain ⟨r_4, hc_5, hf⟩ := bd_ok hf
    refine gcFi 3 ⟨hx, hb, hml, hown, hts⟩ (mX7_within l a2 ((0 : Int32)) ((1000 : Int32)) r_4 hc_5) (gG kw_203) kw_201 kw_202 kw_21 hX7_within ⟨rfl, rfl⟩ ⟨Nat.le_of_ble_eq_true rfl, Nat.le_of_ble_eq_true rfl⟩ ⟨Nat.zero_le _, Nat.zero_le _⟩ rfl hl.1 rfl (Nat.le_of_ble_eq_true rfl) dX7_hit_16 ?_
    refine lv_if_eq (tgt := 33) hx hb dX7_hit_19 (by decide) (fun c_6 => ?_) (fun c_6 => ?_)
    · skip
      replace hf := it_t c_6 hf
      refine lv_iconst (v := -1) hx hb dX7_hit_33 (by decide) ?_
      exact grI hx hb hr hlocks hP hS dX7_hit_34 (pf1 hf) (pf2 hf)
    · skip
      replace hf := it_f c_6 hf
      refine lv_aload_n hx hb dX7_hit_22 rfl (lv_at hl 0 rfl) ?_
      refine va_get (D := D) (ci := 6) (v := .ref (ad 30)) (C := RX7) (T := TX7) (N := 7) hx hb hg inG_X7 hown hK hP 29 x_o29 rfl 0 (by decide) (hg _ kw_175) (fun _ h9 => h9) rfl dX7_hit_23 ?_
      refine lv_iload_n hx hb dX7_hit_26 rfl (lv_at hl 3 rfl) ?_
      obtain ⟨r_7, hc_8, hf⟩ := bd_ok hf
      refine gcVi 1 (xC_ok D ad cs tM hJ) hC ⟨hx, hb, hml, hown, hts⟩ (mX5_has l D ad cs tM u a3 r_7 hc_8) (gG kw_215) kw_212 kw_213 kw_214 kw_22 hX5_has ⟨rfl, rfl⟩ ⟨Nat.le_of_ble_eq_true rfl, Nat.le_of_ble_eq_true rfl⟩ (x_rec (C := RX5) (T := TX5) (N := 5) (ci := 4) hK hP rfl x_o30) hP hS ⟨Nat.zero_le _, Nat.zero_le _⟩ rfl hl.1 rfl (Nat.le_of_ble_eq_true rfl) dX7_hit_27 (fun H locs hP hS => ?_)
      refine lv_if_ne (tgt := 35) hx hb dX7_hit_30 (by decide) (fun c_9 => ?_) (fun c_9 => ?_)
      · skip
        replace hf := it_f c_9 hf
        refine lv_aload_n hx hb dX7_hit_35 rfl (lv_at hl 0 rfl) ?_
        refine va_get (D := D) (ci := 6) (v := .ref (ad 32)) (C := RX7) (T := TX7) (N := 7) hx hb hg inG_X7 hown hK hP 29 x_o29 rfl 2 (by decide) (hg _ kw_177) (fun _ h9 => h9) rfl dX7_hit_36 ?_
        refine lv_iload_n hx hb dX7_hit_39 rfl (lv_at hl 1 rfl) ?_
        refine lv_iload_n hx hb dX7_hit_40 rfl (lv_at hl 2 rfl) ?_
        obtain ⟨r_10, hc_11, hf⟩ := bd_ok hf
        refine gcVv 2 (xC_ok D ad cs tM hJ) hC ⟨hx, hb, hml, hown, hts⟩ (mX1_spreadUpset l D ad cs tM u a1 a2 r_10 hc_11) (gG kw_392) kw_389 kw_390 kw_391 kw_24 hX1_spreadUpset ⟨rfl, rfl⟩ ⟨Nat.le_of_ble_eq_true rfl, Nat.le_of_ble_eq_true rfl⟩ (x_rec (C := RX1) (T := TX1) (N := 8) (ci := 0) hK hP rfl x_o32) hP hS ⟨Nat.zero_le _, Nat.zero_le _⟩ rfl hl.1 rfl (Nat.le_of_ble_eq_true rfl) dX7_hit_41 (fun H locs hP hS => ?_)
        refine lv_aload_n hx hb dX7_hit_44 rfl (lv_at hl 0 rfl) ?_
        refine va_get (D := D) (ci := 6) (v := .ref (ad 32)) (C := RX7) (T := TX7) (N := 7) hx hb hg inG_X7 hown hK hP 29 x_o29 rfl 2 (by decide) (hg _ kw_177) (fun _ h9 => h9) rfl dX7_hit_45 ?_
        refine va_getN (D := D) (ci := 0) (v := .ref (ad 13)) (C := RX1) (T := TX1) (N := 8) hx hb hg inG_X1 hown hK hP 32 x_o32 rfl 7 (by decide) (va_Nw.use rfl (hN _ kn_122)) (fun _ h9 => h9) rfl dX7_hit_48 ?_
        refine lv_iload_n hx hb dX7_hit_51 rfl (lv_at hl 3 rfl) ?_
        obtain ⟨hb_12, hf⟩ := gd_ok hf
        refine x_iald hx hb hK hP (by decide) (by decide) rfl hb_12 dX7_hit_52 ?_
        exact grI hx hb hr hlocks hP hS dX7_hit_53 (pf1 hf) (pf2 hf)
      · skip
        replace hf := it_t c_9 hf
        refine lv_iconst (v := -1) hx hb dX7_hit_33 (by decide) ?_
        exact grI hx hb hr hlocks hP hS dX7_hit_34 (pf1 hf) (pf2 hf)
abbrev rX7_steady : Room := { frames := 2, cells := 0, slots := 0, locals := 55 }
theorem hX7_steady : yX7_steady.cls ≠ "java/lang/invoke/MethodHandle" ∧ yX7_steady.cls ≠ "java/lang/invoke/VarHandle" ∧ (parseMethodDescriptor yX7_steady.desc).map (fun d => d.parameters.length) = some 5 := by decide +kernel
set_option maxHeartbeats 4000000 in
set_option maxRecDepth 100000 in
theorem mX7_steady (l : Launch) (D : va_G) (ad : Nat → Nat) (cs : Nat → ClassId) (tM : Nat) (u : UX) (a1 : Int32) (a2 : Int32) (a3 : Int32) (a4 : Int32) (a5 : Int32)  (r0 : Int32) (hok : fX7_steady u a1 a2 a3 a4 a5 = some r0) : Met l yX7_steady (Cond.code yX7_steady cX7_steady 6 (some .int) :: wsG) rX7_steady (va_Pc [.ref (ad 29), .int a1, .int a2, .int a3, .int a4, .int a5] (wI D (wX ad cs) (xC D ad cs tM) u)) (va_Qi (fun (r : Int32) (u' : UX) => r = r0 ∧ u' = u) (wB D (wX ad cs)) (AX ad)) 0 0 (AX ad) := by
  refine Met.ofW (cc := cX7_steady) (maxL := 6) (ret := (some .int)) (by decide) rfl ?_
  intro p e s m args below meth c s₁ B hml hv
  have hx := B.exec
  have hb := B.bytes
  have hr := B.returns
  have hts := atoms_spec (ws := (Cond.code yX7_steady cX7_steady 6 (some .int) :: wsG)) B.pre
  have hg : ∀ w ∈ wsG, w.before args s = true := fun w h => hts w (List.mem_cons_of_mem _ h)
  have hown : s.vm.findClass RX7 = some m.cls := findClass_of_methodNamed B.named
  have hlocks := B.notSynchronized
  obtain ⟨ha, hP, hC⟩ := hv
  obtain ⟨hK, hJ, hN, hZ, hT⟩ := id hC
  have hS : va_S (AX ad) s.heap s.heap [] := va_S.rf
  refine W.eq (show entryFrame m args 6 = entryFrame m ([.ref (ad 29), .int a1, .int a2, .int a3, .int a4, .int a5] : List Value).toArray 6 by rw [ha]) ?_
  have hl := lv_entry ([.ref (ad 29), .int a1, .int a2, .int a3, .int a4, .int a5]) (n := 6) (Nat.le_of_ble_eq_true rfl)
  rw [lg_entry_eq]
  generalize (lg_sl ([.ref (ad 29), .int a1, .int a2, .int a3, .int a4, .int a5]) ++ List.replicate (6 - (lg_sl ([.ref (ad 29), .int a1, .int a2, .int a3, .int a4, .int a5])).length) Slot.unset).toArray = ls at hl ⊢
  have hl : lv_has ls 6 [(0, .ref (ad 29)), (1, .int a1), (2, .int a2), (3, .int a3), (4, .int a4), (5, .int a5)] := hl
  show W p l e rX7_steady s m args below meth c s.heap [] 0 0 (MQ below (va_Qi (fun (r : Int32) (u' : UX) => r = r0 ∧ u' = u) (wB D (wX ad cs)) (AX ad)) args s 0 0 (AX ad)) (F0 m 0 ls [])
  have hf := hok
  unfold fX7_steady at hf
  refine lv_iload_n hx hb dX7_steady_0 rfl (lv_at hl 1 rfl) ?_
  refine lv_iconst (v := 1) hx hb dX7_steady_1 (by decide) ?_
  refine lv_sipush (v := 1000) hx hb dX7_steady_2 (by decide) ?_
  obtain ⟨r_1, hc_2, hf⟩ := bd_ok hf
  refine gcFi 3 ⟨hx, hb, hml, hown, hts⟩ (mX7_within l a1 ((1 : Int32)) ((1000 : Int32)) r_1 hc_2) (gG kw_203) kw_201 kw_202 kw_21 hX7_within ⟨rfl, rfl⟩ ⟨Nat.le_of_ble_eq_true rfl, Nat.le_of_ble_eq_true rfl⟩ ⟨Nat.zero_le _, Nat.zero_le _⟩ rfl hl.1 rfl (Nat.le_of_ble_eq_true rfl) dX7_steady_5 ?_
  refine lv_if_eq (tgt := 21) hx hb dX7_steady_8 (by decide) (fun c_3 => ?_) (fun c_3 => ?_)
  · skip
    replace hf := it_t c_3 hf
    refine lv_iconst (v := -1) hx hb dX7_steady_21 (by decide) ?_
    exact grI hx hb hr hlocks hP hS dX7_steady_22 (Option.some.inj hf) rfl
  · skip
    replace hf := it_f c_3 hf
    refine lv_iload_n hx hb dX7_steady_11 rfl (lv_at hl 2 rfl) ?_
    refine lv_iconst (v := 0) hx hb dX7_steady_12 (by decide) ?_
    refine lv_ldc (v := 1000000) hx hb hown (hg _ kw_401) dX7_steady_13 ?_
    obtain ⟨r_4, hc_5, hf⟩ := bd_ok hf
    refine gcFi 3 ⟨hx, hb, hml, hown, hts⟩ (mX7_within l a2 ((0 : Int32)) ((1000000 : Int32)) r_4 hc_5) (gG kw_203) kw_201 kw_202 kw_21 hX7_within ⟨rfl, rfl⟩ ⟨Nat.le_of_ble_eq_true rfl, Nat.le_of_ble_eq_true rfl⟩ ⟨Nat.zero_le _, Nat.zero_le _⟩ rfl hl.1 rfl (Nat.le_of_ble_eq_true rfl) dX7_steady_15 ?_
    refine lv_if_ne (tgt := 23) hx hb dX7_steady_18 (by decide) (fun c_6 => ?_) (fun c_6 => ?_)
    · skip
      replace hf := it_f c_6 hf
      refine lv_iload_n hx hb dX7_steady_23 rfl (lv_at hl 3 rfl) ?_
      refine lv_iconst (v := 0) hx hb dX7_steady_24 (by decide) ?_
      refine lv_sipush (v := 1000) hx hb dX7_steady_25 (by decide) ?_
      obtain ⟨r_7, hc_8, hf⟩ := bd_ok hf
      refine gcFi 3 ⟨hx, hb, hml, hown, hts⟩ (mX7_within l a3 ((0 : Int32)) ((1000 : Int32)) r_7 hc_8) (gG kw_203) kw_201 kw_202 kw_21 hX7_within ⟨rfl, rfl⟩ ⟨Nat.le_of_ble_eq_true rfl, Nat.le_of_ble_eq_true rfl⟩ ⟨Nat.zero_le _, Nat.zero_le _⟩ rfl hl.1 rfl (Nat.le_of_ble_eq_true rfl) dX7_steady_28 ?_
      refine lv_if_eq (tgt := 54) hx hb dX7_steady_31 (by decide) (fun c_9 => ?_) (fun c_9 => ?_)
      · skip
        replace hf := it_t c_9 hf
        refine lv_iconst (v := -1) hx hb dX7_steady_54 (by decide) ?_
        exact grI hx hb hr hlocks hP hS dX7_steady_55 (Option.some.inj hf) rfl
      · skip
        replace hf := it_f c_9 hf
        refine lv_iload hx hb dX7_steady_34 (lv_at hl 4 rfl) ?_
        refine lv_iconst (v := 0) hx hb dX7_steady_36 (by decide) ?_
        refine lv_iload_n hx hb dX7_steady_37 rfl (lv_at hl 1 rfl) ?_
        obtain ⟨r_10, hc_11, hf⟩ := bd_ok hf
        refine gcFi 3 ⟨hx, hb, hml, hown, hts⟩ (mX7_within l a4 ((0 : Int32)) a1 r_10 hc_11) (gG kw_203) kw_201 kw_202 kw_21 hX7_within ⟨rfl, rfl⟩ ⟨Nat.le_of_ble_eq_true rfl, Nat.le_of_ble_eq_true rfl⟩ ⟨Nat.zero_le _, Nat.zero_le _⟩ rfl hl.1 rfl (Nat.le_of_ble_eq_true rfl) dX7_steady_38 ?_
        refine lv_if_eq (tgt := 54) hx hb dX7_steady_41 (by decide) (fun c_12 => ?_) (fun c_12 => ?_)
        · skip
          replace hf := it_t c_12 hf
          refine lv_iconst (v := -1) hx hb dX7_steady_54 (by decide) ?_
          exact grI hx hb hr hlocks hP hS dX7_steady_55 (Option.some.inj hf) rfl
        · skip
          replace hf := it_f c_12 hf
          refine lv_iload hx hb dX7_steady_44 (lv_at hl 5 rfl) ?_
          refine lv_iconst (v := 0) hx hb dX7_steady_46 (by decide) ?_
          refine lv_iconst (v := 1) hx hb dX7_steady_47 (by decide) ?_
          obtain ⟨r_13, hc_14, hf⟩ := bd_ok hf
          refine gcFi 3 ⟨hx, hb, hml, hown, hts⟩ (mX7_within l a5 ((0 : Int32)) ((1 : Int32)) r_13 hc_14) (gG kw_203) kw_201 kw_202 kw_21 hX7_within ⟨rfl, rfl⟩ ⟨Nat.le_of_ble_eq_true rfl, Nat.le_of_ble_eq_true rfl⟩ ⟨Nat.zero_le _, Nat.zero_le _⟩ rfl hl.1 rfl (Nat.le_of_ble_eq_true rfl) dX7_steady_48 ?_
          refine lv_if_ne (tgt := 56) hx hb dX7_steady_51 (by decide) (fun c_15 => ?_) (fun c_15 => ?_)
          · skip
            replace hf := it_f c_15 hf
            refine lv_iload_n hx hb dX7_steady_56 rfl (lv_at hl 1 rfl) ?_
            refine lv_iload_n hx hb dX7_steady_57 rfl (lv_at hl 2 rfl) ?_
            refine lv_iload_n hx hb dX7_steady_58 rfl (lv_at hl 3 rfl) ?_
            refine lv_iload hx hb dX7_steady_59 (lv_at hl 4 rfl) ?_
            refine lv_iload hx hb dX7_steady_61 (lv_at hl 5 rfl) ?_
            refine lv_if_ne (tgt := 70) hx hb dX7_steady_63 (by decide) (fun c_16 => ?_) (fun c_16 => ?_)
            · skip
              replace hf := it_f c_16 hf
              refine lv_iconst (v := 0) hx hb dX7_steady_70 (by decide) ?_
              obtain ⟨r_17, hc_18, hf⟩ := bd_ok hf
              refine gcFi 5 ⟨hx, hb, hml, hown, hts⟩ (mX0_tellSteady l a1 a2 a3 a4 ((0 : Int32)) r_17 hc_18) (gG kw_404) kw_402 kw_403 kw_31 hX0_tellSteady ⟨rfl, rfl⟩ ⟨Nat.le_of_ble_eq_true rfl, Nat.le_of_ble_eq_true rfl⟩ ⟨Nat.zero_le _, Nat.zero_le _⟩ rfl hl.1 rfl (Nat.le_of_ble_eq_true rfl) dX7_steady_71 ?_
              exact grI hx hb hr hlocks hP hS dX7_steady_74 (Option.some.inj hf) rfl
            · skip
              replace hf := it_t c_16 hf
              refine lv_iconst (v := 1) hx hb dX7_steady_66 (by decide) ?_
              refine lv_goto (tgt := 71) hx hb dX7_steady_67 (by decide) ?_
              obtain ⟨r_19, hc_20, hf⟩ := bd_ok hf
              refine gcFi 5 ⟨hx, hb, hml, hown, hts⟩ (mX0_tellSteady l a1 a2 a3 a4 ((1 : Int32)) r_19 hc_20) (gG kw_404) kw_402 kw_403 kw_31 hX0_tellSteady ⟨rfl, rfl⟩ ⟨Nat.le_of_ble_eq_true rfl, Nat.le_of_ble_eq_true rfl⟩ ⟨Nat.zero_le _, Nat.zero_le _⟩ rfl hl.1 rfl (Nat.le_of_ble_eq_true rfl) dX7_steady_71 ?_
              exact grI hx hb hr hlocks hP hS dX7_steady_74 (Option.some.inj hf) rfl
          · skip
            replace hf := it_t c_15 hf
            refine lv_iconst (v := -1) hx hb dX7_steady_54 (by decide) ?_
            exact grI hx hb hr hlocks hP hS dX7_steady_55 (Option.some.inj hf) rfl
    · skip
      replace hf := it_t c_6 hf
      refine lv_iconst (v := -1) hx hb dX7_steady_21 (by decide) ?_
      exact grI hx hb hr hlocks hP hS dX7_steady_22 (Option.some.inj hf) rfl
abbrev rX7_store : Room := { frames := 1, cells := 0, slots := 0, locals := 23 }
theorem hX7_store : yX7_store.cls ≠ "java/lang/invoke/MethodHandle" ∧ yX7_store.cls ≠ "java/lang/invoke/VarHandle" ∧ (parseMethodDescriptor yX7_store.desc).map (fun d => d.parameters.length) = some 3 := by decide +kernel
set_option maxHeartbeats 4000000 in
set_option maxRecDepth 100000 in
theorem mX7_store (l : Launch) (D : va_G) (ad : Nat → Nat) (cs : Nat → ClassId) (tM : Nat) (u : UX) (a1 : Int32) (a2 : Int32) (a3 : Int32)  (ru : Int32 × UX) (hok : fX7_store u a1 a2 a3 = some ru) : Met l yX7_store (Cond.code yX7_store cX7_store 4 (some .int) :: wsG) rX7_store (va_Pc [.ref (ad 29), .int a1, .int a2, .int a3] (wI D (wX ad cs) (xC D ad cs tM) u)) (va_Qi (fun (r : Int32) (u' : UX) => r = ru.1 ∧ u' = ru.2) (wB D (wX ad cs)) (AX ad)) 0 0 (AX ad) := by
  refine Met.ofW (cc := cX7_store) (maxL := 4) (ret := (some .int)) (by decide) rfl ?_
  intro p e s m args below meth c s₁ B hml hv
  have hx := B.exec
  have hb := B.bytes
  have hr := B.returns
  have hts := atoms_spec (ws := (Cond.code yX7_store cX7_store 4 (some .int) :: wsG)) B.pre
  have hg : ∀ w ∈ wsG, w.before args s = true := fun w h => hts w (List.mem_cons_of_mem _ h)
  have hown : s.vm.findClass RX7 = some m.cls := findClass_of_methodNamed B.named
  have hlocks := B.notSynchronized
  obtain ⟨ha, hP, hC⟩ := hv
  obtain ⟨hK, hJ, hN, hZ, hT⟩ := id hC
  have hS : va_S (AX ad) s.heap s.heap [] := va_S.rf
  refine W.eq (show entryFrame m args 4 = entryFrame m ([.ref (ad 29), .int a1, .int a2, .int a3] : List Value).toArray 4 by rw [ha]) ?_
  have hl := lv_entry ([.ref (ad 29), .int a1, .int a2, .int a3]) (n := 4) (Nat.le_of_ble_eq_true rfl)
  rw [lg_entry_eq]
  generalize (lg_sl ([.ref (ad 29), .int a1, .int a2, .int a3]) ++ List.replicate (4 - (lg_sl ([.ref (ad 29), .int a1, .int a2, .int a3])).length) Slot.unset).toArray = ls at hl ⊢
  have hl : lv_has ls 4 [(0, .ref (ad 29)), (1, .int a1), (2, .int a2), (3, .int a3)] := hl
  show W p l e rX7_store s m args below meth c s.heap [] 0 0 (MQ below (va_Qi (fun (r : Int32) (u' : UX) => r = ru.1 ∧ u' = ru.2) (wB D (wX ad cs)) (AX ad)) args s 0 0 (AX ad)) (F0 m 0 ls [])
  have hf := hok
  unfold fX7_store at hf
  refine lv_iload_n hx hb dX7_store_0 rfl (lv_at hl 1 rfl) ?_
  refine lv_iconst (v := 0) hx hb dX7_store_1 (by decide) ?_
  refine lv_bipush (v := 23) hx hb dX7_store_2 (by decide) ?_
  obtain ⟨r_1, hc_2, hf⟩ := bd_ok hf
  refine gcFi 3 ⟨hx, hb, hml, hown, hts⟩ (mX7_within l a1 ((0 : Int32)) ((23 : Int32)) r_1 hc_2) (gG kw_203) kw_201 kw_202 kw_21 hX7_within ⟨rfl, rfl⟩ ⟨Nat.le_of_ble_eq_true rfl, Nat.le_of_ble_eq_true rfl⟩ ⟨Nat.zero_le _, Nat.zero_le _⟩ rfl hl.1 rfl (Nat.le_of_ble_eq_true rfl) dX7_store_4 ?_
  refine lv_if_eq (tgt := 30) hx hb dX7_store_7 (by decide) (fun c_3 => ?_) (fun c_3 => ?_)
  · skip
    replace hf := it_t c_3 hf
    refine lv_iconst (v := -1) hx hb dX7_store_30 (by decide) ?_
    exact grI hx hb hr hlocks hP hS dX7_store_31 (pf1 hf) (pf2 hf)
  · skip
    replace hf := it_f c_3 hf
    refine lv_iload_n hx hb dX7_store_10 rfl (lv_at hl 2 rfl) ?_
    refine lv_iconst (v := 0) hx hb dX7_store_11 (by decide) ?_
    refine lv_iconst (v := 1) hx hb dX7_store_12 (by decide) ?_
    obtain ⟨r_4, hc_5, hf⟩ := bd_ok hf
    refine gcFi 3 ⟨hx, hb, hml, hown, hts⟩ (mX7_within l a2 ((0 : Int32)) ((1 : Int32)) r_4 hc_5) (gG kw_203) kw_201 kw_202 kw_21 hX7_within ⟨rfl, rfl⟩ ⟨Nat.le_of_ble_eq_true rfl, Nat.le_of_ble_eq_true rfl⟩ ⟨Nat.zero_le _, Nat.zero_le _⟩ rfl hl.1 rfl (Nat.le_of_ble_eq_true rfl) dX7_store_13 ?_
    refine lv_if_eq (tgt := 30) hx hb dX7_store_16 (by decide) (fun c_6 => ?_) (fun c_6 => ?_)
    · skip
      replace hf := it_t c_6 hf
      refine lv_iconst (v := -1) hx hb dX7_store_30 (by decide) ?_
      exact grI hx hb hr hlocks hP hS dX7_store_31 (pf1 hf) (pf2 hf)
    · skip
      replace hf := it_f c_6 hf
      refine lv_iload_n hx hb dX7_store_19 rfl (lv_at hl 3 rfl) ?_
      refine lv_iconst (v := 0) hx hb dX7_store_20 (by decide) ?_
      refine lv_sipush (v := 500) hx hb dX7_store_21 (by decide) ?_
      obtain ⟨r_7, hc_8, hf⟩ := bd_ok hf
      refine gcFi 3 ⟨hx, hb, hml, hown, hts⟩ (mX7_within l a3 ((0 : Int32)) ((500 : Int32)) r_7 hc_8) (gG kw_203) kw_201 kw_202 kw_21 hX7_within ⟨rfl, rfl⟩ ⟨Nat.le_of_ble_eq_true rfl, Nat.le_of_ble_eq_true rfl⟩ ⟨Nat.zero_le _, Nat.zero_le _⟩ rfl hl.1 rfl (Nat.le_of_ble_eq_true rfl) dX7_store_24 ?_
      refine lv_if_ne (tgt := 32) hx hb dX7_store_27 (by decide) (fun c_9 => ?_) (fun c_9 => ?_)
      · skip
        replace hf := it_f c_9 hf
        refine lv_iload_n hx hb dX7_store_32 rfl (lv_at hl 2 rfl) ?_
        refine lv_if_ne (tgt := 46) hx hb dX7_store_33 (by decide) (fun c_10 => ?_) (fun c_10 => ?_)
        · skip
          replace hf := it_f c_10 hf
          refine lv_aload_n hx hb dX7_store_46 rfl (lv_at hl 0 rfl) ?_
          refine va_get (D := D) (ci := 6) (v := .ref (ad 33)) (C := RX7) (T := TX7) (N := 7) hx hb hg inG_X7 hown hK hP 29 x_o29 rfl 3 (by decide) (hg _ kw_178) (fun _ h9 => h9) rfl dX7_store_47 ?_
          refine va_getN (D := D) (ci := 5) (v := .ref (ad 15)) (C := RX6) (T := TX6) (N := 2) hx hb hg inG_X6 hown hK hP 33 x_o33 rfl 1 (by decide) (va_Nw.use rfl (hN _ kn_149)) (fun _ h9 => h9) rfl dX7_store_50 ?_
          refine lv_iload_n hx hb dX7_store_53 rfl (lv_at hl 1 rfl) ?_
          refine lv_iload_n hx hb dX7_store_54 rfl (lv_at hl 3 rfl) ?_
          obtain ⟨r_11, hc_12, hf⟩ := bd_ok hf
          refine gcSi 3 (xC_ok D ad cs tM hJ) hC ⟨hx, hb, hml, hown, hts⟩ (mX7_replace l D ad cs tM u 15 a1 a3 (by decide) (by decide) r_11 hc_12) (gG kw_218) kw_216 kw_217 kw_21 hX7_replace ⟨rfl, rfl⟩ ⟨Nat.le_of_ble_eq_true rfl, Nat.le_of_ble_eq_true rfl⟩ hP hS ⟨Nat.zero_le _, Nat.zero_le _⟩ rfl hl.1 rfl (Nat.le_of_ble_eq_true rfl) dX7_store_55 (fun H locs hP hS => ?_)
          exact grI hx hb hr hlocks hP hS dX7_store_58 (pf1 hf) (pf2 hf)
        · skip
          replace hf := it_t c_10 hf
          refine lv_aload_n hx hb dX7_store_36 rfl (lv_at hl 0 rfl) ?_
          refine va_get (D := D) (ci := 6) (v := .ref (ad 33)) (C := RX7) (T := TX7) (N := 7) hx hb hg inG_X7 hown hK hP 29 x_o29 rfl 3 (by decide) (hg _ kw_178) (fun _ h9 => h9) rfl dX7_store_37 ?_
          refine va_getN (D := D) (ci := 5) (v := .ref (ad 14)) (C := RX6) (T := TX6) (N := 2) hx hb hg inG_X6 hown hK hP 33 x_o33 rfl 0 (by decide) (va_Nw.use rfl (hN _ kn_147)) (fun _ h9 => h9) rfl dX7_store_40 ?_
          refine lv_goto (tgt := 53) hx hb dX7_store_43 (by decide) ?_
          refine lv_iload_n hx hb dX7_store_53 rfl (lv_at hl 1 rfl) ?_
          refine lv_iload_n hx hb dX7_store_54 rfl (lv_at hl 3 rfl) ?_
          obtain ⟨r_13, hc_14, hf⟩ := bd_ok hf
          refine gcSi 3 (xC_ok D ad cs tM hJ) hC ⟨hx, hb, hml, hown, hts⟩ (mX7_replace l D ad cs tM u 14 a1 a3 (by decide) (by decide) r_13 hc_14) (gG kw_218) kw_216 kw_217 kw_21 hX7_replace ⟨rfl, rfl⟩ ⟨Nat.le_of_ble_eq_true rfl, Nat.le_of_ble_eq_true rfl⟩ hP hS ⟨Nat.zero_le _, Nat.zero_le _⟩ rfl hl.1 rfl (Nat.le_of_ble_eq_true rfl) dX7_store_55 (fun H locs hP hS => ?_)
          exact grI hx hb hr hlocks hP hS dX7_store_58 (pf1 hf) (pf2 hf)
      · skip
        replace hf := it_t c_9 hf
        refine lv_iconst (v := -1) hx hb dX7_store_30 (by decide) ?_
        exact grI hx hb hr hlocks hP hS dX7_store_31 (pf1 hf) (pf2 hf)
abbrev rX7_room : Room := { frames := 2, cells := 0, slots := 0, locals := 47 }
theorem hX7_room : yX7_room.cls ≠ "java/lang/invoke/MethodHandle" ∧ yX7_room.cls ≠ "java/lang/invoke/VarHandle" ∧ (parseMethodDescriptor yX7_room.desc).map (fun d => d.parameters.length) = some 1 := by decide +kernel
set_option maxHeartbeats 4000000 in
set_option maxRecDepth 100000 in
theorem mX7_room (l : Launch) (D : va_G) (ad : Nat → Nat) (cs : Nat → ClassId) (tM : Nat) (u : UX) (a1 : Int32)  (r0 : Int32) (hok : fX7_room u a1 = some r0) : Met l yX7_room (Cond.code yX7_room cX7_room 3 (some .int) :: wsG) rX7_room (va_Pc [.ref (ad 29), .int a1] (wI D (wX ad cs) (xC D ad cs tM) u)) (va_Qi (fun (r : Int32) (u' : UX) => r = r0 ∧ u' = u) (wB D (wX ad cs)) (AX ad)) 0 0 (AX ad) := by
  refine Met.ofW (cc := cX7_room) (maxL := 3) (ret := (some .int)) (by decide) rfl ?_
  intro p e s m args below meth c s₁ B hml hv
  have hx := B.exec
  have hb := B.bytes
  have hr := B.returns
  have hts := atoms_spec (ws := (Cond.code yX7_room cX7_room 3 (some .int) :: wsG)) B.pre
  have hg : ∀ w ∈ wsG, w.before args s = true := fun w h => hts w (List.mem_cons_of_mem _ h)
  have hown : s.vm.findClass RX7 = some m.cls := findClass_of_methodNamed B.named
  have hlocks := B.notSynchronized
  obtain ⟨ha, hP, hC⟩ := hv
  obtain ⟨hK, hJ, hN, hZ, hT⟩ := id hC
  have hS : va_S (AX ad) s.heap s.heap [] := va_S.rf
  refine W.eq (show entryFrame m args 3 = entryFrame m ([.ref (ad 29), .int a1] : List Value).toArray 3 by rw [ha]) ?_
  have hl := lv_entry ([.ref (ad 29), .int a1]) (n := 3) (Nat.le_of_ble_eq_true rfl)
  rw [lg_entry_eq]
  generalize (lg_sl ([.ref (ad 29), .int a1]) ++ List.replicate (3 - (lg_sl ([.ref (ad 29), .int a1])).length) Slot.unset).toArray = ls at hl ⊢
  have hl : lv_has ls 3 [(0, .ref (ad 29)), (1, .int a1)] := hl
  show W p l e rX7_room s m args below meth c s.heap [] 0 0 (MQ below (va_Qi (fun (r : Int32) (u' : UX) => r = r0 ∧ u' = u) (wB D (wX ad cs)) (AX ad)) args s 0 0 (AX ad)) (F0 m 0 ls [])
  have hf := hok
  unfold fX7_room at hf
  refine lv_iload_n hx hb dX7_room_0 rfl (lv_at hl 1 rfl) ?_
  refine lv_iconst (v := 0) hx hb dX7_room_1 (by decide) ?_
  refine lv_iconst (v := 1) hx hb dX7_room_2 (by decide) ?_
  obtain ⟨r_1, hc_2, hf⟩ := bd_ok hf
  refine gcFi 3 ⟨hx, hb, hml, hown, hts⟩ (mX7_within l a1 ((0 : Int32)) ((1 : Int32)) r_1 hc_2) (gG kw_203) kw_201 kw_202 kw_21 hX7_within ⟨rfl, rfl⟩ ⟨Nat.le_of_ble_eq_true rfl, Nat.le_of_ble_eq_true rfl⟩ ⟨Nat.zero_le _, Nat.zero_le _⟩ rfl hl.1 rfl (Nat.le_of_ble_eq_true rfl) dX7_room_3 ?_
  refine lv_if_ne (tgt := 11) hx hb dX7_room_6 (by decide) (fun c_3 => ?_) (fun c_3 => ?_)
  · skip
    replace hf := it_f c_3 hf
    refine lv_aload_n hx hb dX7_room_11 rfl (lv_at hl 0 rfl) ?_
    refine va_get (D := D) (ci := 6) (v := .ref (ad 33)) (C := RX7) (T := TX7) (N := 7) hx hb hg inG_X7 hown hK hP 29 x_o29 rfl 3 (by decide) (hg _ kw_178) (fun _ h9 => h9) rfl dX7_room_12 ?_
    obtain ⟨r_4, hc_5, hf⟩ := bd_ok hf
    refine gcVi 0 (xC_ok D ad cs tM hJ) hC ⟨hx, hb, hml, hown, hts⟩ (mX6_leastBegun l D ad cs tM u r_4 hc_5) (gG kw_419) kw_416 kw_417 kw_418 kw_26 hX6_leastBegun ⟨rfl, rfl⟩ ⟨Nat.le_of_ble_eq_true rfl, Nat.le_of_ble_eq_true rfl⟩ (x_rec (C := RX6) (T := TX6) (N := 2) (ci := 5) hK hP rfl x_o33) hP hS ⟨Nat.zero_le _, Nat.zero_le _⟩ rfl hl.1 rfl (Nat.le_of_ble_eq_true rfl) dX7_room_15 (fun H locs hP hS => ?_)
    refine lv_istore_n (lv' := [(2, .int r_4), (0, .ref (ad 29)), (1, .int a1)]) hx hb dX7_room_18 rfl hl (by decide) rfl (fun ls hl => ?_)
    refine lv_iload_n hx hb dX7_room_19 rfl (lv_at hl 2 rfl) ?_
    refine lv_if_ne (tgt := 27) hx hb dX7_room_20 (by decide) (fun c_6 => ?_) (fun c_6 => ?_)
    · skip
      replace hf := it_f c_6 hf
      refine lv_aload_n hx hb dX7_room_27 rfl (lv_at hl 1 rfl) ?_
      refine va_get (D := D) (ci := 6) (v := .ref (ad 33)) (C := RX7) (T := TX7) (N := 7) hx hb hg inG_X7 hown hK hP 29 x_o29 rfl 3 (by decide) (hg _ kw_178) (fun _ h9 => h9) rfl dX7_room_28 ?_
      refine lv_iload_n hx hb dX7_room_31 rfl (lv_at hl 0 rfl) ?_
      obtain ⟨r_7, hc_8, hf⟩ := bd_ok hf
      refine gcVi 1 (xC_ok D ad cs tM hJ) hC ⟨hx, hb, hml, hown, hts⟩ (mX6_mostHeld l D ad cs tM u r_4 r_7 hc_8) (gG kw_424) kw_421 kw_422 kw_423 kw_26 hX6_mostHeld ⟨rfl, rfl⟩ ⟨Nat.le_of_ble_eq_true rfl, Nat.le_of_ble_eq_true rfl⟩ (x_rec (C := RX6) (T := TX6) (N := 2) (ci := 5) hK hP rfl x_o33) hP hS ⟨Nat.zero_le _, Nat.zero_le _⟩ rfl hl.1 rfl (Nat.le_of_ble_eq_true rfl) dX7_room_32 (fun H locs hP hS => ?_)
      exact grI hx hb hr hlocks hP hS dX7_room_35 (Option.some.inj hf) rfl
    · skip
      replace hf := it_t c_6 hf
      refine lv_iload_n hx hb dX7_room_23 rfl (lv_at hl 0 rfl) ?_
      refine lv_goto (tgt := 35) hx hb dX7_room_24 (by decide) ?_
      exact grI hx hb hr hlocks hP hS dX7_room_35 (Option.some.inj hf) rfl
  · skip
    replace hf := it_t c_3 hf
    refine lv_iconst (v := -1) hx hb dX7_room_9 (by decide) ?_
    exact grI hx hb hr hlocks hP hS dX7_room_10 (Option.some.inj hf) rfl
abbrev rX7_meter : Room := { frames := 1, cells := 0, slots := 0, locals := 22 }
theorem hX7_meter : yX7_meter.cls ≠ "java/lang/invoke/MethodHandle" ∧ yX7_meter.cls ≠ "java/lang/invoke/VarHandle" ∧ (parseMethodDescriptor yX7_meter.desc).map (fun d => d.parameters.length) = some 1 := by decide +kernel
set_option maxHeartbeats 4000000 in
set_option maxRecDepth 100000 in
theorem mX7_meter (l : Launch) (D : va_G) (ad : Nat → Nat) (cs : Nat → ClassId) (tM : Nat) (u : UX) (a1 : Int32)  (ru : Int32 × UX) (hok : fX7_meter u a1 = some ru) : Met l yX7_meter (Cond.code yX7_meter cX7_meter 2 (some .int) :: wsG) rX7_meter (va_Pc [.ref (ad 29), .int a1] (wI D (wX ad cs) (xC D ad cs tM) u)) (va_Qi (fun (r : Int32) (u' : UX) => r = ru.1 ∧ u' = ru.2) (wB D (wX ad cs)) (AX ad)) 0 0 (AX ad) := by
  refine Met.ofW (cc := cX7_meter) (maxL := 2) (ret := (some .int)) (by decide) rfl ?_
  intro p e s m args below meth c s₁ B hml hv
  have hx := B.exec
  have hb := B.bytes
  have hr := B.returns
  have hts := atoms_spec (ws := (Cond.code yX7_meter cX7_meter 2 (some .int) :: wsG)) B.pre
  have hg : ∀ w ∈ wsG, w.before args s = true := fun w h => hts w (List.mem_cons_of_mem _ h)
  have hown : s.vm.findClass RX7 = some m.cls := findClass_of_methodNamed B.named
  have hlocks := B.notSynchronized
  obtain ⟨ha, hP, hC⟩ := hv
  obtain ⟨hK, hJ, hN, hZ, hT⟩ := id hC
  have hS : va_S (AX ad) s.heap s.heap [] := va_S.rf
  refine W.eq (show entryFrame m args 2 = entryFrame m ([.ref (ad 29), .int a1] : List Value).toArray 2 by rw [ha]) ?_
  have hl := lv_entry ([.ref (ad 29), .int a1]) (n := 2) (Nat.le_of_ble_eq_true rfl)
  rw [lg_entry_eq]
  generalize (lg_sl ([.ref (ad 29), .int a1]) ++ List.replicate (2 - (lg_sl ([.ref (ad 29), .int a1])).length) Slot.unset).toArray = ls at hl ⊢
  have hl : lv_has ls 2 [(0, .ref (ad 29)), (1, .int a1)] := hl
  show W p l e rX7_meter s m args below meth c s.heap [] 0 0 (MQ below (va_Qi (fun (r : Int32) (u' : UX) => r = ru.1 ∧ u' = ru.2) (wB D (wX ad cs)) (AX ad)) args s 0 0 (AX ad)) (F0 m 0 ls [])
  have hf := hok
  unfold fX7_meter at hf
  refine lv_iload_n hx hb dX7_meter_0 rfl (lv_at hl 1 rfl) ?_
  refine lv_iconst (v := 1) hx hb dX7_meter_1 (by decide) ?_
  refine lv_icmp_eq (tgt := 12) hx hb dX7_meter_2 (by decide) (fun c_1 => ?_) (fun c_1 => ?_)
  · skip
    replace hf := it_t c_1 hf
    refine lv_aload_n hx hb dX7_meter_12 rfl (lv_at hl 0 rfl) ?_
    refine va_get (D := D) (ci := 6) (v := .ref (ad 34)) (C := RX7) (T := TX7) (N := 7) hx hb hg inG_X7 hown hK hP 29 x_o29 rfl 4 (by decide) (hg _ kw_179) (fun _ h9 => h9) rfl dX7_meter_13 ?_
    refine lv_iload_n hx hb dX7_meter_16 rfl (lv_at hl 1 rfl) ?_
    obtain ⟨r_2, hc_3, hf⟩ := bd_ok hf
    refine gcVi 1 (xC_ok D ad cs tM hJ) hC ⟨hx, hb, hml, hown, hts⟩ (mX4_append l D ad cs tM u a1 r_2 hc_3) (gG kw_433) kw_430 kw_431 kw_432 kw_27 hX4_append ⟨rfl, rfl⟩ ⟨Nat.le_of_ble_eq_true rfl, Nat.le_of_ble_eq_true rfl⟩ (x_rec (C := RX4) (T := TX4) (N := 3) (ci := 3) hK hP rfl x_o34) hP hS ⟨Nat.zero_le _, Nat.zero_le _⟩ rfl hl.1 rfl (Nat.le_of_ble_eq_true rfl) dX7_meter_17 (fun H locs hP hS => ?_)
    exact grI hx hb hr hlocks hP hS dX7_meter_20 (pf1 hf) (pf2 hf)
  · skip
    replace hf := it_f c_1 hf
    refine lv_iload_n hx hb dX7_meter_5 rfl (lv_at hl 1 rfl) ?_
    refine lv_iconst (v := -1) hx hb dX7_meter_6 (by decide) ?_
    refine lv_icmp_eq (tgt := 12) hx hb dX7_meter_7 (by decide) (fun c_4 => ?_) (fun c_4 => ?_)
    · skip
      replace hf := it_t c_4 hf
      refine lv_aload_n hx hb dX7_meter_12 rfl (lv_at hl 0 rfl) ?_
      refine va_get (D := D) (ci := 6) (v := .ref (ad 34)) (C := RX7) (T := TX7) (N := 7) hx hb hg inG_X7 hown hK hP 29 x_o29 rfl 4 (by decide) (hg _ kw_179) (fun _ h9 => h9) rfl dX7_meter_13 ?_
      refine lv_iload_n hx hb dX7_meter_16 rfl (lv_at hl 1 rfl) ?_
      obtain ⟨r_5, hc_6, hf⟩ := bd_ok hf
      refine gcVi 1 (xC_ok D ad cs tM hJ) hC ⟨hx, hb, hml, hown, hts⟩ (mX4_append l D ad cs tM u a1 r_5 hc_6) (gG kw_433) kw_430 kw_431 kw_432 kw_27 hX4_append ⟨rfl, rfl⟩ ⟨Nat.le_of_ble_eq_true rfl, Nat.le_of_ble_eq_true rfl⟩ (x_rec (C := RX4) (T := TX4) (N := 3) (ci := 3) hK hP rfl x_o34) hP hS ⟨Nat.zero_le _, Nat.zero_le _⟩ rfl hl.1 rfl (Nat.le_of_ble_eq_true rfl) dX7_meter_17 (fun H locs hP hS => ?_)
      exact grI hx hb hr hlocks hP hS dX7_meter_20 (pf1 hf) (pf2 hf)
    · skip
      replace hf := it_f c_4 hf
      refine lv_iconst (v := -1) hx hb dX7_meter_10 (by decide) ?_
      exact grI hx hb hr hlocks hP hS dX7_meter_11 (pf1 hf) (pf2 hf)
abbrev rX7_read : Room := { frames := 1, cells := 0, slots := 0, locals := 23 }
theorem hX7_read : yX7_read.cls ≠ "java/lang/invoke/MethodHandle" ∧ yX7_read.cls ≠ "java/lang/invoke/VarHandle" ∧ (parseMethodDescriptor yX7_read.desc).map (fun d => d.parameters.length) = some 2 := by decide +kernel
set_option maxHeartbeats 4000000 in
set_option maxRecDepth 100000 in
theorem mX7_read (l : Launch) (D : va_G) (ad : Nat → Nat) (cs : Nat → ClassId) (tM : Nat) (u : UX) (a1 : Int32) (a2 : Int32)  (ru : Int32 × UX) (hok : fX7_read u a1 a2 = some ru) : Met l yX7_read (Cond.code yX7_read cX7_read 3 (some .int) :: wsG) rX7_read (va_Pc [.ref (ad 29), .int a1, .int a2] (wI D (wX ad cs) (xC D ad cs tM) u)) (va_Qi (fun (r : Int32) (u' : UX) => r = ru.1 ∧ u' = ru.2) (wB D (wX ad cs)) (AX ad)) 0 0 (AX ad) := by
  refine Met.ofW (cc := cX7_read) (maxL := 3) (ret := (some .int)) (by decide) rfl ?_
  intro p e s m args below meth c s₁ B hml hv
  have hx := B.exec
  have hb := B.bytes
  have hr := B.returns
  have hts := atoms_spec (ws := (Cond.code yX7_read cX7_read 3 (some .int) :: wsG)) B.pre
  have hg : ∀ w ∈ wsG, w.before args s = true := fun w h => hts w (List.mem_cons_of_mem _ h)
  have hown : s.vm.findClass RX7 = some m.cls := findClass_of_methodNamed B.named
  have hlocks := B.notSynchronized
  obtain ⟨ha, hP, hC⟩ := hv
  obtain ⟨hK, hJ, hN, hZ, hT⟩ := id hC
  have hS : va_S (AX ad) s.heap s.heap [] := va_S.rf
  refine W.eq (show entryFrame m args 3 = entryFrame m ([.ref (ad 29), .int a1, .int a2] : List Value).toArray 3 by rw [ha]) ?_
  have hl := lv_entry ([.ref (ad 29), .int a1, .int a2]) (n := 3) (Nat.le_of_ble_eq_true rfl)
  rw [lg_entry_eq]
  generalize (lg_sl ([.ref (ad 29), .int a1, .int a2]) ++ List.replicate (3 - (lg_sl ([.ref (ad 29), .int a1, .int a2])).length) Slot.unset).toArray = ls at hl ⊢
  have hl : lv_has ls 3 [(0, .ref (ad 29)), (1, .int a1), (2, .int a2)] := hl
  show W p l e rX7_read s m args below meth c s.heap [] 0 0 (MQ below (va_Qi (fun (r : Int32) (u' : UX) => r = ru.1 ∧ u' = ru.2) (wB D (wX ad cs)) (AX ad)) args s 0 0 (AX ad)) (F0 m 0 ls [])
  have hf := hok
  unfold fX7_read at hf
  refine lv_aload_n hx hb dX7_read_0 rfl (lv_at hl 0 rfl) ?_
  refine va_get (D := D) (ci := 6) (v := .ref (ad 34)) (C := RX7) (T := TX7) (N := 7) hx hb hg inG_X7 hown hK hP 29 x_o29 rfl 4 (by decide) (hg _ kw_179) (fun _ h9 => h9) rfl dX7_read_1 ?_
  refine lv_iload_n hx hb dX7_read_4 rfl (lv_at hl 1 rfl) ?_
  obtain ⟨r_1, hc_2, hf⟩ := bd_ok hf
  refine gcVi 1 (xC_ok D ad cs tM hJ) hC ⟨hx, hb, hml, hown, hts⟩ (mX4_has l D ad cs tM u a1 r_1 hc_2) (gG kw_441) kw_438 kw_439 kw_440 kw_27 hX4_has ⟨rfl, rfl⟩ ⟨Nat.le_of_ble_eq_true rfl, Nat.le_of_ble_eq_true rfl⟩ (x_rec (C := RX4) (T := TX4) (N := 3) (ci := 3) hK hP rfl x_o34) hP hS ⟨Nat.zero_le _, Nat.zero_le _⟩ rfl hl.1 rfl (Nat.le_of_ble_eq_true rfl) dX7_read_5 (fun H locs hP hS => ?_)
  refine lv_if_eq (tgt := 27) hx hb dX7_read_8 (by decide) (fun c_3 => ?_) (fun c_3 => ?_)
  · skip
    replace hf := it_t c_3 hf
    refine lv_iconst (v := -1) hx hb dX7_read_27 (by decide) ?_
    exact grI hx hb hr hlocks hP hS dX7_read_28 (pf1 hf) (pf2 hf)
  · skip
    replace hf := it_f c_3 hf
    refine lv_iload_n hx hb dX7_read_11 rfl (lv_at hl 2 rfl) ?_
    refine lv_bipush (v := -9) hx hb dX7_read_12 (by decide) ?_
    refine lv_icmp_eq (tgt := 29) hx hb dX7_read_14 (by decide) (fun c_4 => ?_) (fun c_4 => ?_)
    · skip
      replace hf := it_t c_4 hf
      refine lv_aload_n hx hb dX7_read_29 rfl (lv_at hl 0 rfl) ?_
      refine va_get (D := D) (ci := 6) (v := .ref (ad 34)) (C := RX7) (T := TX7) (N := 7) hx hb hg inG_X7 hown hK hP 29 x_o29 rfl 4 (by decide) (hg _ kw_179) (fun _ h9 => h9) rfl dX7_read_30 ?_
      refine va_getN (D := D) (ci := 3) (v := .ref (ad 17)) (C := RX4) (T := TX4) (N := 3) hx hb hg inG_X4 hown hK hP 34 x_o34 rfl 1 (by decide) (va_Nw.use rfl (hN _ kn_163)) (fun _ h9 => h9) rfl dX7_read_33 ?_
      refine lv_iload_n hx hb dX7_read_36 rfl (lv_at hl 1 rfl) ?_
      refine lv_iload_n hx hb dX7_read_37 rfl (lv_at hl 2 rfl) ?_
      obtain ⟨r_5, hc_6, hf⟩ := bd_ok hf
      refine gcSi 3 (xC_ok D ad cs tM hJ) hC ⟨hx, hb, hml, hown, hts⟩ (mX7_replace l D ad cs tM u 17 a1 a2 (by decide) (by decide) r_5 hc_6) (gG kw_218) kw_216 kw_217 kw_21 hX7_replace ⟨rfl, rfl⟩ ⟨Nat.le_of_ble_eq_true rfl, Nat.le_of_ble_eq_true rfl⟩ hP hS ⟨Nat.zero_le _, Nat.zero_le _⟩ rfl hl.1 rfl (Nat.le_of_ble_eq_true rfl) dX7_read_38 (fun H locs hP hS => ?_)
      exact grI hx hb hr hlocks hP hS dX7_read_41 (pf1 hf) (pf2 hf)
    · skip
      replace hf := it_f c_4 hf
      refine lv_iload_n hx hb dX7_read_17 rfl (lv_at hl 2 rfl) ?_
      refine lv_iconst (v := 0) hx hb dX7_read_18 (by decide) ?_
      refine lv_ldc (v := 100000) hx hb hown (hg _ kw_442) dX7_read_19 ?_
      obtain ⟨r_7, hc_8, hf⟩ := bd_ok hf
      refine gcFi 3 ⟨hx, hb, hml, hown, hts⟩ (mX7_within l a2 ((0 : Int32)) ((100000 : Int32)) r_7 hc_8) (gG kw_203) kw_201 kw_202 kw_21 hX7_within ⟨rfl, rfl⟩ ⟨Nat.le_of_ble_eq_true rfl, Nat.le_of_ble_eq_true rfl⟩ ⟨Nat.zero_le _, Nat.zero_le _⟩ rfl hl.1 rfl (Nat.le_of_ble_eq_true rfl) dX7_read_21 ?_
      refine lv_if_ne (tgt := 29) hx hb dX7_read_24 (by decide) (fun c_9 => ?_) (fun c_9 => ?_)
      · skip
        replace hf := it_f c_9 hf
        refine lv_aload_n hx hb dX7_read_29 rfl (lv_at hl 0 rfl) ?_
        refine va_get (D := D) (ci := 6) (v := .ref (ad 34)) (C := RX7) (T := TX7) (N := 7) hx hb hg inG_X7 hown hK hP 29 x_o29 rfl 4 (by decide) (hg _ kw_179) (fun _ h9 => h9) rfl dX7_read_30 ?_
        refine va_getN (D := D) (ci := 3) (v := .ref (ad 17)) (C := RX4) (T := TX4) (N := 3) hx hb hg inG_X4 hown hK hP 34 x_o34 rfl 1 (by decide) (va_Nw.use rfl (hN _ kn_163)) (fun _ h9 => h9) rfl dX7_read_33 ?_
        refine lv_iload_n hx hb dX7_read_36 rfl (lv_at hl 1 rfl) ?_
        refine lv_iload_n hx hb dX7_read_37 rfl (lv_at hl 2 rfl) ?_
        obtain ⟨r_10, hc_11, hf⟩ := bd_ok hf
        refine gcSi 3 (xC_ok D ad cs tM hJ) hC ⟨hx, hb, hml, hown, hts⟩ (mX7_replace l D ad cs tM u 17 a1 a2 (by decide) (by decide) r_10 hc_11) (gG kw_218) kw_216 kw_217 kw_21 hX7_replace ⟨rfl, rfl⟩ ⟨Nat.le_of_ble_eq_true rfl, Nat.le_of_ble_eq_true rfl⟩ hP hS ⟨Nat.zero_le _, Nat.zero_le _⟩ rfl hl.1 rfl (Nat.le_of_ble_eq_true rfl) dX7_read_38 (fun H locs hP hS => ?_)
        exact grI hx hb hr hlocks hP hS dX7_read_41 (pf1 hf) (pf2 hf)
      · skip
        replace hf := it_t c_9 hf
        refine lv_iconst (v := -1) hx hb dX7_read_27 (by decide) ?_
        exact grI hx hb hr hlocks hP hS dX7_read_28 (pf1 hf) (pf2 hf)
abbrev rX7_gap : Room := { frames := 3, cells := 0, slots := 0, locals := 64 }
theorem hX7_gap : yX7_gap.cls ≠ "java/lang/invoke/MethodHandle" ∧ yX7_gap.cls ≠ "java/lang/invoke/VarHandle" ∧ (parseMethodDescriptor yX7_gap.desc).map (fun d => d.parameters.length) = some 1 := by decide +kernel
set_option maxHeartbeats 4000000 in
set_option maxRecDepth 100000 in
theorem mX7_gap (l : Launch) (D : va_G) (ad : Nat → Nat) (cs : Nat → ClassId) (tM : Nat) (u : UX) (a1 : Int32)  (r0 : Int64) (hok : fX7_gap u a1 = some r0) : Met l yX7_gap (Cond.code yX7_gap cX7_gap 2 (some .long) :: wsG) rX7_gap (va_Pc [.ref (ad 29), .int a1] (wI D (wX ad cs) (xC D ad cs tM) u)) (va_Ql (fun (r : Int64) (u' : UX) => r = r0 ∧ u' = u) (wB D (wX ad cs)) (AX ad)) 0 0 (AX ad) := by
  refine Met.ofW (cc := cX7_gap) (maxL := 2) (ret := (some .long)) (by decide) rfl ?_
  intro p e s m args below meth c s₁ B hml hv
  have hx := B.exec
  have hb := B.bytes
  have hr := B.returns
  have hts := atoms_spec (ws := (Cond.code yX7_gap cX7_gap 2 (some .long) :: wsG)) B.pre
  have hg : ∀ w ∈ wsG, w.before args s = true := fun w h => hts w (List.mem_cons_of_mem _ h)
  have hown : s.vm.findClass RX7 = some m.cls := findClass_of_methodNamed B.named
  have hlocks := B.notSynchronized
  obtain ⟨ha, hP, hC⟩ := hv
  obtain ⟨hK, hJ, hN, hZ, hT⟩ := id hC
  have hS : va_S (AX ad) s.heap s.heap [] := va_S.rf
  refine W.eq (show entryFrame m args 2 = entryFrame m ([.ref (ad 29), .int a1] : List Value).toArray 2 by rw [ha]) ?_
  have hl := lv_entry ([.ref (ad 29), .int a1]) (n := 2) (Nat.le_of_ble_eq_true rfl)
  rw [lg_entry_eq]
  generalize (lg_sl ([.ref (ad 29), .int a1]) ++ List.replicate (2 - (lg_sl ([.ref (ad 29), .int a1])).length) Slot.unset).toArray = ls at hl ⊢
  have hl : lv_has ls 2 [(0, .ref (ad 29)), (1, .int a1)] := hl
  show W p l e rX7_gap s m args below meth c s.heap [] 0 0 (MQ below (va_Ql (fun (r : Int64) (u' : UX) => r = r0 ∧ u' = u) (wB D (wX ad cs)) (AX ad)) args s 0 0 (AX ad)) (F0 m 0 ls [])
  have hf := hok
  unfold fX7_gap at hf
  refine lv_iload_n hx hb dX7_gap_0 rfl (lv_at hl 1 rfl) ?_
  by_cases c_1 : a1 = 0
  · replace hf := it_t c_1 hf
    refine lv_tableIn (tgt := 32) hx hb dX7_gap_1 (by rw [c_1] <;> decide) (by rw [c_1] <;> decide) (by rw [c_1] <;> rfl) (by decide) ?_
    refine lv_aload_n hx hb dX7_gap_32 rfl (lv_at hl 0 rfl) ?_
    refine va_get (D := D) (ci := 6) (v := .ref (ad 34)) (C := RX7) (T := TX7) (N := 7) hx hb hg inG_X7 hown hK hP 29 x_o29 rfl 4 (by decide) (hg _ kw_179) (fun _ h9 => h9) rfl dX7_gap_33 ?_
    obtain ⟨r_2, hc_3, hf⟩ := bd_ok hf
    refine gcVl 0 (xC_ok D ad cs tM hJ) hC ⟨hx, hb, hml, hown, hts⟩ (mX4_sum l D ad cs tM u r_2 hc_3) (gG kw_450) kw_447 kw_448 kw_449 kw_27 hX4_sum ⟨rfl, rfl⟩ ⟨Nat.le_of_ble_eq_true rfl, Nat.le_of_ble_eq_true rfl⟩ (x_rec (C := RX4) (T := TX4) (N := 3) (ci := 3) hK hP rfl x_o34) hP hS ⟨Nat.zero_le _, Nat.zero_le _⟩ rfl hl.1 rfl (Nat.le_of_ble_eq_true rfl) dX7_gap_36 (fun H locs hP hS => ?_)
    exact grL hx hb hr hlocks hP hS dX7_gap_39 (Option.some.inj hf) rfl
  · replace hf := it_f c_1 hf
    by_cases c_4 : a1 = 1
    · replace hf := it_t c_4 hf
      refine lv_tableIn (tgt := 40) hx hb dX7_gap_1 (by rw [c_4] <;> decide) (by rw [c_4] <;> decide) (by rw [c_4] <;> rfl) (by decide) ?_
      refine lv_aload_n hx hb dX7_gap_40 rfl (lv_at hl 0 rfl) ?_
      refine va_get (D := D) (ci := 6) (v := .ref (ad 34)) (C := RX7) (T := TX7) (N := 7) hx hb hg inG_X7 hown hK hP 29 x_o29 rfl 4 (by decide) (hg _ kw_179) (fun _ h9 => h9) rfl dX7_gap_41 ?_
      obtain ⟨r_5, hc_6, hf⟩ := bd_ok hf
      refine gcVi 0 (xC_ok D ad cs tM hJ) hC ⟨hx, hb, hml, hown, hts⟩ (mX4_missing l D ad cs tM u r_5 hc_6) (gG kw_454) kw_451 kw_452 kw_453 kw_27 hX4_missing ⟨rfl, rfl⟩ ⟨Nat.le_of_ble_eq_true rfl, Nat.le_of_ble_eq_true rfl⟩ (x_rec (C := RX4) (T := TX4) (N := 3) (ci := 3) hK hP rfl x_o34) hP hS ⟨Nat.zero_le _, Nat.zero_le _⟩ rfl hl.1 rfl (Nat.le_of_ble_eq_true rfl) dX7_gap_44 (fun H locs hP hS => ?_)
      refine lv_i2l hx hb dX7_gap_47 rfl ?_
      exact grL hx hb hr hlocks hP hS dX7_gap_48 (Option.some.inj hf) rfl
    · replace hf := it_f c_4 hf
      by_cases c_7 : a1 = 2
      · replace hf := it_t c_7 hf
        refine lv_tableIn (tgt := 49) hx hb dX7_gap_1 (by rw [c_7] <;> decide) (by rw [c_7] <;> decide) (by rw [c_7] <;> rfl) (by decide) ?_
        refine lv_aload_n hx hb dX7_gap_49 rfl (lv_at hl 0 rfl) ?_
        refine va_get (D := D) (ci := 6) (v := .ref (ad 34)) (C := RX7) (T := TX7) (N := 7) hx hb hg inG_X7 hown hK hP 29 x_o29 rfl 4 (by decide) (hg _ kw_179) (fun _ h9 => h9) rfl dX7_gap_50 ?_
        obtain ⟨r_8, hc_9, hf⟩ := bd_ok hf
        refine gcVi 0 (xC_ok D ad cs tM hJ) hC ⟨hx, hb, hml, hown, hts⟩ (mX4_told l D ad cs tM u r_8 hc_9) (gG kw_458) kw_455 kw_456 kw_457 kw_27 hX4_told ⟨rfl, rfl⟩ ⟨Nat.le_of_ble_eq_true rfl, Nat.le_of_ble_eq_true rfl⟩ (x_rec (C := RX4) (T := TX4) (N := 3) (ci := 3) hK hP rfl x_o34) hP hS ⟨Nat.zero_le _, Nat.zero_le _⟩ rfl hl.1 rfl (Nat.le_of_ble_eq_true rfl) dX7_gap_53 (fun H locs hP hS => ?_)
        refine lv_i2l hx hb dX7_gap_56 rfl ?_
        exact grL hx hb hr hlocks hP hS dX7_gap_57 (Option.some.inj hf) rfl
      · replace hf := it_f c_7 hf
        by_cases c_10 : a1 = 3
        · replace hf := it_t c_10 hf
          refine lv_tableIn (tgt := 58) hx hb dX7_gap_1 (by rw [c_10] <;> decide) (by rw [c_10] <;> decide) (by rw [c_10] <;> rfl) (by decide) ?_
          refine lv_aload_n hx hb dX7_gap_58 rfl (lv_at hl 0 rfl) ?_
          refine va_get (D := D) (ci := 6) (v := .ref (ad 34)) (C := RX7) (T := TX7) (N := 7) hx hb hg inG_X7 hown hK hP 29 x_o29 rfl 4 (by decide) (hg _ kw_179) (fun _ h9 => h9) rfl dX7_gap_59 ?_
          obtain ⟨r_11, hc_12, hf⟩ := bd_ok hf
          refine gcVl 0 (xC_ok D ad cs tM hJ) hC ⟨hx, hb, hml, hown, hts⟩ (mX4_toldAs l D ad cs tM u r_11 hc_12) (gG kw_463) kw_460 kw_461 kw_462 kw_27 hX4_toldAs ⟨rfl, rfl⟩ ⟨Nat.le_of_ble_eq_true rfl, Nat.le_of_ble_eq_true rfl⟩ (x_rec (C := RX4) (T := TX4) (N := 3) (ci := 3) hK hP rfl x_o34) hP hS ⟨Nat.zero_le _, Nat.zero_le _⟩ rfl hl.1 rfl (Nat.le_of_ble_eq_true rfl) dX7_gap_62 (fun H locs hP hS => ?_)
          exact grL hx hb hr hlocks hP hS dX7_gap_65 (Option.some.inj hf) rfl
        · replace hf := it_f c_10 hf
          have e0_c_1 := lv_neT (a := 0) c_1 (by decide)
          have e1_c_4 := lv_neT (a := 1) c_4 (by decide)
          have e2_c_7 := lv_neT (a := 2) c_7 (by decide)
          have e3_c_10 := lv_neT (a := 3) c_10 (by decide)
          refine lv_tableOut (tgt := 66) hx hb dX7_gap_1 (by omega) (by decide) ?_
          refine lv_ldc2 (v := -1000000000000) hx hb hown (hg _ kw_467) dX7_gap_66 ?_
          exact grL hx hb hr hlocks hP hS dX7_gap_69 (Option.some.inj hf) rfl
abbrev rX7_mended : Room := { frames := 3, cells := 0, slots := 0, locals := 78 }
theorem hX7_mended : yX7_mended.cls ≠ "java/lang/invoke/MethodHandle" ∧ yX7_mended.cls ≠ "java/lang/invoke/VarHandle" ∧ (parseMethodDescriptor yX7_mended.desc).map (fun d => d.parameters.length) = some 2 := by decide +kernel
set_option maxHeartbeats 4000000 in
set_option maxRecDepth 100000 in
theorem mX7_mended (l : Launch) (D : va_G) (ad : Nat → Nat) (cs : Nat → ClassId) (tM : Nat) (u : UX) (a1 : Int32) (a2 : Int32)  (ru : Int64 × UX) (hok : fX7_mended u a1 a2 = some ru) : Met l yX7_mended (Cond.code yX7_mended cX7_mended 3 (some .long) :: wsG) rX7_mended (va_Pc [.ref (ad 29), .int a1, .int a2] (wI D (wX ad cs) (xC D ad cs tM) u)) (va_Ql (fun (r : Int64) (u' : UX) => r = ru.1 ∧ u' = ru.2) (wB D (wX ad cs)) (AX ad)) 0 0 (AX ad) := by
  refine Met.ofW (cc := cX7_mended) (maxL := 3) (ret := (some .long)) (by decide) rfl ?_
  intro p e s m args below meth c s₁ B hml hv
  have hx := B.exec
  have hb := B.bytes
  have hr := B.returns
  have hts := atoms_spec (ws := (Cond.code yX7_mended cX7_mended 3 (some .long) :: wsG)) B.pre
  have hg : ∀ w ∈ wsG, w.before args s = true := fun w h => hts w (List.mem_cons_of_mem _ h)
  have hown : s.vm.findClass RX7 = some m.cls := findClass_of_methodNamed B.named
  have hlocks := B.notSynchronized
  obtain ⟨ha, hP, hC⟩ := hv
  obtain ⟨hK, hJ, hN, hZ, hT⟩ := id hC
  have hS : va_S (AX ad) s.heap s.heap [] := va_S.rf
  refine W.eq (show entryFrame m args 3 = entryFrame m ([.ref (ad 29), .int a1, .int a2] : List Value).toArray 3 by rw [ha]) ?_
  have hl := lv_entry ([.ref (ad 29), .int a1, .int a2]) (n := 3) (Nat.le_of_ble_eq_true rfl)
  rw [lg_entry_eq]
  generalize (lg_sl ([.ref (ad 29), .int a1, .int a2]) ++ List.replicate (3 - (lg_sl ([.ref (ad 29), .int a1, .int a2])).length) Slot.unset).toArray = ls at hl ⊢
  have hl : lv_has ls 3 [(0, .ref (ad 29)), (1, .int a1), (2, .int a2)] := hl
  show W p l e rX7_mended s m args below meth c s.heap [] 0 0 (MQ below (va_Ql (fun (r : Int64) (u' : UX) => r = ru.1 ∧ u' = ru.2) (wB D (wX ad cs)) (AX ad)) args s 0 0 (AX ad)) (F0 m 0 ls [])
  have hf := hok
  unfold fX7_mended at hf
  refine lv_aload_n hx hb dX7_mended_0 rfl (lv_at hl 0 rfl) ?_
  refine va_get (D := D) (ci := 6) (v := .ref (ad 34)) (C := RX7) (T := TX7) (N := 7) hx hb hg inG_X7 hown hK hP 29 x_o29 rfl 4 (by decide) (hg _ kw_179) (fun _ h9 => h9) rfl dX7_mended_1 ?_
  refine lv_iload_n hx hb dX7_mended_4 rfl (lv_at hl 1 rfl) ?_
  obtain ⟨r_1, hc_2, hf⟩ := bd_ok hf
  refine gcVi 1 (xC_ok D ad cs tM hJ) hC ⟨hx, hb, hml, hown, hts⟩ (mX4_has l D ad cs tM u a1 r_1 hc_2) (gG kw_441) kw_438 kw_439 kw_440 kw_27 hX4_has ⟨rfl, rfl⟩ ⟨Nat.le_of_ble_eq_true rfl, Nat.le_of_ble_eq_true rfl⟩ (x_rec (C := RX4) (T := TX4) (N := 3) (ci := 3) hK hP rfl x_o34) hP hS ⟨Nat.zero_le _, Nat.zero_le _⟩ rfl hl.1 rfl (Nat.le_of_ble_eq_true rfl) dX7_mended_5 (fun H locs hP hS => ?_)
  refine lv_if_eq (tgt := 18) hx hb dX7_mended_8 (by decide) (fun c_3 => ?_) (fun c_3 => ?_)
  · skip
    replace hf := it_t c_3 hf
    refine lv_ldc2 (v := -1000000000000) hx hb hown (hg _ kw_467) dX7_mended_18 ?_
    exact grL hx hb hr hlocks hP hS dX7_mended_21 (pf1 hf) (pf2 hf)
  · skip
    replace hf := it_f c_3 hf
    refine lv_iload_n hx hb dX7_mended_11 rfl (lv_at hl 2 rfl) ?_
    obtain ⟨r_4, hc_5, hf⟩ := bd_ok hf
    refine gcFi 1 ⟨hx, hb, hml, hown, hts⟩ (mX7_isPart l a2 r_4 hc_5) (gG kw_249) kw_247 kw_248 kw_21 hX7_isPart ⟨rfl, rfl⟩ ⟨Nat.le_of_ble_eq_true rfl, Nat.le_of_ble_eq_true rfl⟩ ⟨Nat.zero_le _, Nat.zero_le _⟩ rfl hl.1 rfl (Nat.le_of_ble_eq_true rfl) dX7_mended_12 ?_
    refine lv_if_ne (tgt := 22) hx hb dX7_mended_15 (by decide) (fun c_6 => ?_) (fun c_6 => ?_)
    · skip
      replace hf := it_f c_6 hf
      refine lv_aload_n hx hb dX7_mended_22 rfl (lv_at hl 0 rfl) ?_
      refine va_get (D := D) (ci := 6) (v := .ref (ad 34)) (C := RX7) (T := TX7) (N := 7) hx hb hg inG_X7 hown hK hP 29 x_o29 rfl 4 (by decide) (hg _ kw_179) (fun _ h9 => h9) rfl dX7_mended_23 ?_
      obtain ⟨r_7, hc_8, hf⟩ := bd_ok hf
      refine gcVi 0 (xC_ok D ad cs tM hJ) hC ⟨hx, hb, hml, hown, hts⟩ (mX4_missing l D ad cs tM u r_7 hc_8) (gG kw_454) kw_451 kw_452 kw_453 kw_27 hX4_missing ⟨rfl, rfl⟩ ⟨Nat.le_of_ble_eq_true rfl, Nat.le_of_ble_eq_true rfl⟩ (x_rec (C := RX4) (T := TX4) (N := 3) (ci := 3) hK hP rfl x_o34) hP hS ⟨Nat.zero_le _, Nat.zero_le _⟩ rfl hl.1 rfl (Nat.le_of_ble_eq_true rfl) dX7_mended_26 (fun H locs hP hS => ?_)
      refine lv_if_le (tgt := 36) hx hb dX7_mended_29 (by decide) (fun c_9 => ?_) (fun c_9 => ?_)
      · skip
        replace hf := it_t c_9 hf
        refine lv_aload_n hx hb dX7_mended_36 rfl (lv_at hl 0 rfl) ?_
        refine va_get (D := D) (ci := 6) (v := .ref (ad 34)) (C := RX7) (T := TX7) (N := 7) hx hb hg inG_X7 hown hK hP 29 x_o29 rfl 4 (by decide) (hg _ kw_179) (fun _ h9 => h9) rfl dX7_mended_37 ?_
        refine lv_iload_n hx hb dX7_mended_40 rfl (lv_at hl 1 rfl) ?_
        refine lv_aload_n hx hb dX7_mended_41 rfl (lv_at hl 0 rfl) ?_
        refine va_get (D := D) (ci := 6) (v := .ref (ad 18)) (C := RX7) (T := TX7) (N := 7) hx hb hg inG_X7 hown hK hP 29 x_o29 rfl 5 (by decide) (hg _ kw_180) (fun _ h9 => h9) rfl dX7_mended_42 ?_
        obtain ⟨r_10, hc_11, hf⟩ := bd_ok hf
        refine gcVv 2 (xC_ok D ad cs tM hJ) hC ⟨hx, hb, hml, hown, hts⟩ (mX4_tellMended l D ad cs tM u a1 18 (by decide) (by decide) r_10 hc_11) (gG kw_476) kw_473 kw_474 kw_475 kw_27 hX4_tellMended ⟨rfl, rfl⟩ ⟨Nat.le_of_ble_eq_true rfl, Nat.le_of_ble_eq_true rfl⟩ (x_rec (C := RX4) (T := TX4) (N := 3) (ci := 3) hK hP rfl x_o34) hP hS ⟨Nat.zero_le _, Nat.zero_le _⟩ rfl hl.1 rfl (Nat.le_of_ble_eq_true rfl) dX7_mended_45 (fun H locs hP hS => ?_)
        refine lv_aload_n hx hb dX7_mended_48 rfl (lv_at hl 0 rfl) ?_
        refine va_get (D := D) (ci := 6) (v := .ref (ad 18)) (C := RX7) (T := TX7) (N := 7) hx hb hg inG_X7 hown hK hP 29 x_o29 rfl 5 (by decide) (hg _ kw_180) (fun _ h9 => h9) rfl dX7_mended_49 ?_
        refine lv_iload_n hx hb dX7_mended_52 rfl (lv_at hl 2 rfl) ?_
        obtain ⟨r_12, hc_13, hf⟩ := bd_ok hf
        refine gcVl 1 (xC_ok D ad cs tM hJ) hC ⟨hx, hb, hml, hown, hts⟩ (mX2_part l D ad cs tM r_10 18 a2 (by decide) (by decide) r_12 hc_13) (gG kw_284) kw_281 kw_282 kw_283 kw_25 hX2_part ⟨rfl, rfl⟩ ⟨Nat.le_of_ble_eq_true rfl, Nat.le_of_ble_eq_true rfl⟩ (x_rec (C := RX2) (T := TX2) (N := 2) (ci := 1) hK hP rfl (x_fra (by decide) (by decide))) hP hS ⟨Nat.zero_le _, Nat.zero_le _⟩ rfl hl.1 rfl (Nat.le_of_ble_eq_true rfl) dX7_mended_53 (fun H locs hP hS => ?_)
        exact grL hx hb hr hlocks hP hS dX7_mended_56 (pf1 hf) (pf2 hf)
      · skip
        replace hf := it_f c_9 hf
        refine lv_ldc2 (v := -999999999999) hx hb hown (hg _ kw_472) dX7_mended_32 ?_
        exact grL hx hb hr hlocks hP hS dX7_mended_35 (pf1 hf) (pf2 hf)
    · skip
      replace hf := it_t c_6 hf
      refine lv_ldc2 (v := -1000000000000) hx hb hown (hg _ kw_467) dX7_mended_18 ?_
      exact grL hx hb hr hlocks hP hS dX7_mended_21 (pf1 hf) (pf2 hf)
abbrev rX7_count : Room := { frames := 1, cells := 0, slots := 0, locals := 23 }
theorem hX7_count : yX7_count.cls ≠ "java/lang/invoke/MethodHandle" ∧ yX7_count.cls ≠ "java/lang/invoke/VarHandle" ∧ (parseMethodDescriptor yX7_count.desc).map (fun d => d.parameters.length) = some 1 := by decide +kernel
set_option maxHeartbeats 4000000 in
set_option maxRecDepth 100000 in
theorem mX7_count (l : Launch) (D : va_G) (ad : Nat → Nat) (cs : Nat → ClassId) (tM : Nat) (u : UX) (a1 : Int32)  (r0 : Int32) (hok : fX7_count u a1 = some r0) : Met l yX7_count (Cond.code yX7_count cX7_count 2 (some .int) :: wsG) rX7_count (va_Pc [.ref (ad 29), .int a1] (wI D (wX ad cs) (xC D ad cs tM) u)) (va_Qi (fun (r : Int32) (u' : UX) => r = r0 ∧ u' = u) (wB D (wX ad cs)) (AX ad)) 0 0 (AX ad) := by
  refine Met.ofW (cc := cX7_count) (maxL := 2) (ret := (some .int)) (by decide) rfl ?_
  intro p e s m args below meth c s₁ B hml hv
  have hx := B.exec
  have hb := B.bytes
  have hr := B.returns
  have hts := atoms_spec (ws := (Cond.code yX7_count cX7_count 2 (some .int) :: wsG)) B.pre
  have hg : ∀ w ∈ wsG, w.before args s = true := fun w h => hts w (List.mem_cons_of_mem _ h)
  have hown : s.vm.findClass RX7 = some m.cls := findClass_of_methodNamed B.named
  have hlocks := B.notSynchronized
  obtain ⟨ha, hP, hC⟩ := hv
  obtain ⟨hK, hJ, hN, hZ, hT⟩ := id hC
  have hS : va_S (AX ad) s.heap s.heap [] := va_S.rf
  refine W.eq (show entryFrame m args 2 = entryFrame m ([.ref (ad 29), .int a1] : List Value).toArray 2 by rw [ha]) ?_
  have hl := lv_entry ([.ref (ad 29), .int a1]) (n := 2) (Nat.le_of_ble_eq_true rfl)
  rw [lg_entry_eq]
  generalize (lg_sl ([.ref (ad 29), .int a1]) ++ List.replicate (2 - (lg_sl ([.ref (ad 29), .int a1])).length) Slot.unset).toArray = ls at hl ⊢
  have hl : lv_has ls 2 [(0, .ref (ad 29)), (1, .int a1)] := hl
  show W p l e rX7_count s m args below meth c s.heap [] 0 0 (MQ below (va_Qi (fun (r : Int32) (u' : UX) => r = r0 ∧ u' = u) (wB D (wX ad cs)) (AX ad)) args s 0 0 (AX ad)) (F0 m 0 ls [])
  have hf := hok
  unfold fX7_count at hf
  refine lv_iload_n hx hb dX7_count_0 rfl (lv_at hl 1 rfl) ?_
  by_cases c_1 : a1 = 0
  · replace hf := it_t c_1 hf
    refine lv_tableIn (tgt := 44) hx hb dX7_count_1 (by rw [c_1] <;> decide) (by rw [c_1] <;> decide) (by rw [c_1] <;> rfl) (by decide) ?_
    refine lv_aload_n hx hb dX7_count_44 rfl (lv_at hl 0 rfl) ?_
    refine va_get (D := D) (ci := 6) (v := .ref (ad 30)) (C := RX7) (T := TX7) (N := 7) hx hb hg inG_X7 hown hK hP 29 x_o29 rfl 0 (by decide) (hg _ kw_175) (fun _ h9 => h9) rfl dX7_count_45 ?_
    refine va_getN (D := D) (ci := 4) (v := .int u.2.2.1) (C := RX5) (T := TX5) (N := 5) hx hb hg inG_X5 hown hK hP 30 x_o30 rfl 4 (by decide) (va_Nw.use rfl (hN _ kn_59)) (fun _ h9 => h9) rfl dX7_count_48 ?_
    exact grI hx hb hr hlocks hP hS dX7_count_51 (Option.some.inj hf) rfl
  · replace hf := it_f c_1 hf
    by_cases c_2 : a1 = 1
    · replace hf := it_t c_2 hf
      refine lv_tableIn (tgt := 52) hx hb dX7_count_1 (by rw [c_2] <;> decide) (by rw [c_2] <;> decide) (by rw [c_2] <;> rfl) (by decide) ?_
      refine lv_aload_n hx hb dX7_count_52 rfl (lv_at hl 0 rfl) ?_
      refine va_get (D := D) (ci := 6) (v := .ref (ad 32)) (C := RX7) (T := TX7) (N := 7) hx hb hg inG_X7 hown hK hP 29 x_o29 rfl 2 (by decide) (hg _ kw_177) (fun _ h9 => h9) rfl dX7_count_53 ?_
      obtain ⟨r_3, hc_4, hf⟩ := bd_ok hf
      refine gcVi 0 (xC_ok D ad cs tM hJ) hC ⟨hx, hb, hml, hown, hts⟩ (mX1_allFresh l D ad cs tM u r_3 hc_4) (gG kw_485) kw_482 kw_483 kw_484 kw_24 hX1_allFresh ⟨rfl, rfl⟩ ⟨Nat.le_of_ble_eq_true rfl, Nat.le_of_ble_eq_true rfl⟩ (x_rec (C := RX1) (T := TX1) (N := 8) (ci := 0) hK hP rfl x_o32) hP hS ⟨Nat.zero_le _, Nat.zero_le _⟩ rfl hl.1 rfl (Nat.le_of_ble_eq_true rfl) dX7_count_56 (fun H locs hP hS => ?_)
      exact grI hx hb hr hlocks hP hS dX7_count_59 (Option.some.inj hf) rfl
    · replace hf := it_f c_2 hf
      by_cases c_5 : a1 = 2
      · replace hf := it_t c_5 hf
        refine lv_tableIn (tgt := 60) hx hb dX7_count_1 (by rw [c_5] <;> decide) (by rw [c_5] <;> decide) (by rw [c_5] <;> rfl) (by decide) ?_
        refine lv_aload_n hx hb dX7_count_60 rfl (lv_at hl 0 rfl) ?_
        refine va_get (D := D) (ci := 6) (v := .ref (ad 32)) (C := RX7) (T := TX7) (N := 7) hx hb hg inG_X7 hown hK hP 29 x_o29 rfl 2 (by decide) (hg _ kw_177) (fun _ h9 => h9) rfl dX7_count_61 ?_
        obtain ⟨r_6, hc_7, hf⟩ := bd_ok hf
        refine gcVi 0 (xC_ok D ad cs tM hJ) hC ⟨hx, hb, hml, hown, hts⟩ (mX1_pipesInUse l D ad cs tM u r_6 hc_7) (gG kw_489) kw_486 kw_487 kw_488 kw_24 hX1_pipesInUse ⟨rfl, rfl⟩ ⟨Nat.le_of_ble_eq_true rfl, Nat.le_of_ble_eq_true rfl⟩ (x_rec (C := RX1) (T := TX1) (N := 8) (ci := 0) hK hP rfl x_o32) hP hS ⟨Nat.zero_le _, Nat.zero_le _⟩ rfl hl.1 rfl (Nat.le_of_ble_eq_true rfl) dX7_count_64 (fun H locs hP hS => ?_)
        exact grI hx hb hr hlocks hP hS dX7_count_67 (Option.some.inj hf) rfl
      · replace hf := it_f c_5 hf
        by_cases c_8 : a1 = 3
        · replace hf := it_t c_8 hf
          refine lv_tableIn (tgt := 68) hx hb dX7_count_1 (by rw [c_8] <;> decide) (by rw [c_8] <;> decide) (by rw [c_8] <;> rfl) (by decide) ?_
          refine lv_aload_n hx hb dX7_count_68 rfl (lv_at hl 0 rfl) ?_
          refine va_get (D := D) (ci := 6) (v := .ref (ad 34)) (C := RX7) (T := TX7) (N := 7) hx hb hg inG_X7 hown hK hP 29 x_o29 rfl 4 (by decide) (hg _ kw_179) (fun _ h9 => h9) rfl dX7_count_69 ?_
          refine va_getN (D := D) (ci := 3) (v := .int u.2.2.2.1) (C := RX4) (T := TX4) (N := 3) hx hb hg inG_X4 hown hK hP 34 x_o34 rfl 2 (by decide) (va_Nw.use rfl (hN _ kn_165)) (fun _ h9 => h9) rfl dX7_count_72 ?_
          exact grI hx hb hr hlocks hP hS dX7_count_75 (Option.some.inj hf) rfl
        · replace hf := it_f c_8 hf
          by_cases c_9 : a1 = 4
          · replace hf := it_t c_9 hf
            refine lv_tableIn (tgt := 76) hx hb dX7_count_1 (by rw [c_9] <;> decide) (by rw [c_9] <;> decide) (by rw [c_9] <;> rfl) (by decide) ?_
            refine lv_aload_n hx hb dX7_count_76 rfl (lv_at hl 0 rfl) ?_
            refine va_get (D := D) (ci := 6) (v := .ref (ad 31)) (C := RX7) (T := TX7) (N := 7) hx hb hg inG_X7 hown hK hP 29 x_o29 rfl 1 (by decide) (hg _ kw_176) (fun _ h9 => h9) rfl dX7_count_77 ?_
            refine va_getN (D := D) (ci := 2) (v := .ref (ad 4)) (C := RX3) (T := TX3) (N := 2) hx hb hg inG_X3 hown hK hP 31 x_o31 rfl 1 (by decide) (va_Nw.use rfl (hN _ kn_80)) (fun _ h9 => h9) rfl dX7_count_80 ?_
            refine lv_iconst (v := 0) hx hb dX7_count_83 (by decide) ?_
            obtain ⟨hb_10, hf⟩ := gd_ok hf
            refine x_iald hx hb hK hP (by decide) (by decide) rfl hb_10 dX7_count_84 ?_
            exact grI hx hb hr hlocks hP hS dX7_count_85 (Option.some.inj hf) rfl
          · replace hf := it_f c_9 hf
            by_cases c_11 : a1 = 5
            · replace hf := it_t c_11 hf
              refine lv_tableIn (tgt := 86) hx hb dX7_count_1 (by rw [c_11] <;> decide) (by rw [c_11] <;> decide) (by rw [c_11] <;> rfl) (by decide) ?_
              refine lv_aload_n hx hb dX7_count_86 rfl (lv_at hl 0 rfl) ?_
              refine va_get (D := D) (ci := 6) (v := .ref (ad 31)) (C := RX7) (T := TX7) (N := 7) hx hb hg inG_X7 hown hK hP 29 x_o29 rfl 1 (by decide) (hg _ kw_176) (fun _ h9 => h9) rfl dX7_count_87 ?_
              refine va_getN (D := D) (ci := 2) (v := .ref (ad 4)) (C := RX3) (T := TX3) (N := 2) hx hb hg inG_X3 hown hK hP 31 x_o31 rfl 1 (by decide) (va_Nw.use rfl (hN _ kn_80)) (fun _ h9 => h9) rfl dX7_count_90 ?_
              refine lv_iconst (v := 1) hx hb dX7_count_93 (by decide) ?_
              obtain ⟨hb_12, hf⟩ := gd_ok hf
              refine x_iald hx hb hK hP (by decide) (by decide) rfl hb_12 dX7_count_94 ?_
              exact grI hx hb hr hlocks hP hS dX7_count_95 (Option.some.inj hf) rfl
            · replace hf := it_f c_11 hf
              by_cases c_13 : a1 = 6
              · replace hf := it_t c_13 hf
                refine lv_tableIn (tgt := 96) hx hb dX7_count_1 (by rw [c_13] <;> decide) (by rw [c_13] <;> decide) (by rw [c_13] <;> rfl) (by decide) ?_
                refine lv_aload_n hx hb dX7_count_96 rfl (lv_at hl 0 rfl) ?_
                refine va_get (D := D) (ci := 6) (v := .ref (ad 31)) (C := RX7) (T := TX7) (N := 7) hx hb hg inG_X7 hown hK hP 29 x_o29 rfl 1 (by decide) (hg _ kw_176) (fun _ h9 => h9) rfl dX7_count_97 ?_
                refine va_getN (D := D) (ci := 2) (v := .ref (ad 4)) (C := RX3) (T := TX3) (N := 2) hx hb hg inG_X3 hown hK hP 31 x_o31 rfl 1 (by decide) (va_Nw.use rfl (hN _ kn_80)) (fun _ h9 => h9) rfl dX7_count_100 ?_
                refine lv_iconst (v := 2) hx hb dX7_count_103 (by decide) ?_
                obtain ⟨hb_14, hf⟩ := gd_ok hf
                refine x_iald hx hb hK hP (by decide) (by decide) rfl hb_14 dX7_count_104 ?_
                exact grI hx hb hr hlocks hP hS dX7_count_105 (Option.some.inj hf) rfl
              · replace hf := it_f c_13 hf
                have e0_c_1 := lv_neT (a := 0) c_1 (by decide)
                have e1_c_2 := lv_neT (a := 1) c_2 (by decide)
                have e2_c_5 := lv_neT (a := 2) c_5 (by decide)
                have e3_c_8 := lv_neT (a := 3) c_8 (by decide)
                have e4_c_9 := lv_neT (a := 4) c_9 (by decide)
                have e5_c_11 := lv_neT (a := 5) c_11 (by decide)
                have e6_c_13 := lv_neT (a := 6) c_13 (by decide)
                refine lv_tableOut (tgt := 106) hx hb dX7_count_1 (by omega) (by decide) ?_
                refine lv_iconst (v := -1) hx hb dX7_count_106 (by decide) ?_
                exact grI hx hb hr hlocks hP hS dX7_count_107 (Option.some.inj hf) rfl
abbrev rX7_trace : Room := { frames := 0, cells := 0, slots := 0, locals := 0 }
theorem hX7_trace : yX7_trace.cls ≠ "java/lang/invoke/MethodHandle" ∧ yX7_trace.cls ≠ "java/lang/invoke/VarHandle" ∧ (parseMethodDescriptor yX7_trace.desc).map (fun d => d.parameters.length) = some 0 := by decide +kernel
set_option maxHeartbeats 4000000 in
set_option maxRecDepth 100000 in
theorem mX7_trace (l : Launch) (D : va_G) (ad : Nat → Nat) (cs : Nat → ClassId) (tM : Nat) (u : UX)   (r0 : Int64) (hok : fX7_trace u = some r0) : Met l yX7_trace (Cond.code yX7_trace cX7_trace 1 (some .long) :: wsG) rX7_trace (va_Pc [.ref (ad 29)] (wI D (wX ad cs) (xC D ad cs tM) u)) (va_Ql (fun (r : Int64) (u' : UX) => r = r0 ∧ u' = u) (wB D (wX ad cs)) (AX ad)) 0 0 (AX ad) := by
  refine Met.ofW (cc := cX7_trace) (maxL := 1) (ret := (some .long)) (by decide) rfl ?_
  intro p e s m args below meth c s₁ B hml hv
  have hx := B.exec
  have hb := B.bytes
  have hr := B.returns
  have hts := atoms_spec (ws := (Cond.code yX7_trace cX7_trace 1 (some .long) :: wsG)) B.pre
  have hg : ∀ w ∈ wsG, w.before args s = true := fun w h => hts w (List.mem_cons_of_mem _ h)
  have hown : s.vm.findClass RX7 = some m.cls := findClass_of_methodNamed B.named
  have hlocks := B.notSynchronized
  obtain ⟨ha, hP, hC⟩ := hv
  obtain ⟨hK, hJ, hN, hZ, hT⟩ := id hC
  have hS : va_S (AX ad) s.heap s.heap [] := va_S.rf
  refine W.eq (show entryFrame m args 1 = entryFrame m ([.ref (ad 29)] : List Value).toArray 1 by rw [ha]) ?_
  have hl := lv_entry ([.ref (ad 29)]) (n := 1) (Nat.le_of_ble_eq_true rfl)
  rw [lg_entry_eq]
  generalize (lg_sl ([.ref (ad 29)]) ++ List.replicate (1 - (lg_sl ([.ref (ad 29)])).length) Slot.unset).toArray = ls at hl ⊢
  have hl : lv_has ls 1 [(0, .ref (ad 29))] := hl
  show W p l e rX7_trace s m args below meth c s.heap [] 0 0 (MQ below (va_Ql (fun (r : Int64) (u' : UX) => r = r0 ∧ u' = u) (wB D (wX ad cs)) (AX ad)) args s 0 0 (AX ad)) (F0 m 0 ls [])
  have hf := hok
  unfold fX7_trace at hf
  refine lv_aload_n hx hb dX7_trace_0 rfl (lv_at hl 0 rfl) ?_
  refine va_get (D := D) (ci := 6) (v := .long u.2.2.2.2) (C := RX7) (T := TX7) (N := 7) hx hb hg inG_X7 hown hK hP 29 x_o29 rfl 6 (by decide) (hg _ kw_181) (fun _ h9 => h9) rfl dX7_trace_1 ?_
  exact grL hx hb hr hlocks hP hS dX7_trace_4 (Option.some.inj hf) rfl
