abbrev rX1_comingTo : Room := { frames := 0, cells := 0, slots := 0, locals := 0 }
theorem hX1_comingTo : yX1_comingTo.cls ≠ "java/lang/invoke/MethodHandle" ∧ yX1_comingTo.cls ≠ "java/lang/invoke/VarHandle" ∧ (parseMethodDescriptor yX1_comingTo.desc).map (fun d => d.parameters.length) = some 1 := by decide +kernel
set_option maxHeartbeats 4000000 in
set_option maxRecDepth 100000 in
theorem mX1_comingTo (l : Launch) (D : va_G) (ad : Nat → Nat) (cs : Nat → ClassId) (tM : Nat) (u : UX) (a1 : Int32)  (r0 : Int32) (hok : fX1_comingTo u a1 = some r0) : Met l yX1_comingTo (Cond.code yX1_comingTo cX1_comingTo 4 (some .int) :: wsG) rX1_comingTo (va_Pc [.ref (ad 32), .int a1] (wI D (wX ad cs) (xC D ad cs tM) u)) (va_Qi (fun (r : Int32) (u' : UX) => r = r0 ∧ u' = u) (wB D (wX ad cs)) (AX ad)) 0 0 (AX ad) := by
  refine Met.ofW (cc := cX1_comingTo) (maxL := 4) (ret := (some .int)) (by decide) rfl ?_
  intro p e s m args below meth c s₁ B hml hv
  have hx := B.exec
  have hb := B.bytes
  have hr := B.returns
  have hts := atoms_spec (ws := (Cond.code yX1_comingTo cX1_comingTo 4 (some .int) :: wsG)) B.pre
  have hg : ∀ w ∈ wsG, w.before args s = true := fun w h => hts w (List.mem_cons_of_mem _ h)
  have hown : s.vm.findClass RX1 = some m.cls := findClass_of_methodNamed B.named
  have hlocks := B.notSynchronized
  obtain ⟨ha, hP, hC⟩ := hv
  obtain ⟨hK, hJ, hN, hZ, hT⟩ := id hC
  have hS : va_S (AX ad) s.heap s.heap [] := va_S.rf
  refine W.eq (show entryFrame m args 4 = entryFrame m ([.ref (ad 32), .int a1] : List Value).toArray 4 by rw [ha]) ?_
  have hl := lv_entry ([.ref (ad 32), .int a1]) (n := 4) (Nat.le_of_ble_eq_true rfl)
  rw [lg_entry_eq]
  generalize (lg_sl ([.ref (ad 32), .int a1]) ++ List.replicate (4 - (lg_sl ([.ref (ad 32), .int a1])).length) Slot.unset).toArray = ls at hl ⊢
  have hl : lv_has ls 4 [(0, .ref (ad 32)), (1, .int a1)] := hl
  show W p l e rX1_comingTo s m args below meth c s.heap [] 0 0 (MQ below (va_Qi (fun (r : Int32) (u' : UX) => r = r0 ∧ u' = u) (wB D (wX ad cs)) (AX ad)) args s 0 0 (AX ad)) (F0 m 0 ls [])
  have hf := hok
  unfold fX1_comingTo at hf
  refine lv_aload_n hx hb dX1_comingTo_0 rfl (lv_at hl 0 rfl) ?_
  refine va_get (D := D) (ci := 0) (v := .ref (ad 5)) (C := RX1) (T := TX1) (N := 8) hx hb hg inG_X1 hown hK hP 32 x_o32 rfl 1 (by decide) (hg _ kw_112) (fun _ h9 => h9) rfl dX1_comingTo_1 ?_
  refine lv_iload_n hx hb dX1_comingTo_4 rfl (lv_at hl 1 rfl) ?_
  obtain ⟨hb_1, hf⟩ := gd_ok hf
  refine x_iald hx hb hK hP (by decide) (by decide) rfl hb_1 dX1_comingTo_5 ?_
  refine lv_istore_n (lv' := [(2, .int (u.1 5 a1.toNatClampNeg)), (0, .ref (ad 32)), (1, .int a1)]) hx hb dX1_comingTo_6 rfl hl (by decide) rfl (fun ls hl => ?_)
  refine lv_iconst (v := 0) hx hb dX1_comingTo_7 (by decide) ?_
  refine lv_istore_n (lv' := [(3, .int ((0 : Int32))), (2, .int (u.1 5 a1.toNatClampNeg)), (0, .ref (ad 32)), (1, .int a1)]) hx hb dX1_comingTo_8 rfl hl (by decide) rfl (fun ls hl => ?_)
  have hL_3 : ∀ (nf : Nat) (y2_k_2 : Int32) (y3_k_2 : Int32) (H : Heap) (locs : List Loc) (ls : Array Slot) (t : Int32), va_P D vwCl (wX ad cs u) H → va_S (AX ad) s.heap H locs → lv_has ls 4 [(0, .ref (ad 32)), (1, .int a1), (2, .int y2_k_2), (3, .int y3_k_2)] → fX1_comingTo_9 a1 u nf y2_k_2 y3_k_2 = some t → (∀ (H : Heap) (locs : List Loc) (ls : Array Slot), va_P D vwCl (wX ad cs u) H → va_S (AX ad) s.heap H locs → lv_has ls 4 [(2, .int t)] → W p l e rX1_comingTo s m args below meth c H locs 0 0 (MQ below (va_Qi (fun (r : Int32) (u' : UX) => r = r0 ∧ u' = u) (wB D (wX ad cs)) (AX ad)) args s 0 0 (AX ad)) (F0 m 37 ls [])) → W p l e rX1_comingTo s m args below meth c H locs 0 0 (MQ below (va_Qi (fun (r : Int32) (u' : UX) => r = r0 ∧ u' = u) (wB D (wX ad cs)) (AX ad)) args s 0 0 (AX ad)) (F0 m 9 ls []) := by
    intro nf
    induction nf with
    | zero => intro y2_k_2 y3_k_2 H locs ls t hP hS hl hf hK'; rw [fX1_comingTo_9] at hf; cases hf
    | succ nf ih =>
      intro y2_k_2 y3_k_2 H locs ls t hP hS hl hf hK'
      rw [fX1_comingTo_9] at hf
      refine lv_iload_n hx hb dX1_comingTo_9 rfl (lv_at hl 3 rfl) ?_
      refine lv_aload_n hx hb dX1_comingTo_10 rfl (lv_at hl 0 rfl) ?_
      refine va_get (D := D) (ci := 0) (v := .ref (ad 30)) (C := RX1) (T := TX1) (N := 8) hx hb hg inG_X1 hown hK hP 32 x_o32 rfl 0 (by decide) (hg _ kw_111) (fun _ h9 => h9) rfl dX1_comingTo_11 ?_
      refine va_getN (D := D) (ci := 4) (v := .int u.2.2.1) (C := RX5) (T := TX5) (N := 5) hx hb hg inG_X5 hown hK hP 30 x_o30 rfl 4 (by decide) (va_Nw.use rfl (hN _ kn_58)) (fun _ h9 => h9) rfl dX1_comingTo_14 ?_
      refine lv_icmp_ge (tgt := 37) hx hb dX1_comingTo_17 (by decide) (fun c_4 => ?_) (fun c_4 => ?_)
      · skip
        replace hf := it_t c_4 hf
        have ht := Option.some.inj hf
        subst ht
        exact hK' _ _ _ hP hS (lv_sub hl [2] rfl)
      · skip
        replace hf := it_f c_4 hf
        refine lv_iload_n hx hb dX1_comingTo_20 rfl (lv_at hl 2 rfl) ?_
        refine lv_aload_n hx hb dX1_comingTo_21 rfl (lv_at hl 0 rfl) ?_
        refine va_get (D := D) (ci := 0) (v := .ref (ad 35)) (C := RX1) (T := TX1) (N := 8) hx hb hg inG_X1 hown hK hP 32 x_o32 rfl 2 (by decide) (hg _ kw_114) (fun _ h9 => h9) rfl dX1_comingTo_22 ?_
        refine lv_iload_n hx hb dX1_comingTo_25 rfl (lv_at hl 3 rfl) ?_
        obtain ⟨hb_5, hf⟩ := gd_ok hf
        refine x_ald35 hx hb hK hP hb_5 dX1_comingTo_26 ?_
        refine lv_iload_n hx hb dX1_comingTo_27 rfl (lv_at hl 1 rfl) ?_
        refine x_iald hx hb hK hP (by have := vin_lt hb_5; omega) (by have := vin_lt hb_5; omega) (la_row (vin_lt hb_5)) hb_1 dX1_comingTo_28 ?_
        refine lv_iadd hx hb dX1_comingTo_29 ?_
        refine lv_istore_n (lv' := [(2, .int (y2_k_2 + (u.1 (6 + y3_k_2.toNatClampNeg) a1.toNatClampNeg))), (0, .ref (ad 32)), (1, .int a1), (3, .int y3_k_2)]) hx hb dX1_comingTo_30 rfl hl (by decide) rfl (fun ls hl => ?_)
        refine lv_iinc (v := y3_k_2 + 1) (lv' := [(3, .int (y3_k_2 + 1)), (2, .int (y2_k_2 + (u.1 (6 + y3_k_2.toNatClampNeg) a1.toNatClampNeg))), (0, .ref (ad 32)), (1, .int a1)]) hx hb dX1_comingTo_31 hl (k := 3) rfl rfl (by decide) rfl (fun ls hl => ?_)
        refine lv_goto (tgt := 9) hx hb dX1_comingTo_34 (by decide) ?_
        exact ih _ _ _ _ _ t hP hS (lv_sub hl [2, 3, 1, 0] rfl) hf hK'
  obtain ⟨t_6, hq_7, hf⟩ := bd_ok hf
  refine hL_3 FU _ _ _ _ _ t_6 hP hS (lv_sub hl [2, 3, 1, 0] rfl) hq_7 (fun H locs ls hP hS hl => ?_)
  refine lv_iload_n hx hb dX1_comingTo_37 rfl (lv_at hl 0 rfl) ?_
  exact grI hx hb hr hlocks hP hS dX1_comingTo_38 (Option.some.inj hf) rfl
abbrev rX1_goingFrom : Room := { frames := 0, cells := 0, slots := 0, locals := 0 }
theorem hX1_goingFrom : yX1_goingFrom.cls ≠ "java/lang/invoke/MethodHandle" ∧ yX1_goingFrom.cls ≠ "java/lang/invoke/VarHandle" ∧ (parseMethodDescriptor yX1_goingFrom.desc).map (fun d => d.parameters.length) = some 1 := by decide +kernel
set_option maxHeartbeats 4000000 in
set_option maxRecDepth 100000 in
theorem mX1_goingFrom (l : Launch) (D : va_G) (ad : Nat → Nat) (cs : Nat → ClassId) (tM : Nat) (u : UX) (a1 : Int32)  (r0 : Int32) (hok : fX1_goingFrom u a1 = some r0) : Met l yX1_goingFrom (Cond.code yX1_goingFrom cX1_goingFrom 4 (some .int) :: wsG) rX1_goingFrom (va_Pc [.ref (ad 32), .int a1] (wI D (wX ad cs) (xC D ad cs tM) u)) (va_Qi (fun (r : Int32) (u' : UX) => r = r0 ∧ u' = u) (wB D (wX ad cs)) (AX ad)) 0 0 (AX ad) := by
  refine Met.ofW (cc := cX1_goingFrom) (maxL := 4) (ret := (some .int)) (by decide) rfl ?_
  intro p e s m args below meth c s₁ B hml hv
  have hx := B.exec
  have hb := B.bytes
  have hr := B.returns
  have hts := atoms_spec (ws := (Cond.code yX1_goingFrom cX1_goingFrom 4 (some .int) :: wsG)) B.pre
  have hg : ∀ w ∈ wsG, w.before args s = true := fun w h => hts w (List.mem_cons_of_mem _ h)
  have hown : s.vm.findClass RX1 = some m.cls := findClass_of_methodNamed B.named
  have hlocks := B.notSynchronized
  obtain ⟨ha, hP, hC⟩ := hv
  obtain ⟨hK, hJ, hN, hZ, hT⟩ := id hC
  have hS : va_S (AX ad) s.heap s.heap [] := va_S.rf
  refine W.eq (show entryFrame m args 4 = entryFrame m ([.ref (ad 32), .int a1] : List Value).toArray 4 by rw [ha]) ?_
  have hl := lv_entry ([.ref (ad 32), .int a1]) (n := 4) (Nat.le_of_ble_eq_true rfl)
  rw [lg_entry_eq]
  generalize (lg_sl ([.ref (ad 32), .int a1]) ++ List.replicate (4 - (lg_sl ([.ref (ad 32), .int a1])).length) Slot.unset).toArray = ls at hl ⊢
  have hl : lv_has ls 4 [(0, .ref (ad 32)), (1, .int a1)] := hl
  show W p l e rX1_goingFrom s m args below meth c s.heap [] 0 0 (MQ below (va_Qi (fun (r : Int32) (u' : UX) => r = r0 ∧ u' = u) (wB D (wX ad cs)) (AX ad)) args s 0 0 (AX ad)) (F0 m 0 ls [])
  have hf := hok
  unfold fX1_goingFrom at hf
  refine lv_iconst (v := 0) hx hb dX1_goingFrom_0 (by decide) ?_
  refine lv_istore_n (lv' := [(2, .int ((0 : Int32))), (0, .ref (ad 32)), (1, .int a1)]) hx hb dX1_goingFrom_1 rfl hl (by decide) rfl (fun ls hl => ?_)
  refine lv_iconst (v := 0) hx hb dX1_goingFrom_2 (by decide) ?_
  refine lv_istore_n (lv' := [(3, .int ((0 : Int32))), (2, .int ((0 : Int32))), (0, .ref (ad 32)), (1, .int a1)]) hx hb dX1_goingFrom_3 rfl hl (by decide) rfl (fun ls hl => ?_)
  have hL_2 : ∀ (nf : Nat) (y2_k_1 : Int32) (y3_k_1 : Int32) (H : Heap) (locs : List Loc) (ls : Array Slot) (t : Int32), va_P D vwCl (wX ad cs u) H → va_S (AX ad) s.heap H locs → lv_has ls 4 [(0, .ref (ad 32)), (1, .int a1), (2, .int y2_k_1), (3, .int y3_k_1)] → fX1_goingFrom_4 a1 u nf y2_k_1 y3_k_1 = some t → (∀ (H : Heap) (locs : List Loc) (ls : Array Slot), va_P D vwCl (wX ad cs u) H → va_S (AX ad) s.heap H locs → lv_has ls 4 [(2, .int t)] → W p l e rX1_goingFrom s m args below meth c H locs 0 0 (MQ below (va_Qi (fun (r : Int32) (u' : UX) => r = r0 ∧ u' = u) (wB D (wX ad cs)) (AX ad)) args s 0 0 (AX ad)) (F0 m 32 ls [])) → W p l e rX1_goingFrom s m args below meth c H locs 0 0 (MQ below (va_Qi (fun (r : Int32) (u' : UX) => r = r0 ∧ u' = u) (wB D (wX ad cs)) (AX ad)) args s 0 0 (AX ad)) (F0 m 4 ls []) := by
    intro nf
    induction nf with
    | zero => intro y2_k_1 y3_k_1 H locs ls t hP hS hl hf hK'; rw [fX1_goingFrom_4] at hf; cases hf
    | succ nf ih =>
      intro y2_k_1 y3_k_1 H locs ls t hP hS hl hf hK'
      rw [fX1_goingFrom_4] at hf
      refine lv_iload_n hx hb dX1_goingFrom_4 rfl (lv_at hl 3 rfl) ?_
      refine lv_aload_n hx hb dX1_goingFrom_5 rfl (lv_at hl 0 rfl) ?_
      refine va_get (D := D) (ci := 0) (v := .ref (ad 30)) (C := RX1) (T := TX1) (N := 8) hx hb hg inG_X1 hown hK hP 32 x_o32 rfl 0 (by decide) (hg _ kw_111) (fun _ h9 => h9) rfl dX1_goingFrom_6 ?_
      refine va_getN (D := D) (ci := 4) (v := .int u.2.2.1) (C := RX5) (T := TX5) (N := 5) hx hb hg inG_X5 hown hK hP 30 x_o30 rfl 4 (by decide) (va_Nw.use rfl (hN _ kn_58)) (fun _ h9 => h9) rfl dX1_goingFrom_9 ?_
      refine lv_icmp_ge (tgt := 32) hx hb dX1_goingFrom_12 (by decide) (fun c_3 => ?_) (fun c_3 => ?_)
      · skip
        replace hf := it_t c_3 hf
        have ht := Option.some.inj hf
        subst ht
        exact hK' _ _ _ hP hS (lv_sub hl [2] rfl)
      · skip
        replace hf := it_f c_3 hf
        refine lv_iload_n hx hb dX1_goingFrom_15 rfl (lv_at hl 2 rfl) ?_
        refine lv_aload_n hx hb dX1_goingFrom_16 rfl (lv_at hl 0 rfl) ?_
        refine va_get (D := D) (ci := 0) (v := .ref (ad 35)) (C := RX1) (T := TX1) (N := 8) hx hb hg inG_X1 hown hK hP 32 x_o32 rfl 2 (by decide) (hg _ kw_114) (fun _ h9 => h9) rfl dX1_goingFrom_17 ?_
        refine lv_iload_n hx hb dX1_goingFrom_20 rfl (lv_at hl 1 rfl) ?_
        obtain ⟨hb_4, hf⟩ := gd_ok hf
        refine x_ald35 hx hb hK hP hb_4 dX1_goingFrom_21 ?_
        refine lv_iload_n hx hb dX1_goingFrom_22 rfl (lv_at hl 3 rfl) ?_
        obtain ⟨hb_5, hf⟩ := gd_ok hf
        refine x_iald hx hb hK hP (by have := vin_lt hb_4; omega) (by have := vin_lt hb_4; omega) (la_row (vin_lt hb_4)) hb_5 dX1_goingFrom_23 ?_
        refine lv_iadd hx hb dX1_goingFrom_24 ?_
        refine lv_istore_n (lv' := [(2, .int (y2_k_1 + (u.1 (6 + a1.toNatClampNeg) y3_k_1.toNatClampNeg))), (0, .ref (ad 32)), (1, .int a1), (3, .int y3_k_1)]) hx hb dX1_goingFrom_25 rfl hl (by decide) rfl (fun ls hl => ?_)
        refine lv_iinc (v := y3_k_1 + 1) (lv' := [(3, .int (y3_k_1 + 1)), (2, .int (y2_k_1 + (u.1 (6 + a1.toNatClampNeg) y3_k_1.toNatClampNeg))), (0, .ref (ad 32)), (1, .int a1)]) hx hb dX1_goingFrom_26 hl (k := 3) rfl rfl (by decide) rfl (fun ls hl => ?_)
        refine lv_goto (tgt := 4) hx hb dX1_goingFrom_29 (by decide) ?_
        exact ih _ _ _ _ _ t hP hS (lv_sub hl [2, 3, 1, 0] rfl) hf hK'
  obtain ⟨t_6, hq_7, hf⟩ := bd_ok hf
  refine hL_2 FU _ _ _ _ _ t_6 hP hS (lv_sub hl [2, 3, 1, 0] rfl) hq_7 (fun H locs ls hP hS hl => ?_)
  refine lv_iload_n hx hb dX1_goingFrom_32 rfl (lv_at hl 0 rfl) ?_
  exact grI hx hb hr hlocks hP hS dX1_goingFrom_33 (Option.some.inj hf) rfl
abbrev rX1_hasOnlyOfTaken : Room := { frames := 0, cells := 0, slots := 0, locals := 0 }
theorem hX1_hasOnlyOfTaken : yX1_hasOnlyOfTaken.cls ≠ "java/lang/invoke/MethodHandle" ∧ yX1_hasOnlyOfTaken.cls ≠ "java/lang/invoke/VarHandle" ∧ (parseMethodDescriptor yX1_hasOnlyOfTaken.desc).map (fun d => d.parameters.length) = some 1 := by decide +kernel
set_option maxHeartbeats 4000000 in
set_option maxRecDepth 100000 in
theorem mX1_hasOnlyOfTaken (l : Launch) (D : va_G) (ad : Nat → Nat) (cs : Nat → ClassId) (tM : Nat) (u : UX) (a1 : Int32)  (r0 : Int32) (hok : fX1_hasOnlyOfTaken u a1 = some r0) : Met l yX1_hasOnlyOfTaken (Cond.code yX1_hasOnlyOfTaken cX1_hasOnlyOfTaken 3 (some .boolean) :: wsG) rX1_hasOnlyOfTaken (va_Pc [.ref (ad 32), .int a1] (wI D (wX ad cs) (xC D ad cs tM) u)) (va_Qi (fun (r : Int32) (u' : UX) => r = r0 ∧ u' = u) (wB D (wX ad cs)) (AX ad)) 0 0 (AX ad) := by
  refine Met.ofW (cc := cX1_hasOnlyOfTaken) (maxL := 3) (ret := (some .boolean)) (by decide) rfl ?_
  intro p e s m args below meth c s₁ B hml hv
  have hx := B.exec
  have hb := B.bytes
  have hr := B.returns
  have hts := atoms_spec (ws := (Cond.code yX1_hasOnlyOfTaken cX1_hasOnlyOfTaken 3 (some .boolean) :: wsG)) B.pre
  have hg : ∀ w ∈ wsG, w.before args s = true := fun w h => hts w (List.mem_cons_of_mem _ h)
  have hown : s.vm.findClass RX1 = some m.cls := findClass_of_methodNamed B.named
  have hlocks := B.notSynchronized
  obtain ⟨ha, hP, hC⟩ := hv
  obtain ⟨hK, hJ, hN, hZ, hT⟩ := id hC
  have hS : va_S (AX ad) s.heap s.heap [] := va_S.rf
  refine W.eq (show entryFrame m args 3 = entryFrame m ([.ref (ad 32), .int a1] : List Value).toArray 3 by rw [ha]) ?_
  have hl := lv_entry ([.ref (ad 32), .int a1]) (n := 3) (Nat.le_of_ble_eq_true rfl)
  rw [lg_entry_eq]
  generalize (lg_sl ([.ref (ad 32), .int a1]) ++ List.replicate (3 - (lg_sl ([.ref (ad 32), .int a1])).length) Slot.unset).toArray = ls at hl ⊢
  have hl : lv_has ls 3 [(0, .ref (ad 32)), (1, .int a1)] := hl
  show W p l e rX1_hasOnlyOfTaken s m args below meth c s.heap [] 0 0 (MQ below (va_Qi (fun (r : Int32) (u' : UX) => r = r0 ∧ u' = u) (wB D (wX ad cs)) (AX ad)) args s 0 0 (AX ad)) (F0 m 0 ls [])
  have hf := hok
  unfold fX1_hasOnlyOfTaken at hf
  refine lv_iconst (v := 0) hx hb dX1_hasOnlyOfTaken_0 (by decide) ?_
  refine lv_istore_n (lv' := [(2, .int ((0 : Int32))), (0, .ref (ad 32)), (1, .int a1)]) hx hb dX1_hasOnlyOfTaken_1 rfl hl (by decide) rfl (fun ls hl => ?_)
  have hL_2 : ∀ (nf : Nat) (y2_k_1 : Int32) (H : Heap) (locs : List Loc) (ls : Array Slot), va_P D vwCl (wX ad cs u) H → va_S (AX ad) s.heap H locs → lv_has ls 3 [(0, .ref (ad 32)), (1, .int a1), (2, .int y2_k_1)] → fX1_hasOnlyOfTaken_2 a1 u nf y2_k_1 = some r0 → W p l e rX1_hasOnlyOfTaken s m args below meth c H locs 0 0 (MQ below (va_Qi (fun (r : Int32) (u' : UX) => r = r0 ∧ u' = u) (wB D (wX ad cs)) (AX ad)) args s 0 0 (AX ad)) (F0 m 2 ls []) := by
    intro nf
    induction nf with
    | zero => intro y2_k_1 H locs ls hP hS hl hf; rw [fX1_hasOnlyOfTaken_2] at hf; cases hf
    | succ nf ih =>
      intro y2_k_1 H locs ls hP hS hl hf
      rw [fX1_hasOnlyOfTaken_2] at hf
      refine lv_iload_n hx hb dX1_hasOnlyOfTaken_2 rfl (lv_at hl 2 rfl) ?_
      refine lv_aload_n hx hb dX1_hasOnlyOfTaken_3 rfl (lv_at hl 0 rfl) ?_
      refine va_get (D := D) (ci := 0) (v := .ref (ad 30)) (C := RX1) (T := TX1) (N := 8) hx hb hg inG_X1 hown hK hP 32 x_o32 rfl 0 (by decide) (hg _ kw_111) (fun _ h9 => h9) rfl dX1_hasOnlyOfTaken_4 ?_
      refine va_getN (D := D) (ci := 4) (v := .int u.2.2.1) (C := RX5) (T := TX5) (N := 5) hx hb hg inG_X5 hown hK hP 30 x_o30 rfl 4 (by decide) (va_Nw.use rfl (hN _ kn_58)) (fun _ h9 => h9) rfl dX1_hasOnlyOfTaken_7 ?_
      refine lv_icmp_ge (tgt := 41) hx hb dX1_hasOnlyOfTaken_10 (by decide) (fun c_3 => ?_) (fun c_3 => ?_)
      · skip
        replace hf := it_t c_3 hf
        refine lv_iconst (v := 1) hx hb dX1_hasOnlyOfTaken_41 (by decide) ?_
        exact grZ hx hb hr hlocks (by decide) hP hS dX1_hasOnlyOfTaken_42 (Option.some.inj hf) rfl
      · skip
        replace hf := it_f c_3 hf
        refine lv_aload_n hx hb dX1_hasOnlyOfTaken_13 rfl (lv_at hl 0 rfl) ?_
        refine va_get (D := D) (ci := 0) (v := .ref (ad 35)) (C := RX1) (T := TX1) (N := 8) hx hb hg inG_X1 hown hK hP 32 x_o32 rfl 2 (by decide) (hg _ kw_114) (fun _ h9 => h9) rfl dX1_hasOnlyOfTaken_14 ?_
        refine lv_iload_n hx hb dX1_hasOnlyOfTaken_17 rfl (lv_at hl 2 rfl) ?_
        obtain ⟨hb_4, hf⟩ := gd_ok hf
        refine x_ald35 hx hb hK hP hb_4 dX1_hasOnlyOfTaken_18 ?_
        refine lv_iload_n hx hb dX1_hasOnlyOfTaken_19 rfl (lv_at hl 1 rfl) ?_
        obtain ⟨hb_5, hf⟩ := gd_ok hf
        refine x_iald hx hb hK hP (by have := vin_lt hb_4; omega) (by have := vin_lt hb_4; omega) (la_row (vin_lt hb_4)) hb_5 dX1_hasOnlyOfTaken_20 ?_
        refine lv_if_le (tgt := 35) hx hb dX1_hasOnlyOfTaken_21 (by decide) (fun c_6 => ?_) (fun c_6 => ?_)
        · skip
          replace hf := it_t c_6 hf
          refine lv_iinc (v := y2_k_1 + 1) (lv' := [(2, .int (y2_k_1 + 1)), (0, .ref (ad 32)), (1, .int a1)]) hx hb dX1_hasOnlyOfTaken_35 hl (k := 2) rfl rfl (by decide) rfl (fun ls hl => ?_)
          refine lv_goto (tgt := 2) hx hb dX1_hasOnlyOfTaken_38 (by decide) ?_
          exact ih _ _ _ _ hP hS (lv_sub hl [1, 2, 0] rfl) hf
        · skip
          replace hf := it_f c_6 hf
          refine lv_aload_n hx hb dX1_hasOnlyOfTaken_24 rfl (lv_at hl 0 rfl) ?_
          refine va_get (D := D) (ci := 0) (v := .ref (ad 11)) (C := RX1) (T := TX1) (N := 8) hx hb hg inG_X1 hown hK hP 32 x_o32 rfl 3 (by decide) (hg _ kw_116) (fun _ h9 => h9) rfl dX1_hasOnlyOfTaken_25 ?_
          refine lv_iload_n hx hb dX1_hasOnlyOfTaken_28 rfl (lv_at hl 2 rfl) ?_
          refine x_zald hx hb hK hP hb_4 dX1_hasOnlyOfTaken_29 ?_
          refine lv_if_ne (tgt := 35) hx hb dX1_hasOnlyOfTaken_30 (by decide) (fun c_7 => ?_) (fun c_7 => ?_)
          · skip
            replace hf := it_f c_7 hf
            refine lv_iinc (v := y2_k_1 + 1) (lv' := [(2, .int (y2_k_1 + 1)), (0, .ref (ad 32)), (1, .int a1)]) hx hb dX1_hasOnlyOfTaken_35 hl (k := 2) rfl rfl (by decide) rfl (fun ls hl => ?_)
            refine lv_goto (tgt := 2) hx hb dX1_hasOnlyOfTaken_38 (by decide) ?_
            exact ih _ _ _ _ hP hS (lv_sub hl [1, 2, 0] rfl) hf
          · skip
            replace hf := it_t c_7 hf
            refine lv_iconst (v := 0) hx hb dX1_hasOnlyOfTaken_33 (by decide) ?_
            exact grZ hx hb hr hlocks (by decide) hP hS dX1_hasOnlyOfTaken_34 (Option.some.inj hf) rfl
  exact hL_2 FU _ _ _ _ hP hS (lv_sub hl [1, 2, 0] rfl) hf
abbrev rX1_takeInOrder : Room := { frames := 1, cells := 0, slots := 0, locals := 22 }
theorem hX1_takeInOrder : yX1_takeInOrder.cls ≠ "java/lang/invoke/MethodHandle" ∧ yX1_takeInOrder.cls ≠ "java/lang/invoke/VarHandle" ∧ (parseMethodDescriptor yX1_takeInOrder.desc).map (fun d => d.parameters.length) = some 0 := by decide +kernel
set_option maxHeartbeats 4000000 in
set_option maxRecDepth 100000 in
theorem mX1_takeInOrder (l : Launch) (D : va_G) (ad : Nat → Nat) (cs : Nat → ClassId) (tM : Nat) (u : UX)   (ru : UX) (hok : fX1_takeInOrder u = some ru) : Met l yX1_takeInOrder (Cond.code yX1_takeInOrder cX1_takeInOrder 4 none :: wsG) rX1_takeInOrder (va_Pc [.ref (ad 32)] (wI D (wX ad cs) (xC D ad cs tM) u)) (va_Qv (fun (u' : UX) => u' = ru) (wB D (wX ad cs)) (AX ad)) 0 0 (AX ad) := by
  refine Met.ofW (cc := cX1_takeInOrder) (maxL := 4) (ret := none) (by decide) rfl ?_
  intro p e s m args below meth c s₁ B hml hv
  have hx := B.exec
  have hb := B.bytes
  have hr := B.returns
  have hts := atoms_spec (ws := (Cond.code yX1_takeInOrder cX1_takeInOrder 4 none :: wsG)) B.pre
  have hg : ∀ w ∈ wsG, w.before args s = true := fun w h => hts w (List.mem_cons_of_mem _ h)
  have hown : s.vm.findClass RX1 = some m.cls := findClass_of_methodNamed B.named
  have hlocks := B.notSynchronized
  obtain ⟨ha, hP, hC⟩ := hv
  obtain ⟨hK, hJ, hN, hZ, hT⟩ := id hC
  have hS : va_S (AX ad) s.heap s.heap [] := va_S.rf
  refine W.eq (show entryFrame m args 4 = entryFrame m ([.ref (ad 32)] : List Value).toArray 4 by rw [ha]) ?_
  have hl := lv_entry ([.ref (ad 32)]) (n := 4) (Nat.le_of_ble_eq_true rfl)
  rw [lg_entry_eq]
  generalize (lg_sl ([.ref (ad 32)]) ++ List.replicate (4 - (lg_sl ([.ref (ad 32)])).length) Slot.unset).toArray = ls at hl ⊢
  have hl : lv_has ls 4 [(0, .ref (ad 32))] := hl
  show W p l e rX1_takeInOrder s m args below meth c s.heap [] 0 0 (MQ below (va_Qv (fun (u' : UX) => u' = ru) (wB D (wX ad cs)) (AX ad)) args s 0 0 (AX ad)) (F0 m 0 ls [])
  have hf := hok
  unfold fX1_takeInOrder at hf
  refine lv_iconst (v := 0) hx hb dX1_takeInOrder_0 (by decide) ?_
  refine lv_istore_n (lv' := [(1, .int ((0 : Int32))), (0, .ref (ad 32))]) hx hb dX1_takeInOrder_1 rfl hl (by decide) rfl (fun ls hl => ?_)
  have hL_2 : ∀ (nf : Nat) (y1_k_1 : Int32) (u_k_1 : UX) (H : Heap) (locs : List Loc) (ls : Array Slot) (t : UX), va_P D vwCl (wX ad cs u_k_1) H → va_S (AX ad) s.heap H locs → lv_has ls 4 [(0, .ref (ad 32)), (1, .int y1_k_1)] → fX1_takeInOrder_2 nf y1_k_1 u_k_1 = some t → (∀ (H : Heap) (locs : List Loc) (ls : Array Slot), va_P D vwCl (wX ad cs t) H → va_S (AX ad) s.heap H locs → lv_has ls 4 [(0, .ref (ad 32))] → W p l e rX1_takeInOrder s m args below meth c H locs 0 0 (MQ below (va_Qv (fun (u' : UX) => u' = ru) (wB D (wX ad cs)) (AX ad)) args s 0 0 (AX ad)) (F0 m 20 ls [])) → W p l e rX1_takeInOrder s m args below meth c H locs 0 0 (MQ below (va_Qv (fun (u' : UX) => u' = ru) (wB D (wX ad cs)) (AX ad)) args s 0 0 (AX ad)) (F0 m 2 ls []) := by
    intro nf
    induction nf with
    | zero => intro y1_k_1 u_k_1 H locs ls t hP hS hl hf hK'; rw [fX1_takeInOrder_2] at hf; cases hf
    | succ nf ih =>
      intro y1_k_1 u_k_1 H locs ls t hP hS hl hf hK'
      rw [fX1_takeInOrder_2] at hf
      refine lv_iload_n hx hb dX1_takeInOrder_2 rfl (lv_at hl 1 rfl) ?_
      refine lv_iconst (v := 5) hx hb dX1_takeInOrder_3 (by decide) ?_
      refine lv_icmp_ge (tgt := 20) hx hb dX1_takeInOrder_4 (by decide) (fun c_3 => ?_) (fun c_3 => ?_)
      · skip
        replace hf := it_t c_3 hf
        have ht := Option.some.inj hf
        subst ht
        exact hK' _ _ _ hP hS (lv_sub hl [0] rfl)
      · skip
        replace hf := it_f c_3 hf
        refine lv_aload_n hx hb dX1_takeInOrder_7 rfl (lv_at hl 0 rfl) ?_
        refine va_get (D := D) (ci := 0) (v := .ref (ad 11)) (C := RX1) (T := TX1) (N := 8) hx hb hg inG_X1 hown hK hP 32 x_o32 rfl 3 (by decide) (hg _ kw_116) (fun _ h9 => h9) rfl dX1_takeInOrder_8 ?_
        refine lv_iload_n hx hb dX1_takeInOrder_11 rfl (lv_at hl 1 rfl) ?_
        refine lv_iconst (v := 0) hx hb dX1_takeInOrder_12 (by decide) ?_
        obtain ⟨hb_4, hf⟩ := gd_ok hf
        refine x_zast hx hb hK hP hJ hS (by decide) hb_4 dX1_takeInOrder_13 (fun H locs hP hS => ?_)
        refine lv_iinc (v := y1_k_1 + 1) (lv' := [(1, .int (y1_k_1 + 1)), (0, .ref (ad 32))]) hx hb dX1_takeInOrder_14 hl (k := 1) rfl rfl (by decide) rfl (fun ls hl => ?_)
        refine lv_goto (tgt := 2) hx hb dX1_takeInOrder_17 (by decide) ?_
        exact ih _ _ _ _ _ t hP hS (lv_sub hl [1, 0] rfl) hf hK'
  obtain ⟨t_5, hq_6, hf⟩ := bd_ok hf
  refine hL_2 FU _ _ _ _ _ t_5 hP hS (lv_sub hl [1, 0] rfl) hq_6 (fun H locs ls hP hS hl => ?_)
  refine lv_iconst (v := 0) hx hb dX1_takeInOrder_20 (by decide) ?_
  refine lv_istore_n (lv' := [(1, .int ((0 : Int32))), (0, .ref (ad 32))]) hx hb dX1_takeInOrder_21 rfl hl (by decide) rfl (fun ls hl => ?_)
  refine lv_iconst (v := 0) hx hb dX1_takeInOrder_22 (by decide) ?_
  refine lv_istore_n (lv' := [(2, .int ((0 : Int32))), (1, .int ((0 : Int32))), (0, .ref (ad 32))]) hx hb dX1_takeInOrder_23 rfl hl (by decide) rfl (fun ls hl => ?_)
  have hL_8 : ∀ (nf : Nat) (y1_k_7 : Int32) (y2_k_7 : Int32) (u_k_7 : UX) (H : Heap) (locs : List Loc) (ls : Array Slot) (t : UX), va_P D vwCl (wX ad cs u_k_7) H → va_S (AX ad) s.heap H locs → lv_has ls 4 [(0, .ref (ad 32)), (1, .int y1_k_7), (2, .int y2_k_7)] → fX1_takeInOrder_24 nf y1_k_7 y2_k_7 u_k_7 = some t → (∀ (H : Heap) (locs : List Loc) (ls : Array Slot), va_P D vwCl (wX ad cs t) H → va_S (AX ad) s.heap H locs → lv_has ls 4 [] → W p l e rX1_takeInOrder s m args below meth c H locs 0 0 (MQ below (va_Qv (fun (u' : UX) => u' = ru) (wB D (wX ad cs)) (AX ad)) args s 0 0 (AX ad)) (F0 m 103 ls [])) → W p l e rX1_takeInOrder s m args below meth c H locs 0 0 (MQ below (va_Qv (fun (u' : UX) => u' = ru) (wB D (wX ad cs)) (AX ad)) args s 0 0 (AX ad)) (F0 m 24 ls []) := by
    intro nf
    induction nf with
    | zero => intro y1_k_7 y2_k_7 u_k_7 H locs ls t hP hS hl hf hK'; rw [fX1_takeInOrder_24] at hf; cases hf
    | succ nf ih =>
      intro y1_k_7 y2_k_7 u_k_7 H locs ls t hP hS hl hf hK'
      rw [fX1_takeInOrder_24] at hf
      refine lv_iload_n hx hb dX1_takeInOrder_24 rfl (lv_at hl 2 rfl) ?_
      refine lv_aload_n hx hb dX1_takeInOrder_25 rfl (lv_at hl 0 rfl) ?_
      refine va_get (D := D) (ci := 0) (v := .ref (ad 30)) (C := RX1) (T := TX1) (N := 8) hx hb hg inG_X1 hown hK hP 32 x_o32 rfl 0 (by decide) (hg _ kw_111) (fun _ h9 => h9) rfl dX1_takeInOrder_26 ?_
      refine va_getN (D := D) (ci := 4) (v := .int u_k_7.2.2.1) (C := RX5) (T := TX5) (N := 5) hx hb hg inG_X5 hown hK hP 30 x_o30 rfl 4 (by decide) (va_Nw.use rfl (hN _ kn_58)) (fun _ h9 => h9) rfl dX1_takeInOrder_29 ?_
      refine lv_icmp_ge (tgt := 103) hx hb dX1_takeInOrder_32 (by decide) (fun c_9 => ?_) (fun c_9 => ?_)
      · skip
        replace hf := it_t c_9 hf
        have ht := Option.some.inj hf
        subst ht
        exact hK' _ _ _ hP hS (lv_sub hl [] rfl)
      · skip
        replace hf := it_f c_9 hf
        refine lv_iconst (v := 0) hx hb dX1_takeInOrder_35 (by decide) ?_
        refine lv_istore_n (lv' := [(3, .int ((0 : Int32))), (0, .ref (ad 32)), (1, .int y1_k_7), (2, .int y2_k_7)]) hx hb dX1_takeInOrder_36 rfl hl (by decide) rfl (fun ls hl => ?_)
        have hL_11 : ∀ (nf : Nat) (y1_k_10 : Int32) (y3_k_10 : Int32) (u_k_10 : UX) (H : Heap) (locs : List Loc) (ls : Array Slot) (t : Int32 × UX), va_P D vwCl (wX ad cs u_k_10) H → va_S (AX ad) s.heap H locs → lv_has ls 4 [(0, .ref (ad 32)), (1, .int y1_k_10), (2, .int y2_k_7), (3, .int y3_k_10)] → fX1_takeInOrder_37 nf y1_k_10 y3_k_10 u_k_10 = some t → (∀ (H : Heap) (locs : List Loc) (ls : Array Slot), va_P D vwCl (wX ad cs t.2) H → va_S (AX ad) s.heap H locs → lv_has ls 4 [(0, .ref (ad 32)), (1, .int t.1), (2, .int y2_k_7)] → W p l e rX1_takeInOrder s m args below meth c H locs 0 0 (MQ below (va_Qv (fun (u' : UX) => u' = ru) (wB D (wX ad cs)) (AX ad)) args s 0 0 (AX ad)) (F0 m 97 ls [])) → W p l e rX1_takeInOrder s m args below meth c H locs 0 0 (MQ below (va_Qv (fun (u' : UX) => u' = ru) (wB D (wX ad cs)) (AX ad)) args s 0 0 (AX ad)) (F0 m 37 ls []) := by
          intro nf
          induction nf with
          | zero => intro y1_k_10 y3_k_10 u_k_10 H locs ls t hP hS hl hf hK'; rw [fX1_takeInOrder_37] at hf; cases hf
          | succ nf ih =>
            intro y1_k_10 y3_k_10 u_k_10 H locs ls t hP hS hl hf hK'
            rw [fX1_takeInOrder_37] at hf
            refine lv_iload_n hx hb dX1_takeInOrder_37 rfl (lv_at hl 3 rfl) ?_
            refine lv_aload_n hx hb dX1_takeInOrder_38 rfl (lv_at hl 0 rfl) ?_
            refine va_get (D := D) (ci := 0) (v := .ref (ad 30)) (C := RX1) (T := TX1) (N := 8) hx hb hg inG_X1 hown hK hP 32 x_o32 rfl 0 (by decide) (hg _ kw_111) (fun _ h9 => h9) rfl dX1_takeInOrder_39 ?_
            refine va_getN (D := D) (ci := 4) (v := .int u_k_10.2.2.1) (C := RX5) (T := TX5) (N := 5) hx hb hg inG_X5 hown hK hP 30 x_o30 rfl 4 (by decide) (va_Nw.use rfl (hN _ kn_58)) (fun _ h9 => h9) rfl dX1_takeInOrder_42 ?_
            refine lv_icmp_ge (tgt := 97) hx hb dX1_takeInOrder_45 (by decide) (fun c_12 => ?_) (fun c_12 => ?_)
            · skip
              replace hf := it_t c_12 hf
              have ht := Option.some.inj hf
              subst ht
              exact hK' _ _ _ hP hS (lv_sub hl [0, 1, 2] rfl)
            · skip
              replace hf := it_f c_12 hf
              refine lv_aload_n hx hb dX1_takeInOrder_48 rfl (lv_at hl 0 rfl) ?_
              refine va_get (D := D) (ci := 0) (v := .ref (ad 11)) (C := RX1) (T := TX1) (N := 8) hx hb hg inG_X1 hown hK hP 32 x_o32 rfl 3 (by decide) (hg _ kw_116) (fun _ h9 => h9) rfl dX1_takeInOrder_49 ?_
              refine lv_iload_n hx hb dX1_takeInOrder_52 rfl (lv_at hl 3 rfl) ?_
              obtain ⟨hb_13, hf⟩ := gd_ok hf
              refine x_zald hx hb hK hP hb_13 dX1_takeInOrder_53 ?_
              refine lv_if_ne (tgt := 91) hx hb dX1_takeInOrder_54 (by decide) (fun c_14 => ?_) (fun c_14 => ?_)
              · skip
                replace hf := it_f c_14 hf
                refine lv_iinc (v := y3_k_10 + 1) (lv' := [(3, .int (y3_k_10 + 1)), (0, .ref (ad 32)), (1, .int y1_k_10), (2, .int y2_k_7)]) hx hb dX1_takeInOrder_91 hl (k := 3) rfl rfl (by decide) rfl (fun ls hl => ?_)
                refine lv_goto (tgt := 37) hx hb dX1_takeInOrder_94 (by decide) ?_
                exact ih _ _ _ _ _ _ t hP hS (lv_sub hl [1, 2, 3, 0] rfl) hf hK'
              · skip
                replace hf := it_t c_14 hf
                refine lv_iload_n hx hb dX1_takeInOrder_57 rfl (lv_at hl 1 rfl) ?_
                refine lv_aload_n hx hb dX1_takeInOrder_58 rfl (lv_at hl 0 rfl) ?_
                refine va_get (D := D) (ci := 0) (v := .ref (ad 12)) (C := RX1) (T := TX1) (N := 8) hx hb hg inG_X1 hown hK hP 32 x_o32 rfl 4 (by decide) (hg _ kw_117) (fun _ h9 => h9) rfl dX1_takeInOrder_59 ?_
                refine x_alen hx hb hK hP (by decide) (by decide) dX1_takeInOrder_62 ?_
                refine lv_icmp_ge (tgt := 91) hx hb dX1_takeInOrder_63 (by decide) (fun c_15 => ?_) (fun c_15 => ?_)
                · skip
                  replace hf := it_t c_15 hf
                  refine lv_iinc (v := y3_k_10 + 1) (lv' := [(3, .int (y3_k_10 + 1)), (0, .ref (ad 32)), (1, .int y1_k_10), (2, .int y2_k_7)]) hx hb dX1_takeInOrder_91 hl (k := 3) rfl rfl (by decide) rfl (fun ls hl => ?_)
                  refine lv_goto (tgt := 37) hx hb dX1_takeInOrder_94 (by decide) ?_
                  exact ih _ _ _ _ _ _ t hP hS (lv_sub hl [1, 2, 3, 0] rfl) hf hK'
                · skip
                  replace hf := it_f c_15 hf
                  refine lv_aload_n hx hb dX1_takeInOrder_66 rfl (lv_at hl 0 rfl) ?_
                  refine lv_iload_n hx hb dX1_takeInOrder_67 rfl (lv_at hl 3 rfl) ?_
                  obtain ⟨r_16, hc_17, hf⟩ := bd_ok hf
                  refine gcVi 1 (xC_ok D ad cs tM hJ) hC ⟨hx, hb, hml, hown, hts⟩ (mX1_hasOnlyOfTaken l D ad cs tM u_k_10 y3_k_10 r_16 hc_17) (gG kw_347) kw_344 kw_346 kw_5 kw_24 hX1_hasOnlyOfTaken ⟨rfl, rfl⟩ ⟨Nat.le_of_ble_eq_true rfl, Nat.le_of_ble_eq_true rfl⟩ (x_rec (C := RX1) (T := TX1) (N := 8) (ci := 0) hK hP rfl x_o32) hP hS ⟨Nat.zero_le _, Nat.zero_le _⟩ rfl hl.1 rfl (Nat.le_of_ble_eq_true rfl) dX1_takeInOrder_68 (fun H locs hP hS => ?_)
                  refine lv_if_eq (tgt := 91) hx hb dX1_takeInOrder_71 (by decide) (fun c_18 => ?_) (fun c_18 => ?_)
                  · skip
                    replace hf := it_t c_18 hf
                    refine lv_iinc (v := y3_k_10 + 1) (lv' := [(3, .int (y3_k_10 + 1)), (0, .ref (ad 32)), (1, .int y1_k_10), (2, .int y2_k_7)]) hx hb dX1_takeInOrder_91 hl (k := 3) rfl rfl (by decide) rfl (fun ls hl => ?_)
                    refine lv_goto (tgt := 37) hx hb dX1_takeInOrder_94 (by decide) ?_
                    exact ih _ _ _ _ _ _ t hP hS (lv_sub hl [1, 2, 3, 0] rfl) hf hK'
                  · skip
                    replace hf := it_f c_18 hf
                    refine lv_aload_n hx hb dX1_takeInOrder_74 rfl (lv_at hl 0 rfl) ?_
                    refine va_get (D := D) (ci := 0) (v := .ref (ad 11)) (C := RX1) (T := TX1) (N := 8) hx hb hg inG_X1 hown hK hP 32 x_o32 rfl 3 (by decide) (hg _ kw_116) (fun _ h9 => h9) rfl dX1_takeInOrder_75 ?_
                    refine lv_iload_n hx hb dX1_takeInOrder_78 rfl (lv_at hl 3 rfl) ?_
                    refine lv_iconst (v := 1) hx hb dX1_takeInOrder_79 (by decide) ?_
                    refine x_zast hx hb hK hP hJ hS (by decide) hb_13 dX1_takeInOrder_80 (fun H locs hP hS => ?_)
                    refine lv_aload_n hx hb dX1_takeInOrder_81 rfl (lv_at hl 0 rfl) ?_
                    refine va_get (D := D) (ci := 0) (v := .ref (ad 12)) (C := RX1) (T := TX1) (N := 8) hx hb hg inG_X1 hown hK hP 32 x_o32 rfl 4 (by decide) (hg _ kw_117) (fun _ h9 => h9) rfl dX1_takeInOrder_82 ?_
                    refine lv_iload_n hx hb dX1_takeInOrder_85 rfl (lv_at hl 1 rfl) ?_
                    refine lv_iload_n hx hb dX1_takeInOrder_86 rfl (lv_at hl 3 rfl) ?_
                    obtain ⟨hb_19, hf⟩ := gd_ok hf
                    refine x_iast hx hb hK hP hJ hS (by decide) (by decide) rfl hb_19 dX1_takeInOrder_87 (fun H locs hP hS => ?_)
                    refine lv_iinc (v := y1_k_10 + 1) (lv' := [(1, .int (y1_k_10 + 1)), (0, .ref (ad 32)), (2, .int y2_k_7), (3, .int y3_k_10)]) hx hb dX1_takeInOrder_88 hl (k := 1) rfl rfl (by decide) rfl (fun ls hl => ?_)
                    refine lv_iinc (v := y3_k_10 + 1) (lv' := [(3, .int (y3_k_10 + 1)), (1, .int (y1_k_10 + 1)), (0, .ref (ad 32)), (2, .int y2_k_7)]) hx hb dX1_takeInOrder_91 hl (k := 3) rfl rfl (by decide) rfl (fun ls hl => ?_)
                    refine lv_goto (tgt := 37) hx hb dX1_takeInOrder_94 (by decide) ?_
                    exact ih _ _ _ _ _ _ t hP hS (lv_sub hl [2, 1, 3, 0] rfl) hf hK'
        obtain ⟨t_20, hq_21, hf⟩ := bd_ok hf
        refine hL_11 FU _ _ _ _ _ _ t_20 hP hS (lv_sub hl [1, 2, 3, 0] rfl) hq_21 (fun H locs ls hP hS hl => ?_)
        refine lv_iinc (v := y2_k_7 + 1) (lv' := [(2, .int (y2_k_7 + 1)), (0, .ref (ad 32)), (1, .int t_20.1)]) hx hb dX1_takeInOrder_97 hl (k := 2) rfl rfl (by decide) rfl (fun ls hl => ?_)
        refine lv_goto (tgt := 24) hx hb dX1_takeInOrder_100 (by decide) ?_
        exact ih _ _ _ _ _ _ t hP hS (lv_sub hl [1, 2, 0] rfl) hf hK'
  obtain ⟨t_22, hq_23, hf⟩ := bd_ok hf
  refine hL_8 FU _ _ _ _ _ _ t_22 hP hS (lv_sub hl [2, 1, 0] rfl) hq_23 (fun H locs ls hP hS hl => ?_)
  exact grV hx hb hr hlocks hP hS dX1_takeInOrder_103 (Option.some.inj hf)
abbrev rX1_flawOfFlow : Room := { frames := 2, cells := 0, slots := 0, locals := 45 }
theorem hX1_flawOfFlow : yX1_flawOfFlow.cls ≠ "java/lang/invoke/MethodHandle" ∧ yX1_flawOfFlow.cls ≠ "java/lang/invoke/VarHandle" ∧ (parseMethodDescriptor yX1_flawOfFlow.desc).map (fun d => d.parameters.length) = some 0 := by decide +kernel
set_option maxHeartbeats 4000000 in
set_option maxRecDepth 100000 in
theorem mX1_flawOfFlow (l : Launch) (D : va_G) (ad : Nat → Nat) (cs : Nat → ClassId) (tM : Nat) (u : UX)   (ru : Int32 × UX) (hok : fX1_flawOfFlow u = some ru) : Met l yX1_flawOfFlow (Cond.code yX1_flawOfFlow cX1_flawOfFlow 2 (some .int) :: wsG) rX1_flawOfFlow (va_Pc [.ref (ad 32)] (wI D (wX ad cs) (xC D ad cs tM) u)) (va_Qi (fun (r : Int32) (u' : UX) => r = ru.1 ∧ u' = ru.2) (wB D (wX ad cs)) (AX ad)) 0 0 (AX ad) := by
  refine Met.ofW (cc := cX1_flawOfFlow) (maxL := 2) (ret := (some .int)) (by decide) rfl ?_
  intro p e s m args below meth c s₁ B hml hv
  have hx := B.exec
  have hb := B.bytes
  have hr := B.returns
  have hts := atoms_spec (ws := (Cond.code yX1_flawOfFlow cX1_flawOfFlow 2 (some .int) :: wsG)) B.pre
  have hg : ∀ w ∈ wsG, w.before args s = true := fun w h => hts w (List.mem_cons_of_mem _ h)
  have hown : s.vm.findClass RX1 = some m.cls := findClass_of_methodNamed B.named
  have hlocks := B.notSynchronized
  obtain ⟨ha, hP, hC⟩ := hv
  obtain ⟨hK, hJ, hN, hZ, hT⟩ := id hC
  have hS : va_S (AX ad) s.heap s.heap [] := va_S.rf
  refine W.eq (show entryFrame m args 2 = entryFrame m ([.ref (ad 32)] : List Value).toArray 2 by rw [ha]) ?_
  have hl := lv_entry ([.ref (ad 32)]) (n := 2) (Nat.le_of_ble_eq_true rfl)
  rw [lg_entry_eq]
  generalize (lg_sl ([.ref (ad 32)]) ++ List.replicate (2 - (lg_sl ([.ref (ad 32)])).length) Slot.unset).toArray = ls at hl ⊢
  have hl : lv_has ls 2 [(0, .ref (ad 32))] := hl
  show W p l e rX1_flawOfFlow s m args below meth c s.heap [] 0 0 (MQ below (va_Qi (fun (r : Int32) (u' : UX) => r = ru.1 ∧ u' = ru.2) (wB D (wX ad cs)) (AX ad)) args s 0 0 (AX ad)) (F0 m 0 ls [])
  have hf := hok
  unfold fX1_flawOfFlow at hf
  refine lv_iconst (v := 0) hx hb dX1_flawOfFlow_0 (by decide) ?_
  refine lv_istore_n (lv' := [(1, .int ((0 : Int32))), (0, .ref (ad 32))]) hx hb dX1_flawOfFlow_1 rfl hl (by decide) rfl (fun ls hl => ?_)
  have hL_2 : ∀ (nf : Nat) (y1_k_1 : Int32) (H : Heap) (locs : List Loc) (ls : Array Slot), va_P D vwCl (wX ad cs u) H → va_S (AX ad) s.heap H locs → lv_has ls 2 [(0, .ref (ad 32)), (1, .int y1_k_1)] → fX1_flawOfFlow_2 u nf y1_k_1 = some ru → W p l e rX1_flawOfFlow s m args below meth c H locs 0 0 (MQ below (va_Qi (fun (r : Int32) (u' : UX) => r = ru.1 ∧ u' = ru.2) (wB D (wX ad cs)) (AX ad)) args s 0 0 (AX ad)) (F0 m 2 ls []) := by
    intro nf
    induction nf with
    | zero => intro y1_k_1 H locs ls hP hS hl hf; rw [fX1_flawOfFlow_2] at hf; cases hf
    | succ nf ih =>
      intro y1_k_1 H locs ls hP hS hl hf
      rw [fX1_flawOfFlow_2] at hf
      refine lv_iload_n hx hb dX1_flawOfFlow_2 rfl (lv_at hl 1 rfl) ?_
      refine lv_aload_n hx hb dX1_flawOfFlow_3 rfl (lv_at hl 0 rfl) ?_
      refine va_get (D := D) (ci := 0) (v := .ref (ad 30)) (C := RX1) (T := TX1) (N := 8) hx hb hg inG_X1 hown hK hP 32 x_o32 rfl 0 (by decide) (hg _ kw_111) (fun _ h9 => h9) rfl dX1_flawOfFlow_4 ?_
      refine va_getN (D := D) (ci := 4) (v := .int u.2.2.1) (C := RX5) (T := TX5) (N := 5) hx hb hg inG_X5 hown hK hP 30 x_o30 rfl 4 (by decide) (va_Nw.use rfl (hN _ kn_58)) (fun _ h9 => h9) rfl dX1_flawOfFlow_7 ?_
      refine lv_icmp_ge (tgt := 32) hx hb dX1_flawOfFlow_10 (by decide) (fun c_3 => ?_) (fun c_3 => ?_)
      · skip
        replace hf := it_t c_3 hf
        refine lv_iconst (v := 0) hx hb dX1_flawOfFlow_32 (by decide) ?_
        refine lv_istore_n (lv' := [(1, .int ((0 : Int32))), (0, .ref (ad 32))]) hx hb dX1_flawOfFlow_33 rfl hl (by decide) rfl (fun ls hl => ?_)
        have hL_5 : ∀ (nf : Nat) (y1_k_4 : Int32) (H : Heap) (locs : List Loc) (ls : Array Slot), va_P D vwCl (wX ad cs u) H → va_S (AX ad) s.heap H locs → lv_has ls 2 [(0, .ref (ad 32)), (1, .int y1_k_4)] → fX1_flawOfFlow_34 u nf y1_k_4 = some ru → W p l e rX1_flawOfFlow s m args below meth c H locs 0 0 (MQ below (va_Qi (fun (r : Int32) (u' : UX) => r = ru.1 ∧ u' = ru.2) (wB D (wX ad cs)) (AX ad)) args s 0 0 (AX ad)) (F0 m 34 ls []) := by
          intro nf
          induction nf with
          | zero => intro y1_k_4 H locs ls hP hS hl hf; rw [fX1_flawOfFlow_34] at hf; cases hf
          | succ nf ih =>
            intro y1_k_4 H locs ls hP hS hl hf
            rw [fX1_flawOfFlow_34] at hf
            refine lv_iload_n hx hb dX1_flawOfFlow_34 rfl (lv_at hl 1 rfl) ?_
            refine lv_aload_n hx hb dX1_flawOfFlow_35 rfl (lv_at hl 0 rfl) ?_
            refine va_get (D := D) (ci := 0) (v := .ref (ad 30)) (C := RX1) (T := TX1) (N := 8) hx hb hg inG_X1 hown hK hP 32 x_o32 rfl 0 (by decide) (hg _ kw_111) (fun _ h9 => h9) rfl dX1_flawOfFlow_36 ?_
            refine va_getN (D := D) (ci := 4) (v := .int u.2.2.1) (C := RX5) (T := TX5) (N := 5) hx hb hg inG_X5 hown hK hP 30 x_o30 rfl 4 (by decide) (va_Nw.use rfl (hN _ kn_58)) (fun _ h9 => h9) rfl dX1_flawOfFlow_39 ?_
            refine lv_icmp_ge (tgt := 69) hx hb dX1_flawOfFlow_42 (by decide) (fun c_6 => ?_) (fun c_6 => ?_)
            · skip
              replace hf := it_t c_6 hf
              refine lv_aload_n hx hb dX1_flawOfFlow_69 rfl (lv_at hl 0 rfl) ?_
              obtain ⟨r_7, hc_8, hf⟩ := bd_ok hf
              refine gcVv 0 (xC_ok D ad cs tM hJ) hC ⟨hx, hb, hml, hown, hts⟩ (mX1_takeInOrder l D ad cs tM u r_7 hc_8) (gG kw_343) kw_340 kw_342 kw_4 kw_24 hX1_takeInOrder ⟨rfl, rfl⟩ ⟨Nat.le_of_ble_eq_true rfl, Nat.le_of_ble_eq_true rfl⟩ (x_rec (C := RX1) (T := TX1) (N := 8) (ci := 0) hK hP rfl x_o32) hP hS ⟨Nat.zero_le _, Nat.zero_le _⟩ rfl hl.1 rfl (Nat.le_of_ble_eq_true rfl) dX1_flawOfFlow_70 (fun H locs hP hS => ?_)
              refine lv_iconst (v := 0) hx hb dX1_flawOfFlow_73 (by decide) ?_
              refine lv_istore_n (lv' := [(1, .int ((0 : Int32))), (0, .ref (ad 32))]) hx hb dX1_flawOfFlow_74 rfl hl (by decide) rfl (fun ls hl => ?_)
              have hL_10 : ∀ (nf : Nat) (y1_k_9 : Int32) (H : Heap) (locs : List Loc) (ls : Array Slot), va_P D vwCl (wX ad cs r_7) H → va_S (AX ad) s.heap H locs → lv_has ls 2 [(0, .ref (ad 32)), (1, .int y1_k_9)] → fX1_flawOfFlow_75 r_7 nf y1_k_9 = some ru → W p l e rX1_flawOfFlow s m args below meth c H locs 0 0 (MQ below (va_Qi (fun (r : Int32) (u' : UX) => r = ru.1 ∧ u' = ru.2) (wB D (wX ad cs)) (AX ad)) args s 0 0 (AX ad)) (F0 m 75 ls []) := by
                intro nf
                induction nf with
                | zero => intro y1_k_9 H locs ls hP hS hl hf; rw [fX1_flawOfFlow_75] at hf; cases hf
                | succ nf ih =>
                  intro y1_k_9 H locs ls hP hS hl hf
                  rw [fX1_flawOfFlow_75] at hf
                  refine lv_iload_n hx hb dX1_flawOfFlow_75 rfl (lv_at hl 1 rfl) ?_
                  refine lv_aload_n hx hb dX1_flawOfFlow_76 rfl (lv_at hl 0 rfl) ?_
                  refine va_get (D := D) (ci := 0) (v := .ref (ad 30)) (C := RX1) (T := TX1) (N := 8) hx hb hg inG_X1 hown hK hP 32 x_o32 rfl 0 (by decide) (hg _ kw_111) (fun _ h9 => h9) rfl dX1_flawOfFlow_77 ?_
                  refine va_getN (D := D) (ci := 4) (v := .int r_7.2.2.1) (C := RX5) (T := TX5) (N := 5) hx hb hg inG_X5 hown hK hP 30 x_o30 rfl 4 (by decide) (va_Nw.use rfl (hN _ kn_58)) (fun _ h9 => h9) rfl dX1_flawOfFlow_80 ?_
                  refine lv_icmp_ge (tgt := 106) hx hb dX1_flawOfFlow_83 (by decide) (fun c_11 => ?_) (fun c_11 => ?_)
                  · skip
                    replace hf := it_t c_11 hf
                    refine lv_iconst (v := 0) hx hb dX1_flawOfFlow_106 (by decide) ?_
                    exact grI hx hb hr hlocks hP hS dX1_flawOfFlow_107 (pf1 hf) (pf2 hf)
                  · skip
                    replace hf := it_f c_11 hf
                    refine lv_aload_n hx hb dX1_flawOfFlow_86 rfl (lv_at hl 0 rfl) ?_
                    refine va_get (D := D) (ci := 0) (v := .ref (ad 11)) (C := RX1) (T := TX1) (N := 8) hx hb hg inG_X1 hown hK hP 32 x_o32 rfl 3 (by decide) (hg _ kw_116) (fun _ h9 => h9) rfl dX1_flawOfFlow_87 ?_
                    refine lv_iload_n hx hb dX1_flawOfFlow_90 rfl (lv_at hl 1 rfl) ?_
                    obtain ⟨hb_12, hf⟩ := gd_ok hf
                    refine x_zald hx hb hK hP hb_12 dX1_flawOfFlow_91 ?_
                    refine lv_if_ne (tgt := 100) hx hb dX1_flawOfFlow_92 (by decide) (fun c_13 => ?_) (fun c_13 => ?_)
                    · skip
                      replace hf := it_f c_13 hf
                      refine lv_iinc (v := y1_k_9 + 1) (lv' := [(1, .int (y1_k_9 + 1)), (0, .ref (ad 32))]) hx hb dX1_flawOfFlow_100 hl (k := 1) rfl rfl (by decide) rfl (fun ls hl => ?_)
                      refine lv_goto (tgt := 75) hx hb dX1_flawOfFlow_103 (by decide) ?_
                      exact ih _ _ _ _ hP hS (lv_sub hl [1, 0] rfl) hf
                    · skip
                      replace hf := it_t c_13 hf
                      refine lv_bipush (v := 30) hx hb dX1_flawOfFlow_95 (by decide) ?_
                      refine lv_iload_n hx hb dX1_flawOfFlow_97 rfl (lv_at hl 1 rfl) ?_
                      refine lv_iadd hx hb dX1_flawOfFlow_98 ?_
                      exact grI hx hb hr hlocks hP hS dX1_flawOfFlow_99 (pf1 hf) (pf2 hf)
              exact hL_10 FU _ _ _ _ hP hS (lv_sub hl [1, 0] rfl) hf
            · skip
              replace hf := it_f c_6 hf
              refine lv_aload_n hx hb dX1_flawOfFlow_45 rfl (lv_at hl 0 rfl) ?_
              refine lv_iload_n hx hb dX1_flawOfFlow_46 rfl (lv_at hl 1 rfl) ?_
              obtain ⟨r_14, hc_15, hf⟩ := bd_ok hf
              refine gcVi 1 (xC_ok D ad cs tM hJ) hC ⟨hx, hb, hml, hown, hts⟩ (mX1_goingFrom l D ad cs tM u y1_k_4 r_14 hc_15) (gG kw_329) kw_339 kw_327 kw_328 kw_24 hX1_goingFrom ⟨rfl, rfl⟩ ⟨Nat.le_of_ble_eq_true rfl, Nat.le_of_ble_eq_true rfl⟩ (x_rec (C := RX1) (T := TX1) (N := 8) (ci := 0) hK hP rfl x_o32) hP hS ⟨Nat.zero_le _, Nat.zero_le _⟩ rfl hl.1 rfl (Nat.le_of_ble_eq_true rfl) dX1_flawOfFlow_47 (fun H locs hP hS => ?_)
              refine lv_aload_n hx hb dX1_flawOfFlow_50 rfl (lv_at hl 0 rfl) ?_
              refine lv_iload_n hx hb dX1_flawOfFlow_51 rfl (lv_at hl 1 rfl) ?_
              obtain ⟨r_16, hc_17, hf⟩ := bd_ok hf
              refine gcVi 1 (xC_ok D ad cs tM hJ) hC ⟨hx, hb, hml, hown, hts⟩ (mX1_comingTo l D ad cs tM u y1_k_4 r_16 hc_17) (gG kw_325) kw_338 kw_323 kw_324 kw_24 hX1_comingTo ⟨rfl, rfl⟩ ⟨Nat.le_of_ble_eq_true rfl, Nat.le_of_ble_eq_true rfl⟩ (x_rec (C := RX1) (T := TX1) (N := 8) (ci := 0) hK hP rfl x_o32) hP hS ⟨Nat.zero_le _, Nat.zero_le _⟩ rfl hl.1 rfl (Nat.le_of_ble_eq_true rfl) dX1_flawOfFlow_52 (fun H locs hP hS => ?_)
              refine lv_icmp_le (tgt := 63) hx hb dX1_flawOfFlow_55 (by decide) (fun c_18 => ?_) (fun c_18 => ?_)
              · skip
                replace hf := it_t c_18 hf
                refine lv_iinc (v := y1_k_4 + 1) (lv' := [(1, .int (y1_k_4 + 1)), (0, .ref (ad 32))]) hx hb dX1_flawOfFlow_63 hl (k := 1) rfl rfl (by decide) rfl (fun ls hl => ?_)
                refine lv_goto (tgt := 34) hx hb dX1_flawOfFlow_66 (by decide) ?_
                exact ih _ _ _ _ hP hS (lv_sub hl [1, 0] rfl) hf
              · skip
                replace hf := it_f c_18 hf
                refine lv_bipush (v := 20) hx hb dX1_flawOfFlow_58 (by decide) ?_
                refine lv_iload_n hx hb dX1_flawOfFlow_60 rfl (lv_at hl 1 rfl) ?_
                refine lv_iadd hx hb dX1_flawOfFlow_61 ?_
                exact grI hx hb hr hlocks hP hS dX1_flawOfFlow_62 (pf1 hf) (pf2 hf)
        exact hL_5 FU _ _ _ _ hP hS (lv_sub hl [1, 0] rfl) hf
      · skip
        replace hf := it_f c_3 hf
        refine lv_aload_n hx hb dX1_flawOfFlow_13 rfl (lv_at hl 0 rfl) ?_
        refine lv_iload_n hx hb dX1_flawOfFlow_14 rfl (lv_at hl 1 rfl) ?_
        obtain ⟨r_19, hc_20, hf⟩ := bd_ok hf
        refine gcVi 1 (xC_ok D ad cs tM hJ) hC ⟨hx, hb, hml, hown, hts⟩ (mX1_comingTo l D ad cs tM u y1_k_1 r_19 hc_20) (gG kw_325) kw_338 kw_323 kw_324 kw_24 hX1_comingTo ⟨rfl, rfl⟩ ⟨Nat.le_of_ble_eq_true rfl, Nat.le_of_ble_eq_true rfl⟩ (x_rec (C := RX1) (T := TX1) (N := 8) (ci := 0) hK hP rfl x_o32) hP hS ⟨Nat.zero_le _, Nat.zero_le _⟩ rfl hl.1 rfl (Nat.le_of_ble_eq_true rfl) dX1_flawOfFlow_15 (fun H locs hP hS => ?_)
        refine lv_if_ne (tgt := 26) hx hb dX1_flawOfFlow_18 (by decide) (fun c_21 => ?_) (fun c_21 => ?_)
        · skip
          replace hf := it_f c_21 hf
          refine lv_iinc (v := y1_k_1 + 1) (lv' := [(1, .int (y1_k_1 + 1)), (0, .ref (ad 32))]) hx hb dX1_flawOfFlow_26 hl (k := 1) rfl rfl (by decide) rfl (fun ls hl => ?_)
          refine lv_goto (tgt := 2) hx hb dX1_flawOfFlow_29 (by decide) ?_
          exact ih _ _ _ _ hP hS (lv_sub hl [1, 0] rfl) hf
        · skip
          replace hf := it_t c_21 hf
          refine lv_bipush (v := 10) hx hb dX1_flawOfFlow_21 (by decide) ?_
          refine lv_iload_n hx hb dX1_flawOfFlow_23 rfl (lv_at hl 1 rfl) ?_
          refine lv_iadd hx hb dX1_flawOfFlow_24 ?_
          exact grI hx hb hr hlocks hP hS dX1_flawOfFlow_25 (pf1 hf) (pf2 hf)
  exact hL_2 FU _ _ _ _ hP hS (lv_sub hl [1, 0] rfl) hf
abbrev rX1_soil : Room := { frames := 3, cells := 0, slots := 0, locals := 84 }
theorem hX1_soil : yX1_soil.cls ≠ "java/lang/invoke/MethodHandle" ∧ yX1_soil.cls ≠ "java/lang/invoke/VarHandle" ∧ (parseMethodDescriptor yX1_soil.desc).map (fun d => d.parameters.length) = some 1 := by decide +kernel
set_option maxHeartbeats 4000000 in
set_option maxRecDepth 100000 in
theorem mX1_soil (l : Launch) (D : va_G) (ad : Nat → Nat) (cs : Nat → ClassId) (tM : Nat) (u : UX) (a1 : Int32)  (ru : UX) (hok : fX1_soil u a1 = some ru) : Met l yX1_soil (Cond.code yX1_soil cX1_soil 5 none :: wsG) rX1_soil (va_Pc [.ref (ad 32), .int a1] (wI D (wX ad cs) (xC D ad cs tM) u)) (va_Qv (fun (u' : UX) => u' = ru) (wB D (wX ad cs)) (AX ad)) 0 0 (AX ad) := by
  refine Met.ofW (cc := cX1_soil) (maxL := 5) (ret := none) (by decide) rfl ?_
  intro p e s m args below meth c s₁ B hml hv
  have hx := B.exec
  have hb := B.bytes
  have hr := B.returns
  have hts := atoms_spec (ws := (Cond.code yX1_soil cX1_soil 5 none :: wsG)) B.pre
  have hg : ∀ w ∈ wsG, w.before args s = true := fun w h => hts w (List.mem_cons_of_mem _ h)
  have hown : s.vm.findClass RX1 = some m.cls := findClass_of_methodNamed B.named
  have hlocks := B.notSynchronized
  obtain ⟨ha, hP, hC⟩ := hv
  obtain ⟨hK, hJ, hN, hZ, hT⟩ := id hC
  have hS : va_S (AX ad) s.heap s.heap [] := va_S.rf
  refine W.eq (show entryFrame m args 5 = entryFrame m ([.ref (ad 32), .int a1] : List Value).toArray 5 by rw [ha]) ?_
  have hl := lv_entry ([.ref (ad 32), .int a1]) (n := 5) (Nat.le_of_ble_eq_true rfl)
  rw [lg_entry_eq]
  generalize (lg_sl ([.ref (ad 32), .int a1]) ++ List.replicate (5 - (lg_sl ([.ref (ad 32), .int a1])).length) Slot.unset).toArray = ls at hl ⊢
  have hl : lv_has ls 5 [(0, .ref (ad 32)), (1, .int a1)] := hl
  show W p l e rX1_soil s m args below meth c s.heap [] 0 0 (MQ below (va_Qv (fun (u' : UX) => u' = ru) (wB D (wX ad cs)) (AX ad)) args s 0 0 (AX ad)) (F0 m 0 ls [])
  have hf := hok
  unfold fX1_soil at hf
  refine lv_aload_n hx hb dX1_soil_0 rfl (lv_at hl 0 rfl) ?_
  refine va_get (D := D) (ci := 0) (v := .ref (ad 36)) (C := RX1) (T := TX1) (N := 8) hx hb hg inG_X1 hown hK hP 32 x_o32 rfl 5 (by decide) (hg _ kw_118) (fun _ h9 => h9) rfl dX1_soil_1 ?_
  refine lv_iload_n hx hb dX1_soil_4 rfl (lv_at hl 1 rfl) ?_
  obtain ⟨hb_1, hf⟩ := gd_ok hf
  refine x_ald36 hx hb hK hP hb_1 dX1_soil_5 ?_
  refine lv_astore_n (lv' := [(2, .ref (ad (19 + a1.toNatClampNeg))), (0, .ref (ad 32)), (1, .int a1)]) hx hb dX1_soil_6 rfl hl (by decide) rfl (fun ls hl => ?_)
  refine lv_aload_n hx hb dX1_soil_7 rfl (lv_at hl 0 rfl) ?_
  refine lv_lconst (v := 0) hx hb dX1_soil_8 (by decide) ?_
  refine lv_lconst (v := 1) hx hb dX1_soil_9 (by decide) ?_
  obtain ⟨r_2, hc_3, hf⟩ := bd_ok hf
  refine gcVv 2 (xC_ok D ad cs tM hJ) hC ⟨hx, hb, hml, hown, hts⟩ (mX2_become l D ad cs tM u (19 + a1.toNatClampNeg) ((0 : Int64)) ((1 : Int64)) (by have := vin_lt hb_1; omega) (by have := vin_lt hb_1; omega) r_2 hc_3) (gG kw_274) kw_360 kw_272 kw_273 kw_25 hX2_become ⟨rfl, rfl⟩ ⟨Nat.le_of_ble_eq_true rfl, Nat.le_of_ble_eq_true rfl⟩ (x_rec (C := RX2) (T := TX2) (N := 2) (ci := 1) hK hP rfl (x_fra (by have := vin_lt hb_1; omega) (by have := vin_lt hb_1; omega))) hP hS ⟨Nat.zero_le _, Nat.zero_le _⟩ rfl hl.1 rfl (Nat.le_of_ble_eq_true rfl) dX1_soil_10 (fun H locs hP hS => ?_)
  refine lv_iconst (v := 0) hx hb dX1_soil_13 (by decide) ?_
  refine lv_istore_n (lv' := [(3, .int ((0 : Int32))), (2, .ref (ad (19 + a1.toNatClampNeg))), (0, .ref (ad 32)), (1, .int a1)]) hx hb dX1_soil_14 rfl hl (by decide) rfl (fun ls hl => ?_)
  have hL_5 : ∀ (nf : Nat) (y3_k_4 : Int32) (u_k_4 : UX) (H : Heap) (locs : List Loc) (ls : Array Slot) (t : UX), va_P D vwCl (wX ad cs u_k_4) H → va_S (AX ad) s.heap H locs → lv_has ls 5 [(0, .ref (ad 32)), (1, .int a1), (2, .ref (ad (19 + a1.toNatClampNeg))), (3, .int y3_k_4)] → fX1_soil_15 a1 nf y3_k_4 u_k_4 = some t → (∀ (H : Heap) (locs : List Loc) (ls : Array Slot), va_P D vwCl (wX ad cs t) H → va_S (AX ad) s.heap H locs → lv_has ls 5 [(0, .ref (ad 32)), (1, .int a1), (2, .ref (ad (19 + a1.toNatClampNeg)))] → W p l e rX1_soil s m args below meth c H locs 0 0 (MQ below (va_Qv (fun (u' : UX) => u' = ru) (wB D (wX ad cs)) (AX ad)) args s 0 0 (AX ad)) (F0 m 61 ls [])) → W p l e rX1_soil s m args below meth c H locs 0 0 (MQ below (va_Qv (fun (u' : UX) => u' = ru) (wB D (wX ad cs)) (AX ad)) args s 0 0 (AX ad)) (F0 m 15 ls []) := by
    intro nf
    induction nf with
    | zero => intro y3_k_4 u_k_4 H locs ls t hP hS hl hf hK'; rw [fX1_soil_15] at hf; cases hf
    | succ nf ih =>
      intro y3_k_4 u_k_4 H locs ls t hP hS hl hf hK'
      rw [fX1_soil_15] at hf
      refine lv_iload_n hx hb dX1_soil_15 rfl (lv_at hl 3 rfl) ?_
      refine lv_aload_n hx hb dX1_soil_16 rfl (lv_at hl 0 rfl) ?_
      refine va_get (D := D) (ci := 0) (v := .ref (ad 30)) (C := RX1) (T := TX1) (N := 8) hx hb hg inG_X1 hown hK hP 32 x_o32 rfl 0 (by decide) (hg _ kw_111) (fun _ h9 => h9) rfl dX1_soil_17 ?_
      refine va_getN (D := D) (ci := 4) (v := .int u_k_4.2.2.1) (C := RX5) (T := TX5) (N := 5) hx hb hg inG_X5 hown hK hP 30 x_o30 rfl 4 (by decide) (va_Nw.use rfl (hN _ kn_58)) (fun _ h9 => h9) rfl dX1_soil_20 ?_
      refine lv_icmp_ge (tgt := 61) hx hb dX1_soil_23 (by decide) (fun c_6 => ?_) (fun c_6 => ?_)
      · skip
        replace hf := it_t c_6 hf
        have ht := Option.some.inj hf
        subst ht
        exact hK' _ _ _ hP hS (lv_sub hl [0, 1, 2] rfl)
      · skip
        replace hf := it_f c_6 hf
        refine lv_aload_n hx hb dX1_soil_26 rfl (lv_at hl 0 rfl) ?_
        refine va_get (D := D) (ci := 0) (v := .ref (ad 35)) (C := RX1) (T := TX1) (N := 8) hx hb hg inG_X1 hown hK hP 32 x_o32 rfl 2 (by decide) (hg _ kw_114) (fun _ h9 => h9) rfl dX1_soil_27 ?_
        refine lv_iload_n hx hb dX1_soil_30 rfl (lv_at hl 3 rfl) ?_
        obtain ⟨hb_7, hf⟩ := gd_ok hf
        refine x_ald35 hx hb hK hP hb_7 dX1_soil_31 ?_
        refine lv_iload_n hx hb dX1_soil_32 rfl (lv_at hl 1 rfl) ?_
        refine x_iald hx hb hK hP (by have := vin_lt hb_7; omega) (by have := vin_lt hb_7; omega) (la_row (vin_lt hb_7)) hb_1 dX1_soil_33 ?_
        refine lv_if_le (tgt := 55) hx hb dX1_soil_34 (by decide) (fun c_8 => ?_) (fun c_8 => ?_)
        · skip
          replace hf := it_t c_8 hf
          refine lv_iinc (v := y3_k_4 + 1) (lv' := [(3, .int (y3_k_4 + 1)), (0, .ref (ad 32)), (1, .int a1), (2, .ref (ad (19 + a1.toNatClampNeg)))]) hx hb dX1_soil_55 hl (k := 3) rfl rfl (by decide) rfl (fun ls hl => ?_)
          refine lv_goto (tgt := 15) hx hb dX1_soil_58 (by decide) ?_
          exact ih _ _ _ _ _ t hP hS (lv_sub hl [1, 2, 3, 0] rfl) hf hK'
        · skip
          replace hf := it_f c_8 hf
          refine lv_aload_n hx hb dX1_soil_37 rfl (lv_at hl 2 rfl) ?_
          refine lv_aload_n hx hb dX1_soil_38 rfl (lv_at hl 0 rfl) ?_
          refine va_get (D := D) (ci := 0) (v := .ref (ad 37)) (C := RX1) (T := TX1) (N := 8) hx hb hg inG_X1 hown hK hP 32 x_o32 rfl 6 (by decide) (hg _ kw_119) (fun _ h9 => h9) rfl dX1_soil_39 ?_
          refine lv_iload_n hx hb dX1_soil_42 rfl (lv_at hl 3 rfl) ?_
          refine x_ald37 hx hb hK hP hb_7 dX1_soil_43 ?_
          refine lv_aload_n hx hb dX1_soil_44 rfl (lv_at hl 0 rfl) ?_
          refine va_get (D := D) (ci := 0) (v := .ref (ad 35)) (C := RX1) (T := TX1) (N := 8) hx hb hg inG_X1 hown hK hP 32 x_o32 rfl 2 (by decide) (hg _ kw_114) (fun _ h9 => h9) rfl dX1_soil_45 ?_
          refine lv_iload_n hx hb dX1_soil_48 rfl (lv_at hl 3 rfl) ?_
          refine x_ald35 hx hb hK hP hb_7 dX1_soil_49 ?_
          refine lv_iload_n hx hb dX1_soil_50 rfl (lv_at hl 1 rfl) ?_
          refine x_iald hx hb hK hP (by have := vin_lt hb_7; omega) (by have := vin_lt hb_7; omega) (la_row (vin_lt hb_7)) hb_1 dX1_soil_51 ?_
          obtain ⟨r_9, hc_10, hf⟩ := bd_ok hf
          refine gcVv 2 (xC_ok D ad cs tM hJ) hC ⟨hx, hb, hml, hown, hts⟩ (mX2_addTimes l D ad cs tM u_k_4 (19 + a1.toNatClampNeg) (24 + y3_k_4.toNatClampNeg) (u_k_4.1 (6 + y3_k_4.toNatClampNeg) a1.toNatClampNeg) (by have := vin_lt hb_1; omega) (by have := vin_lt hb_1; omega) (by have := vin_lt hb_7; omega) (by have := vin_lt hb_7; omega) r_9 hc_10) (gG kw_364) kw_361 kw_362 kw_363 kw_25 hX2_addTimes ⟨rfl, rfl⟩ ⟨Nat.le_of_ble_eq_true rfl, Nat.le_of_ble_eq_true rfl⟩ (x_rec (C := RX2) (T := TX2) (N := 2) (ci := 1) hK hP rfl (x_fra (by have := vin_lt hb_1; omega) (by have := vin_lt hb_1; omega))) hP hS ⟨Nat.zero_le _, Nat.zero_le _⟩ rfl hl.1 rfl (Nat.le_of_ble_eq_true rfl) dX1_soil_52 (fun H locs hP hS => ?_)
          refine lv_iinc (v := y3_k_4 + 1) (lv' := [(3, .int (y3_k_4 + 1)), (0, .ref (ad 32)), (1, .int a1), (2, .ref (ad (19 + a1.toNatClampNeg)))]) hx hb dX1_soil_55 hl (k := 3) rfl rfl (by decide) rfl (fun ls hl => ?_)
          refine lv_goto (tgt := 15) hx hb dX1_soil_58 (by decide) ?_
          exact ih _ _ _ _ _ t hP hS (lv_sub hl [1, 2, 3, 0] rfl) hf hK'
  obtain ⟨t_11, hq_12, hf⟩ := bd_ok hf
  refine hL_5 FU _ _ _ _ _ t_11 hP hS (lv_sub hl [2, 3, 1, 0] rfl) hq_12 (fun H locs ls hP hS hl => ?_)
  refine lv_aload_n hx hb dX1_soil_61 rfl (lv_at hl 0 rfl) ?_
  refine lv_iload_n hx hb dX1_soil_62 rfl (lv_at hl 1 rfl) ?_
  obtain ⟨r_13, hc_14, hf⟩ := bd_ok hf
  refine gcVi 1 (xC_ok D ad cs tM hJ) hC ⟨hx, hb, hml, hown, hts⟩ (mX1_comingTo l D ad cs tM t_11 a1 r_13 hc_14) (gG kw_325) kw_338 kw_323 kw_324 kw_24 hX1_comingTo ⟨rfl, rfl⟩ ⟨Nat.le_of_ble_eq_true rfl, Nat.le_of_ble_eq_true rfl⟩ (x_rec (C := RX1) (T := TX1) (N := 8) (ci := 0) hK hP rfl x_o32) hP hS ⟨Nat.zero_le _, Nat.zero_le _⟩ rfl hl.1 rfl (Nat.le_of_ble_eq_true rfl) dX1_soil_63 (fun H locs hP hS => ?_)
  refine lv_istore_n (lv' := [(3, .int r_13), (0, .ref (ad 32)), (1, .int a1), (2, .ref (ad (19 + a1.toNatClampNeg)))]) hx hb dX1_soil_66 rfl hl (by decide) rfl (fun ls hl => ?_)
  refine lv_aload_n hx hb dX1_soil_67 rfl (lv_at hl 1 rfl) ?_
  refine va_get (D := D) (ci := 0) (v := .ref (ad 37)) (C := RX1) (T := TX1) (N := 8) hx hb hg inG_X1 hown hK hP 32 x_o32 rfl 6 (by decide) (hg _ kw_119) (fun _ h9 => h9) rfl dX1_soil_68 ?_
  refine lv_iload_n hx hb dX1_soil_71 rfl (lv_at hl 2 rfl) ?_
  refine x_ald37 hx hb hK hP hb_1 dX1_soil_72 ?_
  refine lv_astore (lv' := [(4, .ref (ad (24 + a1.toNatClampNeg))), (3, .int r_13), (0, .ref (ad 32)), (1, .int a1), (2, .ref (ad (19 + a1.toNatClampNeg)))]) hx hb dX1_soil_73 hl (by decide) rfl (fun ls hl => ?_)
  refine lv_aload hx hb dX1_soil_75 (lv_at hl 0 rfl) ?_
  refine lv_aload_n hx hb dX1_soil_77 rfl (lv_at hl 4 rfl) ?_
  refine va_getN (D := D) (ci := 1) (v := .long ((t_11.2.1 (19 + a1.toNatClampNeg)).1)) (C := RX2) (T := TX2) (N := 2) hx hb hg inG_X2 hown hK hP (19 + a1.toNatClampNeg) (x_fra (by have := vin_lt hb_1; omega) (by have := vin_lt hb_1; omega)) rfl 0 (by decide) (va_Nw.use rfl (hN _ kn_102)) (fun _ h9 => h9) rfl dX1_soil_78 ?_
  refine lv_aload_n hx hb dX1_soil_81 rfl (lv_at hl 4 rfl) ?_
  refine va_getN (D := D) (ci := 1) (v := .long ((t_11.2.1 (19 + a1.toNatClampNeg)).2)) (C := RX2) (T := TX2) (N := 2) hx hb hg inG_X2 hown hK hP (19 + a1.toNatClampNeg) (x_fra (by have := vin_lt hb_1; omega) (by have := vin_lt hb_1; omega)) rfl 1 (by decide) (va_Nw.use rfl (hN _ kn_104)) (fun _ h9 => h9) rfl dX1_soil_82 ?_
  obtain ⟨r_15, hc_16, hf⟩ := bd_ok hf
  refine gcVv 2 (xC_ok D ad cs tM hJ) hC ⟨hx, hb, hml, hown, hts⟩ (mX2_become l D ad cs tM t_11 (24 + a1.toNatClampNeg) ((t_11.2.1 (19 + a1.toNatClampNeg)).1) ((t_11.2.1 (19 + a1.toNatClampNeg)).2) (by have := vin_lt hb_1; omega) (by have := vin_lt hb_1; omega) r_15 hc_16) (gG kw_274) kw_360 kw_272 kw_273 kw_25 hX2_become ⟨rfl, rfl⟩ ⟨Nat.le_of_ble_eq_true rfl, Nat.le_of_ble_eq_true rfl⟩ (x_rec (C := RX2) (T := TX2) (N := 2) (ci := 1) hK hP rfl (x_fra (by have := vin_lt hb_1; omega) (by have := vin_lt hb_1; omega))) hP hS ⟨Nat.zero_le _, Nat.zero_le _⟩ rfl hl.1 rfl (Nat.le_of_ble_eq_true rfl) dX1_soil_85 (fun H locs hP hS => ?_)
  refine lv_aload hx hb dX1_soil_88 (lv_at hl 0 rfl) ?_
  refine lv_aload_n hx hb dX1_soil_90 rfl (lv_at hl 2 rfl) ?_
  refine va_get (D := D) (ci := 0) (v := .ref (ad 30)) (C := RX1) (T := TX1) (N := 8) hx hb hg inG_X1 hown hK hP 32 x_o32 rfl 0 (by decide) (hg _ kw_111) (fun _ h9 => h9) rfl dX1_soil_91 ?_
  refine va_getN (D := D) (ci := 4) (v := .ref (ad 0)) (C := RX5) (T := TX5) (N := 5) hx hb hg inG_X5 hown hK hP 30 x_o30 rfl 0 (by decide) (va_Nw.use rfl (hN _ kn_48)) (fun _ h9 => h9) rfl dX1_soil_94 ?_
  refine lv_iload_n hx hb dX1_soil_97 rfl (lv_at hl 3 rfl) ?_
  refine x_iald hx hb hK hP (by decide) (by decide) rfl hb_1 dX1_soil_98 ?_
  obtain ⟨r_17, hc_18, hf⟩ := bd_ok hf
  refine gcVv 1 (xC_ok D ad cs tM hJ) hC ⟨hx, hb, hml, hown, hts⟩ (mX2_addWhole l D ad cs tM r_15 (24 + a1.toNatClampNeg) (r_15.1 0 a1.toNatClampNeg) (by have := vin_lt hb_1; omega) (by have := vin_lt hb_1; omega) r_17 hc_18) (gG kw_368) kw_365 kw_366 kw_367 kw_25 hX2_addWhole ⟨rfl, rfl⟩ ⟨Nat.le_of_ble_eq_true rfl, Nat.le_of_ble_eq_true rfl⟩ (x_rec (C := RX2) (T := TX2) (N := 2) (ci := 1) hK hP rfl (x_fra (by have := vin_lt hb_1; omega) (by have := vin_lt hb_1; omega))) hP hS ⟨Nat.zero_le _, Nat.zero_le _⟩ rfl hl.1 rfl (Nat.le_of_ble_eq_true rfl) dX1_soil_99 (fun H locs hP hS => ?_)
  refine lv_aload hx hb dX1_soil_102 (lv_at hl 0 rfl) ?_
  refine lv_iload_n hx hb dX1_soil_104 rfl (lv_at hl 1 rfl) ?_
  obtain ⟨r_19, hc_20, hf⟩ := bd_ok hf
  refine gcVv 1 (xC_ok D ad cs tM hJ) hC ⟨hx, hb, hml, hown, hts⟩ (mX2_divideBy l D ad cs tM r_17 (24 + a1.toNatClampNeg) r_13 (by have := vin_lt hb_1; omega) (by have := vin_lt hb_1; omega) r_19 hc_20) (gG kw_308) kw_369 kw_306 kw_307 kw_25 hX2_divideBy ⟨rfl, rfl⟩ ⟨Nat.le_of_ble_eq_true rfl, Nat.le_of_ble_eq_true rfl⟩ (x_rec (C := RX2) (T := TX2) (N := 2) (ci := 1) hK hP rfl (x_fra (by have := vin_lt hb_1; omega) (by have := vin_lt hb_1; omega))) hP hS ⟨Nat.zero_le _, Nat.zero_le _⟩ rfl hl.1 rfl (Nat.le_of_ble_eq_true rfl) dX1_soil_105 (fun H locs hP hS => ?_)
  refine lv_aload_n hx hb dX1_soil_108 rfl (lv_at hl 4 rfl) ?_
  refine lv_iload_n hx hb dX1_soil_109 rfl (lv_at hl 1 rfl) ?_
  obtain ⟨r_21, hc_22, hf⟩ := bd_ok hf
  refine gcVv 1 (xC_ok D ad cs tM hJ) hC ⟨hx, hb, hml, hown, hts⟩ (mX2_divideBy l D ad cs tM r_19 (19 + a1.toNatClampNeg) r_13 (by have := vin_lt hb_1; omega) (by have := vin_lt hb_1; omega) r_21 hc_22) (gG kw_308) kw_369 kw_306 kw_307 kw_25 hX2_divideBy ⟨rfl, rfl⟩ ⟨Nat.le_of_ble_eq_true rfl, Nat.le_of_ble_eq_true rfl⟩ (x_rec (C := RX2) (T := TX2) (N := 2) (ci := 1) hK hP rfl (x_fra (by have := vin_lt hb_1; omega) (by have := vin_lt hb_1; omega))) hP hS ⟨Nat.zero_le _, Nat.zero_le _⟩ rfl hl.1 rfl (Nat.le_of_ble_eq_true rfl) dX1_soil_110 (fun H locs hP hS => ?_)
  exact grV hx hb hr hlocks hP hS dX1_soil_113 (Option.some.inj hf)
abbrev rX1_spreadDirt : Room := { frames := 4, cells := 0, slots := 0, locals := 108 }
theorem hX1_spreadDirt : yX1_spreadDirt.cls ≠ "java/lang/invoke/MethodHandle" ∧ yX1_spreadDirt.cls ≠ "java/lang/invoke/VarHandle" ∧ (parseMethodDescriptor yX1_spreadDirt.desc).map (fun d => d.parameters.length) = some 0 := by decide +kernel
set_option maxHeartbeats 4000000 in
set_option maxRecDepth 100000 in
theorem mX1_spreadDirt (l : Launch) (D : va_G) (ad : Nat → Nat) (cs : Nat → ClassId) (tM : Nat) (u : UX)   (ru : UX) (hok : fX1_spreadDirt u = some ru) : Met l yX1_spreadDirt (Cond.code yX1_spreadDirt cX1_spreadDirt 2 none :: wsG) rX1_spreadDirt (va_Pc [.ref (ad 32)] (wI D (wX ad cs) (xC D ad cs tM) u)) (va_Qv (fun (u' : UX) => u' = ru) (wB D (wX ad cs)) (AX ad)) 0 0 (AX ad) := by
  refine Met.ofW (cc := cX1_spreadDirt) (maxL := 2) (ret := none) (by decide) rfl ?_
  intro p e s m args below meth c s₁ B hml hv
  have hx := B.exec
  have hb := B.bytes
  have hr := B.returns
  have hts := atoms_spec (ws := (Cond.code yX1_spreadDirt cX1_spreadDirt 2 none :: wsG)) B.pre
  have hg : ∀ w ∈ wsG, w.before args s = true := fun w h => hts w (List.mem_cons_of_mem _ h)
  have hown : s.vm.findClass RX1 = some m.cls := findClass_of_methodNamed B.named
  have hlocks := B.notSynchronized
  obtain ⟨ha, hP, hC⟩ := hv
  obtain ⟨hK, hJ, hN, hZ, hT⟩ := id hC
  have hS : va_S (AX ad) s.heap s.heap [] := va_S.rf
  refine W.eq (show entryFrame m args 2 = entryFrame m ([.ref (ad 32)] : List Value).toArray 2 by rw [ha]) ?_
  have hl := lv_entry ([.ref (ad 32)]) (n := 2) (Nat.le_of_ble_eq_true rfl)
  rw [lg_entry_eq]
  generalize (lg_sl ([.ref (ad 32)]) ++ List.replicate (2 - (lg_sl ([.ref (ad 32)])).length) Slot.unset).toArray = ls at hl ⊢
  have hl : lv_has ls 2 [(0, .ref (ad 32))] := hl
  show W p l e rX1_spreadDirt s m args below meth c s.heap [] 0 0 (MQ below (va_Qv (fun (u' : UX) => u' = ru) (wB D (wX ad cs)) (AX ad)) args s 0 0 (AX ad)) (F0 m 0 ls [])
  have hf := hok
  unfold fX1_spreadDirt at hf
  refine lv_iconst (v := 0) hx hb dX1_spreadDirt_0 (by decide) ?_
  refine lv_istore_n (lv' := [(1, .int ((0 : Int32))), (0, .ref (ad 32))]) hx hb dX1_spreadDirt_1 rfl hl (by decide) rfl (fun ls hl => ?_)
  have hL_2 : ∀ (nf : Nat) (y1_k_1 : Int32) (u_k_1 : UX) (H : Heap) (locs : List Loc) (ls : Array Slot) (t : UX), va_P D vwCl (wX ad cs u_k_1) H → va_S (AX ad) s.heap H locs → lv_has ls 2 [(0, .ref (ad 32)), (1, .int y1_k_1)] → fX1_spreadDirt_2 nf y1_k_1 u_k_1 = some t → (∀ (H : Heap) (locs : List Loc) (ls : Array Slot), va_P D vwCl (wX ad cs t) H → va_S (AX ad) s.heap H locs → lv_has ls 2 [] → W p l e rX1_spreadDirt s m args below meth c H locs 0 0 (MQ below (va_Qv (fun (u' : UX) => u' = ru) (wB D (wX ad cs)) (AX ad)) args s 0 0 (AX ad)) (F0 m 29 ls [])) → W p l e rX1_spreadDirt s m args below meth c H locs 0 0 (MQ below (va_Qv (fun (u' : UX) => u' = ru) (wB D (wX ad cs)) (AX ad)) args s 0 0 (AX ad)) (F0 m 2 ls []) := by
    intro nf
    induction nf with
    | zero => intro y1_k_1 u_k_1 H locs ls t hP hS hl hf hK'; rw [fX1_spreadDirt_2] at hf; cases hf
    | succ nf ih =>
      intro y1_k_1 u_k_1 H locs ls t hP hS hl hf hK'
      rw [fX1_spreadDirt_2] at hf
      refine lv_iload_n hx hb dX1_spreadDirt_2 rfl (lv_at hl 1 rfl) ?_
      refine lv_aload_n hx hb dX1_spreadDirt_3 rfl (lv_at hl 0 rfl) ?_
      refine va_get (D := D) (ci := 0) (v := .ref (ad 30)) (C := RX1) (T := TX1) (N := 8) hx hb hg inG_X1 hown hK hP 32 x_o32 rfl 0 (by decide) (hg _ kw_111) (fun _ h9 => h9) rfl dX1_spreadDirt_4 ?_
      refine va_getN (D := D) (ci := 4) (v := .int u_k_1.2.2.1) (C := RX5) (T := TX5) (N := 5) hx hb hg inG_X5 hown hK hP 30 x_o30 rfl 4 (by decide) (va_Nw.use rfl (hN _ kn_58)) (fun _ h9 => h9) rfl dX1_spreadDirt_7 ?_
      refine lv_icmp_ge (tgt := 29) hx hb dX1_spreadDirt_10 (by decide) (fun c_3 => ?_) (fun c_3 => ?_)
      · skip
        replace hf := it_t c_3 hf
        have ht := Option.some.inj hf
        subst ht
        exact hK' _ _ _ hP hS (lv_sub hl [] rfl)
      · skip
        replace hf := it_f c_3 hf
        refine lv_aload_n hx hb dX1_spreadDirt_13 rfl (lv_at hl 0 rfl) ?_
        refine lv_aload_n hx hb dX1_spreadDirt_14 rfl (lv_at hl 0 rfl) ?_
        refine va_get (D := D) (ci := 0) (v := .ref (ad 12)) (C := RX1) (T := TX1) (N := 8) hx hb hg inG_X1 hown hK hP 32 x_o32 rfl 4 (by decide) (hg _ kw_117) (fun _ h9 => h9) rfl dX1_spreadDirt_15 ?_
        refine lv_iload_n hx hb dX1_spreadDirt_18 rfl (lv_at hl 1 rfl) ?_
        obtain ⟨hb_4, hf⟩ := gd_ok hf
        refine x_iald hx hb hK hP (by decide) (by decide) rfl hb_4 dX1_spreadDirt_19 ?_
        obtain ⟨r_5, hc_6, hf⟩ := bd_ok hf
        refine gcVv 1 (xC_ok D ad cs tM hJ) hC ⟨hx, hb, hml, hown, hts⟩ (mX1_soil l D ad cs tM u_k_1 (u_k_1.1 12 y1_k_1.toNatClampNeg) r_5 hc_6) (gG kw_359) kw_356 kw_358 kw_6 kw_24 hX1_soil ⟨rfl, rfl⟩ ⟨Nat.le_of_ble_eq_true rfl, Nat.le_of_ble_eq_true rfl⟩ (x_rec (C := RX1) (T := TX1) (N := 8) (ci := 0) hK hP rfl x_o32) hP hS ⟨Nat.zero_le _, Nat.zero_le _⟩ rfl hl.1 rfl (Nat.le_of_ble_eq_true rfl) dX1_spreadDirt_20 (fun H locs hP hS => ?_)
        refine lv_iinc (v := y1_k_1 + 1) (lv' := [(1, .int (y1_k_1 + 1)), (0, .ref (ad 32))]) hx hb dX1_spreadDirt_23 hl (k := 1) rfl rfl (by decide) rfl (fun ls hl => ?_)
        refine lv_goto (tgt := 2) hx hb dX1_spreadDirt_26 (by decide) ?_
        exact ih _ _ _ _ _ t hP hS (lv_sub hl [1, 0] rfl) hf hK'
  obtain ⟨t_7, hq_8, hf⟩ := bd_ok hf
  refine hL_2 FU _ _ _ _ _ t_7 hP hS (lv_sub hl [1, 0] rfl) hq_8 (fun H locs ls hP hS hl => ?_)
  exact grV hx hb hr hlocks hP hS dX1_spreadDirt_29 (Option.some.inj hf)
abbrev rX1_flawOfDirt : Room := { frames := 5, cells := 0, slots := 0, locals := 129 }
theorem hX1_flawOfDirt : yX1_flawOfDirt.cls ≠ "java/lang/invoke/MethodHandle" ∧ yX1_flawOfDirt.cls ≠ "java/lang/invoke/VarHandle" ∧ (parseMethodDescriptor yX1_flawOfDirt.desc).map (fun d => d.parameters.length) = some 1 := by decide +kernel
set_option maxHeartbeats 4000000 in
set_option maxRecDepth 100000 in
theorem mX1_flawOfDirt (l : Launch) (D : va_G) (ad : Nat → Nat) (cs : Nat → ClassId) (tM : Nat) (u : UX)   (ru : Int32 × UX) (hok : fX1_flawOfDirt u = some ru) : Met l yX1_flawOfDirt (Cond.code yX1_flawOfDirt cX1_flawOfDirt 3 (some .int) :: wsG) rX1_flawOfDirt (va_Pc [.ref (ad 32), .ref (ad 31)] (wI D (wX ad cs) (xC D ad cs tM) u)) (va_Qi (fun (r : Int32) (u' : UX) => r = ru.1 ∧ u' = ru.2) (wB D (wX ad cs)) (AX ad)) 0 0 (AX ad) := by
  refine Met.ofW (cc := cX1_flawOfDirt) (maxL := 3) (ret := (some .int)) (by decide) rfl ?_
  intro p e s m args below meth c s₁ B hml hv
  have hx := B.exec
  have hb := B.bytes
  have hr := B.returns
  have hts := atoms_spec (ws := (Cond.code yX1_flawOfDirt cX1_flawOfDirt 3 (some .int) :: wsG)) B.pre
  have hg : ∀ w ∈ wsG, w.before args s = true := fun w h => hts w (List.mem_cons_of_mem _ h)
  have hown : s.vm.findClass RX1 = some m.cls := findClass_of_methodNamed B.named
  have hlocks := B.notSynchronized
  obtain ⟨ha, hP, hC⟩ := hv
  obtain ⟨hK, hJ, hN, hZ, hT⟩ := id hC
  have hS : va_S (AX ad) s.heap s.heap [] := va_S.rf
  refine W.eq (show entryFrame m args 3 = entryFrame m ([.ref (ad 32), .ref (ad 31)] : List Value).toArray 3 by rw [ha]) ?_
  have hl := lv_entry ([.ref (ad 32), .ref (ad 31)]) (n := 3) (Nat.le_of_ble_eq_true rfl)
  rw [lg_entry_eq]
  generalize (lg_sl ([.ref (ad 32), .ref (ad 31)]) ++ List.replicate (3 - (lg_sl ([.ref (ad 32), .ref (ad 31)])).length) Slot.unset).toArray = ls at hl ⊢
  have hl : lv_has ls 3 [(0, .ref (ad 32)), (1, .ref (ad 31))] := hl
  show W p l e rX1_flawOfDirt s m args below meth c s.heap [] 0 0 (MQ below (va_Qi (fun (r : Int32) (u' : UX) => r = ru.1 ∧ u' = ru.2) (wB D (wX ad cs)) (AX ad)) args s 0 0 (AX ad)) (F0 m 0 ls [])
  have hf := hok
  unfold fX1_flawOfDirt at hf
  refine lv_aload_n hx hb dX1_flawOfDirt_0 rfl (lv_at hl 0 rfl) ?_
  obtain ⟨r_1, hc_2, hf⟩ := bd_ok hf
  refine gcVv 0 (xC_ok D ad cs tM hJ) hC ⟨hx, hb, hml, hown, hts⟩ (mX1_spreadDirt l D ad cs tM u r_1 hc_2) (gG kw_355) kw_352 kw_353 kw_354 kw_24 hX1_spreadDirt ⟨rfl, rfl⟩ ⟨Nat.le_of_ble_eq_true rfl, Nat.le_of_ble_eq_true rfl⟩ (x_rec (C := RX1) (T := TX1) (N := 8) (ci := 0) hK hP rfl x_o32) hP hS ⟨Nat.zero_le _, Nat.zero_le _⟩ rfl hl.1 rfl (Nat.le_of_ble_eq_true rfl) dX1_flawOfDirt_1 (fun H locs hP hS => ?_)
  refine lv_iconst (v := 0) hx hb dX1_flawOfDirt_4 (by decide) ?_
  refine lv_istore_n (lv' := [(2, .int ((0 : Int32))), (0, .ref (ad 32)), (1, .ref (ad 31))]) hx hb dX1_flawOfDirt_5 rfl hl (by decide) rfl (fun ls hl => ?_)
  have hL_4 : ∀ (nf : Nat) (y2_k_3 : Int32) (H : Heap) (locs : List Loc) (ls : Array Slot), va_P D vwCl (wX ad cs r_1) H → va_S (AX ad) s.heap H locs → lv_has ls 3 [(0, .ref (ad 32)), (1, .ref (ad 31)), (2, .int y2_k_3)] → fX1_flawOfDirt_6 r_1 nf y2_k_3 = some ru → W p l e rX1_flawOfDirt s m args below meth c H locs 0 0 (MQ below (va_Qi (fun (r : Int32) (u' : UX) => r = ru.1 ∧ u' = ru.2) (wB D (wX ad cs)) (AX ad)) args s 0 0 (AX ad)) (F0 m 6 ls []) := by
    intro nf
    induction nf with
    | zero => intro y2_k_3 H locs ls hP hS hl hf; rw [fX1_flawOfDirt_6] at hf; cases hf
    | succ nf ih =>
      intro y2_k_3 H locs ls hP hS hl hf
      rw [fX1_flawOfDirt_6] at hf
      refine lv_iload_n hx hb dX1_flawOfDirt_6 rfl (lv_at hl 2 rfl) ?_
      refine lv_aload_n hx hb dX1_flawOfDirt_7 rfl (lv_at hl 0 rfl) ?_
      refine va_get (D := D) (ci := 0) (v := .ref (ad 30)) (C := RX1) (T := TX1) (N := 8) hx hb hg inG_X1 hown hK hP 32 x_o32 rfl 0 (by decide) (hg _ kw_111) (fun _ h9 => h9) rfl dX1_flawOfDirt_8 ?_
      refine va_getN (D := D) (ci := 4) (v := .int r_1.2.2.1) (C := RX5) (T := TX5) (N := 5) hx hb hg inG_X5 hown hK hP 30 x_o30 rfl 4 (by decide) (va_Nw.use rfl (hN _ kn_58)) (fun _ h9 => h9) rfl dX1_flawOfDirt_11 ?_
      refine lv_icmp_ge (tgt := 49) hx hb dX1_flawOfDirt_14 (by decide) (fun c_5 => ?_) (fun c_5 => ?_)
      · skip
        replace hf := it_t c_5 hf
        refine lv_iconst (v := 0) hx hb dX1_flawOfDirt_49 (by decide) ?_
        refine lv_istore_n (lv' := [(2, .int ((0 : Int32))), (0, .ref (ad 32)), (1, .ref (ad 31))]) hx hb dX1_flawOfDirt_50 rfl hl (by decide) rfl (fun ls hl => ?_)
        have hL_7 : ∀ (nf : Nat) (y2_k_6 : Int32) (H : Heap) (locs : List Loc) (ls : Array Slot), va_P D vwCl (wX ad cs r_1) H → va_S (AX ad) s.heap H locs → lv_has ls 3 [(0, .ref (ad 32)), (1, .ref (ad 31)), (2, .int y2_k_6)] → fX1_flawOfDirt_51 r_1 nf y2_k_6 = some ru → W p l e rX1_flawOfDirt s m args below meth c H locs 0 0 (MQ below (va_Qi (fun (r : Int32) (u' : UX) => r = ru.1 ∧ u' = ru.2) (wB D (wX ad cs)) (AX ad)) args s 0 0 (AX ad)) (F0 m 51 ls []) := by
          intro nf
          induction nf with
          | zero => intro y2_k_6 H locs ls hP hS hl hf; rw [fX1_flawOfDirt_51] at hf; cases hf
          | succ nf ih =>
            intro y2_k_6 H locs ls hP hS hl hf
            rw [fX1_flawOfDirt_51] at hf
            refine lv_iload_n hx hb dX1_flawOfDirt_51 rfl (lv_at hl 2 rfl) ?_
            refine lv_aload_n hx hb dX1_flawOfDirt_52 rfl (lv_at hl 0 rfl) ?_
            refine va_get (D := D) (ci := 0) (v := .ref (ad 30)) (C := RX1) (T := TX1) (N := 8) hx hb hg inG_X1 hown hK hP 32 x_o32 rfl 0 (by decide) (hg _ kw_111) (fun _ h9 => h9) rfl dX1_flawOfDirt_53 ?_
            refine va_getN (D := D) (ci := 4) (v := .int r_1.2.2.1) (C := RX5) (T := TX5) (N := 5) hx hb hg inG_X5 hown hK hP 30 x_o30 rfl 4 (by decide) (va_Nw.use rfl (hN _ kn_58)) (fun _ h9 => h9) rfl dX1_flawOfDirt_56 ?_
            refine lv_icmp_ge (tgt := 94) hx hb dX1_flawOfDirt_59 (by decide) (fun c_8 => ?_) (fun c_8 => ?_)
            · skip
              replace hf := it_t c_8 hf
              refine lv_iconst (v := 0) hx hb dX1_flawOfDirt_94 (by decide) ?_
              exact grI hx hb hr hlocks hP hS dX1_flawOfDirt_95 (pf1 hf) (pf2 hf)
            · skip
              replace hf := it_f c_8 hf
              refine lv_aload_n hx hb dX1_flawOfDirt_62 rfl (lv_at hl 0 rfl) ?_
              refine va_get (D := D) (ci := 0) (v := .ref (ad 37)) (C := RX1) (T := TX1) (N := 8) hx hb hg inG_X1 hown hK hP 32 x_o32 rfl 6 (by decide) (hg _ kw_119) (fun _ h9 => h9) rfl dX1_flawOfDirt_63 ?_
              refine lv_iload_n hx hb dX1_flawOfDirt_66 rfl (lv_at hl 2 rfl) ?_
              obtain ⟨hb_9, hf⟩ := gd_ok hf
              refine x_ald37 hx hb hK hP hb_9 dX1_flawOfDirt_67 ?_
              refine lv_aload_n hx hb dX1_flawOfDirt_68 rfl (lv_at hl 1 rfl) ?_
              refine lv_aload_n hx hb dX1_flawOfDirt_69 rfl (lv_at hl 1 rfl) ?_
              obtain ⟨r_10, hc_11, hf⟩ := bd_ok hf
              refine gcVi 0 (xC_ok D ad cs tM hJ) hC ⟨hx, hb, hml, hown, hts⟩ (mX3_atHand l D ad cs tM r_1 r_10 hc_11) (gG kw_377) kw_374 kw_375 kw_376 kw_23 hX3_atHand ⟨rfl, rfl⟩ ⟨Nat.le_of_ble_eq_true rfl, Nat.le_of_ble_eq_true rfl⟩ (x_rec (C := RX3) (T := TX3) (N := 2) (ci := 2) hK hP rfl x_o31) hP hS ⟨Nat.zero_le _, Nat.zero_le _⟩ rfl hl.1 rfl (Nat.le_of_ble_eq_true rfl) dX1_flawOfDirt_70 (fun H locs hP hS => ?_)
              refine lv_iload_n hx hb dX1_flawOfDirt_73 rfl (lv_at hl 2 rfl) ?_
              obtain ⟨r_12, hc_13, hf⟩ := bd_ok hf
              refine gcVi 2 (xC_ok D ad cs tM hJ) hC ⟨hx, hb, hml, hown, hts⟩ (mX3_by l D ad cs tM r_1 r_10 y2_k_6 r_12 hc_13) (gG kw_239) kw_378 kw_237 kw_238 kw_23 hX3_by ⟨rfl, rfl⟩ ⟨Nat.le_of_ble_eq_true rfl, Nat.le_of_ble_eq_true rfl⟩ (x_rec (C := RX3) (T := TX3) (N := 2) (ci := 2) hK hP rfl x_o31) hP hS ⟨Nat.zero_le _, Nat.zero_le _⟩ rfl hl.1 rfl (Nat.le_of_ble_eq_true rfl) dX1_flawOfDirt_74 (fun H locs hP hS => ?_)
              obtain ⟨r_14, hc_15, hf⟩ := bd_ok hf
              refine gcVi 1 (xC_ok D ad cs tM hJ) hC ⟨hx, hb, hml, hown, hts⟩ (mX2_isAbove l D ad cs tM r_1 (24 + y2_k_6.toNatClampNeg) r_12 (by have := vin_lt hb_9; omega) (by have := vin_lt hb_9; omega) r_14 hc_15) (gG kw_373) kw_370 kw_371 kw_372 kw_25 hX2_isAbove ⟨rfl, rfl⟩ ⟨Nat.le_of_ble_eq_true rfl, Nat.le_of_ble_eq_true rfl⟩ (x_rec (C := RX2) (T := TX2) (N := 2) (ci := 1) hK hP rfl (x_fra (by have := vin_lt hb_9; omega) (by have := vin_lt hb_9; omega))) hP hS ⟨Nat.zero_le _, Nat.zero_le _⟩ rfl hl.1 rfl (Nat.le_of_ble_eq_true rfl) dX1_flawOfDirt_77 (fun H locs hP hS => ?_)
              refine lv_if_eq (tgt := 88) hx hb dX1_flawOfDirt_80 (by decide) (fun c_16 => ?_) (fun c_16 => ?_)
              · skip
                replace hf := it_t c_16 hf
                refine lv_iinc (v := y2_k_6 + 1) (lv' := [(2, .int (y2_k_6 + 1)), (0, .ref (ad 32)), (1, .ref (ad 31))]) hx hb dX1_flawOfDirt_88 hl (k := 2) rfl rfl (by decide) rfl (fun ls hl => ?_)
                refine lv_goto (tgt := 51) hx hb dX1_flawOfDirt_91 (by decide) ?_
                exact ih _ _ _ _ hP hS (lv_sub hl [1, 2, 0] rfl) hf
              · skip
                replace hf := it_f c_16 hf
                refine lv_bipush (v := 50) hx hb dX1_flawOfDirt_83 (by decide) ?_
                refine lv_iload_n hx hb dX1_flawOfDirt_85 rfl (lv_at hl 2 rfl) ?_
                refine lv_iadd hx hb dX1_flawOfDirt_86 ?_
                exact grI hx hb hr hlocks hP hS dX1_flawOfDirt_87 (pf1 hf) (pf2 hf)
        exact hL_7 FU _ _ _ _ hP hS (lv_sub hl [1, 2, 0] rfl) hf
      · skip
        replace hf := it_f c_5 hf
        refine lv_aload_n hx hb dX1_flawOfDirt_17 rfl (lv_at hl 0 rfl) ?_
        refine va_get (D := D) (ci := 0) (v := .ref (ad 36)) (C := RX1) (T := TX1) (N := 8) hx hb hg inG_X1 hown hK hP 32 x_o32 rfl 5 (by decide) (hg _ kw_118) (fun _ h9 => h9) rfl dX1_flawOfDirt_18 ?_
        refine lv_iload_n hx hb dX1_flawOfDirt_21 rfl (lv_at hl 2 rfl) ?_
        obtain ⟨hb_17, hf⟩ := gd_ok hf
        refine x_ald36 hx hb hK hP hb_17 dX1_flawOfDirt_22 ?_
        refine lv_aload_n hx hb dX1_flawOfDirt_23 rfl (lv_at hl 0 rfl) ?_
        refine va_get (D := D) (ci := 0) (v := .ref (ad 30)) (C := RX1) (T := TX1) (N := 8) hx hb hg inG_X1 hown hK hP 32 x_o32 rfl 0 (by decide) (hg _ kw_111) (fun _ h9 => h9) rfl dX1_flawOfDirt_24 ?_
        refine va_getN (D := D) (ci := 4) (v := .ref (ad 1)) (C := RX5) (T := TX5) (N := 5) hx hb hg inG_X5 hown hK hP 30 x_o30 rfl 1 (by decide) (va_Nw.use rfl (hN _ kn_51)) (fun _ h9 => h9) rfl dX1_flawOfDirt_27 ?_
        refine lv_iload_n hx hb dX1_flawOfDirt_30 rfl (lv_at hl 2 rfl) ?_
        refine x_iald hx hb hK hP (by decide) (by decide) rfl hb_17 dX1_flawOfDirt_31 ?_
        obtain ⟨r_18, hc_19, hf⟩ := bd_ok hf
        refine gcVi 1 (xC_ok D ad cs tM hJ) hC ⟨hx, hb, hml, hown, hts⟩ (mX2_isAbove l D ad cs tM r_1 (19 + y2_k_3.toNatClampNeg) (r_1.1 1 y2_k_3.toNatClampNeg) (by have := vin_lt hb_17; omega) (by have := vin_lt hb_17; omega) r_18 hc_19) (gG kw_373) kw_370 kw_371 kw_372 kw_25 hX2_isAbove ⟨rfl, rfl⟩ ⟨Nat.le_of_ble_eq_true rfl, Nat.le_of_ble_eq_true rfl⟩ (x_rec (C := RX2) (T := TX2) (N := 2) (ci := 1) hK hP rfl (x_fra (by have := vin_lt hb_17; omega) (by have := vin_lt hb_17; omega))) hP hS ⟨Nat.zero_le _, Nat.zero_le _⟩ rfl hl.1 rfl (Nat.le_of_ble_eq_true rfl) dX1_flawOfDirt_32 (fun H locs hP hS => ?_)
        refine lv_if_eq (tgt := 43) hx hb dX1_flawOfDirt_35 (by decide) (fun c_20 => ?_) (fun c_20 => ?_)
        · skip
          replace hf := it_t c_20 hf
          refine lv_iinc (v := y2_k_3 + 1) (lv' := [(2, .int (y2_k_3 + 1)), (0, .ref (ad 32)), (1, .ref (ad 31))]) hx hb dX1_flawOfDirt_43 hl (k := 2) rfl rfl (by decide) rfl (fun ls hl => ?_)
          refine lv_goto (tgt := 6) hx hb dX1_flawOfDirt_46 (by decide) ?_
          exact ih _ _ _ _ hP hS (lv_sub hl [1, 2, 0] rfl) hf
        · skip
          replace hf := it_f c_20 hf
          refine lv_bipush (v := 40) hx hb dX1_flawOfDirt_38 (by decide) ?_
          refine lv_iload_n hx hb dX1_flawOfDirt_40 rfl (lv_at hl 2 rfl) ?_
          refine lv_iadd hx hb dX1_flawOfDirt_41 ?_
          exact grI hx hb hr hlocks hP hS dX1_flawOfDirt_42 (pf1 hf) (pf2 hf)
  exact hL_4 FU _ _ _ _ hP hS (lv_sub hl [1, 2, 0] rfl) hf
abbrev rX1_hitBehindOthers : Room := { frames := 0, cells := 0, slots := 0, locals := 0 }
theorem hX1_hitBehindOthers : yX1_hitBehindOthers.cls ≠ "java/lang/invoke/MethodHandle" ∧ yX1_hitBehindOthers.cls ≠ "java/lang/invoke/VarHandle" ∧ (parseMethodDescriptor yX1_hitBehindOthers.desc).map (fun d => d.parameters.length) = some 1 := by decide +kernel
set_option maxHeartbeats 4000000 in
set_option maxRecDepth 100000 in
theorem mX1_hitBehindOthers (l : Launch) (D : va_G) (ad : Nat → Nat) (cs : Nat → ClassId) (tM : Nat) (u : UX) (a1 : Int32)  (r0 : Int32) (hok : fX1_hitBehindOthers u a1 = some r0) : Met l yX1_hitBehindOthers (Cond.code yX1_hitBehindOthers cX1_hitBehindOthers 4 (some .int) :: wsG) rX1_hitBehindOthers (va_Pc [.ref (ad 32), .int a1] (wI D (wX ad cs) (xC D ad cs tM) u)) (va_Qi (fun (r : Int32) (u' : UX) => r = r0 ∧ u' = u) (wB D (wX ad cs)) (AX ad)) 0 0 (AX ad) := by
  refine Met.ofW (cc := cX1_hitBehindOthers) (maxL := 4) (ret := (some .int)) (by decide) rfl ?_
  intro p e s m args below meth c s₁ B hml hv
  have hx := B.exec
  have hb := B.bytes
  have hr := B.returns
  have hts := atoms_spec (ws := (Cond.code yX1_hitBehindOthers cX1_hitBehindOthers 4 (some .int) :: wsG)) B.pre
  have hg : ∀ w ∈ wsG, w.before args s = true := fun w h => hts w (List.mem_cons_of_mem _ h)
  have hown : s.vm.findClass RX1 = some m.cls := findClass_of_methodNamed B.named
  have hlocks := B.notSynchronized
  obtain ⟨ha, hP, hC⟩ := hv
  obtain ⟨hK, hJ, hN, hZ, hT⟩ := id hC
  have hS : va_S (AX ad) s.heap s.heap [] := va_S.rf
  refine W.eq (show entryFrame m args 4 = entryFrame m ([.ref (ad 32), .int a1] : List Value).toArray 4 by rw [ha]) ?_
  have hl := lv_entry ([.ref (ad 32), .int a1]) (n := 4) (Nat.le_of_ble_eq_true rfl)
  rw [lg_entry_eq]
  generalize (lg_sl ([.ref (ad 32), .int a1]) ++ List.replicate (4 - (lg_sl ([.ref (ad 32), .int a1])).length) Slot.unset).toArray = ls at hl ⊢
  have hl : lv_has ls 4 [(0, .ref (ad 32)), (1, .int a1)] := hl
  show W p l e rX1_hitBehindOthers s m args below meth c s.heap [] 0 0 (MQ below (va_Qi (fun (r : Int32) (u' : UX) => r = r0 ∧ u' = u) (wB D (wX ad cs)) (AX ad)) args s 0 0 (AX ad)) (F0 m 0 ls [])
  have hf := hok
  unfold fX1_hitBehindOthers at hf
  refine lv_bipush (v := -9) hx hb dX1_hitBehindOthers_0 (by decide) ?_
  refine lv_istore_n (lv' := [(2, .int ((-9 : Int32))), (0, .ref (ad 32)), (1, .int a1)]) hx hb dX1_hitBehindOthers_2 rfl hl (by decide) rfl (fun ls hl => ?_)
  refine lv_iconst (v := 0) hx hb dX1_hitBehindOthers_3 (by decide) ?_
  refine lv_istore_n (lv' := [(3, .int ((0 : Int32))), (2, .int ((-9 : Int32))), (0, .ref (ad 32)), (1, .int a1)]) hx hb dX1_hitBehindOthers_4 rfl hl (by decide) rfl (fun ls hl => ?_)
  have hL_2 : ∀ (nf : Nat) (y2_k_1 : Int32) (y3_k_1 : Int32) (H : Heap) (locs : List Loc) (ls : Array Slot) (t : Int32), va_P D vwCl (wX ad cs u) H → va_S (AX ad) s.heap H locs → lv_has ls 4 [(0, .ref (ad 32)), (1, .int a1), (2, .int y2_k_1), (3, .int y3_k_1)] → fX1_hitBehindOthers_5 a1 u nf y2_k_1 y3_k_1 = some t → (∀ (H : Heap) (locs : List Loc) (ls : Array Slot), va_P D vwCl (wX ad cs u) H → va_S (AX ad) s.heap H locs → lv_has ls 4 [(0, .ref (ad 32)), (1, .int a1), (2, .int t)] → W p l e rX1_hitBehindOthers s m args below meth c H locs 0 0 (MQ below (va_Qi (fun (r : Int32) (u' : UX) => r = r0 ∧ u' = u) (wB D (wX ad cs)) (AX ad)) args s 0 0 (AX ad)) (F0 m 67 ls [])) → W p l e rX1_hitBehindOthers s m args below meth c H locs 0 0 (MQ below (va_Qi (fun (r : Int32) (u' : UX) => r = r0 ∧ u' = u) (wB D (wX ad cs)) (AX ad)) args s 0 0 (AX ad)) (F0 m 5 ls []) := by
    intro nf
    induction nf with
    | zero => intro y2_k_1 y3_k_1 H locs ls t hP hS hl hf hK'; rw [fX1_hitBehindOthers_5] at hf; cases hf
    | succ nf ih =>
      intro y2_k_1 y3_k_1 H locs ls t hP hS hl hf hK'
      rw [fX1_hitBehindOthers_5] at hf
      refine lv_iload_n hx hb dX1_hitBehindOthers_5 rfl (lv_at hl 3 rfl) ?_
      refine lv_aload_n hx hb dX1_hitBehindOthers_6 rfl (lv_at hl 0 rfl) ?_
      refine va_get (D := D) (ci := 0) (v := .ref (ad 30)) (C := RX1) (T := TX1) (N := 8) hx hb hg inG_X1 hown hK hP 32 x_o32 rfl 0 (by decide) (hg _ kw_111) (fun _ h9 => h9) rfl dX1_hitBehindOthers_7 ?_
      refine va_getN (D := D) (ci := 4) (v := .int u.2.2.1) (C := RX5) (T := TX5) (N := 5) hx hb hg inG_X5 hown hK hP 30 x_o30 rfl 4 (by decide) (va_Nw.use rfl (hN _ kn_58)) (fun _ h9 => h9) rfl dX1_hitBehindOthers_10 ?_
      refine lv_icmp_ge (tgt := 67) hx hb dX1_hitBehindOthers_13 (by decide) (fun c_3 => ?_) (fun c_3 => ?_)
      · skip
        replace hf := it_t c_3 hf
        have ht := Option.some.inj hf
        subst ht
        exact hK' _ _ _ hP hS (lv_sub hl [0, 1, 2] rfl)
      · skip
        replace hf := it_f c_3 hf
        refine lv_aload_n hx hb dX1_hitBehindOthers_16 rfl (lv_at hl 0 rfl) ?_
        refine va_get (D := D) (ci := 0) (v := .ref (ad 35)) (C := RX1) (T := TX1) (N := 8) hx hb hg inG_X1 hown hK hP 32 x_o32 rfl 2 (by decide) (hg _ kw_114) (fun _ h9 => h9) rfl dX1_hitBehindOthers_17 ?_
        refine lv_iload_n hx hb dX1_hitBehindOthers_20 rfl (lv_at hl 3 rfl) ?_
        obtain ⟨hb_4, hf⟩ := gd_ok hf
        refine x_ald35 hx hb hK hP hb_4 dX1_hitBehindOthers_21 ?_
        refine lv_iload_n hx hb dX1_hitBehindOthers_22 rfl (lv_at hl 1 rfl) ?_
        obtain ⟨hb_5, hf⟩ := gd_ok hf
        refine x_iald hx hb hK hP (by have := vin_lt hb_4; omega) (by have := vin_lt hb_4; omega) (la_row (vin_lt hb_4)) hb_5 dX1_hitBehindOthers_23 ?_
        refine lv_if_le (tgt := 61) hx hb dX1_hitBehindOthers_24 (by decide) (fun c_6 => ?_) (fun c_6 => ?_)
        · skip
          replace hf := it_t c_6 hf
          refine lv_iinc (v := y3_k_1 + 1) (lv' := [(3, .int (y3_k_1 + 1)), (0, .ref (ad 32)), (1, .int a1), (2, .int y2_k_1)]) hx hb dX1_hitBehindOthers_61 hl (k := 3) rfl rfl (by decide) rfl (fun ls hl => ?_)
          refine lv_goto (tgt := 5) hx hb dX1_hitBehindOthers_64 (by decide) ?_
          exact ih _ _ _ _ _ t hP hS (lv_sub hl [1, 2, 3, 0] rfl) hf hK'
        · skip
          replace hf := it_f c_6 hf
          refine lv_aload_n hx hb dX1_hitBehindOthers_27 rfl (lv_at hl 0 rfl) ?_
          refine va_get (D := D) (ci := 0) (v := .ref (ad 13)) (C := RX1) (T := TX1) (N := 8) hx hb hg inG_X1 hown hK hP 32 x_o32 rfl 7 (by decide) (hg _ kw_121) (fun _ h9 => h9) rfl dX1_hitBehindOthers_28 ?_
          refine lv_iload_n hx hb dX1_hitBehindOthers_31 rfl (lv_at hl 3 rfl) ?_
          refine x_iald hx hb hK hP (by decide) (by decide) rfl hb_4 dX1_hitBehindOthers_32 ?_
          refine lv_bipush (v := -9) hx hb dX1_hitBehindOthers_33 (by decide) ?_
          refine lv_icmp_eq (tgt := 61) hx hb dX1_hitBehindOthers_35 (by decide) (fun c_7 => ?_) (fun c_7 => ?_)
          · skip
            replace hf := it_t c_7 hf
            refine lv_iinc (v := y3_k_1 + 1) (lv' := [(3, .int (y3_k_1 + 1)), (0, .ref (ad 32)), (1, .int a1), (2, .int y2_k_1)]) hx hb dX1_hitBehindOthers_61 hl (k := 3) rfl rfl (by decide) rfl (fun ls hl => ?_)
            refine lv_goto (tgt := 5) hx hb dX1_hitBehindOthers_64 (by decide) ?_
            exact ih _ _ _ _ _ t hP hS (lv_sub hl [1, 2, 3, 0] rfl) hf hK'
          · skip
            replace hf := it_f c_7 hf
            refine lv_iload_n hx hb dX1_hitBehindOthers_38 rfl (lv_at hl 2 rfl) ?_
            refine lv_bipush (v := -9) hx hb dX1_hitBehindOthers_39 (by decide) ?_
            refine lv_icmp_eq (tgt := 54) hx hb dX1_hitBehindOthers_41 (by decide) (fun c_8 => ?_) (fun c_8 => ?_)
            · skip
              replace hf := it_t c_8 hf
              refine lv_aload_n hx hb dX1_hitBehindOthers_54 rfl (lv_at hl 0 rfl) ?_
              refine va_get (D := D) (ci := 0) (v := .ref (ad 13)) (C := RX1) (T := TX1) (N := 8) hx hb hg inG_X1 hown hK hP 32 x_o32 rfl 7 (by decide) (hg _ kw_121) (fun _ h9 => h9) rfl dX1_hitBehindOthers_55 ?_
              refine lv_iload_n hx hb dX1_hitBehindOthers_58 rfl (lv_at hl 3 rfl) ?_
              refine x_iald hx hb hK hP (by decide) (by decide) rfl hb_4 dX1_hitBehindOthers_59 ?_
              refine lv_istore_n (lv' := [(2, .int (u.1 13 y3_k_1.toNatClampNeg)), (0, .ref (ad 32)), (1, .int a1), (3, .int y3_k_1)]) hx hb dX1_hitBehindOthers_60 rfl hl (by decide) rfl (fun ls hl => ?_)
              refine lv_iinc (v := y3_k_1 + 1) (lv' := [(3, .int (y3_k_1 + 1)), (2, .int (u.1 13 y3_k_1.toNatClampNeg)), (0, .ref (ad 32)), (1, .int a1)]) hx hb dX1_hitBehindOthers_61 hl (k := 3) rfl rfl (by decide) rfl (fun ls hl => ?_)
              refine lv_goto (tgt := 5) hx hb dX1_hitBehindOthers_64 (by decide) ?_
              exact ih _ _ _ _ _ t hP hS (lv_sub hl [2, 3, 1, 0] rfl) hf hK'
            · skip
              replace hf := it_f c_8 hf
              refine lv_aload_n hx hb dX1_hitBehindOthers_44 rfl (lv_at hl 0 rfl) ?_
              refine va_get (D := D) (ci := 0) (v := .ref (ad 13)) (C := RX1) (T := TX1) (N := 8) hx hb hg inG_X1 hown hK hP 32 x_o32 rfl 7 (by decide) (hg _ kw_121) (fun _ h9 => h9) rfl dX1_hitBehindOthers_45 ?_
              refine lv_iload_n hx hb dX1_hitBehindOthers_48 rfl (lv_at hl 3 rfl) ?_
              refine x_iald hx hb hK hP (by decide) (by decide) rfl hb_4 dX1_hitBehindOthers_49 ?_
              refine lv_iload_n hx hb dX1_hitBehindOthers_50 rfl (lv_at hl 2 rfl) ?_
              refine lv_icmp_ge (tgt := 61) hx hb dX1_hitBehindOthers_51 (by decide) (fun c_9 => ?_) (fun c_9 => ?_)
              · skip
                replace hf := it_t c_9 hf
                refine lv_iinc (v := y3_k_1 + 1) (lv' := [(3, .int (y3_k_1 + 1)), (0, .ref (ad 32)), (1, .int a1), (2, .int y2_k_1)]) hx hb dX1_hitBehindOthers_61 hl (k := 3) rfl rfl (by decide) rfl (fun ls hl => ?_)
                refine lv_goto (tgt := 5) hx hb dX1_hitBehindOthers_64 (by decide) ?_
                exact ih _ _ _ _ _ t hP hS (lv_sub hl [1, 2, 3, 0] rfl) hf hK'
              · skip
                replace hf := it_f c_9 hf
                refine lv_aload_n hx hb dX1_hitBehindOthers_54 rfl (lv_at hl 0 rfl) ?_
                refine va_get (D := D) (ci := 0) (v := .ref (ad 13)) (C := RX1) (T := TX1) (N := 8) hx hb hg inG_X1 hown hK hP 32 x_o32 rfl 7 (by decide) (hg _ kw_121) (fun _ h9 => h9) rfl dX1_hitBehindOthers_55 ?_
                refine lv_iload_n hx hb dX1_hitBehindOthers_58 rfl (lv_at hl 3 rfl) ?_
                refine x_iald hx hb hK hP (by decide) (by decide) rfl hb_4 dX1_hitBehindOthers_59 ?_
                refine lv_istore_n (lv' := [(2, .int (u.1 13 y3_k_1.toNatClampNeg)), (0, .ref (ad 32)), (1, .int a1), (3, .int y3_k_1)]) hx hb dX1_hitBehindOthers_60 rfl hl (by decide) rfl (fun ls hl => ?_)
                refine lv_iinc (v := y3_k_1 + 1) (lv' := [(3, .int (y3_k_1 + 1)), (2, .int (u.1 13 y3_k_1.toNatClampNeg)), (0, .ref (ad 32)), (1, .int a1)]) hx hb dX1_hitBehindOthers_61 hl (k := 3) rfl rfl (by decide) rfl (fun ls hl => ?_)
                refine lv_goto (tgt := 5) hx hb dX1_hitBehindOthers_64 (by decide) ?_
                exact ih _ _ _ _ _ t hP hS (lv_sub hl [2, 3, 1, 0] rfl) hf hK'
  obtain ⟨t_10, hq_11, hf⟩ := bd_ok hf
  refine hL_2 FU _ _ _ _ _ t_10 hP hS (lv_sub hl [2, 3, 1, 0] rfl) hq_11 (fun H locs ls hP hS hl => ?_)
  refine lv_iload_n hx hb dX1_hitBehindOthers_67 rfl (lv_at hl 2 rfl) ?_
  refine lv_bipush (v := -9) hx hb dX1_hitBehindOthers_68 (by decide) ?_
  refine lv_icmp_ne (tgt := 78) hx hb dX1_hitBehindOthers_70 (by decide) (fun c_12 => ?_) (fun c_12 => ?_)
  · skip
    replace hf := it_f c_12 hf
    refine lv_iload_n hx hb dX1_hitBehindOthers_78 rfl (lv_at hl 2 rfl) ?_
    refine lv_aload_n hx hb dX1_hitBehindOthers_79 rfl (lv_at hl 0 rfl) ?_
    refine va_get (D := D) (ci := 0) (v := .ref (ad 30)) (C := RX1) (T := TX1) (N := 8) hx hb hg inG_X1 hown hK hP 32 x_o32 rfl 0 (by decide) (hg _ kw_111) (fun _ h9 => h9) rfl dX1_hitBehindOthers_80 ?_
    refine va_getN (D := D) (ci := 4) (v := .ref (ad 3)) (C := RX5) (T := TX5) (N := 5) hx hb hg inG_X5 hown hK hP 30 x_o30 rfl 3 (by decide) (va_Nw.use rfl (hN _ kn_56)) (fun _ h9 => h9) rfl dX1_hitBehindOthers_83 ?_
    refine lv_iload_n hx hb dX1_hitBehindOthers_86 rfl (lv_at hl 1 rfl) ?_
    obtain ⟨hb_13, hf⟩ := gd_ok hf
    refine x_iald hx hb hK hP (by decide) (by decide) rfl hb_13 dX1_hitBehindOthers_87 ?_
    refine lv_iadd hx hb dX1_hitBehindOthers_88 ?_
    exact grI hx hb hr hlocks hP hS dX1_hitBehindOthers_89 (Option.some.inj hf) rfl
  · skip
    replace hf := it_t c_12 hf
    refine lv_bipush (v := -9) hx hb dX1_hitBehindOthers_73 (by decide) ?_
    refine lv_goto (tgt := 89) hx hb dX1_hitBehindOthers_75 (by decide) ?_
    exact grI hx hb hr hlocks hP hS dX1_hitBehindOthers_89 (Option.some.inj hf) rfl
abbrev rX1_spreadUpset : Room := { frames := 1, cells := 0, slots := 0, locals := 23 }
theorem hX1_spreadUpset : yX1_spreadUpset.cls ≠ "java/lang/invoke/MethodHandle" ∧ yX1_spreadUpset.cls ≠ "java/lang/invoke/VarHandle" ∧ (parseMethodDescriptor yX1_spreadUpset.desc).map (fun d => d.parameters.length) = some 2 := by decide +kernel
set_option maxHeartbeats 4000000 in
set_option maxRecDepth 100000 in
theorem mX1_spreadUpset (l : Launch) (D : va_G) (ad : Nat → Nat) (cs : Nat → ClassId) (tM : Nat) (u : UX) (a1 : Int32) (a2 : Int32)  (ru : UX) (hok : fX1_spreadUpset u a1 a2 = some ru) : Met l yX1_spreadUpset (Cond.code yX1_spreadUpset cX1_spreadUpset 5 none :: wsG) rX1_spreadUpset (va_Pc [.ref (ad 32), .int a1, .int a2] (wI D (wX ad cs) (xC D ad cs tM) u)) (va_Qv (fun (u' : UX) => u' = ru) (wB D (wX ad cs)) (AX ad)) 0 0 (AX ad) := by
  refine Met.ofW (cc := cX1_spreadUpset) (maxL := 5) (ret := none) (by decide) rfl ?_
  intro p e s m args below meth c s₁ B hml hv
  have hx := B.exec
  have hb := B.bytes
  have hr := B.returns
  have hts := atoms_spec (ws := (Cond.code yX1_spreadUpset cX1_spreadUpset 5 none :: wsG)) B.pre
  have hg : ∀ w ∈ wsG, w.before args s = true := fun w h => hts w (List.mem_cons_of_mem _ h)
  have hown : s.vm.findClass RX1 = some m.cls := findClass_of_methodNamed B.named
  have hlocks := B.notSynchronized
  obtain ⟨ha, hP, hC⟩ := hv
  obtain ⟨hK, hJ, hN, hZ, hT⟩ := id hC
  have hS : va_S (AX ad) s.heap s.heap [] := va_S.rf
  refine W.eq (show entryFrame m args 5 = entryFrame m ([.ref (ad 32), .int a1, .int a2] : List Value).toArray 5 by rw [ha]) ?_
  have hl := lv_entry ([.ref (ad 32), .int a1, .int a2]) (n := 5) (Nat.le_of_ble_eq_true rfl)
  rw [lg_entry_eq]
  generalize (lg_sl ([.ref (ad 32), .int a1, .int a2]) ++ List.replicate (5 - (lg_sl ([.ref (ad 32), .int a1, .int a2])).length) Slot.unset).toArray = ls at hl ⊢
  have hl : lv_has ls 5 [(0, .ref (ad 32)), (1, .int a1), (2, .int a2)] := hl
  show W p l e rX1_spreadUpset s m args below meth c s.heap [] 0 0 (MQ below (va_Qv (fun (u' : UX) => u' = ru) (wB D (wX ad cs)) (AX ad)) args s 0 0 (AX ad)) (F0 m 0 ls [])
  have hf := hok
  unfold fX1_spreadUpset at hf
  refine lv_iconst (v := 0) hx hb dX1_spreadUpset_0 (by decide) ?_
  refine lv_istore_n (lv' := [(3, .int ((0 : Int32))), (0, .ref (ad 32)), (1, .int a1), (2, .int a2)]) hx hb dX1_spreadUpset_1 rfl hl (by decide) rfl (fun ls hl => ?_)
  have hL_2 : ∀ (nf : Nat) (y3_k_1 : Int32) (u_k_1 : UX) (H : Heap) (locs : List Loc) (ls : Array Slot) (t : UX), va_P D vwCl (wX ad cs u_k_1) H → va_S (AX ad) s.heap H locs → lv_has ls 5 [(0, .ref (ad 32)), (1, .int a1), (2, .int a2), (3, .int y3_k_1)] → fX1_spreadUpset_2 nf y3_k_1 u_k_1 = some t → (∀ (H : Heap) (locs : List Loc) (ls : Array Slot), va_P D vwCl (wX ad cs t) H → va_S (AX ad) s.heap H locs → lv_has ls 5 [(0, .ref (ad 32)), (1, .int a1), (2, .int a2)] → W p l e rX1_spreadUpset s m args below meth c H locs 0 0 (MQ below (va_Qv (fun (u' : UX) => u' = ru) (wB D (wX ad cs)) (AX ad)) args s 0 0 (AX ad)) (F0 m 21 ls [])) → W p l e rX1_spreadUpset s m args below meth c H locs 0 0 (MQ below (va_Qv (fun (u' : UX) => u' = ru) (wB D (wX ad cs)) (AX ad)) args s 0 0 (AX ad)) (F0 m 2 ls []) := by
    intro nf
    induction nf with
    | zero => intro y3_k_1 u_k_1 H locs ls t hP hS hl hf hK'; rw [fX1_spreadUpset_2] at hf; cases hf
    | succ nf ih =>
      intro y3_k_1 u_k_1 H locs ls t hP hS hl hf hK'
      rw [fX1_spreadUpset_2] at hf
      refine lv_iload_n hx hb dX1_spreadUpset_2 rfl (lv_at hl 3 rfl) ?_
      refine lv_iconst (v := 5) hx hb dX1_spreadUpset_3 (by decide) ?_
      refine lv_icmp_ge (tgt := 21) hx hb dX1_spreadUpset_4 (by decide) (fun c_3 => ?_) (fun c_3 => ?_)
      · skip
        replace hf := it_t c_3 hf
        have ht := Option.some.inj hf
        subst ht
        exact hK' _ _ _ hP hS (lv_sub hl [0, 1, 2] rfl)
      · skip
        replace hf := it_f c_3 hf
        refine lv_aload_n hx hb dX1_spreadUpset_7 rfl (lv_at hl 0 rfl) ?_
        refine va_get (D := D) (ci := 0) (v := .ref (ad 13)) (C := RX1) (T := TX1) (N := 8) hx hb hg inG_X1 hown hK hP 32 x_o32 rfl 7 (by decide) (hg _ kw_121) (fun _ h9 => h9) rfl dX1_spreadUpset_8 ?_
        refine lv_iload_n hx hb dX1_spreadUpset_11 rfl (lv_at hl 3 rfl) ?_
        refine lv_bipush (v := -9) hx hb dX1_spreadUpset_12 (by decide) ?_
        obtain ⟨hb_4, hf⟩ := gd_ok hf
        refine x_iast hx hb hK hP hJ hS (by decide) (by decide) rfl hb_4 dX1_spreadUpset_14 (fun H locs hP hS => ?_)
        refine lv_iinc (v := y3_k_1 + 1) (lv' := [(3, .int (y3_k_1 + 1)), (0, .ref (ad 32)), (1, .int a1), (2, .int a2)]) hx hb dX1_spreadUpset_15 hl (k := 3) rfl rfl (by decide) rfl (fun ls hl => ?_)
        refine lv_goto (tgt := 2) hx hb dX1_spreadUpset_18 (by decide) ?_
        exact ih _ _ _ _ _ t hP hS (lv_sub hl [1, 2, 3, 0] rfl) hf hK'
  obtain ⟨t_5, hq_6, hf⟩ := bd_ok hf
  refine hL_2 FU _ _ _ _ _ t_5 hP hS (lv_sub hl [1, 2, 3, 0] rfl) hq_6 (fun H locs ls hP hS hl => ?_)
  refine lv_aload_n hx hb dX1_spreadUpset_21 rfl (lv_at hl 0 rfl) ?_
  refine va_get (D := D) (ci := 0) (v := .ref (ad 13)) (C := RX1) (T := TX1) (N := 8) hx hb hg inG_X1 hown hK hP 32 x_o32 rfl 7 (by decide) (hg _ kw_121) (fun _ h9 => h9) rfl dX1_spreadUpset_22 ?_
  refine lv_iload_n hx hb dX1_spreadUpset_25 rfl (lv_at hl 1 rfl) ?_
  refine lv_iload_n hx hb dX1_spreadUpset_26 rfl (lv_at hl 2 rfl) ?_
  obtain ⟨hb_7, hf⟩ := gd_ok hf
  refine x_iast hx hb hK hP hJ hS (by decide) (by decide) rfl hb_7 dX1_spreadUpset_27 (fun H locs hP hS => ?_)
  refine lv_iconst (v := 0) hx hb dX1_spreadUpset_28 (by decide) ?_
  refine lv_istore_n (lv' := [(3, .int ((0 : Int32))), (0, .ref (ad 32)), (1, .int a1), (2, .int a2)]) hx hb dX1_spreadUpset_29 rfl hl (by decide) rfl (fun ls hl => ?_)
  have hL_9 : ∀ (nf : Nat) (y3_k_8 : Int32) (u_k_8 : UX) (H : Heap) (locs : List Loc) (ls : Array Slot) (t : UX), va_P D vwCl (wX ad cs u_k_8) H → va_S (AX ad) s.heap H locs → lv_has ls 5 [(0, .ref (ad 32)), (1, .int a1), (3, .int y3_k_8)] → fX1_spreadUpset_30 a1 nf y3_k_8 u_k_8 = some t → (∀ (H : Heap) (locs : List Loc) (ls : Array Slot), va_P D vwCl (wX ad cs t) H → va_S (AX ad) s.heap H locs → lv_has ls 5 [] → W p l e rX1_spreadUpset s m args below meth c H locs 0 0 (MQ below (va_Qv (fun (u' : UX) => u' = ru) (wB D (wX ad cs)) (AX ad)) args s 0 0 (AX ad)) (F0 m 87 ls [])) → W p l e rX1_spreadUpset s m args below meth c H locs 0 0 (MQ below (va_Qv (fun (u' : UX) => u' = ru) (wB D (wX ad cs)) (AX ad)) args s 0 0 (AX ad)) (F0 m 30 ls []) := by
    intro nf
    induction nf with
    | zero => intro y3_k_8 u_k_8 H locs ls t hP hS hl hf hK'; rw [fX1_spreadUpset_30] at hf; cases hf
    | succ nf ih =>
      intro y3_k_8 u_k_8 H locs ls t hP hS hl hf hK'
      rw [fX1_spreadUpset_30] at hf
      refine lv_iload_n hx hb dX1_spreadUpset_30 rfl (lv_at hl 2 rfl) ?_
      refine lv_aload_n hx hb dX1_spreadUpset_31 rfl (lv_at hl 0 rfl) ?_
      refine va_get (D := D) (ci := 0) (v := .ref (ad 30)) (C := RX1) (T := TX1) (N := 8) hx hb hg inG_X1 hown hK hP 32 x_o32 rfl 0 (by decide) (hg _ kw_111) (fun _ h9 => h9) rfl dX1_spreadUpset_32 ?_
      refine va_getN (D := D) (ci := 4) (v := .int u_k_8.2.2.1) (C := RX5) (T := TX5) (N := 5) hx hb hg inG_X5 hown hK hP 30 x_o30 rfl 4 (by decide) (va_Nw.use rfl (hN _ kn_58)) (fun _ h9 => h9) rfl dX1_spreadUpset_35 ?_
      refine lv_icmp_ge (tgt := 87) hx hb dX1_spreadUpset_38 (by decide) (fun c_10 => ?_) (fun c_10 => ?_)
      · skip
        replace hf := it_t c_10 hf
        have ht := Option.some.inj hf
        subst ht
        exact hK' _ _ _ hP hS (lv_sub hl [] rfl)
      · skip
        replace hf := it_f c_10 hf
        refine lv_iconst (v := 0) hx hb dX1_spreadUpset_41 (by decide) ?_
        refine lv_istore (lv' := [(4, .int ((0 : Int32))), (0, .ref (ad 32)), (1, .int a1), (3, .int y3_k_8)]) hx hb dX1_spreadUpset_42 hl (by decide) rfl (fun ls hl => ?_)
        have hL_12 : ∀ (nf : Nat) (y4_k_11 : Int32) (u_k_11 : UX) (H : Heap) (locs : List Loc) (ls : Array Slot) (t : UX), va_P D vwCl (wX ad cs u_k_11) H → va_S (AX ad) s.heap H locs → lv_has ls 5 [(0, .ref (ad 32)), (1, .int a1), (3, .int y3_k_8), (4, .int y4_k_11)] → fX1_spreadUpset_44 a1 nf y4_k_11 u_k_11 = some t → (∀ (H : Heap) (locs : List Loc) (ls : Array Slot), va_P D vwCl (wX ad cs t) H → va_S (AX ad) s.heap H locs → lv_has ls 5 [(0, .ref (ad 32)), (1, .int a1), (3, .int y3_k_8)] → W p l e rX1_spreadUpset s m args below meth c H locs 0 0 (MQ below (va_Qv (fun (u' : UX) => u' = ru) (wB D (wX ad cs)) (AX ad)) args s 0 0 (AX ad)) (F0 m 81 ls [])) → W p l e rX1_spreadUpset s m args below meth c H locs 0 0 (MQ below (va_Qv (fun (u' : UX) => u' = ru) (wB D (wX ad cs)) (AX ad)) args s 0 0 (AX ad)) (F0 m 44 ls []) := by
          intro nf
          induction nf with
          | zero => intro y4_k_11 u_k_11 H locs ls t hP hS hl hf hK'; rw [fX1_spreadUpset_44] at hf; cases hf
          | succ nf ih =>
            intro y4_k_11 u_k_11 H locs ls t hP hS hl hf hK'
            rw [fX1_spreadUpset_44] at hf
            refine lv_iload hx hb dX1_spreadUpset_44 (lv_at hl 3 rfl) ?_
            refine lv_aload_n hx hb dX1_spreadUpset_46 rfl (lv_at hl 0 rfl) ?_
            refine va_get (D := D) (ci := 0) (v := .ref (ad 30)) (C := RX1) (T := TX1) (N := 8) hx hb hg inG_X1 hown hK hP 32 x_o32 rfl 0 (by decide) (hg _ kw_111) (fun _ h9 => h9) rfl dX1_spreadUpset_47 ?_
            refine va_getN (D := D) (ci := 4) (v := .int u_k_11.2.2.1) (C := RX5) (T := TX5) (N := 5) hx hb hg inG_X5 hown hK hP 30 x_o30 rfl 4 (by decide) (va_Nw.use rfl (hN _ kn_58)) (fun _ h9 => h9) rfl dX1_spreadUpset_50 ?_
            refine lv_icmp_ge (tgt := 81) hx hb dX1_spreadUpset_53 (by decide) (fun c_13 => ?_) (fun c_13 => ?_)
            · skip
              replace hf := it_t c_13 hf
              have ht := Option.some.inj hf
              subst ht
              exact hK' _ _ _ hP hS (lv_sub hl [0, 1, 2] rfl)
            · skip
              replace hf := it_f c_13 hf
              refine lv_iload hx hb dX1_spreadUpset_56 (lv_at hl 3 rfl) ?_
              refine lv_iload_n hx hb dX1_spreadUpset_58 rfl (lv_at hl 1 rfl) ?_
              refine lv_icmp_eq (tgt := 75) hx hb dX1_spreadUpset_59 (by decide) (fun c_14 => ?_) (fun c_14 => ?_)
              · skip
                replace hf := it_t c_14 hf
                refine lv_iinc (v := y4_k_11 + 1) (lv' := [(4, .int (y4_k_11 + 1)), (0, .ref (ad 32)), (1, .int a1), (3, .int y3_k_8)]) hx hb dX1_spreadUpset_75 hl (k := 3) rfl rfl (by decide) rfl (fun ls hl => ?_)
                refine lv_goto (tgt := 44) hx hb dX1_spreadUpset_78 (by decide) ?_
                exact ih _ _ _ _ _ t hP hS (lv_sub hl [1, 2, 3, 0] rfl) hf hK'
              · skip
                replace hf := it_f c_14 hf
                refine lv_aload_n hx hb dX1_spreadUpset_62 rfl (lv_at hl 0 rfl) ?_
                refine va_get (D := D) (ci := 0) (v := .ref (ad 13)) (C := RX1) (T := TX1) (N := 8) hx hb hg inG_X1 hown hK hP 32 x_o32 rfl 7 (by decide) (hg _ kw_121) (fun _ h9 => h9) rfl dX1_spreadUpset_63 ?_
                refine lv_iload hx hb dX1_spreadUpset_66 (lv_at hl 3 rfl) ?_
                refine lv_aload_n hx hb dX1_spreadUpset_68 rfl (lv_at hl 0 rfl) ?_
                refine lv_iload hx hb dX1_spreadUpset_69 (lv_at hl 3 rfl) ?_
                obtain ⟨r_15, hc_16, hf⟩ := bd_ok hf
                refine gcVi 1 (xC_ok D ad cs tM hJ) hC ⟨hx, hb, hml, hown, hts⟩ (mX1_hitBehindOthers l D ad cs tM u_k_11 y4_k_11 r_15 hc_16) (gG kw_396) kw_393 kw_395 kw_7 kw_24 hX1_hitBehindOthers ⟨rfl, rfl⟩ ⟨Nat.le_of_ble_eq_true rfl, Nat.le_of_ble_eq_true rfl⟩ (x_rec (C := RX1) (T := TX1) (N := 8) (ci := 0) hK hP rfl x_o32) hP hS ⟨Nat.zero_le _, Nat.zero_le _⟩ rfl hl.1 rfl (Nat.le_of_ble_eq_true rfl) dX1_spreadUpset_71 (fun H locs hP hS => ?_)
                obtain ⟨hb_17, hf⟩ := gd_ok hf
                refine x_iast hx hb hK hP hJ hS (by decide) (by decide) rfl hb_17 dX1_spreadUpset_74 (fun H locs hP hS => ?_)
                refine lv_iinc (v := y4_k_11 + 1) (lv' := [(4, .int (y4_k_11 + 1)), (0, .ref (ad 32)), (1, .int a1), (3, .int y3_k_8)]) hx hb dX1_spreadUpset_75 hl (k := 3) rfl rfl (by decide) rfl (fun ls hl => ?_)
                refine lv_goto (tgt := 44) hx hb dX1_spreadUpset_78 (by decide) ?_
                exact ih _ _ _ _ _ t hP hS (lv_sub hl [1, 2, 3, 0] rfl) hf hK'
        obtain ⟨t_18, hq_19, hf⟩ := bd_ok hf
        refine hL_12 FU _ _ _ _ _ t_18 hP hS (lv_sub hl [1, 2, 3, 0] rfl) hq_19 (fun H locs ls hP hS hl => ?_)
        refine lv_iinc (v := y3_k_8 + 1) (lv' := [(3, .int (y3_k_8 + 1)), (0, .ref (ad 32)), (1, .int a1)]) hx hb dX1_spreadUpset_81 hl (k := 2) rfl rfl (by decide) rfl (fun ls hl => ?_)
        refine lv_goto (tgt := 30) hx hb dX1_spreadUpset_84 (by decide) ?_
        exact ih _ _ _ _ _ t hP hS (lv_sub hl [1, 2, 0] rfl) hf hK'
  obtain ⟨t_20, hq_21, hf⟩ := bd_ok hf
  refine hL_9 FU _ _ _ _ _ t_20 hP hS (lv_sub hl [1, 2, 0] rfl) hq_21 (fun H locs ls hP hS hl => ?_)
  exact grV hx hb hr hlocks hP hS dX1_spreadUpset_87 (Option.some.inj hf)
abbrev rX1_allFresh : Room := { frames := 0, cells := 0, slots := 0, locals := 0 }
theorem hX1_allFresh : yX1_allFresh.cls ≠ "java/lang/invoke/MethodHandle" ∧ yX1_allFresh.cls ≠ "java/lang/invoke/VarHandle" ∧ (parseMethodDescriptor yX1_allFresh.desc).map (fun d => d.parameters.length) = some 0 := by decide +kernel
set_option maxHeartbeats 4000000 in
set_option maxRecDepth 100000 in
theorem mX1_allFresh (l : Launch) (D : va_G) (ad : Nat → Nat) (cs : Nat → ClassId) (tM : Nat) (u : UX)   (r0 : Int32) (hok : fX1_allFresh u = some r0) : Met l yX1_allFresh (Cond.code yX1_allFresh cX1_allFresh 3 (some .int) :: wsG) rX1_allFresh (va_Pc [.ref (ad 32)] (wI D (wX ad cs) (xC D ad cs tM) u)) (va_Qi (fun (r : Int32) (u' : UX) => r = r0 ∧ u' = u) (wB D (wX ad cs)) (AX ad)) 0 0 (AX ad) := by
  refine Met.ofW (cc := cX1_allFresh) (maxL := 3) (ret := (some .int)) (by decide) rfl ?_
  intro p e s m args below meth c s₁ B hml hv
  have hx := B.exec
  have hb := B.bytes
  have hr := B.returns
  have hts := atoms_spec (ws := (Cond.code yX1_allFresh cX1_allFresh 3 (some .int) :: wsG)) B.pre
  have hg : ∀ w ∈ wsG, w.before args s = true := fun w h => hts w (List.mem_cons_of_mem _ h)
  have hown : s.vm.findClass RX1 = some m.cls := findClass_of_methodNamed B.named
  have hlocks := B.notSynchronized
  obtain ⟨ha, hP, hC⟩ := hv
  obtain ⟨hK, hJ, hN, hZ, hT⟩ := id hC
  have hS : va_S (AX ad) s.heap s.heap [] := va_S.rf
  refine W.eq (show entryFrame m args 3 = entryFrame m ([.ref (ad 32)] : List Value).toArray 3 by rw [ha]) ?_
  have hl := lv_entry ([.ref (ad 32)]) (n := 3) (Nat.le_of_ble_eq_true rfl)
  rw [lg_entry_eq]
  generalize (lg_sl ([.ref (ad 32)]) ++ List.replicate (3 - (lg_sl ([.ref (ad 32)])).length) Slot.unset).toArray = ls at hl ⊢
  have hl : lv_has ls 3 [(0, .ref (ad 32))] := hl
  show W p l e rX1_allFresh s m args below meth c s.heap [] 0 0 (MQ below (va_Qi (fun (r : Int32) (u' : UX) => r = r0 ∧ u' = u) (wB D (wX ad cs)) (AX ad)) args s 0 0 (AX ad)) (F0 m 0 ls [])
  have hf := hok
  unfold fX1_allFresh at hf
  refine lv_iconst (v := 0) hx hb dX1_allFresh_0 (by decide) ?_
  refine lv_istore_n (lv' := [(1, .int ((0 : Int32))), (0, .ref (ad 32))]) hx hb dX1_allFresh_1 rfl hl (by decide) rfl (fun ls hl => ?_)
  refine lv_iconst (v := 0) hx hb dX1_allFresh_2 (by decide) ?_
  refine lv_istore_n (lv' := [(2, .int ((0 : Int32))), (1, .int ((0 : Int32))), (0, .ref (ad 32))]) hx hb dX1_allFresh_3 rfl hl (by decide) rfl (fun ls hl => ?_)
  have hL_2 : ∀ (nf : Nat) (y1_k_1 : Int32) (y2_k_1 : Int32) (H : Heap) (locs : List Loc) (ls : Array Slot) (t : Int32), va_P D vwCl (wX ad cs u) H → va_S (AX ad) s.heap H locs → lv_has ls 3 [(0, .ref (ad 32)), (1, .int y1_k_1), (2, .int y2_k_1)] → fX1_allFresh_4 u nf y1_k_1 y2_k_1 = some t → (∀ (H : Heap) (locs : List Loc) (ls : Array Slot), va_P D vwCl (wX ad cs u) H → va_S (AX ad) s.heap H locs → lv_has ls 3 [(1, .int t)] → W p l e rX1_allFresh s m args below meth c H locs 0 0 (MQ below (va_Qi (fun (r : Int32) (u' : UX) => r = r0 ∧ u' = u) (wB D (wX ad cs)) (AX ad)) args s 0 0 (AX ad)) (F0 m 30 ls [])) → W p l e rX1_allFresh s m args below meth c H locs 0 0 (MQ below (va_Qi (fun (r : Int32) (u' : UX) => r = r0 ∧ u' = u) (wB D (wX ad cs)) (AX ad)) args s 0 0 (AX ad)) (F0 m 4 ls []) := by
    intro nf
    induction nf with
    | zero => intro y1_k_1 y2_k_1 H locs ls t hP hS hl hf hK'; rw [fX1_allFresh_4] at hf; cases hf
    | succ nf ih =>
      intro y1_k_1 y2_k_1 H locs ls t hP hS hl hf hK'
      rw [fX1_allFresh_4] at hf
      refine lv_iload_n hx hb dX1_allFresh_4 rfl (lv_at hl 2 rfl) ?_
      refine lv_aload_n hx hb dX1_allFresh_5 rfl (lv_at hl 0 rfl) ?_
      refine va_get (D := D) (ci := 0) (v := .ref (ad 30)) (C := RX1) (T := TX1) (N := 8) hx hb hg inG_X1 hown hK hP 32 x_o32 rfl 0 (by decide) (hg _ kw_111) (fun _ h9 => h9) rfl dX1_allFresh_6 ?_
      refine va_getN (D := D) (ci := 4) (v := .int u.2.2.1) (C := RX5) (T := TX5) (N := 5) hx hb hg inG_X5 hown hK hP 30 x_o30 rfl 4 (by decide) (va_Nw.use rfl (hN _ kn_58)) (fun _ h9 => h9) rfl dX1_allFresh_9 ?_
      refine lv_icmp_ge (tgt := 30) hx hb dX1_allFresh_12 (by decide) (fun c_3 => ?_) (fun c_3 => ?_)
      · skip
        replace hf := it_t c_3 hf
        have ht := Option.some.inj hf
        subst ht
        exact hK' _ _ _ hP hS (lv_sub hl [1] rfl)
      · skip
        replace hf := it_f c_3 hf
        refine lv_iload_n hx hb dX1_allFresh_15 rfl (lv_at hl 1 rfl) ?_
        refine lv_aload_n hx hb dX1_allFresh_16 rfl (lv_at hl 0 rfl) ?_
        refine va_get (D := D) (ci := 0) (v := .ref (ad 5)) (C := RX1) (T := TX1) (N := 8) hx hb hg inG_X1 hown hK hP 32 x_o32 rfl 1 (by decide) (hg _ kw_112) (fun _ h9 => h9) rfl dX1_allFresh_17 ?_
        refine lv_iload_n hx hb dX1_allFresh_20 rfl (lv_at hl 2 rfl) ?_
        obtain ⟨hb_4, hf⟩ := gd_ok hf
        refine x_iald hx hb hK hP (by decide) (by decide) rfl hb_4 dX1_allFresh_21 ?_
        refine lv_iadd hx hb dX1_allFresh_22 ?_
        refine lv_istore_n (lv' := [(1, .int (y1_k_1 + (u.1 5 y2_k_1.toNatClampNeg))), (0, .ref (ad 32)), (2, .int y2_k_1)]) hx hb dX1_allFresh_23 rfl hl (by decide) rfl (fun ls hl => ?_)
        refine lv_iinc (v := y2_k_1 + 1) (lv' := [(2, .int (y2_k_1 + 1)), (1, .int (y1_k_1 + (u.1 5 y2_k_1.toNatClampNeg))), (0, .ref (ad 32))]) hx hb dX1_allFresh_24 hl (k := 2) rfl rfl (by decide) rfl (fun ls hl => ?_)
        refine lv_goto (tgt := 4) hx hb dX1_allFresh_27 (by decide) ?_
        exact ih _ _ _ _ _ t hP hS (lv_sub hl [2, 1, 0] rfl) hf hK'
  obtain ⟨t_5, hq_6, hf⟩ := bd_ok hf
  refine hL_2 FU _ _ _ _ _ t_5 hP hS (lv_sub hl [2, 1, 0] rfl) hq_6 (fun H locs ls hP hS hl => ?_)
  refine lv_iload_n hx hb dX1_allFresh_30 rfl (lv_at hl 0 rfl) ?_
  exact grI hx hb hr hlocks hP hS dX1_allFresh_31 (Option.some.inj hf) rfl
abbrev rX1_pipesInUse : Room := { frames := 0, cells := 0, slots := 0, locals := 0 }
theorem hX1_pipesInUse : yX1_pipesInUse.cls ≠ "java/lang/invoke/MethodHandle" ∧ yX1_pipesInUse.cls ≠ "java/lang/invoke/VarHandle" ∧ (parseMethodDescriptor yX1_pipesInUse.desc).map (fun d => d.parameters.length) = some 0 := by decide +kernel
set_option maxHeartbeats 4000000 in
set_option maxRecDepth 100000 in
theorem mX1_pipesInUse (l : Launch) (D : va_G) (ad : Nat → Nat) (cs : Nat → ClassId) (tM : Nat) (u : UX)   (r0 : Int32) (hok : fX1_pipesInUse u = some r0) : Met l yX1_pipesInUse (Cond.code yX1_pipesInUse cX1_pipesInUse 4 (some .int) :: wsG) rX1_pipesInUse (va_Pc [.ref (ad 32)] (wI D (wX ad cs) (xC D ad cs tM) u)) (va_Qi (fun (r : Int32) (u' : UX) => r = r0 ∧ u' = u) (wB D (wX ad cs)) (AX ad)) 0 0 (AX ad) := by
  refine Met.ofW (cc := cX1_pipesInUse) (maxL := 4) (ret := (some .int)) (by decide) rfl ?_
  intro p e s m args below meth c s₁ B hml hv
  have hx := B.exec
  have hb := B.bytes
  have hr := B.returns
  have hts := atoms_spec (ws := (Cond.code yX1_pipesInUse cX1_pipesInUse 4 (some .int) :: wsG)) B.pre
  have hg : ∀ w ∈ wsG, w.before args s = true := fun w h => hts w (List.mem_cons_of_mem _ h)
  have hown : s.vm.findClass RX1 = some m.cls := findClass_of_methodNamed B.named
  have hlocks := B.notSynchronized
  obtain ⟨ha, hP, hC⟩ := hv
  obtain ⟨hK, hJ, hN, hZ, hT⟩ := id hC
  have hS : va_S (AX ad) s.heap s.heap [] := va_S.rf
  refine W.eq (show entryFrame m args 4 = entryFrame m ([.ref (ad 32)] : List Value).toArray 4 by rw [ha]) ?_
  have hl := lv_entry ([.ref (ad 32)]) (n := 4) (Nat.le_of_ble_eq_true rfl)
  rw [lg_entry_eq]
  generalize (lg_sl ([.ref (ad 32)]) ++ List.replicate (4 - (lg_sl ([.ref (ad 32)])).length) Slot.unset).toArray = ls at hl ⊢
  have hl : lv_has ls 4 [(0, .ref (ad 32))] := hl
  show W p l e rX1_pipesInUse s m args below meth c s.heap [] 0 0 (MQ below (va_Qi (fun (r : Int32) (u' : UX) => r = r0 ∧ u' = u) (wB D (wX ad cs)) (AX ad)) args s 0 0 (AX ad)) (F0 m 0 ls [])
  have hf := hok
  unfold fX1_pipesInUse at hf
  refine lv_iconst (v := 0) hx hb dX1_pipesInUse_0 (by decide) ?_
  refine lv_istore_n (lv' := [(1, .int ((0 : Int32))), (0, .ref (ad 32))]) hx hb dX1_pipesInUse_1 rfl hl (by decide) rfl (fun ls hl => ?_)
  refine lv_iconst (v := 0) hx hb dX1_pipesInUse_2 (by decide) ?_
  refine lv_istore_n (lv' := [(2, .int ((0 : Int32))), (1, .int ((0 : Int32))), (0, .ref (ad 32))]) hx hb dX1_pipesInUse_3 rfl hl (by decide) rfl (fun ls hl => ?_)
  have hL_2 : ∀ (nf : Nat) (y1_k_1 : Int32) (y2_k_1 : Int32) (H : Heap) (locs : List Loc) (ls : Array Slot) (t : Int32), va_P D vwCl (wX ad cs u) H → va_S (AX ad) s.heap H locs → lv_has ls 4 [(0, .ref (ad 32)), (1, .int y1_k_1), (2, .int y2_k_1)] → fX1_pipesInUse_4 u nf y1_k_1 y2_k_1 = some t → (∀ (H : Heap) (locs : List Loc) (ls : Array Slot), va_P D vwCl (wX ad cs u) H → va_S (AX ad) s.heap H locs → lv_has ls 4 [(1, .int t)] → W p l e rX1_pipesInUse s m args below meth c H locs 0 0 (MQ below (va_Qi (fun (r : Int32) (u' : UX) => r = r0 ∧ u' = u) (wB D (wX ad cs)) (AX ad)) args s 0 0 (AX ad)) (F0 m 76 ls [])) → W p l e rX1_pipesInUse s m args below meth c H locs 0 0 (MQ below (va_Qi (fun (r : Int32) (u' : UX) => r = r0 ∧ u' = u) (wB D (wX ad cs)) (AX ad)) args s 0 0 (AX ad)) (F0 m 4 ls []) := by
    intro nf
    induction nf with
    | zero => intro y1_k_1 y2_k_1 H locs ls t hP hS hl hf hK'; rw [fX1_pipesInUse_4] at hf; cases hf
    | succ nf ih =>
      intro y1_k_1 y2_k_1 H locs ls t hP hS hl hf hK'
      rw [fX1_pipesInUse_4] at hf
      refine lv_iload_n hx hb dX1_pipesInUse_4 rfl (lv_at hl 2 rfl) ?_
      refine lv_aload_n hx hb dX1_pipesInUse_5 rfl (lv_at hl 0 rfl) ?_
      refine va_get (D := D) (ci := 0) (v := .ref (ad 30)) (C := RX1) (T := TX1) (N := 8) hx hb hg inG_X1 hown hK hP 32 x_o32 rfl 0 (by decide) (hg _ kw_111) (fun _ h9 => h9) rfl dX1_pipesInUse_6 ?_
      refine va_getN (D := D) (ci := 4) (v := .int u.2.2.1) (C := RX5) (T := TX5) (N := 5) hx hb hg inG_X5 hown hK hP 30 x_o30 rfl 4 (by decide) (va_Nw.use rfl (hN _ kn_58)) (fun _ h9 => h9) rfl dX1_pipesInUse_9 ?_
      refine lv_icmp_ge (tgt := 76) hx hb dX1_pipesInUse_12 (by decide) (fun c_3 => ?_) (fun c_3 => ?_)
      · skip
        replace hf := it_t c_3 hf
        have ht := Option.some.inj hf
        subst ht
        exact hK' _ _ _ hP hS (lv_sub hl [1] rfl)
      · skip
        replace hf := it_f c_3 hf
        refine lv_iload_n hx hb dX1_pipesInUse_15 rfl (lv_at hl 1 rfl) ?_
        refine lv_aload_n hx hb dX1_pipesInUse_16 rfl (lv_at hl 0 rfl) ?_
        refine va_get (D := D) (ci := 0) (v := .ref (ad 5)) (C := RX1) (T := TX1) (N := 8) hx hb hg inG_X1 hown hK hP 32 x_o32 rfl 1 (by decide) (hg _ kw_112) (fun _ h9 => h9) rfl dX1_pipesInUse_17 ?_
        refine lv_iload_n hx hb dX1_pipesInUse_20 rfl (lv_at hl 2 rfl) ?_
        obtain ⟨hb_4, hf⟩ := gd_ok hf
        refine x_iald hx hb hK hP (by decide) (by decide) rfl hb_4 dX1_pipesInUse_21 ?_
        obtain ⟨t_5, hq_6, hf⟩ := bd_ok hf
        have hJ_7 : ∀ (H : Heap) (locs : List Loc) (ls : Array Slot), va_P D vwCl (wX ad cs u) H → va_S (AX ad) s.heap H locs → lv_has ls 4 [(0, .ref (ad 32)), (2, .int y2_k_1)] → W p l e rX1_pipesInUse s m args below meth c H locs 0 0 (MQ below (va_Qi (fun (r : Int32) (u' : UX) => r = r0 ∧ u' = u) (wB D (wX ad cs)) (AX ad)) args s 0 0 (AX ad)) (F0 m 30 ls [.int t_5, .int y1_k_1]) := by
          intro H locs ls hP hS hl
          refine lv_iadd hx hb dX1_pipesInUse_30 ?_
          refine lv_istore_n (lv' := [(1, .int (y1_k_1 + t_5)), (0, .ref (ad 32)), (2, .int y2_k_1)]) hx hb dX1_pipesInUse_31 rfl hl (by decide) rfl (fun ls hl => ?_)
          refine lv_iconst (v := 0) hx hb dX1_pipesInUse_32 (by decide) ?_
          refine lv_istore_n (lv' := [(3, .int ((0 : Int32))), (1, .int (y1_k_1 + t_5)), (0, .ref (ad 32)), (2, .int y2_k_1)]) hx hb dX1_pipesInUse_33 rfl hl (by decide) rfl (fun ls hl => ?_)
          have hL_9 : ∀ (nf : Nat) (y1_k_8 : Int32) (y3_k_8 : Int32) (H : Heap) (locs : List Loc) (ls : Array Slot) (t : Int32), va_P D vwCl (wX ad cs u) H → va_S (AX ad) s.heap H locs → lv_has ls 4 [(0, .ref (ad 32)), (1, .int y1_k_8), (2, .int y2_k_1), (3, .int y3_k_8)] → fX1_pipesInUse_34 u y2_k_1 nf y1_k_8 y3_k_8 = some t → (∀ (H : Heap) (locs : List Loc) (ls : Array Slot), va_P D vwCl (wX ad cs u) H → va_S (AX ad) s.heap H locs → lv_has ls 4 [(0, .ref (ad 32)), (1, .int t), (2, .int y2_k_1)] → W p l e rX1_pipesInUse s m args below meth c H locs 0 0 (MQ below (va_Qi (fun (r : Int32) (u' : UX) => r = r0 ∧ u' = u) (wB D (wX ad cs)) (AX ad)) args s 0 0 (AX ad)) (F0 m 70 ls [])) → W p l e rX1_pipesInUse s m args below meth c H locs 0 0 (MQ below (va_Qi (fun (r : Int32) (u' : UX) => r = r0 ∧ u' = u) (wB D (wX ad cs)) (AX ad)) args s 0 0 (AX ad)) (F0 m 34 ls []) := by
            intro nf
            induction nf with
            | zero => intro y1_k_8 y3_k_8 H locs ls t hP hS hl hf hK'; rw [fX1_pipesInUse_34] at hf; cases hf
            | succ nf ih =>
              intro y1_k_8 y3_k_8 H locs ls t hP hS hl hf hK'
              rw [fX1_pipesInUse_34] at hf
              refine lv_iload_n hx hb dX1_pipesInUse_34 rfl (lv_at hl 3 rfl) ?_
              refine lv_aload_n hx hb dX1_pipesInUse_35 rfl (lv_at hl 0 rfl) ?_
              refine va_get (D := D) (ci := 0) (v := .ref (ad 30)) (C := RX1) (T := TX1) (N := 8) hx hb hg inG_X1 hown hK hP 32 x_o32 rfl 0 (by decide) (hg _ kw_111) (fun _ h9 => h9) rfl dX1_pipesInUse_36 ?_
              refine va_getN (D := D) (ci := 4) (v := .int u.2.2.1) (C := RX5) (T := TX5) (N := 5) hx hb hg inG_X5 hown hK hP 30 x_o30 rfl 4 (by decide) (va_Nw.use rfl (hN _ kn_58)) (fun _ h9 => h9) rfl dX1_pipesInUse_39 ?_
              refine lv_icmp_ge (tgt := 70) hx hb dX1_pipesInUse_42 (by decide) (fun c_10 => ?_) (fun c_10 => ?_)
              · skip
                replace hf := it_t c_10 hf
                have ht := Option.some.inj hf
                subst ht
                exact hK' _ _ _ hP hS (lv_sub hl [0, 1, 2] rfl)
              · skip
                replace hf := it_f c_10 hf
                refine lv_iload_n hx hb dX1_pipesInUse_45 rfl (lv_at hl 1 rfl) ?_
                refine lv_aload_n hx hb dX1_pipesInUse_46 rfl (lv_at hl 0 rfl) ?_
                refine va_get (D := D) (ci := 0) (v := .ref (ad 35)) (C := RX1) (T := TX1) (N := 8) hx hb hg inG_X1 hown hK hP 32 x_o32 rfl 2 (by decide) (hg _ kw_114) (fun _ h9 => h9) rfl dX1_pipesInUse_47 ?_
                refine lv_iload_n hx hb dX1_pipesInUse_50 rfl (lv_at hl 2 rfl) ?_
                refine x_ald35 hx hb hK hP hb_4 dX1_pipesInUse_51 ?_
                refine lv_iload_n hx hb dX1_pipesInUse_52 rfl (lv_at hl 3 rfl) ?_
                obtain ⟨hb_11, hf⟩ := gd_ok hf
                refine x_iald hx hb hK hP (by have := vin_lt hb_4; omega) (by have := vin_lt hb_4; omega) (la_row (vin_lt hb_4)) hb_11 dX1_pipesInUse_53 ?_
                refine lv_if_le (tgt := 61) hx hb dX1_pipesInUse_54 (by decide) (fun c_12 => ?_) (fun c_12 => ?_)
                · skip
                  replace hf := it_t c_12 hf
                  refine lv_iconst (v := 0) hx hb dX1_pipesInUse_61 (by decide) ?_
                  refine lv_iadd hx hb dX1_pipesInUse_62 ?_
                  refine lv_istore_n (lv' := [(1, .int (y1_k_8 + ((0 : Int32)))), (0, .ref (ad 32)), (2, .int y2_k_1), (3, .int y3_k_8)]) hx hb dX1_pipesInUse_63 rfl hl (by decide) rfl (fun ls hl => ?_)
                  refine lv_iinc (v := y3_k_8 + 1) (lv' := [(3, .int (y3_k_8 + 1)), (1, .int (y1_k_8 + ((0 : Int32)))), (0, .ref (ad 32)), (2, .int y2_k_1)]) hx hb dX1_pipesInUse_64 hl (k := 3) rfl rfl (by decide) rfl (fun ls hl => ?_)
                  refine lv_goto (tgt := 34) hx hb dX1_pipesInUse_67 (by decide) ?_
                  exact ih _ _ _ _ _ t hP hS (lv_sub hl [2, 1, 3, 0] rfl) hf hK'
                · skip
                  replace hf := it_f c_12 hf
                  refine lv_iconst (v := 1) hx hb dX1_pipesInUse_57 (by decide) ?_
                  refine lv_goto (tgt := 62) hx hb dX1_pipesInUse_58 (by decide) ?_
                  refine lv_iadd hx hb dX1_pipesInUse_62 ?_
                  refine lv_istore_n (lv' := [(1, .int (y1_k_8 + ((1 : Int32)))), (0, .ref (ad 32)), (2, .int y2_k_1), (3, .int y3_k_8)]) hx hb dX1_pipesInUse_63 rfl hl (by decide) rfl (fun ls hl => ?_)
                  refine lv_iinc (v := y3_k_8 + 1) (lv' := [(3, .int (y3_k_8 + 1)), (1, .int (y1_k_8 + ((1 : Int32)))), (0, .ref (ad 32)), (2, .int y2_k_1)]) hx hb dX1_pipesInUse_64 hl (k := 3) rfl rfl (by decide) rfl (fun ls hl => ?_)
                  refine lv_goto (tgt := 34) hx hb dX1_pipesInUse_67 (by decide) ?_
                  exact ih _ _ _ _ _ t hP hS (lv_sub hl [2, 1, 3, 0] rfl) hf hK'
          obtain ⟨t_13, hq_14, hf⟩ := bd_ok hf
          refine hL_9 FU _ _ _ _ _ t_13 hP hS (lv_sub hl [2, 1, 3, 0] rfl) hq_14 (fun H locs ls hP hS hl => ?_)
          refine lv_iinc (v := y2_k_1 + 1) (lv' := [(2, .int (y2_k_1 + 1)), (0, .ref (ad 32)), (1, .int t_13)]) hx hb dX1_pipesInUse_70 hl (k := 2) rfl rfl (by decide) rfl (fun ls hl => ?_)
          refine lv_goto (tgt := 4) hx hb dX1_pipesInUse_73 (by decide) ?_
          exact ih _ _ _ _ _ t hP hS (lv_sub hl [1, 2, 0] rfl) hf hK'
        clear hf
        have hf := hq_6
        refine lv_if_le (tgt := 29) hx hb dX1_pipesInUse_22 (by decide) (fun c_15 => ?_) (fun c_15 => ?_)
        · skip
          replace hf := it_t c_15 hf
          refine lv_iconst (v := 0) hx hb dX1_pipesInUse_29 (by decide) ?_
          have ht := Option.some.inj hf
          subst ht
          exact hJ_7 _ _ _ hP hS (lv_sub hl [0, 2] rfl)
        · skip
          replace hf := it_f c_15 hf
          refine lv_iconst (v := 1) hx hb dX1_pipesInUse_25 (by decide) ?_
          refine lv_goto (tgt := 30) hx hb dX1_pipesInUse_26 (by decide) ?_
          have ht := Option.some.inj hf
          subst ht
          exact hJ_7 _ _ _ hP hS (lv_sub hl [0, 2] rfl)
  obtain ⟨t_16, hq_17, hf⟩ := bd_ok hf
  refine hL_2 FU _ _ _ _ _ t_16 hP hS (lv_sub hl [2, 1, 0] rfl) hq_17 (fun H locs ls hP hS hl => ?_)
  refine lv_iload_n hx hb dX1_pipesInUse_76 rfl (lv_at hl 0 rfl) ?_
  exact grI hx hb hr hlocks hP hS dX1_pipesInUse_77 (Option.some.inj hf) rfl
