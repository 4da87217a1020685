abbrev rX7_within : Room := { frames := 0, cells := 0, slots := 0, locals := 0 }
theorem hX7_within : yX7_within.cls ≠ "java/lang/invoke/MethodHandle" ∧ yX7_within.cls ≠ "java/lang/invoke/VarHandle" ∧ (parseMethodDescriptor yX7_within.desc).map (fun d => d.parameters.length) = some 3 := by decide +kernel
set_option maxHeartbeats 4000000 in
set_option maxRecDepth 100000 in
theorem mX7_within (l : Launch) (a0 : Int32) (a1 : Int32) (a2 : Int32)  (r0 : Int32) (hok : fX7_within a0 a1 a2 = some r0) : Met l yX7_within (Cond.code yX7_within cX7_within 3 (some .boolean) :: wsG) rX7_within (va_Pc [.int a0, .int a1, .int a2] (fun _ => True)) (vp_Si (fun (r : Int32) => r = r0)) 0 0 (fun _ => False) := by
  refine Met.ofW (cc := cX7_within) (maxL := 3) (ret := (some .boolean)) (by decide) rfl ?_
  intro p e s m args below meth c s₁ B hml hv
  have hx := B.exec
  have hb := B.bytes
  have hr := B.returns
  have hts := atoms_spec (ws := (Cond.code yX7_within cX7_within 3 (some .boolean) :: wsG)) B.pre
  have hg : ∀ w ∈ wsG, w.before args s = true := fun w h => hts w (List.mem_cons_of_mem _ h)
  have hown : s.vm.findClass RX7 = some m.cls := findClass_of_methodNamed B.named
  have hlocks := B.notSynchronized
  obtain ⟨ha, -⟩ := hv
  refine W.eq (show entryFrame m args 3 = entryFrame m ([.int a0, .int a1, .int a2] : List Value).toArray 3 by rw [ha]) ?_
  have hl := lv_entry ([.int a0, .int a1, .int a2]) (n := 3) (Nat.le_of_ble_eq_true rfl)
  rw [lg_entry_eq]
  generalize (lg_sl ([.int a0, .int a1, .int a2]) ++ List.replicate (3 - (lg_sl ([.int a0, .int a1, .int a2])).length) Slot.unset).toArray = ls at hl ⊢
  have hl : lv_has ls 3 [(0, .int a0), (1, .int a1), (2, .int a2)] := hl
  show W p l e rX7_within s m args below meth c s.heap [] 0 0 (MQ below (vp_Si (fun (r : Int32) => r = r0)) args s 0 0 (fun _ => False)) (F0 m 0 ls [])
  have hf := hok
  unfold fX7_within at hf
  refine lv_iload_n hx hb dX7_within_0 rfl (lv_at hl 0 rfl) ?_
  refine lv_iload_n hx hb dX7_within_1 rfl (lv_at hl 1 rfl) ?_
  refine lv_icmp_lt (tgt := 14) hx hb dX7_within_2 (by decide) (fun c_1 => ?_) (fun c_1 => ?_)
  · skip
    replace hf := it_t c_1 hf
    refine lv_iconst (v := 0) hx hb dX7_within_14 (by decide) ?_
    exact grFz hx hb hr hlocks (by decide) dX7_within_15 (Option.some.inj hf)
  · skip
    replace hf := it_f c_1 hf
    refine lv_iload_n hx hb dX7_within_5 rfl (lv_at hl 0 rfl) ?_
    refine lv_iload_n hx hb dX7_within_6 rfl (lv_at hl 2 rfl) ?_
    refine lv_icmp_gt (tgt := 14) hx hb dX7_within_7 (by decide) (fun c_2 => ?_) (fun c_2 => ?_)
    · skip
      replace hf := it_t c_2 hf
      refine lv_iconst (v := 0) hx hb dX7_within_14 (by decide) ?_
      exact grFz hx hb hr hlocks (by decide) dX7_within_15 (Option.some.inj hf)
    · skip
      replace hf := it_f c_2 hf
      refine lv_iconst (v := 1) hx hb dX7_within_10 (by decide) ?_
      refine lv_goto (tgt := 15) hx hb dX7_within_11 (by decide) ?_
      exact grFz hx hb hr hlocks (by decide) dX7_within_15 (Option.some.inj hf)
abbrev rX3_tracesOf : Room := { frames := 0, cells := 0, slots := 0, locals := 0 }
theorem hX3_tracesOf : yX3_tracesOf.cls ≠ "java/lang/invoke/MethodHandle" ∧ yX3_tracesOf.cls ≠ "java/lang/invoke/VarHandle" ∧ (parseMethodDescriptor yX3_tracesOf.desc).map (fun d => d.parameters.length) = some 1 := by decide +kernel
set_option maxHeartbeats 4000000 in
set_option maxRecDepth 100000 in
theorem mX3_tracesOf (l : Launch) (a0 : Int32)  (r0 : Int32) (hok : fX3_tracesOf a0 = some r0) : Met l yX3_tracesOf (Cond.code yX3_tracesOf cX3_tracesOf 1 (some .int) :: wsG) rX3_tracesOf (va_Pc [.int a0] (fun _ => True)) (vp_Si (fun (r : Int32) => r = r0)) 0 0 (fun _ => False) := by
  refine Met.ofW (cc := cX3_tracesOf) (maxL := 1) (ret := (some .int)) (by decide) rfl ?_
  intro p e s m args below meth c s₁ B hml hv
  have hx := B.exec
  have hb := B.bytes
  have hr := B.returns
  have hts := atoms_spec (ws := (Cond.code yX3_tracesOf cX3_tracesOf 1 (some .int) :: wsG)) B.pre
  have hg : ∀ w ∈ wsG, w.before args s = true := fun w h => hts w (List.mem_cons_of_mem _ h)
  have hown : s.vm.findClass RX3 = some m.cls := findClass_of_methodNamed B.named
  have hlocks := B.notSynchronized
  obtain ⟨ha, -⟩ := hv
  refine W.eq (show entryFrame m args 1 = entryFrame m ([.int a0] : List Value).toArray 1 by rw [ha]) ?_
  have hl := lv_entry ([.int a0]) (n := 1) (Nat.le_of_ble_eq_true rfl)
  rw [lg_entry_eq]
  generalize (lg_sl ([.int a0]) ++ List.replicate (1 - (lg_sl ([.int a0])).length) Slot.unset).toArray = ls at hl ⊢
  have hl : lv_has ls 1 [(0, .int a0)] := hl
  show W p l e rX3_tracesOf s m args below meth c s.heap [] 0 0 (MQ below (vp_Si (fun (r : Int32) => r = r0)) args s 0 0 (fun _ => False)) (F0 m 0 ls [])
  have hf := hok
  unfold fX3_tracesOf at hf
  refine lv_iload_n hx hb dX3_tracesOf_0 rfl (lv_at hl 0 rfl) ?_
  by_cases c_1 : a0 = 0
  · replace hf := it_t c_1 hf
    refine lv_lookup (tgt := 28) hx hb dX3_tracesOf_1 (by decide) (by rw [c_1] <;> rfl) (by decide) ?_
    refine lv_iconst (v := 1) hx hb dX3_tracesOf_28 (by decide) ?_
    exact grFi hx hb hr hlocks dX3_tracesOf_29 (Option.some.inj hf)
  · replace hf := it_f c_1 hf
    by_cases c_2 : a0 = 1
    · replace hf := it_t c_2 hf
      refine lv_lookup (tgt := 30) hx hb dX3_tracesOf_1 (by decide) (by rw [c_2] <;> rfl) (by decide) ?_
      refine lv_bipush (v := 11) hx hb dX3_tracesOf_30 (by decide) ?_
      exact grFi hx hb hr hlocks dX3_tracesOf_32 (Option.some.inj hf)
    · replace hf := it_f c_2 hf
      refine lv_lookup (tgt := 33) hx hb dX3_tracesOf_1 (by decide) (off := 32) (by show Op.lookupswitch.offset [(0, 27), (1, 29)] _ _ = _; rw [lv_osw c_1 (by decide)]; rw [lv_osw c_2 (by decide)]; rfl) (by decide) ?_
      refine lv_bipush (v := 111) hx hb dX3_tracesOf_33 (by decide) ?_
      exact grFi hx hb hr hlocks dX3_tracesOf_35 (Option.some.inj hf)
abbrev rX7_isPart : Room := { frames := 1, cells := 0, slots := 0, locals := 22 }
theorem hX7_isPart : yX7_isPart.cls ≠ "java/lang/invoke/MethodHandle" ∧ yX7_isPart.cls ≠ "java/lang/invoke/VarHandle" ∧ (parseMethodDescriptor yX7_isPart.desc).map (fun d => d.parameters.length) = some 1 := by decide +kernel
set_option maxHeartbeats 4000000 in
set_option maxRecDepth 100000 in
theorem mX7_isPart (l : Launch) (a0 : Int32)  (r0 : Int32) (hok : fX7_isPart a0 = some r0) : Met l yX7_isPart (Cond.code yX7_isPart cX7_isPart 1 (some .boolean) :: wsG) rX7_isPart (va_Pc [.int a0] (fun _ => True)) (vp_Si (fun (r : Int32) => r = r0)) 0 0 (fun _ => False) := by
  refine Met.ofW (cc := cX7_isPart) (maxL := 1) (ret := (some .boolean)) (by decide) rfl ?_
  intro p e s m args below meth c s₁ B hml hv
  have hx := B.exec
  have hb := B.bytes
  have hr := B.returns
  have hts := atoms_spec (ws := (Cond.code yX7_isPart cX7_isPart 1 (some .boolean) :: wsG)) B.pre
  have hg : ∀ w ∈ wsG, w.before args s = true := fun w h => hts w (List.mem_cons_of_mem _ h)
  have hown : s.vm.findClass RX7 = some m.cls := findClass_of_methodNamed B.named
  have hlocks := B.notSynchronized
  obtain ⟨ha, -⟩ := hv
  refine W.eq (show entryFrame m args 1 = entryFrame m ([.int a0] : List Value).toArray 1 by rw [ha]) ?_
  have hl := lv_entry ([.int a0]) (n := 1) (Nat.le_of_ble_eq_true rfl)
  rw [lg_entry_eq]
  generalize (lg_sl ([.int a0]) ++ List.replicate (1 - (lg_sl ([.int a0])).length) Slot.unset).toArray = ls at hl ⊢
  have hl : lv_has ls 1 [(0, .int a0)] := hl
  show W p l e rX7_isPart s m args below meth c s.heap [] 0 0 (MQ below (vp_Si (fun (r : Int32) => r = r0)) args s 0 0 (fun _ => False)) (F0 m 0 ls [])
  have hf := hok
  unfold fX7_isPart at hf
  refine lv_iload_n hx hb dX7_isPart_0 rfl (lv_at hl 0 rfl) ?_
  refine lv_iconst (v := 0) hx hb dX7_isPart_1 (by decide) ?_
  refine lv_iconst (v := 1) hx hb dX7_isPart_2 (by decide) ?_
  obtain ⟨r_1, hc_2, hf⟩ := bd_ok hf
  refine gcFi 3 ⟨hx, hb, hml, hown, hts⟩ (mX7_within l a0 ((0 : Int32)) ((1 : Int32)) r_1 hc_2) (gG kw_203) kw_201 kw_202 kw_21 hX7_within ⟨rfl, rfl⟩ ⟨Nat.le_of_ble_eq_true rfl, Nat.le_of_ble_eq_true rfl⟩ ⟨Nat.zero_le _, Nat.zero_le _⟩ rfl hl.1 rfl (Nat.le_of_ble_eq_true rfl) dX7_isPart_3 ?_
  obtain ⟨hb_3, hf⟩ := gd_ok hf
  exact grFz hx hb hr hlocks (isb_ok hb_3) dX7_isPart_6 (Option.some.inj hf)
abbrev rX2_commonDivisor : Room := { frames := 0, cells := 0, slots := 0, locals := 0 }
theorem hX2_commonDivisor : yX2_commonDivisor.cls ≠ "java/lang/invoke/MethodHandle" ∧ yX2_commonDivisor.cls ≠ "java/lang/invoke/VarHandle" ∧ (parseMethodDescriptor yX2_commonDivisor.desc).map (fun d => d.parameters.length) = some 2 := by decide +kernel
set_option maxHeartbeats 4000000 in
set_option maxRecDepth 100000 in
theorem mX2_commonDivisor (l : Launch) (a0 : Int64) (a2 : Int64)  (r0 : Int64) (hok : fX2_commonDivisor a0 a2 = some r0) : Met l yX2_commonDivisor (Cond.code yX2_commonDivisor cX2_commonDivisor 11 (some .long) :: wsG) rX2_commonDivisor (va_Pc [.long a0, .long a2] (fun _ => True)) (vp_Sl (fun (r : Int64) => r = r0)) 0 0 (fun _ => False) := by
  refine Met.ofW (cc := cX2_commonDivisor) (maxL := 11) (ret := (some .long)) (by decide) rfl ?_
  intro p e s m args below meth c s₁ B hml hv
  have hx := B.exec
  have hb := B.bytes
  have hr := B.returns
  have hts := atoms_spec (ws := (Cond.code yX2_commonDivisor cX2_commonDivisor 11 (some .long) :: wsG)) B.pre
  have hg : ∀ w ∈ wsG, w.before args s = true := fun w h => hts w (List.mem_cons_of_mem _ h)
  have hown : s.vm.findClass RX2 = some m.cls := findClass_of_methodNamed B.named
  have hlocks := B.notSynchronized
  obtain ⟨ha, -⟩ := hv
  refine W.eq (show entryFrame m args 11 = entryFrame m ([.long a0, .long a2] : List Value).toArray 11 by rw [ha]) ?_
  have hl := lv_entry ([.long a0, .long a2]) (n := 11) (Nat.le_of_ble_eq_true rfl)
  rw [lg_entry_eq]
  generalize (lg_sl ([.long a0, .long a2]) ++ List.replicate (11 - (lg_sl ([.long a0, .long a2])).length) Slot.unset).toArray = ls at hl ⊢
  have hl : lv_has ls 11 [(0, .long a0), (2, .long a2)] := hl
  show W p l e rX2_commonDivisor s m args below meth c s.heap [] 0 0 (MQ below (vp_Sl (fun (r : Int64) => r = r0)) args s 0 0 (fun _ => False)) (F0 m 0 ls [])
  have hf := hok
  unfold fX2_commonDivisor at hf
  refine lv_lload_n hx hb dX2_commonDivisor_0 rfl (lv_at hl 0 rfl) ?_
  refine lv_lstore (lv' := [(4, .long a0), (0, .long a0), (2, .long a2)]) hx hb dX2_commonDivisor_1 hl (by decide) rfl (fun ls hl => ?_)
  refine lv_lload_n hx hb dX2_commonDivisor_3 rfl (lv_at hl 2 rfl) ?_
  refine lv_lstore (lv' := [(6, .long a2), (4, .long a0), (0, .long a0), (2, .long a2)]) hx hb dX2_commonDivisor_4 hl (by decide) rfl (fun ls hl => ?_)
  refine lv_iconst (v := 0) hx hb dX2_commonDivisor_6 (by decide) ?_
  refine lv_istore (lv' := [(8, .int ((0 : Int32))), (6, .long a2), (4, .long a0), (0, .long a0), (2, .long a2)]) hx hb dX2_commonDivisor_7 hl (by decide) rfl (fun ls hl => ?_)
  have hL_2 : ∀ (nf : Nat) (y4_k_1 : Int64) (y6_k_1 : Int64) (y8_k_1 : Int32) (ls : Array Slot) (t : Int64), lv_has ls 11 [(4, .long y4_k_1), (6, .long y6_k_1), (8, .int y8_k_1)] → fX2_commonDivisor_9 nf y4_k_1 y6_k_1 y8_k_1 = some t → (∀ (ls : Array Slot), lv_has ls 11 [(4, .long t)] → W p l e rX2_commonDivisor s m args below meth c s.heap [] 0 0 (MQ below (vp_Sl (fun (r : Int64) => r = r0)) args s 0 0 (fun _ => False)) (F0 m 44 ls [])) → W p l e rX2_commonDivisor s m args below meth c s.heap [] 0 0 (MQ below (vp_Sl (fun (r : Int64) => r = r0)) args s 0 0 (fun _ => False)) (F0 m 9 ls []) := by
    intro nf
    induction nf with
    | zero => intro y4_k_1 y6_k_1 y8_k_1 ls t hl hf hK'; rw [fX2_commonDivisor_9] at hf; cases hf
    | succ nf ih =>
      intro y4_k_1 y6_k_1 y8_k_1 ls t hl hf hK'
      rw [fX2_commonDivisor_9] at hf
      refine lv_iload hx hb dX2_commonDivisor_9 (lv_at hl 2 rfl) ?_
      refine lv_bipush (v := 100) hx hb dX2_commonDivisor_11 (by decide) ?_
      refine lv_icmp_ge (tgt := 44) hx hb dX2_commonDivisor_13 (by decide) (fun c_3 => ?_) (fun c_3 => ?_)
      · skip
        replace hf := it_t c_3 hf
        have ht := Option.some.inj hf
        subst ht
        exact hK' _ (lv_sub hl [0] rfl)
      · skip
        replace hf := it_f c_3 hf
        refine lv_lload hx hb dX2_commonDivisor_16 (lv_at hl 1 rfl) ?_
        refine lv_lconst (v := 0) hx hb dX2_commonDivisor_18 (by decide) ?_
        refine W.lcmp hx hb dX2_commonDivisor_19 ?_
        refine lv_if_eq (tgt := 44) hx hb dX2_commonDivisor_20 (by decide) (fun c_4 => ?_) (fun c_4 => ?_)
        · replace c_4 := lc_eq.mp c_4
          replace hf := it_t c_4 hf
          have ht := Option.some.inj hf
          subst ht
          exact hK' _ (lv_sub hl [0] rfl)
        · replace c_4 := fun q => c_4 (lc_eq.mpr q)
          replace hf := it_f c_4 hf
          refine lv_lload hx hb dX2_commonDivisor_23 (lv_at hl 0 rfl) ?_
          refine lv_lload hx hb dX2_commonDivisor_25 (lv_at hl 1 rfl) ?_
          obtain ⟨hb_5, hf⟩ := gd_ok hf
          refine lv_lrem hx hb dX2_commonDivisor_27 (nz8_ok hb_5) ?_
          refine lv_lstore (lv' := [(9, .long (y4_k_1 - y4_k_1 / y6_k_1 * y6_k_1)), (4, .long y4_k_1), (6, .long y6_k_1), (8, .int y8_k_1)]) hx hb dX2_commonDivisor_28 hl (by decide) rfl (fun ls hl => ?_)
          refine lv_lload hx hb dX2_commonDivisor_30 (lv_at hl 2 rfl) ?_
          refine lv_lstore (lv' := [(4, .long y6_k_1), (9, .long (y4_k_1 - y4_k_1 / y6_k_1 * y6_k_1)), (6, .long y6_k_1), (8, .int y8_k_1)]) hx hb dX2_commonDivisor_32 hl (by decide) rfl (fun ls hl => ?_)
          refine lv_lload hx hb dX2_commonDivisor_34 (lv_at hl 1 rfl) ?_
          refine lv_lstore (lv' := [(6, .long (y4_k_1 - y4_k_1 / y6_k_1 * y6_k_1)), (4, .long y6_k_1), (9, .long (y4_k_1 - y4_k_1 / y6_k_1 * y6_k_1)), (8, .int y8_k_1)]) hx hb dX2_commonDivisor_36 hl (by decide) rfl (fun ls hl => ?_)
          refine lv_iinc (v := y8_k_1 + 1) (lv' := [(8, .int (y8_k_1 + 1)), (6, .long (y4_k_1 - y4_k_1 / y6_k_1 * y6_k_1)), (4, .long y6_k_1), (9, .long (y4_k_1 - y4_k_1 / y6_k_1 * y6_k_1))]) hx hb dX2_commonDivisor_38 hl (k := 3) rfl rfl (by decide) rfl (fun ls hl => ?_)
          refine lv_goto (tgt := 9) hx hb dX2_commonDivisor_41 (by decide) ?_
          exact ih _ _ _ _ t (lv_sub hl [2, 1, 0] rfl) hf hK'
  obtain ⟨t_6, hq_7, hf⟩ := bd_ok hf
  refine hL_2 FU _ _ _ _ t_6 (lv_sub hl [2, 1, 0] rfl) hq_7 (fun ls hl => ?_)
  refine lv_lload hx hb dX2_commonDivisor_44 (lv_at hl 0 rfl) ?_
  refine lv_lconst (v := 0) hx hb dX2_commonDivisor_46 (by decide) ?_
  refine W.lcmp hx hb dX2_commonDivisor_47 ?_
  refine lv_if_le (tgt := 56) hx hb dX2_commonDivisor_48 (by decide) (fun c_8 => ?_) (fun c_8 => ?_)
  · replace c_8 := lc_le.mp c_8
    replace hf := it_t c_8 hf
    refine lv_lconst (v := 1) hx hb dX2_commonDivisor_56 (by decide) ?_
    exact grFl hx hb hr hlocks dX2_commonDivisor_57 (Option.some.inj hf)
  · replace c_8 := fun q => c_8 (lc_le.mpr q)
    replace hf := it_f c_8 hf
    refine lv_lload hx hb dX2_commonDivisor_51 (lv_at hl 0 rfl) ?_
    refine lv_goto (tgt := 57) hx hb dX2_commonDivisor_53 (by decide) ?_
    exact grFl hx hb hr hlocks dX2_commonDivisor_57 (Option.some.inj hf)
abbrev rJ13_compare_74951 : Room := { frames := 0, cells := 0, slots := 0, locals := 0 }
theorem hJ13_compare_74951 : yJ13_compare_74951.cls ≠ "java/lang/invoke/MethodHandle" ∧ yJ13_compare_74951.cls ≠ "java/lang/invoke/VarHandle" ∧ (parseMethodDescriptor yJ13_compare_74951.desc).map (fun d => d.parameters.length) = some 2 := by decide +kernel
set_option maxHeartbeats 4000000 in
set_option maxRecDepth 100000 in
theorem mJ13_compare_74951 (l : Launch) (a0 : Int64) (a2 : Int64)  (r0 : Int32) (hok : fJ13_compare_74951 a0 a2 = some r0) : Met l yJ13_compare_74951 (Cond.code yJ13_compare_74951 cJ13_compare_74951 4 (some .int) :: wsG) rJ13_compare_74951 (va_Pc [.long a0, .long a2] (fun _ => True)) (vp_Si (fun (r : Int32) => r = r0)) 0 0 (fun _ => False) := by
  refine Met.ofW (cc := cJ13_compare_74951) (maxL := 4) (ret := (some .int)) (by decide) rfl ?_
  intro p e s m args below meth c s₁ B hml hv
  have hx := B.exec
  have hb := B.bytes
  have hr := B.returns
  have hts := atoms_spec (ws := (Cond.code yJ13_compare_74951 cJ13_compare_74951 4 (some .int) :: wsG)) B.pre
  have hg : ∀ w ∈ wsG, w.before args s = true := fun w h => hts w (List.mem_cons_of_mem _ h)
  have hown : s.vm.findClass RJ13 = some m.cls := findClass_of_methodNamed B.named
  have hlocks := B.notSynchronized
  obtain ⟨ha, -⟩ := hv
  refine W.eq (show entryFrame m args 4 = entryFrame m ([.long a0, .long a2] : List Value).toArray 4 by rw [ha]) ?_
  have hl := lv_entry ([.long a0, .long a2]) (n := 4) (Nat.le_of_ble_eq_true rfl)
  rw [lg_entry_eq]
  generalize (lg_sl ([.long a0, .long a2]) ++ List.replicate (4 - (lg_sl ([.long a0, .long a2])).length) Slot.unset).toArray = ls at hl ⊢
  have hl : lv_has ls 4 [(0, .long a0), (2, .long a2)] := hl
  show W p l e rJ13_compare_74951 s m args below meth c s.heap [] 0 0 (MQ below (vp_Si (fun (r : Int32) => r = r0)) args s 0 0 (fun _ => False)) (F0 m 0 ls [])
  have hf := hok
  unfold fJ13_compare_74951 at hf
  refine lv_lload_n hx hb dJ13_compare_74951_0 rfl (lv_at hl 0 rfl) ?_
  refine lv_lload_n hx hb dJ13_compare_74951_1 rfl (lv_at hl 1 rfl) ?_
  refine W.lcmp hx hb dJ13_compare_74951_2 ?_
  refine lv_if_ge (tgt := 10) hx hb dJ13_compare_74951_3 (by decide) (fun c_1 => ?_) (fun c_1 => ?_)
  · replace c_1 := lc_ge.mp c_1
    replace hf := it_t c_1 hf
    refine lv_lload_n hx hb dJ13_compare_74951_10 rfl (lv_at hl 0 rfl) ?_
    refine lv_lload_n hx hb dJ13_compare_74951_11 rfl (lv_at hl 1 rfl) ?_
    refine W.lcmp hx hb dJ13_compare_74951_12 ?_
    refine lv_if_ne (tgt := 20) hx hb dJ13_compare_74951_13 (by decide) (fun c_2 => ?_) (fun c_2 => ?_)
    · replace c_2 := fun q => c_2 (lc_eq.mpr q)
      replace hf := it_f c_2 hf
      refine lv_iconst (v := 1) hx hb dJ13_compare_74951_20 (by decide) ?_
      exact grFi hx hb hr hlocks dJ13_compare_74951_21 (Option.some.inj hf)
    · replace c_2 := lc_eq.mp c_2
      replace hf := it_t c_2 hf
      refine lv_iconst (v := 0) hx hb dJ13_compare_74951_16 (by decide) ?_
      refine lv_goto (tgt := 21) hx hb dJ13_compare_74951_17 (by decide) ?_
      exact grFi hx hb hr hlocks dJ13_compare_74951_21 (Option.some.inj hf)
  · replace c_1 := fun q => c_1 (lc_ge.mpr q)
    replace hf := it_f c_1 hf
    refine lv_iconst (v := -1) hx hb dJ13_compare_74951_6 (by decide) ?_
    refine lv_goto (tgt := 21) hx hb dJ13_compare_74951_7 (by decide) ?_
    exact grFi hx hb hr hlocks dJ13_compare_74951_21 (Option.some.inj hf)
abbrev rX0_behindAnHour : Room := { frames := 0, cells := 0, slots := 0, locals := 0 }
theorem hX0_behindAnHour : yX0_behindAnHour.cls ≠ "java/lang/invoke/MethodHandle" ∧ yX0_behindAnHour.cls ≠ "java/lang/invoke/VarHandle" ∧ (parseMethodDescriptor yX0_behindAnHour.desc).map (fun d => d.parameters.length) = some 4 := by decide +kernel
set_option maxHeartbeats 4000000 in
set_option maxRecDepth 100000 in
theorem mX0_behindAnHour (l : Launch) (a0 : Int64) (a2 : Int32) (a3 : Int32) (a4 : Int32)  (r0 : Int64) (hok : fX0_behindAnHour a0 a2 a3 a4 = some r0) : Met l yX0_behindAnHour (Cond.code yX0_behindAnHour cX0_behindAnHour 7 (some .long) :: wsG) rX0_behindAnHour (va_Pc [.long a0, .int a2, .int a3, .int a4] (fun _ => True)) (vp_Sl (fun (r : Int64) => r = r0)) 0 0 (fun _ => False) := by
  refine Met.ofW (cc := cX0_behindAnHour) (maxL := 7) (ret := (some .long)) (by decide) rfl ?_
  intro p e s m args below meth c s₁ B hml hv
  have hx := B.exec
  have hb := B.bytes
  have hr := B.returns
  have hts := atoms_spec (ws := (Cond.code yX0_behindAnHour cX0_behindAnHour 7 (some .long) :: wsG)) B.pre
  have hg : ∀ w ∈ wsG, w.before args s = true := fun w h => hts w (List.mem_cons_of_mem _ h)
  have hown : s.vm.findClass RX0 = some m.cls := findClass_of_methodNamed B.named
  have hlocks := B.notSynchronized
  obtain ⟨ha, -⟩ := hv
  refine W.eq (show entryFrame m args 7 = entryFrame m ([.long a0, .int a2, .int a3, .int a4] : List Value).toArray 7 by rw [ha]) ?_
  have hl := lv_entry ([.long a0, .int a2, .int a3, .int a4]) (n := 7) (Nat.le_of_ble_eq_true rfl)
  rw [lg_entry_eq]
  generalize (lg_sl ([.long a0, .int a2, .int a3, .int a4]) ++ List.replicate (7 - (lg_sl ([.long a0, .int a2, .int a3, .int a4])).length) Slot.unset).toArray = ls at hl ⊢
  have hl : lv_has ls 7 [(0, .long a0), (2, .int a2), (3, .int a3), (4, .int a4)] := hl
  show W p l e rX0_behindAnHour s m args below meth c s.heap [] 0 0 (MQ below (vp_Sl (fun (r : Int64) => r = r0)) args s 0 0 (fun _ => False)) (F0 m 0 ls [])
  have hf := hok
  unfold fX0_behindAnHour at hf
  refine lv_lload_n hx hb dX0_behindAnHour_0 rfl (lv_at hl 0 rfl) ?_
  refine lv_iload_n hx hb dX0_behindAnHour_1 rfl (lv_at hl 2 rfl) ?_
  refine lv_i2l hx hb dX0_behindAnHour_2 rfl ?_
  refine lv_ladd hx hb dX0_behindAnHour_3 ?_
  refine lv_lstore (lv' := [(5, .long (a0 + a3.toInt64)), (0, .long a0), (2, .int a2), (3, .int a3), (4, .int a4)]) hx hb dX0_behindAnHour_4 hl (by decide) rfl (fun ls hl => ?_)
  refine lv_iload_n hx hb dX0_behindAnHour_6 rfl (lv_at hl 2 rfl) ?_
  refine lv_iconst (v := 1) hx hb dX0_behindAnHour_7 (by decide) ?_
  refine lv_icmp_ge (tgt := 16) hx hb dX0_behindAnHour_8 (by decide) (fun c_1 => ?_) (fun c_1 => ?_)
  · skip
    replace hf := it_t c_1 hf
    refine lv_lload hx hb dX0_behindAnHour_16 (lv_at hl 0 rfl) ?_
    refine lv_lload hx hb dX0_behindAnHour_18 (lv_at hl 0 rfl) ?_
    refine lv_iload hx hb dX0_behindAnHour_20 (lv_at hl 4 rfl) ?_
    refine lv_i2l hx hb dX0_behindAnHour_22 rfl ?_
    refine lv_lmul hx hb dX0_behindAnHour_23 ?_
    refine lv_iload_n hx hb dX0_behindAnHour_24 rfl (lv_at hl 2 rfl) ?_
    refine lv_i2l hx hb dX0_behindAnHour_25 rfl ?_
    refine lv_ladd hx hb dX0_behindAnHour_26 ?_
    refine lv_lconst (v := 1) hx hb dX0_behindAnHour_27 (by decide) ?_
    refine lv_lsub hx hb dX0_behindAnHour_28 ?_
    refine lv_iload_n hx hb dX0_behindAnHour_29 rfl (lv_at hl 2 rfl) ?_
    refine lv_i2l hx hb dX0_behindAnHour_30 rfl ?_
    obtain ⟨hb_2, hf⟩ := gd_ok hf
    refine lv_ldiv hx hb dX0_behindAnHour_31 (nz8_ok hb_2) ?_
    refine lv_lsub hx hb dX0_behindAnHour_32 ?_
    exact grFl hx hb hr hlocks dX0_behindAnHour_33 (Option.some.inj hf)
  · skip
    replace hf := it_f c_1 hf
    refine lv_lload hx hb dX0_behindAnHour_11 (lv_at hl 0 rfl) ?_
    refine lv_goto (tgt := 33) hx hb dX0_behindAnHour_13 (by decide) ?_
    exact grFl hx hb hr hlocks dX0_behindAnHour_33 (Option.some.inj hf)
abbrev rX0_tellSteady : Room := { frames := 1, cells := 0, slots := 0, locals := 26 }
theorem hX0_tellSteady : yX0_tellSteady.cls ≠ "java/lang/invoke/MethodHandle" ∧ yX0_tellSteady.cls ≠ "java/lang/invoke/VarHandle" ∧ (parseMethodDescriptor yX0_tellSteady.desc).map (fun d => d.parameters.length) = some 5 := by decide +kernel
set_option maxHeartbeats 4000000 in
set_option maxRecDepth 100000 in
theorem mX0_tellSteady (l : Launch) (a0 : Int32) (a1 : Int32) (a2 : Int32) (a3 : Int32) (a4 : Int32)  (r0 : Int32) (hok : fX0_tellSteady a0 a1 a2 a3 a4 = some r0) : Met l yX0_tellSteady (Cond.code yX0_tellSteady cX0_tellSteady 10 (some .int) :: wsG) rX0_tellSteady (va_Pc [.int a0, .int a1, .int a2, .int a3, .int a4] (fun _ => True)) (vp_Si (fun (r : Int32) => r = r0)) 0 0 (fun _ => False) := by
  refine Met.ofW (cc := cX0_tellSteady) (maxL := 10) (ret := (some .int)) (by decide) rfl ?_
  intro p e s m args below meth c s₁ B hml hv
  have hx := B.exec
  have hb := B.bytes
  have hr := B.returns
  have hts := atoms_spec (ws := (Cond.code yX0_tellSteady cX0_tellSteady 10 (some .int) :: wsG)) B.pre
  have hg : ∀ w ∈ wsG, w.before args s = true := fun w h => hts w (List.mem_cons_of_mem _ h)
  have hown : s.vm.findClass RX0 = some m.cls := findClass_of_methodNamed B.named
  have hlocks := B.notSynchronized
  obtain ⟨ha, -⟩ := hv
  refine W.eq (show entryFrame m args 10 = entryFrame m ([.int a0, .int a1, .int a2, .int a3, .int a4] : List Value).toArray 10 by rw [ha]) ?_
  have hl := lv_entry ([.int a0, .int a1, .int a2, .int a3, .int a4]) (n := 10) (Nat.le_of_ble_eq_true rfl)
  rw [lg_entry_eq]
  generalize (lg_sl ([.int a0, .int a1, .int a2, .int a3, .int a4]) ++ List.replicate (10 - (lg_sl ([.int a0, .int a1, .int a2, .int a3, .int a4])).length) Slot.unset).toArray = ls at hl ⊢
  have hl : lv_has ls 10 [(0, .int a0), (1, .int a1), (2, .int a2), (3, .int a3), (4, .int a4)] := hl
  show W p l e rX0_tellSteady s m args below meth c s.heap [] 0 0 (MQ below (vp_Si (fun (r : Int32) => r = r0)) args s 0 0 (fun _ => False)) (F0 m 0 ls [])
  have hf := hok
  unfold fX0_tellSteady at hf
  refine lv_iload_n hx hb dX0_tellSteady_0 rfl (lv_at hl 1 rfl) ?_
  refine lv_i2l hx hb dX0_tellSteady_1 rfl ?_
  refine lv_iload_n hx hb dX0_tellSteady_2 rfl (lv_at hl 0 rfl) ?_
  refine lv_iload_n hx hb dX0_tellSteady_3 rfl (lv_at hl 2 rfl) ?_
  refine lv_iload_n hx hb dX0_tellSteady_4 rfl (lv_at hl 3 rfl) ?_
  obtain ⟨r_1, hc_2, hf⟩ := bd_ok hf
  refine gcFl 4 ⟨hx, hb, hml, hown, hts⟩ (mX0_behindAnHour l a1.toInt64 a0 a2 a3 r_1 hc_2) (gG kw_407) kw_405 kw_406 kw_31 hX0_behindAnHour ⟨rfl, rfl⟩ ⟨Nat.le_of_ble_eq_true rfl, Nat.le_of_ble_eq_true rfl⟩ ⟨Nat.zero_le _, Nat.zero_le _⟩ rfl hl.1 rfl (Nat.le_of_ble_eq_true rfl) dX0_tellSteady_5 ?_
  refine lv_lstore (lv' := [(5, .long r_1), (0, .int a0), (1, .int a1), (2, .int a2), (3, .int a3), (4, .int a4)]) hx hb dX0_tellSteady_8 hl (by decide) rfl (fun ls hl => ?_)
  refine lv_iconst (v := 1) hx hb dX0_tellSteady_10 (by decide) ?_
  refine lv_istore (lv' := [(7, .int ((1 : Int32))), (5, .long r_1), (0, .int a0), (1, .int a1), (2, .int a2), (3, .int a3), (4, .int a4)]) hx hb dX0_tellSteady_11 hl (by decide) rfl (fun ls hl => ?_)
  have hL_4 : ∀ (nf : Nat) (y5_k_3 : Int64) (y7_k_3 : Int32) (ls : Array Slot), lv_has ls 10 [(0, .int a0), (2, .int a2), (3, .int a3), (4, .int a4), (5, .long y5_k_3), (7, .int y7_k_3)] → fX0_tellSteady_13 a0 a2 a3 a4 nf y5_k_3 y7_k_3 = some r0 → W p l e rX0_tellSteady s m args below meth c s.heap [] 0 0 (MQ below (vp_Si (fun (r : Int32) => r = r0)) args s 0 0 (fun _ => False)) (F0 m 13 ls []) := by
    intro nf
    induction nf with
    | zero => intro y5_k_3 y7_k_3 ls hl hf; rw [fX0_tellSteady_13] at hf; cases hf
    | succ nf ih =>
      intro y5_k_3 y7_k_3 ls hl hf
      rw [fX0_tellSteady_13] at hf
      refine lv_iload hx hb dX0_tellSteady_13 (lv_at hl 5 rfl) ?_
      refine lv_sipush (v := 5000) hx hb dX0_tellSteady_15 (by decide) ?_
      refine lv_icmp_gt (tgt := 63) hx hb dX0_tellSteady_18 (by decide) (fun c_5 => ?_) (fun c_5 => ?_)
      · skip
        replace hf := it_t c_5 hf
        refine lv_bipush (v := -9) hx hb dX0_tellSteady_63 (by decide) ?_
        exact grFi hx hb hr hlocks dX0_tellSteady_65 (Option.some.inj hf)
      · skip
        replace hf := it_f c_5 hf
        refine lv_lload hx hb dX0_tellSteady_21 (lv_at hl 4 rfl) ?_
        refine lv_iload_n hx hb dX0_tellSteady_23 rfl (lv_at hl 0 rfl) ?_
        refine lv_iload_n hx hb dX0_tellSteady_24 rfl (lv_at hl 1 rfl) ?_
        refine lv_iload_n hx hb dX0_tellSteady_25 rfl (lv_at hl 2 rfl) ?_
        obtain ⟨r_6, hc_7, hf⟩ := bd_ok hf
        refine gcFl 4 ⟨hx, hb, hml, hown, hts⟩ (mX0_behindAnHour l y5_k_3 a0 a2 a3 r_6 hc_7) (gG kw_407) kw_405 kw_406 kw_31 hX0_behindAnHour ⟨rfl, rfl⟩ ⟨Nat.le_of_ble_eq_true rfl, Nat.le_of_ble_eq_true rfl⟩ ⟨Nat.zero_le _, Nat.zero_le _⟩ rfl hl.1 rfl (Nat.le_of_ble_eq_true rfl) dX0_tellSteady_26 ?_
        refine lv_lstore (lv' := [(8, .long r_6), (0, .int a0), (2, .int a2), (3, .int a3), (4, .int a4), (5, .long y5_k_3), (7, .int y7_k_3)]) hx hb dX0_tellSteady_29 hl (by decide) rfl (fun ls hl => ?_)
        refine lv_lload hx hb dX0_tellSteady_31 (lv_at hl 0 rfl) ?_
        refine lv_lload hx hb dX0_tellSteady_33 (lv_at hl 5 rfl) ?_
        refine W.lcmp hx hb dX0_tellSteady_35 ?_
        refine lv_if_ne (tgt := 53) hx hb dX0_tellSteady_36 (by decide) (fun c_8 => ?_) (fun c_8 => ?_)
        · replace c_8 := fun q => c_8 (lc_eq.mpr q)
          replace hf := it_f c_8 hf
          refine lv_lload hx hb dX0_tellSteady_53 (lv_at hl 0 rfl) ?_
          refine lv_lstore (lv' := [(5, .long r_6), (8, .long r_6), (0, .int a0), (2, .int a2), (3, .int a3), (4, .int a4), (7, .int y7_k_3)]) hx hb dX0_tellSteady_55 hl (by decide) rfl (fun ls hl => ?_)
          refine lv_iinc (v := y7_k_3 + 1) (lv' := [(7, .int (y7_k_3 + 1)), (5, .long r_6), (8, .long r_6), (0, .int a0), (2, .int a2), (3, .int a3), (4, .int a4)]) hx hb dX0_tellSteady_57 hl (k := 6) rfl rfl (by decide) rfl (fun ls hl => ?_)
          refine lv_goto (tgt := 13) hx hb dX0_tellSteady_60 (by decide) ?_
          exact ih _ _ _ (lv_sub hl [3, 4, 5, 6, 1, 0] rfl) hf
        · replace c_8 := lc_eq.mp c_8
          replace hf := it_t c_8 hf
          refine lv_iload hx hb dX0_tellSteady_39 (lv_at hl 4 rfl) ?_
          refine lv_if_eq (tgt := 49) hx hb dX0_tellSteady_41 (by decide) (fun c_9 => ?_) (fun c_9 => ?_)
          · skip
            replace hf := it_t c_9 hf
            refine lv_lload hx hb dX0_tellSteady_49 (lv_at hl 5 rfl) ?_
            refine lv_l2i hx hb dX0_tellSteady_51 rfl ?_
            exact grFi hx hb hr hlocks dX0_tellSteady_52 (Option.some.inj hf)
          · skip
            replace hf := it_f c_9 hf
            refine lv_iload hx hb dX0_tellSteady_44 (lv_at hl 6 rfl) ?_
            refine lv_goto (tgt := 52) hx hb dX0_tellSteady_46 (by decide) ?_
            exact grFi hx hb hr hlocks dX0_tellSteady_52 (Option.some.inj hf)
  exact hL_4 FU _ _ _ (lv_sub hl [2, 4, 5, 6, 1, 0] rfl) hf
abbrev rX8_in : Room := { frames := 0, cells := 0, slots := 0, locals := 0 }
theorem hX8_in : yX8_in.cls ≠ "java/lang/invoke/MethodHandle" ∧ yX8_in.cls ≠ "java/lang/invoke/VarHandle" ∧ (parseMethodDescriptor yX8_in.desc).map (fun d => d.parameters.length) = some 3 := by decide +kernel
set_option maxHeartbeats 4000000 in
set_option maxRecDepth 100000 in
theorem mX8_in (l : Launch) (a0 : Int64) (a2 : Int64) (a4 : Int64)  (r0 : Int32) (hok : fX8_in a0 a2 a4 = some r0) : Met l yX8_in (Cond.code yX8_in cX8_in 6 (some .boolean) :: wsG) rX8_in (va_Pc [.long a0, .long a2, .long a4] (fun _ => True)) (vp_Si (fun (r : Int32) => r = r0)) 0 0 (fun _ => False) := by
  refine Met.ofW (cc := cX8_in) (maxL := 6) (ret := (some .boolean)) (by decide) rfl ?_
  intro p e s m args below meth c s₁ B hml hv
  have hx := B.exec
  have hb := B.bytes
  have hr := B.returns
  have hts := atoms_spec (ws := (Cond.code yX8_in cX8_in 6 (some .boolean) :: wsG)) B.pre
  have hg : ∀ w ∈ wsG, w.before args s = true := fun w h => hts w (List.mem_cons_of_mem _ h)
  have hown : s.vm.findClass RX8 = some m.cls := findClass_of_methodNamed B.named
  have hlocks := B.notSynchronized
  obtain ⟨ha, -⟩ := hv
  refine W.eq (show entryFrame m args 6 = entryFrame m ([.long a0, .long a2, .long a4] : List Value).toArray 6 by rw [ha]) ?_
  have hl := lv_entry ([.long a0, .long a2, .long a4]) (n := 6) (Nat.le_of_ble_eq_true rfl)
  rw [lg_entry_eq]
  generalize (lg_sl ([.long a0, .long a2, .long a4]) ++ List.replicate (6 - (lg_sl ([.long a0, .long a2, .long a4])).length) Slot.unset).toArray = ls at hl ⊢
  have hl : lv_has ls 6 [(0, .long a0), (2, .long a2), (4, .long a4)] := hl
  show W p l e rX8_in s m args below meth c s.heap [] 0 0 (MQ below (vp_Si (fun (r : Int32) => r = r0)) args s 0 0 (fun _ => False)) (F0 m 0 ls [])
  have hf := hok
  unfold fX8_in at hf
  refine lv_lload_n hx hb dX8_in_0 rfl (lv_at hl 0 rfl) ?_
  refine lv_lload_n hx hb dX8_in_1 rfl (lv_at hl 1 rfl) ?_
  refine W.lcmp hx hb dX8_in_2 ?_
  refine lv_if_lt (tgt := 17) hx hb dX8_in_3 (by decide) (fun c_1 => ?_) (fun c_1 => ?_)
  · replace c_1 := lc_lt.mp c_1
    replace hf := it_t c_1 hf
    refine lv_iconst (v := 0) hx hb dX8_in_17 (by decide) ?_
    exact grFz hx hb hr hlocks (by decide) dX8_in_18 (Option.some.inj hf)
  · replace c_1 := fun q => c_1 (lc_lt.mpr q)
    replace hf := it_f c_1 hf
    refine lv_lload_n hx hb dX8_in_6 rfl (lv_at hl 0 rfl) ?_
    refine lv_lload hx hb dX8_in_7 (lv_at hl 2 rfl) ?_
    refine W.lcmp hx hb dX8_in_9 ?_
    refine lv_if_gt (tgt := 17) hx hb dX8_in_10 (by decide) (fun c_2 => ?_) (fun c_2 => ?_)
    · replace c_2 := lc_gt.mp c_2
      replace hf := it_t c_2 hf
      refine lv_iconst (v := 0) hx hb dX8_in_17 (by decide) ?_
      exact grFz hx hb hr hlocks (by decide) dX8_in_18 (Option.some.inj hf)
    · replace c_2 := fun q => c_2 (lc_gt.mpr q)
      replace hf := it_f c_2 hf
      refine lv_iconst (v := 1) hx hb dX8_in_13 (by decide) ?_
      refine lv_goto (tgt := 18) hx hb dX8_in_14 (by decide) ?_
      exact grFz hx hb hr hlocks (by decide) dX8_in_18 (Option.some.inj hf)
abbrev rX8_common : Room := { frames := 0, cells := 0, slots := 0, locals := 0 }
theorem hX8_common : yX8_common.cls ≠ "java/lang/invoke/MethodHandle" ∧ yX8_common.cls ≠ "java/lang/invoke/VarHandle" ∧ (parseMethodDescriptor yX8_common.desc).map (fun d => d.parameters.length) = some 2 := by decide +kernel
set_option maxHeartbeats 4000000 in
set_option maxRecDepth 100000 in
theorem mX8_common (l : Launch) (a0 : Int64) (a2 : Int64)  (r0 : Int64) (hok : fX8_common a0 a2 = some r0) : Met l yX8_common (Cond.code yX8_common cX8_common 10 (some .long) :: wsG) rX8_common (va_Pc [.long a0, .long a2] (fun _ => True)) (vp_Sl (fun (r : Int64) => r = r0)) 0 0 (fun _ => False) := by
  refine Met.ofW (cc := cX8_common) (maxL := 10) (ret := (some .long)) (by decide) rfl ?_
  intro p e s m args below meth c s₁ B hml hv
  have hx := B.exec
  have hb := B.bytes
  have hr := B.returns
  have hts := atoms_spec (ws := (Cond.code yX8_common cX8_common 10 (some .long) :: wsG)) B.pre
  have hg : ∀ w ∈ wsG, w.before args s = true := fun w h => hts w (List.mem_cons_of_mem _ h)
  have hown : s.vm.findClass RX8 = some m.cls := findClass_of_methodNamed B.named
  have hlocks := B.notSynchronized
  obtain ⟨ha, -⟩ := hv
  refine W.eq (show entryFrame m args 10 = entryFrame m ([.long a0, .long a2] : List Value).toArray 10 by rw [ha]) ?_
  have hl := lv_entry ([.long a0, .long a2]) (n := 10) (Nat.le_of_ble_eq_true rfl)
  rw [lg_entry_eq]
  generalize (lg_sl ([.long a0, .long a2]) ++ List.replicate (10 - (lg_sl ([.long a0, .long a2])).length) Slot.unset).toArray = ls at hl ⊢
  have hl : lv_has ls 10 [(0, .long a0), (2, .long a2)] := hl
  show W p l e rX8_common s m args below meth c s.heap [] 0 0 (MQ below (vp_Sl (fun (r : Int64) => r = r0)) args s 0 0 (fun _ => False)) (F0 m 0 ls [])
  have hf := hok
  unfold fX8_common at hf
  refine lv_lload_n hx hb dX8_common_0 rfl (lv_at hl 0 rfl) ?_
  refine lv_lconst (v := 0) hx hb dX8_common_1 (by decide) ?_
  refine W.lcmp hx hb dX8_common_2 ?_
  obtain ⟨t_1, hq_2, hf⟩ := bd_ok hf
  have hJ_3 : ∀ (ls : Array Slot), lv_has ls 10 [(2, .long a2)] → W p l e rX8_common s m args below meth c s.heap [] 0 0 (MQ below (vp_Sl (fun (r : Int64) => r = r0)) args s 0 0 (fun _ => False)) (F0 m 12 ls [.long t_1]) := by
    intro ls hl
    refine lv_lstore (lv' := [(4, .long t_1), (2, .long a2)]) hx hb dX8_common_12 hl (by decide) rfl (fun ls hl => ?_)
    refine lv_lload_n hx hb dX8_common_14 rfl (lv_at hl 1 rfl) ?_
    refine lv_lstore (lv' := [(6, .long a2), (4, .long t_1), (2, .long a2)]) hx hb dX8_common_15 hl (by decide) rfl (fun ls hl => ?_)
    have hL_5 : ∀ (nf : Nat) (y4_k_4 : Int64) (y6_k_4 : Int64) (ls : Array Slot) (t : Int64), lv_has ls 10 [(4, .long y4_k_4), (6, .long y6_k_4)] → fX8_common_17 nf y4_k_4 y6_k_4 = some t → (∀ (ls : Array Slot), lv_has ls 10 [(4, .long t)] → W p l e rX8_common s m args below meth c s.heap [] 0 0 (MQ below (vp_Sl (fun (r : Int64) => r = r0)) args s 0 0 (fun _ => False)) (F0 m 42 ls [])) → W p l e rX8_common s m args below meth c s.heap [] 0 0 (MQ below (vp_Sl (fun (r : Int64) => r = r0)) args s 0 0 (fun _ => False)) (F0 m 17 ls []) := by
      intro nf
      induction nf with
      | zero => intro y4_k_4 y6_k_4 ls t hl hf hK'; rw [fX8_common_17] at hf; cases hf
      | succ nf ih =>
        intro y4_k_4 y6_k_4 ls t hl hf hK'
        rw [fX8_common_17] at hf
        refine lv_lload hx hb dX8_common_17 (lv_at hl 1 rfl) ?_
        refine lv_lconst (v := 0) hx hb dX8_common_19 (by decide) ?_
        refine W.lcmp hx hb dX8_common_20 ?_
        refine lv_if_eq (tgt := 42) hx hb dX8_common_21 (by decide) (fun c_6 => ?_) (fun c_6 => ?_)
        · replace c_6 := lc_eq.mp c_6
          replace hf := it_t c_6 hf
          have ht := Option.some.inj hf
          subst ht
          exact hK' _ (lv_sub hl [0] rfl)
        · replace c_6 := fun q => c_6 (lc_eq.mpr q)
          replace hf := it_f c_6 hf
          refine lv_lload hx hb dX8_common_24 (lv_at hl 0 rfl) ?_
          refine lv_lload hx hb dX8_common_26 (lv_at hl 1 rfl) ?_
          obtain ⟨hb_7, hf⟩ := gd_ok hf
          refine lv_lrem hx hb dX8_common_28 (nz8_ok hb_7) ?_
          refine lv_lstore (lv' := [(8, .long (y4_k_4 - y4_k_4 / y6_k_4 * y6_k_4)), (4, .long y4_k_4), (6, .long y6_k_4)]) hx hb dX8_common_29 hl (by decide) rfl (fun ls hl => ?_)
          refine lv_lload hx hb dX8_common_31 (lv_at hl 2 rfl) ?_
          refine lv_lstore (lv' := [(4, .long y6_k_4), (8, .long (y4_k_4 - y4_k_4 / y6_k_4 * y6_k_4)), (6, .long y6_k_4)]) hx hb dX8_common_33 hl (by decide) rfl (fun ls hl => ?_)
          refine lv_lload hx hb dX8_common_35 (lv_at hl 1 rfl) ?_
          refine lv_lstore (lv' := [(6, .long (y4_k_4 - y4_k_4 / y6_k_4 * y6_k_4)), (4, .long y6_k_4), (8, .long (y4_k_4 - y4_k_4 / y6_k_4 * y6_k_4))]) hx hb dX8_common_37 hl (by decide) rfl (fun ls hl => ?_)
          refine lv_goto (tgt := 17) hx hb dX8_common_39 (by decide) ?_
          exact ih _ _ _ t (lv_sub hl [1, 0] rfl) hf hK'
    obtain ⟨t_8, hq_9, hf⟩ := bd_ok hf
    refine hL_5 FU _ _ _ t_8 (lv_sub hl [1, 0] rfl) hq_9 (fun ls hl => ?_)
    refine lv_lload hx hb dX8_common_42 (lv_at hl 0 rfl) ?_
    exact grFl hx hb hr hlocks dX8_common_44 (Option.some.inj hf)
  clear hf
  have hf := hq_2
  refine lv_if_ge (tgt := 11) hx hb dX8_common_3 (by decide) (fun c_10 => ?_) (fun c_10 => ?_)
  · replace c_10 := lc_ge.mp c_10
    replace hf := it_t c_10 hf
    refine lv_lload_n hx hb dX8_common_11 rfl (lv_at hl 0 rfl) ?_
    have ht := Option.some.inj hf
    subst ht
    exact hJ_3 _ (lv_sub hl [1] rfl)
  · replace c_10 := fun q => c_10 (lc_ge.mpr q)
    replace hf := it_f c_10 hf
    refine lv_lload_n hx hb dX8_common_6 rfl (lv_at hl 0 rfl) ?_
    refine lv_lneg hx hb dX8_common_7 ?_
    refine lv_goto (tgt := 12) hx hb dX8_common_8 (by decide) ?_
    have ht := Option.some.inj hf
    subst ht
    exact hJ_3 _ (lv_sub hl [1] rfl)
abbrev rX8_hour : Room := { frames := 0, cells := 0, slots := 0, locals := 0 }
theorem hX8_hour : yX8_hour.cls ≠ "java/lang/invoke/MethodHandle" ∧ yX8_hour.cls ≠ "java/lang/invoke/VarHandle" ∧ (parseMethodDescriptor yX8_hour.desc).map (fun d => d.parameters.length) = some 4 := by decide +kernel
set_option maxHeartbeats 4000000 in
set_option maxRecDepth 100000 in
theorem mX8_hour (l : Launch) (a0 : Int64) (a2 : Int32) (a3 : Int32) (a4 : Int32)  (r0 : Int64) (hok : fX8_hour a0 a2 a3 a4 = some r0) : Met l yX8_hour (Cond.code yX8_hour cX8_hour 7 (some .long) :: wsG) rX8_hour (va_Pc [.long a0, .int a2, .int a3, .int a4] (fun _ => True)) (vp_Sl (fun (r : Int64) => r = r0)) 0 0 (fun _ => False) := by
  refine Met.ofW (cc := cX8_hour) (maxL := 7) (ret := (some .long)) (by decide) rfl ?_
  intro p e s m args below meth c s₁ B hml hv
  have hx := B.exec
  have hb := B.bytes
  have hr := B.returns
  have hts := atoms_spec (ws := (Cond.code yX8_hour cX8_hour 7 (some .long) :: wsG)) B.pre
  have hg : ∀ w ∈ wsG, w.before args s = true := fun w h => hts w (List.mem_cons_of_mem _ h)
  have hown : s.vm.findClass RX8 = some m.cls := findClass_of_methodNamed B.named
  have hlocks := B.notSynchronized
  obtain ⟨ha, -⟩ := hv
  refine W.eq (show entryFrame m args 7 = entryFrame m ([.long a0, .int a2, .int a3, .int a4] : List Value).toArray 7 by rw [ha]) ?_
  have hl := lv_entry ([.long a0, .int a2, .int a3, .int a4]) (n := 7) (Nat.le_of_ble_eq_true rfl)
  rw [lg_entry_eq]
  generalize (lg_sl ([.long a0, .int a2, .int a3, .int a4]) ++ List.replicate (7 - (lg_sl ([.long a0, .int a2, .int a3, .int a4])).length) Slot.unset).toArray = ls at hl ⊢
  have hl : lv_has ls 7 [(0, .long a0), (2, .int a2), (3, .int a3), (4, .int a4)] := hl
  show W p l e rX8_hour s m args below meth c s.heap [] 0 0 (MQ below (vp_Sl (fun (r : Int64) => r = r0)) args s 0 0 (fun _ => False)) (F0 m 0 ls [])
  have hf := hok
  unfold fX8_hour at hf
  refine lv_lload_n hx hb dX8_hour_0 rfl (lv_at hl 0 rfl) ?_
  refine lv_iload_n hx hb dX8_hour_1 rfl (lv_at hl 2 rfl) ?_
  refine lv_i2l hx hb dX8_hour_2 rfl ?_
  refine lv_ladd hx hb dX8_hour_3 ?_
  refine lv_lstore (lv' := [(5, .long (a0 + a3.toInt64)), (0, .long a0), (2, .int a2), (3, .int a3), (4, .int a4)]) hx hb dX8_hour_4 hl (by decide) rfl (fun ls hl => ?_)
  refine lv_lload hx hb dX8_hour_6 (lv_at hl 0 rfl) ?_
  refine lv_lload hx hb dX8_hour_8 (lv_at hl 0 rfl) ?_
  refine lv_iload hx hb dX8_hour_10 (lv_at hl 4 rfl) ?_
  refine lv_i2l hx hb dX8_hour_12 rfl ?_
  refine lv_lmul hx hb dX8_hour_13 ?_
  refine lv_iload_n hx hb dX8_hour_14 rfl (lv_at hl 2 rfl) ?_
  refine lv_i2l hx hb dX8_hour_15 rfl ?_
  refine lv_ladd hx hb dX8_hour_16 ?_
  refine lv_lconst (v := 1) hx hb dX8_hour_17 (by decide) ?_
  refine lv_lsub hx hb dX8_hour_18 ?_
  refine lv_iload_n hx hb dX8_hour_19 rfl (lv_at hl 2 rfl) ?_
  refine lv_i2l hx hb dX8_hour_20 rfl ?_
  obtain ⟨hb_1, hf⟩ := gd_ok hf
  refine lv_ldiv hx hb dX8_hour_21 (nz8_ok hb_1) ?_
  refine lv_lsub hx hb dX8_hour_22 ?_
  exact grFl hx hb hr hlocks dX8_hour_23 (Option.some.inj hf)
