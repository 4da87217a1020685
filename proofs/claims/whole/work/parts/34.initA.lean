theorem nd1 : ∀ j, j < 8 → defaultValue (tyX1 j) = vp_V [.null, .null, .null, .null, .null, .null, .null, .null] j := by
  intro j hj
  rcases (show j = 0 ∨ j = 1 ∨ j = 2 ∨ j = 3 ∨ j = 4 ∨ j = 5 ∨ j = 6 ∨ j = 7 by omega) with rfl | rfl | rfl | rfl | rfl | rfl | rfl | rfl <;> rfl
theorem nd2 : ∀ j, j < 2 → defaultValue (tyX2 j) = vp_V [.long 0, .long 0] j := by
  intro j hj
  rcases (show j = 0 ∨ j = 1 by omega) with rfl | rfl <;> rfl
theorem nd3 : ∀ j, j < 2 → defaultValue (tyX3 j) = vp_V [.null, .null] j := by
  intro j hj
  rcases (show j = 0 ∨ j = 1 by omega) with rfl | rfl <;> rfl
theorem nd4 : ∀ j, j < 3 → defaultValue (tyX4 j) = vp_V [.null, .null, .int 0] j := by
  intro j hj
  rcases (show j = 0 ∨ j = 1 ∨ j = 2 by omega) with rfl | rfl | rfl <;> rfl
theorem nd5 : ∀ j, j < 5 → defaultValue (tyX5 j) = vp_V [.null, .null, .null, .null, .int 0] j := by
  intro j hj
  rcases (show j = 0 ∨ j = 1 ∨ j = 2 ∨ j = 3 ∨ j = 4 by omega) with rfl | rfl | rfl | rfl | rfl <;> rfl
theorem nd6 : ∀ j, j < 2 → defaultValue (tyX6 j) = vp_V [.null, .null] j := by
  intro j hj
  rcases (show j = 0 ∨ j = 1 by omega) with rfl | rfl <;> rfl
theorem nd7 : ∀ j, j < 7 → defaultValue (tyX7 j) = vp_V [.null, .null, .null, .null, .null, .null, .long 0] j := by
  intro j hj
  rcases (show j = 0 ∨ j = 1 ∨ j = 2 ∨ j = 3 ∨ j = 4 ∨ j = 5 ∨ j = 6 by omega) with rfl | rfl | rfl | rfl | rfl | rfl | rfl <;> rfl
theorem nd8 : ∀ j, j < 20 → defaultValue (tyX8 j) = vp_V [.int 0, .long 0, .int 0, .null, .null, .null, .null, .null, .null, .null, .null, .null, .null, .null, .null, .null, .null, .int 0, .null, .null] j := by
  intro j hj
  rcases (show j = 0 ∨ j = 1 ∨ j = 2 ∨ j = 3 ∨ j = 4 ∨ j = 5 ∨ j = 6 ∨ j = 7 ∨ j = 8 ∨ j = 9 ∨ j = 10 ∨ j = 11 ∨ j = 12 ∨ j = 13 ∨ j = 14 ∨ j = 15 ∨ j = 16 ∨ j = 17 ∨ j = 18 ∨ j = 19 by omega) with rfl | rfl | rfl | rfl | rfl | rfl | rfl | rfl | rfl | rfl | rfl | rfl | rfl | rfl | rfl | rfl | rfl | rfl | rfl | rfl <;> rfl
set_option maxHeartbeats 4000000 in
set_option maxRecDepth 100000 in
theorem mX2_init (l : Launch) (D : va_G) (cs : Nat → ClassId) (b0 : Nat) (X : va_W) (h0 : Nat) : Met l yX2_init (Cond.code yX2_init cX2_init 1 none :: wsG) ({ frames := 1, cells := 0, slots := 0, locals := 12 } : Room) (va_Pc [.ref h0] (kI D cs b0 (X ++ [(h0, .inr (1, [.long 0, .long 0]))]))) (va_Qv (fun (_ : Unit) => True) (kB D b0 (fun (u : Unit) => X ++ [(h0, .inr (1, [.long 0, .long 1]))])) (kA b0)) 0 0 (kA b0) := by
  refine Met.ofW (cc := cX2_init) (maxL := 1) (ret := none) (by decide) rfl ?_
  intro p e s m args below meth c s₁ B hml hv
  have hx := B.exec
  have hb := B.bytes
  have hr := B.returns
  have hts := atoms_spec (ws := (Cond.code yX2_init cX2_init 1 none :: wsG)) B.pre
  have hg : ∀ w ∈ wsG, w.before args s = true := fun w h => hts w (List.mem_cons_of_mem _ h)
  have hown : s.vm.findClass RX2 = some m.cls := findClass_of_methodNamed B.named
  have hlocks := B.notSynchronized
  have hin : meth.name = "<init>" := (name_of_methodNamed B.named B.method).1
  obtain ⟨ha, hP, hD, hC⟩ := hv
  have hS : va_S (kA b0) s.heap s.heap [] := va_S.rf
  refine W.eq (show entryFrame m args 1 = entryFrame m ([.ref h0] : List Value).toArray 1 by rw [ha]) ?_
  have hl := lv_entry ([.ref h0]) (n := 1) (Nat.le_of_ble_eq_true rfl)
  rw [lg_entry_eq]
  generalize (lg_sl ([.ref h0]) ++ List.replicate (1 - (lg_sl ([.ref h0])).length) Slot.unset).toArray = ls at hl ⊢
  have hl : lv_has ls 1 [(0, .ref h0)] := hl
  show W p l e ({ frames := 1, cells := 0, slots := 0, locals := 12 } : Room) s m args below meth c s.heap [] 0 0 (MQ below (va_Qv (fun (_ : Unit) => True) (kB D b0 (fun (u : Unit) => X ++ [(h0, .inr (1, [.long 0, .long 1]))])) (kA b0)) args s 0 0 (kA b0)) (F0 m 0 ls [])
  refine lv_aload_n hx hb dX2_init_0 rfl (lv_at hl 0 rfl) ?_
  refine W.objInit hx hb hown (hg _ kw_100) (hg _ kw_38) (hg _ kw_39) rfl (by rw [hml]; exact hl.1) rfl dX2_init_1 (Nat.le_of_ble_eq_true rfl) (Nat.le_of_ble_eq_true rfl) ?_
  refine W.eq (g2 := F0 m 4 ls []) rfl ?_
  refine lv_aload_n hx hb dX2_init_4 rfl (lv_at hl 0 rfl) ?_
  refine lv_lconst (v := 1) hx hb dX2_init_5 (by decide) ?_
  refine k_put (k := 1) (v := .long 1) (ty := .long) (ci := 1) (C := RX2) (T := TX2) (N := 2) hx hb hg inG_X2 tyX2 tyX2_ok nmX2 hown hC hP hD hS rfl rfl (by decide) (hg _ kw_103) rfl rfl (by decide +kernel) rfl rfl (Nat.le_of_ble_eq_true rfl) dX2_init_6 (fun H locs hP hD hS => ?_)
  have hP : va_P D vwCl (X ++ [(h0, .inr (1, [.long 0, .long 1]))]) H := hP
  have hD : va_D (kA b0) (X ++ [(h0, .inr (1, [.long 0, .long 1]))]) := hD
  refine W.widen (k := 0) (n := 0) (Nat.le_of_ble_eq_true rfl) (Nat.le_of_ble_eq_true rfl) ?_
  exact W.vret hx hb hr (fun t ht hW => ⟨⟨(), rfl, trivial, by rw [ht]; exact hP, hD⟩, hS.F ht⟩) hS.2.2 dX2_init_9 hlocks
set_option maxHeartbeats 4000000 in
set_option maxRecDepth 100000 in
theorem mX5_init (l : Launch) (D : va_G) (cs : Nat → ClassId) (b0 : Nat) (X : va_W) (h0 : Nat) : Met l yX5_init (Cond.code yX5_init cX5_init 1 none :: wsG) ({ frames := 1, cells := 4, slots := 20, locals := 12 } : Room) (va_Pc [.ref h0] (kI D cs b0 (X ++ [(h0, .inr (4, [.null, .null, .null, .null, .int 0]))]))) (va_Qv (fun (_ : (Nat → Nat)) => True) (kB D b0 (fun (u : (Nat → Nat)) => X ++ [(h0, .inr (4, [.ref (u 0), .ref (u 1), .ref (u 2), .ref (u 3), .int 0])), ((u 0), .inl (cs 0, 5, .inl (fun _ => 0))), ((u 1), .inl (cs 0, 5, .inl (fun _ => 0))), ((u 2), .inl (cs 0, 5, .inl (fun _ => 0))), ((u 3), .inl (cs 0, 5, .inl (fun _ => 0)))])) (kA b0)) 4 20 (kA b0) := by
  refine Met.ofW (cc := cX5_init) (maxL := 1) (ret := none) (by decide) rfl ?_
  intro p e s m args below meth c s₁ B hml hv
  have hx := B.exec
  have hb := B.bytes
  have hr := B.returns
  have hts := atoms_spec (ws := (Cond.code yX5_init cX5_init 1 none :: wsG)) B.pre
  have hg : ∀ w ∈ wsG, w.before args s = true := fun w h => hts w (List.mem_cons_of_mem _ h)
  have hown : s.vm.findClass RX5 = some m.cls := findClass_of_methodNamed B.named
  have hlocks := B.notSynchronized
  have hin : meth.name = "<init>" := (name_of_methodNamed B.named B.method).1
  obtain ⟨ha, hP, hD, hC⟩ := hv
  have hS : va_S (kA b0) s.heap s.heap [] := va_S.rf
  refine W.eq (show entryFrame m args 1 = entryFrame m ([.ref h0] : List Value).toArray 1 by rw [ha]) ?_
  have hl := lv_entry ([.ref h0]) (n := 1) (Nat.le_of_ble_eq_true rfl)
  rw [lg_entry_eq]
  generalize (lg_sl ([.ref h0]) ++ List.replicate (1 - (lg_sl ([.ref h0])).length) Slot.unset).toArray = ls at hl ⊢
  have hl : lv_has ls 1 [(0, .ref h0)] := hl
  show W p l e ({ frames := 1, cells := 4, slots := 20, locals := 12 } : Room) s m args below meth c s.heap [] 0 0 (MQ below (va_Qv (fun (_ : (Nat → Nat)) => True) (kB D b0 (fun (u : (Nat → Nat)) => X ++ [(h0, .inr (4, [.ref (u 0), .ref (u 1), .ref (u 2), .ref (u 3), .int 0])), ((u 0), .inl (cs 0, 5, .inl (fun _ => 0))), ((u 1), .inl (cs 0, 5, .inl (fun _ => 0))), ((u 2), .inl (cs 0, 5, .inl (fun _ => 0))), ((u 3), .inl (cs 0, 5, .inl (fun _ => 0)))])) (kA b0)) args s 4 20 (kA b0)) (F0 m 0 ls [])
  refine lv_aload_n hx hb dX5_init_0 rfl (lv_at hl 0 rfl) ?_
  refine W.objInit hx hb hown (hg _ kw_45) (hg _ kw_38) (hg _ kw_39) rfl (by rw [hml]; exact hl.1) rfl dX5_init_1 (Nat.le_of_ble_eq_true rfl) (Nat.le_of_ble_eq_true rfl) ?_
  refine W.eq (g2 := F0 m 4 ls []) rfl ?_
  refine lv_aload_n hx hb dX5_init_4 rfl (lv_at hl 0 rfl) ?_
  refine lv_iconst (v := 5) hx hb dX5_init_5 (by decide) ?_
  refine k_newa (atype := .int) (a0 := (5, .inl (fun _ => 0))) (N' := 5) hx hb (hg _ kw_71) rfl hC hP hD hS 0 rfl (fun _ => rfl) (by decide) rfl (by decide) (Nat.le_of_ble_eq_true rfl) (Nat.le_of_ble_eq_true rfl) dX5_init_6 (fun q1 H hP hD hS => ?_)
  have hP : va_P D vwCl (X ++ [(h0, .inr (4, [.null, .null, .null, .null, .int 0])), (q1, .inl (cs 0, 5, .inl (fun _ => 0)))]) H := hP
  have hD : va_D (kA b0) (X ++ [(h0, .inr (4, [.null, .null, .null, .null, .int 0])), (q1, .inl (cs 0, 5, .inl (fun _ => 0)))]) := hD
  refine k_putF (k := 0) (v := .ref q1) (ty := (.array .int)) (ci := 4) (C := RX5) (T := TX5) (N := 5) hx hb hg inG_X5 tyX5 tyX5_ok nmX5 hown hC hP hD hS rfl rfl (by decide) (hg _ kw_46) rfl rfl hin rfl (by decide +kernel) rfl rfl (Nat.le_of_ble_eq_true rfl) dX5_init_8 (fun H locs hP hD hS => ?_)
  have hP : va_P D vwCl (X ++ [(h0, .inr (4, [.ref q1, .null, .null, .null, .int 0])), (q1, .inl (cs 0, 5, .inl (fun _ => 0)))]) H := hP
  have hD : va_D (kA b0) (X ++ [(h0, .inr (4, [.ref q1, .null, .null, .null, .int 0])), (q1, .inl (cs 0, 5, .inl (fun _ => 0)))]) := hD
  refine lv_aload_n hx hb dX5_init_11 rfl (lv_at hl 0 rfl) ?_
  refine lv_iconst (v := 5) hx hb dX5_init_12 (by decide) ?_
  refine k_newa (atype := .int) (a0 := (5, .inl (fun _ => 0))) (N' := 5) hx hb (hg _ kw_71) rfl hC hP hD hS 0 rfl (fun _ => rfl) (by decide) rfl (by decide) (Nat.le_of_ble_eq_true rfl) (Nat.le_of_ble_eq_true rfl) dX5_init_13 (fun q2 H hP hD hS => ?_)
  have hP : va_P D vwCl (X ++ [(h0, .inr (4, [.ref q1, .null, .null, .null, .int 0])), (q1, .inl (cs 0, 5, .inl (fun _ => 0))), (q2, .inl (cs 0, 5, .inl (fun _ => 0)))]) H := hP
  have hD : va_D (kA b0) (X ++ [(h0, .inr (4, [.ref q1, .null, .null, .null, .int 0])), (q1, .inl (cs 0, 5, .inl (fun _ => 0))), (q2, .inl (cs 0, 5, .inl (fun _ => 0)))]) := hD
  refine k_putF (k := 1) (v := .ref q2) (ty := (.array .int)) (ci := 4) (C := RX5) (T := TX5) (N := 5) hx hb hg inG_X5 tyX5 tyX5_ok nmX5 hown hC hP hD hS rfl rfl (by decide) (hg _ kw_49) rfl rfl hin rfl (by decide +kernel) rfl rfl (Nat.le_of_ble_eq_true rfl) dX5_init_15 (fun H locs hP hD hS => ?_)
  have hP : va_P D vwCl (X ++ [(h0, .inr (4, [.ref q1, .ref q2, .null, .null, .int 0])), (q1, .inl (cs 0, 5, .inl (fun _ => 0))), (q2, .inl (cs 0, 5, .inl (fun _ => 0)))]) H := hP
  have hD : va_D (kA b0) (X ++ [(h0, .inr (4, [.ref q1, .ref q2, .null, .null, .int 0])), (q1, .inl (cs 0, 5, .inl (fun _ => 0))), (q2, .inl (cs 0, 5, .inl (fun _ => 0)))]) := hD
  refine lv_aload_n hx hb dX5_init_18 rfl (lv_at hl 0 rfl) ?_
  refine lv_iconst (v := 5) hx hb dX5_init_19 (by decide) ?_
  refine k_newa (atype := .int) (a0 := (5, .inl (fun _ => 0))) (N' := 5) hx hb (hg _ kw_71) rfl hC hP hD hS 0 rfl (fun _ => rfl) (by decide) rfl (by decide) (Nat.le_of_ble_eq_true rfl) (Nat.le_of_ble_eq_true rfl) dX5_init_20 (fun q3 H hP hD hS => ?_)
  have hP : va_P D vwCl (X ++ [(h0, .inr (4, [.ref q1, .ref q2, .null, .null, .int 0])), (q1, .inl (cs 0, 5, .inl (fun _ => 0))), (q2, .inl (cs 0, 5, .inl (fun _ => 0))), (q3, .inl (cs 0, 5, .inl (fun _ => 0)))]) H := hP
  have hD : va_D (kA b0) (X ++ [(h0, .inr (4, [.ref q1, .ref q2, .null, .null, .int 0])), (q1, .inl (cs 0, 5, .inl (fun _ => 0))), (q2, .inl (cs 0, 5, .inl (fun _ => 0))), (q3, .inl (cs 0, 5, .inl (fun _ => 0)))]) := hD
  refine k_putF (k := 2) (v := .ref q3) (ty := (.array .int)) (ci := 4) (C := RX5) (T := TX5) (N := 5) hx hb hg inG_X5 tyX5 tyX5_ok nmX5 hown hC hP hD hS rfl rfl (by decide) (hg _ kw_52) rfl rfl hin rfl (by decide +kernel) rfl rfl (Nat.le_of_ble_eq_true rfl) dX5_init_22 (fun H locs hP hD hS => ?_)
  have hP : va_P D vwCl (X ++ [(h0, .inr (4, [.ref q1, .ref q2, .ref q3, .null, .int 0])), (q1, .inl (cs 0, 5, .inl (fun _ => 0))), (q2, .inl (cs 0, 5, .inl (fun _ => 0))), (q3, .inl (cs 0, 5, .inl (fun _ => 0)))]) H := hP
  have hD : va_D (kA b0) (X ++ [(h0, .inr (4, [.ref q1, .ref q2, .ref q3, .null, .int 0])), (q1, .inl (cs 0, 5, .inl (fun _ => 0))), (q2, .inl (cs 0, 5, .inl (fun _ => 0))), (q3, .inl (cs 0, 5, .inl (fun _ => 0)))]) := hD
  refine lv_aload_n hx hb dX5_init_25 rfl (lv_at hl 0 rfl) ?_
  refine lv_iconst (v := 5) hx hb dX5_init_26 (by decide) ?_
  refine k_newa (atype := .int) (a0 := (5, .inl (fun _ => 0))) (N' := 5) hx hb (hg _ kw_71) rfl hC hP hD hS 0 rfl (fun _ => rfl) (by decide) rfl (by decide) (Nat.le_of_ble_eq_true rfl) (Nat.le_of_ble_eq_true rfl) dX5_init_27 (fun q4 H hP hD hS => ?_)
  have hP : va_P D vwCl (X ++ [(h0, .inr (4, [.ref q1, .ref q2, .ref q3, .null, .int 0])), (q1, .inl (cs 0, 5, .inl (fun _ => 0))), (q2, .inl (cs 0, 5, .inl (fun _ => 0))), (q3, .inl (cs 0, 5, .inl (fun _ => 0))), (q4, .inl (cs 0, 5, .inl (fun _ => 0)))]) H := hP
  have hD : va_D (kA b0) (X ++ [(h0, .inr (4, [.ref q1, .ref q2, .ref q3, .null, .int 0])), (q1, .inl (cs 0, 5, .inl (fun _ => 0))), (q2, .inl (cs 0, 5, .inl (fun _ => 0))), (q3, .inl (cs 0, 5, .inl (fun _ => 0))), (q4, .inl (cs 0, 5, .inl (fun _ => 0)))]) := hD
  refine k_putF (k := 3) (v := .ref q4) (ty := (.array .int)) (ci := 4) (C := RX5) (T := TX5) (N := 5) hx hb hg inG_X5 tyX5 tyX5_ok nmX5 hown hC hP hD hS rfl rfl (by decide) (hg _ kw_54) rfl rfl hin rfl (by decide +kernel) rfl rfl (Nat.le_of_ble_eq_true rfl) dX5_init_29 (fun H locs hP hD hS => ?_)
  have hP : va_P D vwCl (X ++ [(h0, .inr (4, [.ref q1, .ref q2, .ref q3, .ref q4, .int 0])), (q1, .inl (cs 0, 5, .inl (fun _ => 0))), (q2, .inl (cs 0, 5, .inl (fun _ => 0))), (q3, .inl (cs 0, 5, .inl (fun _ => 0))), (q4, .inl (cs 0, 5, .inl (fun _ => 0)))]) H := hP
  have hD : va_D (kA b0) (X ++ [(h0, .inr (4, [.ref q1, .ref q2, .ref q3, .ref q4, .int 0])), (q1, .inl (cs 0, 5, .inl (fun _ => 0))), (q2, .inl (cs 0, 5, .inl (fun _ => 0))), (q3, .inl (cs 0, 5, .inl (fun _ => 0))), (q4, .inl (cs 0, 5, .inl (fun _ => 0)))]) := hD
  refine W.widen (k := 4) (n := 20) (Nat.le_of_ble_eq_true rfl) (Nat.le_of_ble_eq_true rfl) ?_
  exact W.vret hx hb hr (fun t ht hW => ⟨⟨fun k => [q1, q2, q3, q4].getD k 0, rfl, trivial, by rw [ht]; exact hP, hD⟩, hS.F ht⟩) hS.2.2 dX5_init_32 hlocks
set_option maxHeartbeats 4000000 in
set_option maxRecDepth 100000 in
theorem mX3_init (l : Launch) (D : va_G) (cs : Nat → ClassId) (b0 : Nat) (X : va_W) (h0 : Nat) (st : Nat) : Met l yX3_init (Cond.code yX3_init cX3_init 2 none :: wsG) ({ frames := 1, cells := 1, slots := 3, locals := 12 } : Room) (va_Pc [.ref h0, .ref st] (kI D cs b0 (X ++ [(h0, .inr (2, [.null, .null]))]))) (va_Qv (fun (_ : (Nat → Nat)) => True) (kB D b0 (fun (u : (Nat → Nat)) => X ++ [(h0, .inr (2, [.ref st, .ref (u 0)])), ((u 0), .inl (cs 0, 3, .inl (upd (fun _ => 0) 0 10)))])) (kA b0)) 1 3 (kA b0) := by
  refine Met.ofW (cc := cX3_init) (maxL := 2) (ret := none) (by decide) rfl ?_
  intro p e s m args below meth c s₁ B hml hv
  have hx := B.exec
  have hb := B.bytes
  have hr := B.returns
  have hts := atoms_spec (ws := (Cond.code yX3_init cX3_init 2 none :: wsG)) B.pre
  have hg : ∀ w ∈ wsG, w.before args s = true := fun w h => hts w (List.mem_cons_of_mem _ h)
  have hown : s.vm.findClass RX3 = some m.cls := findClass_of_methodNamed B.named
  have hlocks := B.notSynchronized
  have hin : meth.name = "<init>" := (name_of_methodNamed B.named B.method).1
  obtain ⟨ha, hP, hD, hC⟩ := hv
  have hS : va_S (kA b0) s.heap s.heap [] := va_S.rf
  refine W.eq (show entryFrame m args 2 = entryFrame m ([.ref h0, .ref st] : List Value).toArray 2 by rw [ha]) ?_
  have hl := lv_entry ([.ref h0, .ref st]) (n := 2) (Nat.le_of_ble_eq_true rfl)
  rw [lg_entry_eq]
  generalize (lg_sl ([.ref h0, .ref st]) ++ List.replicate (2 - (lg_sl ([.ref h0, .ref st])).length) Slot.unset).toArray = ls at hl ⊢
  have hl : lv_has ls 2 [(0, .ref h0), (1, .ref st)] := hl
  show W p l e ({ frames := 1, cells := 1, slots := 3, locals := 12 } : Room) s m args below meth c s.heap [] 0 0 (MQ below (va_Qv (fun (_ : (Nat → Nat)) => True) (kB D b0 (fun (u : (Nat → Nat)) => X ++ [(h0, .inr (2, [.ref st, .ref (u 0)])), ((u 0), .inl (cs 0, 3, .inl (upd (fun _ => 0) 0 10)))])) (kA b0)) args s 1 3 (kA b0)) (F0 m 0 ls [])
  refine lv_aload_n hx hb dX3_init_0 rfl (lv_at hl 0 rfl) ?_
  refine W.objInit hx hb hown (hg _ kw_77) (hg _ kw_38) (hg _ kw_39) rfl (by rw [hml]; exact hl.1) rfl dX3_init_1 (Nat.le_of_ble_eq_true rfl) (Nat.le_of_ble_eq_true rfl) ?_
  refine W.eq (g2 := F0 m 4 ls []) rfl ?_
  refine lv_aload_n hx hb dX3_init_4 rfl (lv_at hl 0 rfl) ?_
  refine lv_iconst (v := 3) hx hb dX3_init_5 (by decide) ?_
  refine k_newa (atype := .int) (a0 := (3, .inl (fun _ => 0))) (N' := 3) hx hb (hg _ kw_71) rfl hC hP hD hS 0 rfl (fun _ => rfl) (by decide) rfl (by decide) (Nat.le_of_ble_eq_true rfl) (Nat.le_of_ble_eq_true rfl) dX3_init_6 (fun q1 H hP hD hS => ?_)
  have hP : va_P D vwCl (X ++ [(h0, .inr (2, [.null, .null])), (q1, .inl (cs 0, 3, .inl (fun _ => 0)))]) H := hP
  have hD : va_D (kA b0) (X ++ [(h0, .inr (2, [.null, .null])), (q1, .inl (cs 0, 3, .inl (fun _ => 0)))]) := hD
  refine k_putF (k := 1) (v := .ref q1) (ty := (.array .int)) (ci := 2) (C := RX3) (T := TX3) (N := 2) hx hb hg inG_X3 tyX3 tyX3_ok nmX3 hown hC hP hD hS rfl rfl (by decide) (hg _ kw_79) rfl rfl hin rfl (by decide +kernel) rfl rfl (Nat.le_of_ble_eq_true rfl) dX3_init_8 (fun H locs hP hD hS => ?_)
  have hP : va_P D vwCl (X ++ [(h0, .inr (2, [.null, .ref q1])), (q1, .inl (cs 0, 3, .inl (fun _ => 0)))]) H := hP
  have hD : va_D (kA b0) (X ++ [(h0, .inr (2, [.null, .ref q1])), (q1, .inl (cs 0, 3, .inl (fun _ => 0)))]) := hD
  refine lv_aload_n hx hb dX3_init_11 rfl (lv_at hl 0 rfl) ?_
  refine lv_aload_n hx hb dX3_init_12 rfl (lv_at hl 1 rfl) ?_
  refine k_putF (k := 0) (v := .ref st) (ty := (.object "WaterTwice$Steps")) (ci := 2) (C := RX3) (T := TX3) (N := 2) hx hb hg inG_X3 tyX3 tyX3_ok nmX3 hown hC hP hD hS rfl rfl (by decide) (hg _ kw_78) rfl rfl hin rfl (by decide +kernel) rfl rfl (Nat.le_of_ble_eq_true rfl) dX3_init_13 (fun H locs hP hD hS => ?_)
  have hP : va_P D vwCl (X ++ [(h0, .inr (2, [.ref st, .ref q1])), (q1, .inl (cs 0, 3, .inl (fun _ => 0)))]) H := hP
  have hD : va_D (kA b0) (X ++ [(h0, .inr (2, [.ref st, .ref q1])), (q1, .inl (cs 0, 3, .inl (fun _ => 0)))]) := hD
  refine lv_aload_n hx hb dX3_init_16 rfl (lv_at hl 0 rfl) ?_
  refine k_get (k := 1) (v := .ref q1) (ci := 2) (C := RX3) (T := TX3) (N := 2) hx hb hg inG_X3 hown hC hP rfl rfl (by decide) (hg _ kw_79) rfl rfl dX3_init_17 ?_
  refine lv_iconst (v := 0) hx hb dX3_init_20 (by decide) ?_
  refine lv_bipush (v := 10) hx hb dX3_init_21 (by decide) ?_
  refine k_iast (j := 1) hx hb hC hP hD hS rfl (by decide) dX3_init_23 (fun H locs hP hD hS => ?_)
  have hP : va_P D vwCl (X ++ [(h0, .inr (2, [.ref st, .ref q1])), (q1, .inl (cs 0, 3, .inl (upd (fun _ => 0) 0 10)))]) H := hP
  have hD : va_D (kA b0) (X ++ [(h0, .inr (2, [.ref st, .ref q1])), (q1, .inl (cs 0, 3, .inl (upd (fun _ => 0) 0 10)))]) := hD
  refine W.widen (k := 1) (n := 3) (Nat.le_of_ble_eq_true rfl) (Nat.le_of_ble_eq_true rfl) ?_
  exact W.vret hx hb hr (fun t ht hW => ⟨⟨fun k => [q1].getD k 0, rfl, trivial, by rw [ht]; exact hP, hD⟩, hS.F ht⟩) hS.2.2 dX3_init_24 hlocks
set_option maxHeartbeats 4000000 in
set_option maxRecDepth 100000 in
theorem mX6_init (l : Launch) (D : va_G) (cs : Nat → ClassId) (b0 : Nat) (X : va_W) (h0 : Nat) : Met l yX6_init (Cond.code yX6_init cX6_init 1 none :: wsG) ({ frames := 1, cells := 2, slots := 48, locals := 12 } : Room) (va_Pc [.ref h0] (kI D cs b0 (X ++ [(h0, .inr (5, [.null, .null]))]))) (va_Qv (fun (_ : (Nat → Nat)) => True) (kB D b0 (fun (u : (Nat → Nat)) => X ++ [(h0, .inr (5, [.ref (u 0), .ref (u 1)])), ((u 0), .inl (cs 0, 24, .inl (fun _ => 0))), ((u 1), .inl (cs 0, 24, .inl (fun _ => 0)))])) (kA b0)) 2 48 (kA b0) := by
  refine Met.ofW (cc := cX6_init) (maxL := 1) (ret := none) (by decide) rfl ?_
  intro p e s m args below meth c s₁ B hml hv
  have hx := B.exec
  have hb := B.bytes
  have hr := B.returns
  have hts := atoms_spec (ws := (Cond.code yX6_init cX6_init 1 none :: wsG)) B.pre
  have hg : ∀ w ∈ wsG, w.before args s = true := fun w h => hts w (List.mem_cons_of_mem _ h)
  have hown : s.vm.findClass RX6 = some m.cls := findClass_of_methodNamed B.named
  have hlocks := B.notSynchronized
  have hin : meth.name = "<init>" := (name_of_methodNamed B.named B.method).1
  obtain ⟨ha, hP, hD, hC⟩ := hv
  have hS : va_S (kA b0) s.heap s.heap [] := va_S.rf
  refine W.eq (show entryFrame m args 1 = entryFrame m ([.ref h0] : List Value).toArray 1 by rw [ha]) ?_
  have hl := lv_entry ([.ref h0]) (n := 1) (Nat.le_of_ble_eq_true rfl)
  rw [lg_entry_eq]
  generalize (lg_sl ([.ref h0]) ++ List.replicate (1 - (lg_sl ([.ref h0])).length) Slot.unset).toArray = ls at hl ⊢
  have hl : lv_has ls 1 [(0, .ref h0)] := hl
  show W p l e ({ frames := 1, cells := 2, slots := 48, locals := 12 } : Room) s m args below meth c s.heap [] 0 0 (MQ below (va_Qv (fun (_ : (Nat → Nat)) => True) (kB D b0 (fun (u : (Nat → Nat)) => X ++ [(h0, .inr (5, [.ref (u 0), .ref (u 1)])), ((u 0), .inl (cs 0, 24, .inl (fun _ => 0))), ((u 1), .inl (cs 0, 24, .inl (fun _ => 0)))])) (kA b0)) args s 2 48 (kA b0)) (F0 m 0 ls [])
  refine lv_aload_n hx hb dX6_init_0 rfl (lv_at hl 0 rfl) ?_
  refine W.objInit hx hb hown (hg _ kw_145) (hg _ kw_38) (hg _ kw_39) rfl (by rw [hml]; exact hl.1) rfl dX6_init_1 (Nat.le_of_ble_eq_true rfl) (Nat.le_of_ble_eq_true rfl) ?_
  refine W.eq (g2 := F0 m 4 ls []) rfl ?_
  refine lv_aload_n hx hb dX6_init_4 rfl (lv_at hl 0 rfl) ?_
  refine lv_bipush (v := 24) hx hb dX6_init_5 (by decide) ?_
  refine k_newa (atype := .int) (a0 := (24, .inl (fun _ => 0))) (N' := 24) hx hb (hg _ kw_71) rfl hC hP hD hS 0 rfl (fun _ => rfl) (by decide) rfl (by decide) (Nat.le_of_ble_eq_true rfl) (Nat.le_of_ble_eq_true rfl) dX6_init_7 (fun q1 H hP hD hS => ?_)
  have hP : va_P D vwCl (X ++ [(h0, .inr (5, [.null, .null])), (q1, .inl (cs 0, 24, .inl (fun _ => 0)))]) H := hP
  have hD : va_D (kA b0) (X ++ [(h0, .inr (5, [.null, .null])), (q1, .inl (cs 0, 24, .inl (fun _ => 0)))]) := hD
  refine k_putF (k := 0) (v := .ref q1) (ty := (.array .int)) (ci := 5) (C := RX6) (T := TX6) (N := 2) hx hb hg inG_X6 tyX6 tyX6_ok nmX6 hown hC hP hD hS rfl rfl (by decide) (hg _ kw_146) rfl rfl hin rfl (by decide +kernel) rfl rfl (Nat.le_of_ble_eq_true rfl) dX6_init_9 (fun H locs hP hD hS => ?_)
  have hP : va_P D vwCl (X ++ [(h0, .inr (5, [.ref q1, .null])), (q1, .inl (cs 0, 24, .inl (fun _ => 0)))]) H := hP
  have hD : va_D (kA b0) (X ++ [(h0, .inr (5, [.ref q1, .null])), (q1, .inl (cs 0, 24, .inl (fun _ => 0)))]) := hD
  refine lv_aload_n hx hb dX6_init_12 rfl (lv_at hl 0 rfl) ?_
  refine lv_bipush (v := 24) hx hb dX6_init_13 (by decide) ?_
  refine k_newa (atype := .int) (a0 := (24, .inl (fun _ => 0))) (N' := 24) hx hb (hg _ kw_71) rfl hC hP hD hS 0 rfl (fun _ => rfl) (by decide) rfl (by decide) (Nat.le_of_ble_eq_true rfl) (Nat.le_of_ble_eq_true rfl) dX6_init_15 (fun q2 H hP hD hS => ?_)
  have hP : va_P D vwCl (X ++ [(h0, .inr (5, [.ref q1, .null])), (q1, .inl (cs 0, 24, .inl (fun _ => 0))), (q2, .inl (cs 0, 24, .inl (fun _ => 0)))]) H := hP
  have hD : va_D (kA b0) (X ++ [(h0, .inr (5, [.ref q1, .null])), (q1, .inl (cs 0, 24, .inl (fun _ => 0))), (q2, .inl (cs 0, 24, .inl (fun _ => 0)))]) := hD
  refine k_putF (k := 1) (v := .ref q2) (ty := (.array .int)) (ci := 5) (C := RX6) (T := TX6) (N := 2) hx hb hg inG_X6 tyX6 tyX6_ok nmX6 hown hC hP hD hS rfl rfl (by decide) (hg _ kw_148) rfl rfl hin rfl (by decide +kernel) rfl rfl (Nat.le_of_ble_eq_true rfl) dX6_init_17 (fun H locs hP hD hS => ?_)
  have hP : va_P D vwCl (X ++ [(h0, .inr (5, [.ref q1, .ref q2])), (q1, .inl (cs 0, 24, .inl (fun _ => 0))), (q2, .inl (cs 0, 24, .inl (fun _ => 0)))]) H := hP
  have hD : va_D (kA b0) (X ++ [(h0, .inr (5, [.ref q1, .ref q2])), (q1, .inl (cs 0, 24, .inl (fun _ => 0))), (q2, .inl (cs 0, 24, .inl (fun _ => 0)))]) := hD
  refine W.widen (k := 2) (n := 48) (Nat.le_of_ble_eq_true rfl) (Nat.le_of_ble_eq_true rfl) ?_
  exact W.vret hx hb hr (fun t ht hW => ⟨⟨fun k => [q1, q2].getD k 0, rfl, trivial, by rw [ht]; exact hP, hD⟩, hS.F ht⟩) hS.2.2 dX6_init_20 hlocks
set_option maxHeartbeats 4000000 in
set_option maxRecDepth 100000 in
theorem mX4_init (l : Launch) (D : va_G) (cs : Nat → ClassId) (b0 : Nat) (X : va_W) (h0 : Nat) : Met l yX4_init (Cond.code yX4_init cX4_init 1 none :: wsG) ({ frames := 1, cells := 2, slots := 16, locals := 12 } : Room) (va_Pc [.ref h0] (kI D cs b0 (X ++ [(h0, .inr (3, [.null, .null, .int 0]))]))) (va_Qv (fun (_ : (Nat → Nat)) => True) (kB D b0 (fun (u : (Nat → Nat)) => X ++ [(h0, .inr (3, [.ref (u 0), .ref (u 1), .int 0])), ((u 0), .inl (cs 0, 8, .inl (fun _ => 0))), ((u 1), .inl (cs 0, 8, .inl (fun _ => 0)))])) (kA b0)) 2 16 (kA b0) := by
  refine Met.ofW (cc := cX4_init) (maxL := 1) (ret := none) (by decide) rfl ?_
  intro p e s m args below meth c s₁ B hml hv
  have hx := B.exec
  have hb := B.bytes
  have hr := B.returns
  have hts := atoms_spec (ws := (Cond.code yX4_init cX4_init 1 none :: wsG)) B.pre
  have hg : ∀ w ∈ wsG, w.before args s = true := fun w h => hts w (List.mem_cons_of_mem _ h)
  have hown : s.vm.findClass RX4 = some m.cls := findClass_of_methodNamed B.named
  have hlocks := B.notSynchronized
  have hin : meth.name = "<init>" := (name_of_methodNamed B.named B.method).1
  obtain ⟨ha, hP, hD, hC⟩ := hv
  have hS : va_S (kA b0) s.heap s.heap [] := va_S.rf
  refine W.eq (show entryFrame m args 1 = entryFrame m ([.ref h0] : List Value).toArray 1 by rw [ha]) ?_
  have hl := lv_entry ([.ref h0]) (n := 1) (Nat.le_of_ble_eq_true rfl)
  rw [lg_entry_eq]
  generalize (lg_sl ([.ref h0]) ++ List.replicate (1 - (lg_sl ([.ref h0])).length) Slot.unset).toArray = ls at hl ⊢
  have hl : lv_has ls 1 [(0, .ref h0)] := hl
  show W p l e ({ frames := 1, cells := 2, slots := 16, locals := 12 } : Room) s m args below meth c s.heap [] 0 0 (MQ below (va_Qv (fun (_ : (Nat → Nat)) => True) (kB D b0 (fun (u : (Nat → Nat)) => X ++ [(h0, .inr (3, [.ref (u 0), .ref (u 1), .int 0])), ((u 0), .inl (cs 0, 8, .inl (fun _ => 0))), ((u 1), .inl (cs 0, 8, .inl (fun _ => 0)))])) (kA b0)) args s 2 16 (kA b0)) (F0 m 0 ls [])
  refine lv_aload_n hx hb dX4_init_0 rfl (lv_at hl 0 rfl) ?_
  refine W.objInit hx hb hown (hg _ kw_160) (hg _ kw_38) (hg _ kw_39) rfl (by rw [hml]; exact hl.1) rfl dX4_init_1 (Nat.le_of_ble_eq_true rfl) (Nat.le_of_ble_eq_true rfl) ?_
  refine W.eq (g2 := F0 m 4 ls []) rfl ?_
  refine lv_aload_n hx hb dX4_init_4 rfl (lv_at hl 0 rfl) ?_
  refine lv_bipush (v := 8) hx hb dX4_init_5 (by decide) ?_
  refine k_newa (atype := .int) (a0 := (8, .inl (fun _ => 0))) (N' := 8) hx hb (hg _ kw_71) rfl hC hP hD hS 0 rfl (fun _ => rfl) (by decide) rfl (by decide) (Nat.le_of_ble_eq_true rfl) (Nat.le_of_ble_eq_true rfl) dX4_init_7 (fun q1 H hP hD hS => ?_)
  have hP : va_P D vwCl (X ++ [(h0, .inr (3, [.null, .null, .int 0])), (q1, .inl (cs 0, 8, .inl (fun _ => 0)))]) H := hP
  have hD : va_D (kA b0) (X ++ [(h0, .inr (3, [.null, .null, .int 0])), (q1, .inl (cs 0, 8, .inl (fun _ => 0)))]) := hD
  refine k_putF (k := 0) (v := .ref q1) (ty := (.array .int)) (ci := 3) (C := RX4) (T := TX4) (N := 3) hx hb hg inG_X4 tyX4 tyX4_ok nmX4 hown hC hP hD hS rfl rfl (by decide) (hg _ kw_161) rfl rfl hin rfl (by decide +kernel) rfl rfl (Nat.le_of_ble_eq_true rfl) dX4_init_9 (fun H locs hP hD hS => ?_)
  have hP : va_P D vwCl (X ++ [(h0, .inr (3, [.ref q1, .null, .int 0])), (q1, .inl (cs 0, 8, .inl (fun _ => 0)))]) H := hP
  have hD : va_D (kA b0) (X ++ [(h0, .inr (3, [.ref q1, .null, .int 0])), (q1, .inl (cs 0, 8, .inl (fun _ => 0)))]) := hD
  refine lv_aload_n hx hb dX4_init_12 rfl (lv_at hl 0 rfl) ?_
  refine lv_bipush (v := 8) hx hb dX4_init_13 (by decide) ?_
  refine k_newa (atype := .int) (a0 := (8, .inl (fun _ => 0))) (N' := 8) hx hb (hg _ kw_71) rfl hC hP hD hS 0 rfl (fun _ => rfl) (by decide) rfl (by decide) (Nat.le_of_ble_eq_true rfl) (Nat.le_of_ble_eq_true rfl) dX4_init_15 (fun q2 H hP hD hS => ?_)
  have hP : va_P D vwCl (X ++ [(h0, .inr (3, [.ref q1, .null, .int 0])), (q1, .inl (cs 0, 8, .inl (fun _ => 0))), (q2, .inl (cs 0, 8, .inl (fun _ => 0)))]) H := hP
  have hD : va_D (kA b0) (X ++ [(h0, .inr (3, [.ref q1, .null, .int 0])), (q1, .inl (cs 0, 8, .inl (fun _ => 0))), (q2, .inl (cs 0, 8, .inl (fun _ => 0)))]) := hD
  refine k_putF (k := 1) (v := .ref q2) (ty := (.array .int)) (ci := 3) (C := RX4) (T := TX4) (N := 3) hx hb hg inG_X4 tyX4 tyX4_ok nmX4 hown hC hP hD hS rfl rfl (by decide) (hg _ kw_162) rfl rfl hin rfl (by decide +kernel) rfl rfl (Nat.le_of_ble_eq_true rfl) dX4_init_17 (fun H locs hP hD hS => ?_)
  have hP : va_P D vwCl (X ++ [(h0, .inr (3, [.ref q1, .ref q2, .int 0])), (q1, .inl (cs 0, 8, .inl (fun _ => 0))), (q2, .inl (cs 0, 8, .inl (fun _ => 0)))]) H := hP
  have hD : va_D (kA b0) (X ++ [(h0, .inr (3, [.ref q1, .ref q2, .int 0])), (q1, .inl (cs 0, 8, .inl (fun _ => 0))), (q2, .inl (cs 0, 8, .inl (fun _ => 0)))]) := hD
  refine W.widen (k := 2) (n := 16) (Nat.le_of_ble_eq_true rfl) (Nat.le_of_ble_eq_true rfl) ?_
  exact W.vret hx hb hr (fun t ht hW => ⟨⟨fun k => [q1, q2].getD k 0, rfl, trivial, by rw [ht]; exact hP, hD⟩, hS.F ht⟩) hS.2.2 dX4_init_20 hlocks
