theorem inG_X1 : ∀ w ∈ u_ws RX1 TX1 8, w ∈ wsG := by
  intro w hw
  obtain ⟨k, hk, rfl⟩ := List.mem_map.mp hw
  have hk := List.mem_range.mp hk
  match k, hk with
  | 0, _ => exact kw_123
  | 1, _ => exact kw_125
  | 2, _ => exact kw_127
  | 3, _ => exact kw_129
  | 4, _ => exact kw_131
  | 5, _ => exact kw_133
  | 6, _ => exact kw_135
  | 7, _ => exact kw_137
theorem inG_X2 : ∀ w ∈ u_ws RX2 TX2 2, w ∈ wsG := by
  intro w hw
  obtain ⟨k, hk, rfl⟩ := List.mem_map.mp hw
  have hk := List.mem_range.mp hk
  match k, hk with
  | 0, _ => exact kw_105
  | 1, _ => exact kw_107
theorem inG_X3 : ∀ w ∈ u_ws RX3 TX3 2, w ∈ wsG := by
  intro w hw
  obtain ⟨k, hk, rfl⟩ := List.mem_map.mp hw
  have hk := List.mem_range.mp hk
  match k, hk with
  | 0, _ => exact kw_81
  | 1, _ => exact kw_83
theorem inG_X4 : ∀ w ∈ u_ws RX4 TX4 3, w ∈ wsG := by
  intro w hw
  obtain ⟨k, hk, rfl⟩ := List.mem_map.mp hw
  have hk := List.mem_range.mp hk
  match k, hk with
  | 0, _ => exact kw_166
  | 1, _ => exact kw_168
  | 2, _ => exact kw_170
theorem inG_X5 : ∀ w ∈ u_ws RX5 TX5 5, w ∈ wsG := by
  intro w hw
  obtain ⟨k, hk, rfl⟩ := List.mem_map.mp hw
  have hk := List.mem_range.mp hk
  match k, hk with
  | 0, _ => exact kw_60
  | 1, _ => exact kw_62
  | 2, _ => exact kw_64
  | 3, _ => exact kw_66
  | 4, _ => exact kw_68
theorem inG_X6 : ∀ w ∈ u_ws RX6 TX6 2, w ∈ wsG := by
  intro w hw
  obtain ⟨k, hk, rfl⟩ := List.mem_map.mp hw
  have hk := List.mem_range.mp hk
  match k, hk with
  | 0, _ => exact kw_150
  | 1, _ => exact kw_152
theorem inG_X7 : ∀ w ∈ u_ws RX7 TX7 7, w ∈ wsG := by
  intro w hw
  obtain ⟨k, hk, rfl⟩ := List.mem_map.mp hw
  have hk := List.mem_range.mp hk
  match k, hk with
  | 0, _ => exact kw_182
  | 1, _ => exact kw_184
  | 2, _ => exact kw_186
  | 3, _ => exact kw_188
  | 4, _ => exact kw_190
  | 5, _ => exact kw_192
  | 6, _ => exact kw_194
theorem inG_X8 : ∀ w ∈ u_ws RX8 TX8 20, w ∈ wsG := by
  intro w hw
  obtain ⟨k, hk, rfl⟩ := List.mem_map.mp hw
  have hk := List.mem_range.mp hk
  match k, hk with
  | 0, _ => exact kw_520
  | 1, _ => exact kw_522
  | 2, _ => exact kw_524
  | 3, _ => exact kw_526
  | 4, _ => exact kw_528
  | 5, _ => exact kw_530
  | 6, _ => exact kw_532
  | 7, _ => exact kw_534
  | 8, _ => exact kw_536
  | 9, _ => exact kw_538
  | 10, _ => exact kw_540
  | 11, _ => exact kw_542
  | 12, _ => exact kw_544
  | 13, _ => exact kw_546
  | 14, _ => exact kw_548
  | 15, _ => exact kw_550
  | 16, _ => exact kw_552
  | 17, _ => exact kw_554
  | 18, _ => exact kw_556
  | 19, _ => exact kw_558
  | k + 20, hk => exact absurd hk (by omega)
/-! words of nest mates -/
def nestW : List Cond := [(Jvm.Cond.fieldLinkNest "WaterTwice" (65 : Nat) "WaterTwice$Steps" "load" "[I" "WaterTwice"), (Jvm.Cond.fieldLinkNest "WaterTwice$Design" (99 : Nat) "WaterTwice$Steps" "load" "[I" "WaterTwice"), (Jvm.Cond.fieldLinkNest "WaterTwice$Limits" (20 : Nat) "WaterTwice$Steps" "in" "[I" "WaterTwice"), (Jvm.Cond.fieldLinkNest "WaterTwice$Design" (63 : Nat) "WaterTwice$Steps" "in" "[I" "WaterTwice"), (Jvm.Cond.fieldLinkNest "WaterTwice$Limits" (25 : Nat) "WaterTwice$Steps" "out" "[I" "WaterTwice"), (Jvm.Cond.fieldLinkNest "WaterTwice" (73 : Nat) "WaterTwice$Steps" "lag" "[I" "WaterTwice"), (Jvm.Cond.fieldLinkNest "WaterTwice$Design" (114 : Nat) "WaterTwice$Steps" "lag" "[I" "WaterTwice"), (Jvm.Cond.fieldLinkNest "WaterTwice$Design" (44 : Nat) "WaterTwice$Steps" "size" "I" "WaterTwice"), (Jvm.Cond.fieldLinkNest "WaterTwice" (199 : Nat) "WaterTwice$Steps" "size" "I" "WaterTwice"), (Jvm.Cond.fieldLinkNest "WaterTwice" (82 : Nat) "WaterTwice$Limits" "settings" "[I" "WaterTwice"), (Jvm.Cond.fieldLinkNest "WaterTwice$Design" (92 : Nat) "WaterTwice$Fraction" "upper" "J" "WaterTwice"), (Jvm.Cond.fieldLinkNest "WaterTwice$Design" (96 : Nat) "WaterTwice$Fraction" "lower" "J" "WaterTwice"), (Jvm.Cond.fieldLinkNest "WaterTwice" (117 : Nat) "WaterTwice$Design" "fresh" "[I" "WaterTwice"), (Jvm.Cond.fieldLinkNest "WaterTwice" (120 : Nat) "WaterTwice$Design" "pipes" "[[I" "WaterTwice"), (Jvm.Cond.fieldLinkNest "WaterTwice" (142 : Nat) "WaterTwice$Design" "ends" "[LWaterTwice$Fraction;" "WaterTwice"), (Jvm.Cond.fieldLinkNest "WaterTwice" (150 : Nat) "WaterTwice$Design" "hitIn" "[I" "WaterTwice"), (Jvm.Cond.fieldLinkNest "WaterTwice" (160 : Nat) "WaterTwice$Store" "in" "[I" "WaterTwice"), (Jvm.Cond.fieldLinkNest "WaterTwice" (163 : Nat) "WaterTwice$Store" "out" "[I" "WaterTwice"), (Jvm.Cond.fieldLinkNest "WaterTwice" (176 : Nat) "WaterTwice$Meters" "reading" "[I" "WaterTwice"), (Jvm.Cond.fieldLinkNest "WaterTwice" (209 : Nat) "WaterTwice$Meters" "size" "I" "WaterTwice"), (Jvm.Cond.fieldLinkNest "WaterTwice" (79 : Nat) "WaterTwice$Limits" "MOST" "[I" "WaterTwice"), (Jvm.Cond.methodLinkNest "WaterTwice" (9 : Nat) ({ cls := "WaterTwice$Steps", name := "<init>", desc := "()V" } : Jvm.MethodName) "WaterTwice"), (Jvm.Cond.methodLinkNest "WaterTwice$Design" (43 : Nat) ({ cls := "WaterTwice$Fraction", name := "<init>", desc := "()V" } : Jvm.MethodName) "WaterTwice"), (Jvm.Cond.methodLinkNest "WaterTwice" (34 : Nat) ({ cls := "WaterTwice$Store", name := "<init>", desc := "()V" } : Jvm.MethodName) "WaterTwice"), (Jvm.Cond.methodLinkNest "WaterTwice" (41 : Nat) ({ cls := "WaterTwice$Meters", name := "<init>", desc := "()V" } : Jvm.MethodName) "WaterTwice"), (Jvm.Cond.methodLinkNest "WaterTwice" (48 : Nat) ({ cls := "WaterTwice$Fraction", name := "<init>", desc := "()V" } : Jvm.MethodName) "WaterTwice")]
theorem nestW_tbl : ∀ w ∈ nestW, w ∈ lw_tbl := by
  intro w hw
  simp only [nestW, List.mem_cons, List.not_mem_nil, or_false] at hw
  rcases hw with h | h | h | h | h | h | h | h | h | h | h | h | h | h | h | h | h | h | h | h | h | h | h | h | h | h <;> subst h
  · exact kt_47
  · exact kt_48
  · exact kt_50
  · exact kt_51
  · exact kt_53
  · exact kt_55
  · exact kt_56
  · exact kt_58
  · exact kt_59
  · exact kt_80
  · exact kt_102
  · exact kt_104
  · exact kt_113
  · exact kt_115
  · exact kt_120
  · exact kt_122
  · exact kt_147
  · exact kt_149
  · exact kt_163
  · exact kt_165
  · exact kt_228
  · exact kt_42
  · exact kt_97
  · exact kt_142
  · exact kt_157
  · exact kt_174
theorem kn_47 : (Jvm.Cond.fieldLinkNest "WaterTwice" (65 : Nat) "WaterTwice$Steps" "load" "[I" "WaterTwice") ∈ nestW := List.mem_of_getElem? (i := 0) rfl
theorem kn_48 : (Jvm.Cond.fieldLinkNest "WaterTwice$Design" (99 : Nat) "WaterTwice$Steps" "load" "[I" "WaterTwice") ∈ nestW := List.mem_of_getElem? (i := 1) rfl
theorem kn_50 : (Jvm.Cond.fieldLinkNest "WaterTwice$Limits" (20 : Nat) "WaterTwice$Steps" "in" "[I" "WaterTwice") ∈ nestW := List.mem_of_getElem? (i := 2) rfl
theorem kn_51 : (Jvm.Cond.fieldLinkNest "WaterTwice$Design" (63 : Nat) "WaterTwice$Steps" "in" "[I" "WaterTwice") ∈ nestW := List.mem_of_getElem? (i := 3) rfl
theorem kn_53 : (Jvm.Cond.fieldLinkNest "WaterTwice$Limits" (25 : Nat) "WaterTwice$Steps" "out" "[I" "WaterTwice") ∈ nestW := List.mem_of_getElem? (i := 4) rfl
theorem kn_55 : (Jvm.Cond.fieldLinkNest "WaterTwice" (73 : Nat) "WaterTwice$Steps" "lag" "[I" "WaterTwice") ∈ nestW := List.mem_of_getElem? (i := 5) rfl
theorem kn_56 : (Jvm.Cond.fieldLinkNest "WaterTwice$Design" (114 : Nat) "WaterTwice$Steps" "lag" "[I" "WaterTwice") ∈ nestW := List.mem_of_getElem? (i := 6) rfl
theorem kn_58 : (Jvm.Cond.fieldLinkNest "WaterTwice$Design" (44 : Nat) "WaterTwice$Steps" "size" "I" "WaterTwice") ∈ nestW := List.mem_of_getElem? (i := 7) rfl
theorem kn_59 : (Jvm.Cond.fieldLinkNest "WaterTwice" (199 : Nat) "WaterTwice$Steps" "size" "I" "WaterTwice") ∈ nestW := List.mem_of_getElem? (i := 8) rfl
theorem kn_80 : (Jvm.Cond.fieldLinkNest "WaterTwice" (82 : Nat) "WaterTwice$Limits" "settings" "[I" "WaterTwice") ∈ nestW := List.mem_of_getElem? (i := 9) rfl
theorem kn_102 : (Jvm.Cond.fieldLinkNest "WaterTwice$Design" (92 : Nat) "WaterTwice$Fraction" "upper" "J" "WaterTwice") ∈ nestW := List.mem_of_getElem? (i := 10) rfl
theorem kn_104 : (Jvm.Cond.fieldLinkNest "WaterTwice$Design" (96 : Nat) "WaterTwice$Fraction" "lower" "J" "WaterTwice") ∈ nestW := List.mem_of_getElem? (i := 11) rfl
theorem kn_113 : (Jvm.Cond.fieldLinkNest "WaterTwice" (117 : Nat) "WaterTwice$Design" "fresh" "[I" "WaterTwice") ∈ nestW := List.mem_of_getElem? (i := 12) rfl
theorem kn_115 : (Jvm.Cond.fieldLinkNest "WaterTwice" (120 : Nat) "WaterTwice$Design" "pipes" "[[I" "WaterTwice") ∈ nestW := List.mem_of_getElem? (i := 13) rfl
theorem kn_120 : (Jvm.Cond.fieldLinkNest "WaterTwice" (142 : Nat) "WaterTwice$Design" "ends" "[LWaterTwice$Fraction;" "WaterTwice") ∈ nestW := List.mem_of_getElem? (i := 14) rfl
theorem kn_122 : (Jvm.Cond.fieldLinkNest "WaterTwice" (150 : Nat) "WaterTwice$Design" "hitIn" "[I" "WaterTwice") ∈ nestW := List.mem_of_getElem? (i := 15) rfl
theorem kn_147 : (Jvm.Cond.fieldLinkNest "WaterTwice" (160 : Nat) "WaterTwice$Store" "in" "[I" "WaterTwice") ∈ nestW := List.mem_of_getElem? (i := 16) rfl
theorem kn_149 : (Jvm.Cond.fieldLinkNest "WaterTwice" (163 : Nat) "WaterTwice$Store" "out" "[I" "WaterTwice") ∈ nestW := List.mem_of_getElem? (i := 17) rfl
theorem kn_163 : (Jvm.Cond.fieldLinkNest "WaterTwice" (176 : Nat) "WaterTwice$Meters" "reading" "[I" "WaterTwice") ∈ nestW := List.mem_of_getElem? (i := 18) rfl
theorem kn_165 : (Jvm.Cond.fieldLinkNest "WaterTwice" (209 : Nat) "WaterTwice$Meters" "size" "I" "WaterTwice") ∈ nestW := List.mem_of_getElem? (i := 19) rfl
theorem kn_228 : (Jvm.Cond.fieldLinkNest "WaterTwice" (79 : Nat) "WaterTwice$Limits" "MOST" "[I" "WaterTwice") ∈ nestW := List.mem_of_getElem? (i := 20) rfl
theorem kn_42 : (Jvm.Cond.methodLinkNest "WaterTwice" (9 : Nat) ({ cls := "WaterTwice$Steps", name := "<init>", desc := "()V" } : Jvm.MethodName) "WaterTwice") ∈ nestW := List.mem_of_getElem? (i := 21) rfl
theorem kn_97 : (Jvm.Cond.methodLinkNest "WaterTwice$Design" (43 : Nat) ({ cls := "WaterTwice$Fraction", name := "<init>", desc := "()V" } : Jvm.MethodName) "WaterTwice") ∈ nestW := List.mem_of_getElem? (i := 22) rfl
theorem kn_142 : (Jvm.Cond.methodLinkNest "WaterTwice" (34 : Nat) ({ cls := "WaterTwice$Store", name := "<init>", desc := "()V" } : Jvm.MethodName) "WaterTwice") ∈ nestW := List.mem_of_getElem? (i := 23) rfl
theorem kn_157 : (Jvm.Cond.methodLinkNest "WaterTwice" (41 : Nat) ({ cls := "WaterTwice$Meters", name := "<init>", desc := "()V" } : Jvm.MethodName) "WaterTwice") ∈ nestW := List.mem_of_getElem? (i := 24) rfl
theorem kn_174 : (Jvm.Cond.methodLinkNest "WaterTwice" (48 : Nat) ({ cls := "WaterTwice$Fraction", name := "<init>", desc := "()V" } : Jvm.MethodName) "WaterTwice") ∈ nestW := List.mem_of_getElem? (i := 25) rfl
/-- a nest mate's words hold -/
def nsX (U : State) : Prop := ∀ w ∈ nestW, va_Nw w U
theorem nsX_warm {s U : State} (hW : s.WarmedH U.vm) (h : nsX s) : nsX U := by
  intro w hw
  have hz := h w hw
  have key : (∃ a i b n d q, w = .fieldLinkNest a i b n d q) ∨ (∃ a i x q, w = .methodLinkNest a i x q) := by
    simp only [nestW, List.mem_cons, List.not_mem_nil, or_false] at hw
    rcases hw with e | e | e | e | e | e | e | e | e | e | e | e | e | e | e | e | e | e | e | e | e | e | e | e | e | e <;> subst e <;> first | exact Or.inl ⟨_, _, _, _, _, _, rfl⟩ | exact Or.inr ⟨_, _, _, _, rfl⟩
  rcases key with ⟨a, i, b, n, d, q, rfl⟩ | ⟨a, i, x, q, rfl⟩
  · exact va_Nw.warmF hW hz
  · exact va_Nw.warmM hW hz
theorem nsX_same {u U : State} (h : u.vm = U.vm) (hz : nsX u) : nsX U := by
  intro w hw
  have hq := hz w hw
  have key : w.onTables = true := by
    simp only [nestW, List.mem_cons, List.not_mem_nil, or_false] at hw
    rcases hw with e | e | e | e | e | e | e | e | e | e | e | e | e | e | e | e | e | e | e | e | e | e | e | e | e | e <;> subst e <;> rfl
  exact va_Nw.same key h hq
/-! the class's cells: int rows 0 .. 17 (0 load, 1 in, 2 out, 3 lag, 4 settings, 5 fresh, 6 .. 10 pipes, 11 taken, 12 order, 13 hitIn, 14 in, 15 out of the store, 16 sign, 17 reading), fractions 18 .. 28 (answer, comes, ends), 29 WaterTwice, 30 Steps, 31 Limits, 32 Design, 33 Store, 34 Meters, 35 pipes, 36 comes, 37 ends -/
abbrev UX : Type := (Nat → Nat → Int32) × (Nat → Int64 × Int64) × Int32 × Int32 × Int64
def la (k : Nat) : Nat := if k = 4 then 3 else if k = 14 then 24 else if k = 15 then 24 else if k = 16 then 8 else if k = 17 then 8 else 5
theorem la_row {i : Nat} (h : i < 5) : la (6 + i) = 5 := by
  unfold la
  rw [if_neg (by omega), if_neg (by omega), if_neg (by omega), if_neg (by omega), if_neg (by omega)]
def xe (ad : Nat → Nat) (cs : Nat → ClassId) (u : UX) (k : Nat) : va_E :=
  if k < 18 then .inl (if k = 11 then cs 1 else cs 0, la k, .inl (u.1 k))
  else if k < 29 then .inr (1, [.long (u.2.1 k).1, .long (u.2.1 k).2])
  else if k = 29 then .inr (6, [.ref (ad 30), .ref (ad 31), .ref (ad 32), .ref (ad 33), .ref (ad 34), .ref (ad 18), .long u.2.2.2.2])
  else if k = 30 then .inr (4, [.ref (ad 0), .ref (ad 1), .ref (ad 2), .ref (ad 3), .int u.2.2.1])
  else if k = 31 then .inr (2, [.ref (ad 30), .ref (ad 4)])
  else if k = 32 then .inr (0, [.ref (ad 30), .ref (ad 5), .ref (ad 35), .ref (ad 11), .ref (ad 12), .ref (ad 36), .ref (ad 37), .ref (ad 13)])
  else if k = 33 then .inr (5, [.ref (ad 14), .ref (ad 15)])
  else if k = 34 then .inr (3, [.ref (ad 16), .ref (ad 17), .int u.2.2.2.1])
  else if k = 35 then .inl (cs 2, 5, .inr (.inr (.inr (.inr (fun j => some (ad (6 + j)))))))
  else if k = 36 then .inl (cs 3, 5, .inr (.inr (.inr (.inr (fun j => some (ad (19 + j)))))))
  else .inl (cs 3, 5, .inr (.inr (.inr (.inr (fun j => some (ad (24 + j)))))))
def wX (ad : Nat → Nat) (cs : Nat → ClassId) (u : UX) : va_W := (List.range 38).map (fun k => (ad k, xe ad cs u k))
abbrev tyX (cs : Nat → ClassId) : List (ClassId × FieldType) := [(cs 0, .int), (cs 1, .boolean), (cs 2, .array .int), (cs 3, .object RX2)]
def AX (ad : Nat → Nat) : Nat → Prop := fun q => ∃ k, k < 38 ∧ q = ad k
def XJ (ad : Nat → Nat) : Prop := ∀ i j, i < 38 → j < 38 → ad i = ad j → i = j
def mostI (j : Nat) : Int32 := if j = 0 then 100 else if j = 1 then 40 else 2
def mostV (j : Nat) : Value := .int (mostI j)
def xC (D : va_G) (ad : Nat → Nat) (cs : Nat → ClassId) (tM : Nat) (s : State) : Prop := va_K D vwCl (tyX cs) s ∧ XJ ad ∧ nsX s ∧ va_Z RX3 "MOST" "[I" (.ref tM) (AX ad) s s.heap ∧ va_T .int tM 3 mostV (AX ad) s s.heap
section XW
variable {ad : Nat → Nat} {cs : Nat → ClassId} {u : UX} {D : va_G} {tM : Nat}
theorem wX_at {k : Nat} (h : k < 38) : (wX ad cs u)[k]? = some (ad k, xe ad cs u k) := by
  unfold wX
  rw [List.getElem?_map, List.getElem?_range h]
  rfl
theorem wX_of {k : Nat} {q : Nat × va_E} (h : (wX ad cs u)[k]? = some q) : k < 38 ∧ q = (ad k, xe ad cs u k) := by
  have hk : k < 38 := by
    have := (List.getElem?_eq_some_iff.mp h).1
    simpa [wX] using this
  rw [wX_at hk] at h
  cases h
  exact ⟨hk, rfl⟩
theorem wX_D (hJ : XJ ad) : va_D (AX ad) (wX ad cs u) := by
  refine ⟨fun i j p q hi hj hpq => ?_, fun k q hk => ?_⟩
  · obtain ⟨h1, rfl⟩ := wX_of hi
    obtain ⟨h2, rfl⟩ := wX_of hj
    exact hJ i j h1 h2 hpq
  · obtain ⟨h1, rfl⟩ := wX_of hk
    exact ⟨k, h1, rfl⟩
theorem wX_set {k : Nat} {e : va_E} {u1 : UX} (hk : k < 38) (h1 : xe ad cs u1 k = e) (h2 : ∀ j, j < 38 → j ≠ k → xe ad cs u1 j = xe ad cs u j) : (wX ad cs u).set k (ad k, e) = wX ad cs u1 := by
  apply List.ext_getElem?
  intro j
  by_cases hj : j < 38
  · rw [wX_at hj]
    by_cases e1 : j = k
    · subst e1
      rw [List.getElem?_set_self (by simp [wX]; omega), h1]
    · rw [List.getElem?_set_ne (Ne.symm e1), wX_at hj, h2 j hj e1]
  · rw [List.getElem?_eq_none (by simp [wX]; omega), List.getElem?_eq_none (by simp [wX]; omega)]
theorem xC_ok (D : va_G) (ad : Nat → Nat) (cs : Nat → ClassId) (tM : Nat) (hJ : XJ ad) : WSok D (wX ad cs) (AX ad) (xC D ad cs tM) := by
  refine ⟨fun u => wX_D hJ, fun U g mk a h => ?_, fun s U H locs h hU hW hS => ?_⟩
  · obtain ⟨h1, h2, h3, h4, h5⟩ := h
    exact ⟨va_K.moved (u := U) (U := U.calling g mk a) (Vm.Alike.refl U.vm) h1, h2, nsX_same (u := U) (U := U.calling g mk a) rfl h3, va_Z.moved (u := U) (U := U.calling g mk a) (Vm.Alike.refl U.vm) h4, va_T.moved (u := U) (U := U.calling g mk a) (Vm.Alike.refl U.vm) h5⟩
  · obtain ⟨h1, h2, h3, h4, h5⟩ := h
    subst hU
    exact ⟨va_K.moved hW.alike h1, h2, nsX_warm hW h3, va_Z.moved hW.alike (va_Z.kept h4 hS.2.1), va_T.moved hW.alike (va_T.kept h5 hS.2.1)⟩
/-! what stands where -/
theorem x_arr {k n : Nat} (h : k < 18) (hz : ¬ k = 11) (hn : la k = n) : (wX ad cs u)[k]? = some (ad k, .inl (cs 0, n, .inl (u.1 k))) := by
  rw [wX_at (by omega)]
  unfold xe
  rw [if_pos h, if_neg hz, hn]
theorem x_tak : (wX ad cs u)[11]? = some (ad 11, .inl (cs 1, 5, .inl (u.1 11))) := by
  rw [wX_at (by omega)]
  rfl
theorem x_fra {q : Nat} (h1 : 18 ≤ q) (h2 : q < 29) : (wX ad cs u)[q]? = some (ad q, .inr (1, [.long (u.2.1 q).1, .long (u.2.1 q).2])) := by
  rw [wX_at (by omega)]
  unfold xe
  rw [if_neg (by omega), if_pos h2]
theorem x_o29 : (wX ad cs u)[29]? = some (ad 29, .inr (6, [.ref (ad 30), .ref (ad 31), .ref (ad 32), .ref (ad 33), .ref (ad 34), .ref (ad 18), .long u.2.2.2.2])) := by
  rw [wX_at (by omega)]; rfl
theorem x_o30 : (wX ad cs u)[30]? = some (ad 30, .inr (4, [.ref (ad 0), .ref (ad 1), .ref (ad 2), .ref (ad 3), .int u.2.2.1])) := by
  rw [wX_at (by omega)]; rfl
theorem x_o31 : (wX ad cs u)[31]? = some (ad 31, .inr (2, [.ref (ad 30), .ref (ad 4)])) := by
  rw [wX_at (by omega)]; rfl
theorem x_o32 : (wX ad cs u)[32]? = some (ad 32, .inr (0, [.ref (ad 30), .ref (ad 5), .ref (ad 35), .ref (ad 11), .ref (ad 12), .ref (ad 36), .ref (ad 37), .ref (ad 13)])) := by
  rw [wX_at (by omega)]; rfl
theorem x_o33 : (wX ad cs u)[33]? = some (ad 33, .inr (5, [.ref (ad 14), .ref (ad 15)])) := by
  rw [wX_at (by omega)]; rfl
theorem x_o34 : (wX ad cs u)[34]? = some (ad 34, .inr (3, [.ref (ad 16), .ref (ad 17), .int u.2.2.2.1])) := by
  rw [wX_at (by omega)]; rfl
theorem x_o35 : (wX ad cs u)[35]? = some (ad 35, .inl (cs 2, 5, .inr (.inr (.inr (.inr (fun j => some (ad (6 + j)))))))) := by
  rw [wX_at (by omega)]; rfl
theorem x_o36 : (wX ad cs u)[36]? = some (ad 36, .inl (cs 3, 5, .inr (.inr (.inr (.inr (fun j => some (ad (19 + j)))))))) := by
  rw [wX_at (by omega)]; rfl
theorem x_o37 : (wX ad cs u)[37]? = some (ad 37, .inl (cs 3, 5, .inr (.inr (.inr (.inr (fun j => some (ad (24 + j)))))))) := by
  rw [wX_at (by omega)]; rfl
end XW
/-! changes of the state -/
def xst (u : UX) (k j : Nat) (x : Int32) : UX := (fun a => if a = k then upd (u.1 k) j x else u.1 a, u.2)
def xfU (u : UX) (q : Nat) (v : Int64) : UX := (u.1, fun a => if a = q then (v, (u.2.1 q).2) else u.2.1 a, u.2.2)
def xfL (u : UX) (q : Nat) (v : Int64) : UX := (u.1, fun a => if a = q then ((u.2.1 q).1, v) else u.2.1 a, u.2.2)
def xsz (u : UX) (v : Int32) : UX := (u.1, u.2.1, v, u.2.2.2)
def xms (u : UX) (v : Int32) : UX := (u.1, u.2.1, u.2.2.1, v, u.2.2.2.2)
def xtr (u : UX) (v : Int64) : UX := (u.1, u.2.1, u.2.2.1, u.2.2.2.1, v)
section XR
variable {p : Program} {l : Launch} {e : Env} {R : Room} {s : State} {m : MethodId} {args : Array Value} {below : List Frame} {meth : Method} {c : Code} {H : Heap} {locs : List Loc} {cells slots : Nat} {Q : State → Prop}
variable {D : va_G} {ad : Nat → Nat} {cs : Nat → ClassId} {u : UX} {cc : ByteArray} {pc : Nat} {own : String} {rest : List Value} {ls : Array Slot} {index : Nat}
theorem x_iald {k n : Nat} {i : Int32} (hexec : p.tables.exec = Jvm.exec) (hb : c.code = cc) (hK : va_K D vwCl (tyX cs) s) (hP : va_P D vwCl (wX ad cs u) H) (hk : k < 18) (hz : ¬ k = 11) (hn : la k = n) (hin : vin i n = true) (hdg : decode cc pc = .ok (.iaload, 1))
    (kk : W p l e R s m args below meth c H locs cells slots Q (F0 m (pc + 1) ls (.int (u.1 k i.toNatClampNeg) :: rest))) : W p l e R s m args below meth c H locs cells slots Q (F0 m pc ls (.int i :: .ref (ad k) :: rest)) :=
  va_iald hexec hb hK hP k 0 (x_arr hk hz hn) rfl (vin_ok hin) hdg kk
theorem x_zald {i : Int32} (hexec : p.tables.exec = Jvm.exec) (hb : c.code = cc) (hK : va_K D vwCl (tyX cs) s) (hP : va_P D vwCl (wX ad cs u) H) (hin : vin i 5 = true) (hdg : decode cc pc = .ok (.baload, 1))
    (kk : W p l e R s m args below meth c H locs cells slots Q (F0 m (pc + 1) ls (.int (u.1 11 i.toNatClampNeg) :: rest))) : W p l e R s m args below meth c H locs cells slots Q (F0 m pc ls (.int i :: .ref (ad 11) :: rest)) :=
  va_zald hexec hb hK hP 11 1 x_tak rfl (vin_ok hin) hdg kk
theorem x_iast {k n : Nat} {i x : Int32} (hexec : p.tables.exec = Jvm.exec) (hb : c.code = cc) (hK : va_K D vwCl (tyX cs) s) (hP : va_P D vwCl (wX ad cs u) H) (hJ : XJ ad) (hS : va_S (AX ad) s.heap H locs) (hk : k < 18) (hz : ¬ k = 11) (hn : la k = n) (hin : vin i n = true) (hdg : decode cc pc = .ok (.iastore, 1))
    (kk : ∀ (H : Heap) (locs : List Loc), va_P D vwCl (wX ad cs (xst u k i.toNatClampNeg x)) H → va_S (AX ad) s.heap H locs → W p l e R s m args below meth c H locs cells slots Q (F0 m (pc + 1) ls rest)) : W p l e R s m args below meth c H locs cells slots Q (F0 m pc ls (.int x :: .int i :: .ref (ad k) :: rest)) := by
  refine va_iast hexec hb hK hP (wX_D hJ) hS k 0 (x_arr hk hz hn) rfl (vin_ok hin) hdg (fun H1 locs1 hP1 _ hS1 => kk H1 locs1 ?_ hS1)
  rw [wX_set (u1 := xst u k i.toNatClampNeg x) (by omega)] at hP1
  · exact hP1
  · unfold xe xst
    rw [if_pos hk, if_neg hz, hn]
    simp
  · intro j hj hne
    unfold xe xst
    simp [hne]
theorem x_zast {i x : Int32} (hexec : p.tables.exec = Jvm.exec) (hb : c.code = cc) (hK : va_K D vwCl (tyX cs) s) (hP : va_P D vwCl (wX ad cs u) H) (hJ : XJ ad) (hS : va_S (AX ad) s.heap H locs) (hx : vp_nar .boolean x = x) (hin : vin i 5 = true) (hdg : decode cc pc = .ok (.bastore, 1))
    (kk : ∀ (H : Heap) (locs : List Loc), va_P D vwCl (wX ad cs (xst u 11 i.toNatClampNeg x)) H → va_S (AX ad) s.heap H locs → W p l e R s m args below meth c H locs cells slots Q (F0 m (pc + 1) ls rest)) : W p l e R s m args below meth c H locs cells slots Q (F0 m pc ls (.int x :: .int i :: .ref (ad 11) :: rest)) := by
  refine va_zast hexec hb hK hP (wX_D hJ) hS 11 1 x_tak rfl (vin_ok hin) hdg (fun H1 locs1 hP1 _ hS1 => kk H1 locs1 ?_ hS1)
  rw [hx, wX_set (u1 := xst u 11 i.toNatClampNeg x) (by omega)] at hP1
  · exact hP1
  · rfl
  · intro j hj hne
    unfold xe xst
    simp [hne]
theorem x_alen {k : Nat} (hexec : p.tables.exec = Jvm.exec) (hb : c.code = cc) (hK : va_K D vwCl (tyX cs) s) (hP : va_P D vwCl (wX ad cs u) H) (hk : k < 18) (hz : ¬ k = 11) (hdg : decode cc pc = .ok (.arraylength, 1))
    (kk : W p l e R s m args below meth c H locs cells slots Q (F0 m (pc + 1) ls (.int (Int32.ofNat (la k)) :: rest))) : W p l e R s m args below meth c H locs cells slots Q (F0 m pc ls (.ref (ad k) :: rest)) :=
  va_alen hexec hb hK hP k 0 (x_arr hk hz rfl) rfl rfl hdg kk
theorem x_ald35 {i : Int32} (hexec : p.tables.exec = Jvm.exec) (hb : c.code = cc) (hK : va_K D vwCl (tyX cs) s) (hP : va_P D vwCl (wX ad cs u) H) (hin : vin i 5 = true) (hdg : decode cc pc = .ok (.aaload, 1))
    (kk : W p l e R s m args below meth c H locs cells slots Q (F0 m (pc + 1) ls (.ref (ad (6 + i.toNatClampNeg)) :: rest))) : W p l e R s m args below meth c H locs cells slots Q (F0 m pc ls (.int i :: .ref (ad 35) :: rest)) :=
  va_aldA hexec hb hK hP 35 2 x_o35 rfl (vin_ok hin) hdg kk
theorem x_ald36 {i : Int32} (hexec : p.tables.exec = Jvm.exec) (hb : c.code = cc) (hK : va_K D vwCl (tyX cs) s) (hP : va_P D vwCl (wX ad cs u) H) (hin : vin i 5 = true) (hdg : decode cc pc = .ok (.aaload, 1))
    (kk : W p l e R s m args below meth c H locs cells slots Q (F0 m (pc + 1) ls (.ref (ad (19 + i.toNatClampNeg)) :: rest))) : W p l e R s m args below meth c H locs cells slots Q (F0 m pc ls (.int i :: .ref (ad 36) :: rest)) :=
  va_aldq hexec hb hK hP 36 3 x_o36 rfl (vin_ok hin) hdg kk
theorem x_ald37 {i : Int32} (hexec : p.tables.exec = Jvm.exec) (hb : c.code = cc) (hK : va_K D vwCl (tyX cs) s) (hP : va_P D vwCl (wX ad cs u) H) (hin : vin i 5 = true) (hdg : decode cc pc = .ok (.aaload, 1))
    (kk : W p l e R s m args below meth c H locs cells slots Q (F0 m (pc + 1) ls (.ref (ad (24 + i.toNatClampNeg)) :: rest))) : W p l e R s m args below meth c H locs cells slots Q (F0 m pc ls (.int i :: .ref (ad 37) :: rest)) :=
  va_aldq hexec hb hK hP 37 3 x_o37 rfl (vin_ok hin) hdg kk
theorem x_putU {q : Nat} {v : Int64} (hexec : p.tables.exec = Jvm.exec) (hb : c.code = cc) (hg : ∀ w ∈ wsG, w.before args s = true) (hown : s.vm.findClass RX2 = some m.cls) (hK : va_K D vwCl (tyX cs) s) (hP : va_P D vwCl (wX ad cs u) H) (hJ : XJ ad) (hS : va_S (AX ad) s.heap H locs) (h1 : 18 ≤ q) (h2 : q < 29) (hl : (Cond.fieldLink RX2 index RX2 "upper" "J").before args s = true) (hdg : decode cc pc = .ok (.putfield index, 3))
    (kk : ∀ (H : Heap) (locs : List Loc), va_P D vwCl (wX ad cs (xfU u q v)) H → va_S (AX ad) s.heap H locs → W p l e R s m args below meth c H locs cells slots Q (F0 m (pc + 3) ls rest)) : W p l e R s m args below meth c H locs cells slots Q (F0 m pc ls (.long v :: .ref (ad q) :: rest)) := by
  refine va_put (ci := 1) (v := .long v) (ty := .long) (C := RX2) (T := TX2) (N := 2) hexec hb hg inG_X2 tyX2 tyX2_ok nmX2 hown hK hP (wX_D hJ) hS q (x_fra h1 h2) rfl 0 (by decide) hl (fun _ h9 => h9) rfl (by decide +kernel) rfl rfl (Nat.le_of_ble_eq_true rfl) hdg (fun H1 locs1 hP1 _ hS1 => kk H1 locs1 ?_ hS1)
  rw [wX_set (u1 := xfU u q v) (by omega)] at hP1
  · exact hP1
  · unfold xe xfU
    rw [if_neg (by omega), if_pos h2]
    simp
  · intro j hj hne
    unfold xe xfU
    simp [hne]
theorem x_putL {q : Nat} {v : Int64} (hexec : p.tables.exec = Jvm.exec) (hb : c.code = cc) (hg : ∀ w ∈ wsG, w.before args s = true) (hown : s.vm.findClass RX2 = some m.cls) (hK : va_K D vwCl (tyX cs) s) (hP : va_P D vwCl (wX ad cs u) H) (hJ : XJ ad) (hS : va_S (AX ad) s.heap H locs) (h1 : 18 ≤ q) (h2 : q < 29) (hl : (Cond.fieldLink RX2 index RX2 "lower" "J").before args s = true) (hdg : decode cc pc = .ok (.putfield index, 3))
    (kk : ∀ (H : Heap) (locs : List Loc), va_P D vwCl (wX ad cs (xfL u q v)) H → va_S (AX ad) s.heap H locs → W p l e R s m args below meth c H locs cells slots Q (F0 m (pc + 3) ls rest)) : W p l e R s m args below meth c H locs cells slots Q (F0 m pc ls (.long v :: .ref (ad q) :: rest)) := by
  refine va_put (ci := 1) (v := .long v) (ty := .long) (C := RX2) (T := TX2) (N := 2) hexec hb hg inG_X2 tyX2 tyX2_ok nmX2 hown hK hP (wX_D hJ) hS q (x_fra h1 h2) rfl 1 (by decide) hl (fun _ h9 => h9) rfl (by decide +kernel) rfl rfl (Nat.le_of_ble_eq_true rfl) hdg (fun H1 locs1 hP1 _ hS1 => kk H1 locs1 ?_ hS1)
  rw [wX_set (u1 := xfL u q v) (by omega)] at hP1
  · exact hP1
  · unfold xe xfL
    rw [if_neg (by omega), if_pos h2]
    simp
  · intro j hj hne
    unfold xe xfL
    simp [hne]
theorem x_putN {v : Int32} (hexec : p.tables.exec = Jvm.exec) (hb : c.code = cc) (hg : ∀ w ∈ wsG, w.before args s = true) (hown : s.vm.findClass RX5 = some m.cls) (hK : va_K D vwCl (tyX cs) s) (hP : va_P D vwCl (wX ad cs u) H) (hJ : XJ ad) (hS : va_S (AX ad) s.heap H locs) (hl : (Cond.fieldLink RX5 index RX5 "size" "I").before args s = true) (hdg : decode cc pc = .ok (.putfield index, 3))
    (kk : ∀ (H : Heap) (locs : List Loc), va_P D vwCl (wX ad cs (xsz u v)) H → va_S (AX ad) s.heap H locs → W p l e R s m args below meth c H locs cells slots Q (F0 m (pc + 3) ls rest)) : W p l e R s m args below meth c H locs cells slots Q (F0 m pc ls (.int v :: .ref (ad 30) :: rest)) := by
  refine va_put (ci := 4) (v := .int v) (ty := .int) (C := RX5) (T := TX5) (N := 5) hexec hb hg inG_X5 tyX5 tyX5_ok nmX5 hown hK hP (wX_D hJ) hS 30 x_o30 rfl 4 (by decide) hl (fun _ h9 => h9) rfl (by decide +kernel) rfl rfl (Nat.le_of_ble_eq_true rfl) hdg (fun H1 locs1 hP1 _ hS1 => kk H1 locs1 ?_ hS1)
  rw [wX_set (u1 := xsz u v) (by omega)] at hP1
  · exact hP1
  · rfl
  · intro j hj hne
    unfold xe xsz
    simp [hne]
theorem x_putM {v : Int32} (hexec : p.tables.exec = Jvm.exec) (hb : c.code = cc) (hg : ∀ w ∈ wsG, w.before args s = true) (hown : s.vm.findClass RX4 = some m.cls) (hK : va_K D vwCl (tyX cs) s) (hP : va_P D vwCl (wX ad cs u) H) (hJ : XJ ad) (hS : va_S (AX ad) s.heap H locs) (hl : (Cond.fieldLink RX4 index RX4 "size" "I").before args s = true) (hdg : decode cc pc = .ok (.putfield index, 3))
    (kk : ∀ (H : Heap) (locs : List Loc), va_P D vwCl (wX ad cs (xms u v)) H → va_S (AX ad) s.heap H locs → W p l e R s m args below meth c H locs cells slots Q (F0 m (pc + 3) ls rest)) : W p l e R s m args below meth c H locs cells slots Q (F0 m pc ls (.int v :: .ref (ad 34) :: rest)) := by
  refine va_put (ci := 3) (v := .int v) (ty := .int) (C := RX4) (T := TX4) (N := 3) hexec hb hg inG_X4 tyX4 tyX4_ok nmX4 hown hK hP (wX_D hJ) hS 34 x_o34 rfl 2 (by decide) hl (fun _ h9 => h9) rfl (by decide +kernel) rfl rfl (Nat.le_of_ble_eq_true rfl) hdg (fun H1 locs1 hP1 _ hS1 => kk H1 locs1 ?_ hS1)
  rw [wX_set (u1 := xms u v) (by omega)] at hP1
  · exact hP1
  · rfl
  · intro j hj hne
    unfold xe xms
    simp [hne]
theorem x_putT {v : Int64} (hexec : p.tables.exec = Jvm.exec) (hb : c.code = cc) (hg : ∀ w ∈ wsG, w.before args s = true) (hown : s.vm.findClass RX7 = some m.cls) (hK : va_K D vwCl (tyX cs) s) (hP : va_P D vwCl (wX ad cs u) H) (hJ : XJ ad) (hS : va_S (AX ad) s.heap H locs) (hl : (Cond.fieldLink RX7 index RX7 "traced" "J").before args s = true) (hdg : decode cc pc = .ok (.putfield index, 3))
    (kk : ∀ (H : Heap) (locs : List Loc), va_P D vwCl (wX ad cs (xtr u v)) H → va_S (AX ad) s.heap H locs → W p l e R s m args below meth c H locs cells slots Q (F0 m (pc + 3) ls rest)) : W p l e R s m args below meth c H locs cells slots Q (F0 m pc ls (.long v :: .ref (ad 29) :: rest)) := by
  refine va_put (ci := 6) (v := .long v) (ty := .long) (C := RX7) (T := TX7) (N := 7) hexec hb hg inG_X7 tyX7 tyX7_ok nmX7 hown hK hP (wX_D hJ) hS 29 x_o29 rfl 6 (by decide) hl (fun _ h9 => h9) rfl (by decide +kernel) rfl rfl (Nat.le_of_ble_eq_true rfl) hdg (fun H1 locs1 hP1 _ hS1 => kk H1 locs1 ?_ hS1)
  rw [wX_set (u1 := xtr u v) (by omega)] at hP1
  · exact hP1
  · rfl
  · intro j hj hne
    unfold xe xtr
    simp [hne]
end XR
theorem x_rec {s : State} {H : Heap} {D : va_G} {a q0 ci N : Nat} {C : String} {T : u_T} {fs : List Value} {ws : va_W} {tys : List (ClassId × FieldType)} (hK : va_K D vwCl tys s) (hP : va_P D vwCl ws H) (hc : vwCl[ci]? = some (C, T, N)) (he : ws[q0]? = some (a, .inr (ci, fs))) : ∃ cell : Cell, H[a]? = some cell ∧ cell.vm.isStatics = false ∧ s.vm.findClass C = some cell.cls := va_recv hK hP hc he
