def wsG : List Cond := lw_tbl.filter goodWord
theorem gm {w : Cond} (i : Nat) (h : lw_tbl[i]? = some w) (hg : goodWord w = true) : w ∈ wsG := List.mem_filter.mpr ⟨List.mem_of_getElem? h, hg⟩
theorem gt {w : Cond} (i : Nat) (h : lw_tbl[i]? = some w) : w ∈ lw_tbl := List.mem_of_getElem? h
theorem kw_0 : (Jvm.Cond.selects "WaterTwice$Steps" ({ cls := "WaterTwice$Steps", name := "commonLower", desc := "()J" } : Jvm.MethodName) ({ cls := "WaterTwice$Steps", name := "commonLower", desc := "()J" } : Jvm.MethodName)) ∈ wsG := gm 0 rfl rfl
theorem kw_1 : (Jvm.Cond.selects "WaterTwice$Steps" ({ cls := "WaterTwice$Steps", name := "span", desc := "(I)I" } : Jvm.MethodName) ({ cls := "WaterTwice$Steps", name := "span", desc := "(I)I" } : Jvm.MethodName)) ∈ wsG := gm 1 rfl rfl
theorem kw_2 : (Jvm.Cond.selects "WaterTwice$Steps" ({ cls := "WaterTwice$Steps", name := "dirtBelow", desc := "(IJ)J" } : Jvm.MethodName) ({ cls := "WaterTwice$Steps", name := "dirtBelow", desc := "(IJ)J" } : Jvm.MethodName)) ∈ wsG := gm 2 rfl rfl
theorem kw_3 : (Jvm.Cond.selects "WaterTwice$Steps" ({ cls := "WaterTwice$Steps", name := "better", desc := "(IIJ)I" } : Jvm.MethodName) ({ cls := "WaterTwice$Steps", name := "better", desc := "(IIJ)I" } : Jvm.MethodName)) ∈ wsG := gm 3 rfl rfl
theorem kw_4 : (Jvm.Cond.selects "WaterTwice$Design" ({ cls := "WaterTwice$Design", name := "takeInOrder", desc := "()V" } : Jvm.MethodName) ({ cls := "WaterTwice$Design", name := "takeInOrder", desc := "()V" } : Jvm.MethodName)) ∈ wsG := gm 4 rfl rfl
theorem kw_5 : (Jvm.Cond.selects "WaterTwice$Design" ({ cls := "WaterTwice$Design", name := "hasOnlyOfTaken", desc := "(I)Z" } : Jvm.MethodName) ({ cls := "WaterTwice$Design", name := "hasOnlyOfTaken", desc := "(I)Z" } : Jvm.MethodName)) ∈ wsG := gm 5 rfl rfl
theorem kw_6 : (Jvm.Cond.selects "WaterTwice$Design" ({ cls := "WaterTwice$Design", name := "soil", desc := "(I)V" } : Jvm.MethodName) ({ cls := "WaterTwice$Design", name := "soil", desc := "(I)V" } : Jvm.MethodName)) ∈ wsG := gm 6 rfl rfl
theorem kw_7 : (Jvm.Cond.selects "WaterTwice$Design" ({ cls := "WaterTwice$Design", name := "hitBehindOthers", desc := "(I)I" } : Jvm.MethodName) ({ cls := "WaterTwice$Design", name := "hitBehindOthers", desc := "(I)I" } : Jvm.MethodName)) ∈ wsG := gm 7 rfl rfl
theorem kw_8 : (Jvm.Cond.selects "WaterTwiceModel" ({ cls := "WaterTwiceModel", name := "isStep", desc := "(I)Z" } : Jvm.MethodName) ({ cls := "WaterTwiceModel", name := "isStep", desc := "(I)Z" } : Jvm.MethodName)) ∈ wsG := gm 8 rfl rfl
theorem kw_9 : (Jvm.Cond.selects "WaterTwiceModel" ({ cls := "WaterTwiceModel", name := "limitOf", desc := "(II)I" } : Jvm.MethodName) ({ cls := "WaterTwiceModel", name := "limitOf", desc := "(II)I" } : Jvm.MethodName)) ∈ wsG := gm 9 rfl rfl
theorem kw_10 : (Jvm.Cond.selects "WaterTwiceModel" ({ cls := "WaterTwiceModel", name := "below", desc := "()J" } : Jvm.MethodName) ({ cls := "WaterTwiceModel", name := "below", desc := "()J" } : Jvm.MethodName)) ∈ wsG := gm 10 rfl rfl
theorem kw_11 : (Jvm.Cond.selects "WaterTwiceModel" ({ cls := "WaterTwiceModel", name := "dirtOf", desc := "(IJ)J" } : Jvm.MethodName) ({ cls := "WaterTwiceModel", name := "dirtOf", desc := "(IJ)J" } : Jvm.MethodName)) ∈ wsG := gm 11 rfl rfl
theorem kw_12 : (Jvm.Cond.selects "WaterTwiceModel" ({ cls := "WaterTwiceModel", name := "pinch", desc := "()I" } : Jvm.MethodName) ({ cls := "WaterTwiceModel", name := "pinch", desc := "()I" } : Jvm.MethodName)) ∈ wsG := gm 12 rfl rfl
theorem kw_13 : (Jvm.Cond.selects "WaterTwiceModel" ({ cls := "WaterTwiceModel", name := "comes", desc := "(I)I" } : Jvm.MethodName) ({ cls := "WaterTwiceModel", name := "comes", desc := "(I)I" } : Jvm.MethodName)) ∈ wsG := gm 13 rfl rfl
theorem kw_14 : (Jvm.Cond.selects "WaterTwiceModel" ({ cls := "WaterTwiceModel", name := "goes", desc := "(I)I" } : Jvm.MethodName) ({ cls := "WaterTwiceModel", name := "goes", desc := "(I)I" } : Jvm.MethodName)) ∈ wsG := gm 14 rfl rfl
theorem kw_15 : (Jvm.Cond.selects "WaterTwiceModel" ({ cls := "WaterTwiceModel", name := "failsFirst", desc := "()I" } : Jvm.MethodName) ({ cls := "WaterTwiceModel", name := "failsFirst", desc := "()I" } : Jvm.MethodName)) ∈ wsG := gm 15 rfl rfl
theorem kw_16 : (Jvm.Cond.selects "WaterTwiceModel" ({ cls := "WaterTwiceModel", name := "takes", desc := "(I)V" } : Jvm.MethodName) ({ cls := "WaterTwiceModel", name := "takes", desc := "(I)V" } : Jvm.MethodName)) ∈ wsG := gm 16 rfl rfl
theorem kw_17 : (Jvm.Cond.selects "WaterTwiceModel" ({ cls := "WaterTwiceModel", name := "isMeter", desc := "(I)Z" } : Jvm.MethodName) ({ cls := "WaterTwiceModel", name := "isMeter", desc := "(I)Z" } : Jvm.MethodName)) ∈ wsG := gm 17 rfl rfl
theorem kw_18 : (Jvm.Cond.selects "WaterTwiceModel" ({ cls := "WaterTwiceModel", name := "missing", desc := "()I" } : Jvm.MethodName) ({ cls := "WaterTwiceModel", name := "missing", desc := "()I" } : Jvm.MethodName)) ∈ wsG := gm 18 rfl rfl
theorem kw_19 : (Jvm.Cond.selects "WaterTwiceModel" ({ cls := "WaterTwiceModel", name := "gapOf", desc := "()J" } : Jvm.MethodName) ({ cls := "WaterTwiceModel", name := "gapOf", desc := "()J" } : Jvm.MethodName)) ∈ wsG := gm 19 rfl rfl
theorem kw_20 : (Jvm.Cond.initialized "WaterTwiceLaw") ∈ wsG := gm 20 rfl rfl
theorem kw_21 : (Jvm.Cond.initialized "WaterTwice") ∈ wsG := gm 21 rfl rfl
theorem kw_22 : (Jvm.Cond.initialized "WaterTwice$Steps") ∈ wsG := gm 22 rfl rfl
theorem kw_23 : (Jvm.Cond.initialized "WaterTwice$Limits") ∈ wsG := gm 23 rfl rfl
theorem kw_24 : (Jvm.Cond.initialized "WaterTwice$Design") ∈ wsG := gm 24 rfl rfl
theorem kw_25 : (Jvm.Cond.initialized "WaterTwice$Fraction") ∈ wsG := gm 25 rfl rfl
theorem kw_26 : (Jvm.Cond.initialized "WaterTwice$Store") ∈ wsG := gm 26 rfl rfl
theorem kw_27 : (Jvm.Cond.initialized "WaterTwice$Meters") ∈ wsG := gm 27 rfl rfl
theorem kw_28 : (Jvm.Cond.initialized "WaterTwiceModel") ∈ wsG := gm 28 rfl rfl
theorem kw_29 : (Jvm.Cond.initialized "java/lang/Math") ∈ wsG := gm 29 rfl rfl
theorem kw_30 : (Jvm.Cond.initialized "java/lang/Long") ∈ wsG := gm 30 rfl rfl
theorem kw_31 : (Jvm.Cond.initialized "WaterTwice$Basin") ∈ wsG := gm 31 rfl rfl
theorem kw_32 : (Jvm.Cond.classLink "WaterTwiceLaw" (7 : Nat) "WaterTwice") ∈ wsG := gm 32 rfl rfl
theorem kw_33 : (Jvm.Cond.instantiable "WaterTwice" (7 : Nat)) ∈ wsG := gm 33 rfl rfl
theorem kw_34 : (Jvm.Cond.methodLink "WaterTwiceLaw" (9 : Nat) ({ cls := "WaterTwice", name := "<init>", desc := "()V" } : Jvm.MethodName)) ∈ wsG := gm 34 rfl rfl
theorem kw_35 : (Jvm.Cond.instanceMethod ({ cls := "WaterTwice", name := "<init>", desc := "()V" } : Jvm.MethodName)) ∈ wsG := gm 35 rfl rfl
theorem kw_36 : (Jvm.Cond.code ({ cls := "WaterTwice", name := "<init>", desc := "()V" } : Jvm.MethodName) prog_1_method_1_code (1 : Nat) (Option.none : Option Jvm.ClassFile.FieldType)) ∈ wsG := gm 36 rfl rfl
theorem kw_37 : (Jvm.Cond.methodLink "WaterTwice" (1 : Nat) ({ cls := "java/lang/Object", name := "<init>", desc := "()V" } : Jvm.MethodName)) ∈ wsG := gm 37 rfl rfl
theorem kw_38 : (Jvm.Cond.instanceMethod ({ cls := "java/lang/Object", name := "<init>", desc := "()V" } : Jvm.MethodName)) ∈ wsG := gm 38 rfl rfl
theorem kw_39 : (Jvm.Cond.code ({ cls := "java/lang/Object", name := "<init>", desc := "()V" } : Jvm.MethodName) object_method_1_code (1 : Nat) (Option.none : Option Jvm.ClassFile.FieldType)) ∈ wsG := gm 39 rfl rfl
theorem kw_40 : (Jvm.Cond.classLink "WaterTwice" (7 : Nat) "WaterTwice$Steps") ∈ wsG := gm 40 rfl rfl
theorem kw_41 : (Jvm.Cond.instantiable "WaterTwice$Steps" (5 : Nat)) ∈ wsG := gm 41 rfl rfl
theorem kt_42 : (Jvm.Cond.methodLinkNest "WaterTwice" (9 : Nat) ({ cls := "WaterTwice$Steps", name := "<init>", desc := "()V" } : Jvm.MethodName) "WaterTwice") ∈ lw_tbl := gt 42 rfl
theorem kw_43 : (Jvm.Cond.instanceMethod ({ cls := "WaterTwice$Steps", name := "<init>", desc := "()V" } : Jvm.MethodName)) ∈ wsG := gm 43 rfl rfl
theorem kw_44 : (Jvm.Cond.code ({ cls := "WaterTwice$Steps", name := "<init>", desc := "()V" } : Jvm.MethodName) prog_7_method_1_code (1 : Nat) (Option.none : Option Jvm.ClassFile.FieldType)) ∈ wsG := gm 44 rfl rfl
theorem kw_45 : (Jvm.Cond.methodLink "WaterTwice$Steps" (3 : Nat) ({ cls := "java/lang/Object", name := "<init>", desc := "()V" } : Jvm.MethodName)) ∈ wsG := gm 45 rfl rfl
theorem kw_46 : (Jvm.Cond.fieldLink "WaterTwice$Steps" (9 : Nat) "WaterTwice$Steps" "load" "[I") ∈ wsG := gm 46 rfl rfl
theorem kt_47 : (Jvm.Cond.fieldLinkNest "WaterTwice" (65 : Nat) "WaterTwice$Steps" "load" "[I" "WaterTwice") ∈ lw_tbl := gt 47 rfl
theorem kt_48 : (Jvm.Cond.fieldLinkNest "WaterTwice$Design" (99 : Nat) "WaterTwice$Steps" "load" "[I" "WaterTwice") ∈ lw_tbl := gt 48 rfl
theorem kw_49 : (Jvm.Cond.fieldLink "WaterTwice$Steps" (15 : Nat) "WaterTwice$Steps" "in" "[I") ∈ wsG := gm 49 rfl rfl
theorem kt_50 : (Jvm.Cond.fieldLinkNest "WaterTwice$Limits" (20 : Nat) "WaterTwice$Steps" "in" "[I" "WaterTwice") ∈ lw_tbl := gt 50 rfl
theorem kt_51 : (Jvm.Cond.fieldLinkNest "WaterTwice$Design" (63 : Nat) "WaterTwice$Steps" "in" "[I" "WaterTwice") ∈ lw_tbl := gt 51 rfl
theorem kw_52 : (Jvm.Cond.fieldLink "WaterTwice$Steps" (18 : Nat) "WaterTwice$Steps" "out" "[I") ∈ wsG := gm 52 rfl rfl
theorem kt_53 : (Jvm.Cond.fieldLinkNest "WaterTwice$Limits" (25 : Nat) "WaterTwice$Steps" "out" "[I" "WaterTwice") ∈ lw_tbl := gt 53 rfl
theorem kw_54 : (Jvm.Cond.fieldLink "WaterTwice$Steps" (21 : Nat) "WaterTwice$Steps" "lag" "[I") ∈ wsG := gm 54 rfl rfl
theorem kt_55 : (Jvm.Cond.fieldLinkNest "WaterTwice" (73 : Nat) "WaterTwice$Steps" "lag" "[I" "WaterTwice") ∈ lw_tbl := gt 55 rfl
theorem kt_56 : (Jvm.Cond.fieldLinkNest "WaterTwice$Design" (114 : Nat) "WaterTwice$Steps" "lag" "[I" "WaterTwice") ∈ lw_tbl := gt 56 rfl
theorem kw_57 : (Jvm.Cond.fieldLink "WaterTwice$Steps" (24 : Nat) "WaterTwice$Steps" "size" "I") ∈ wsG := gm 57 rfl rfl
theorem kt_58 : (Jvm.Cond.fieldLinkNest "WaterTwice$Design" (44 : Nat) "WaterTwice$Steps" "size" "I" "WaterTwice") ∈ lw_tbl := gt 58 rfl
theorem kt_59 : (Jvm.Cond.fieldLinkNest "WaterTwice" (199 : Nat) "WaterTwice$Steps" "size" "I" "WaterTwice") ∈ lw_tbl := gt 59 rfl
theorem kw_60 : (Jvm.Cond.laysFinal "WaterTwice$Steps" "WaterTwice$Steps" "load" "[I") ∈ wsG := gm 60 rfl rfl
theorem kt_61 : (Jvm.Cond.soleField "WaterTwice$Steps" "load") ∈ lw_tbl := gt 61 rfl
theorem kw_62 : (Jvm.Cond.laysFinal "WaterTwice$Steps" "WaterTwice$Steps" "in" "[I") ∈ wsG := gm 62 rfl rfl
theorem kt_63 : (Jvm.Cond.soleField "WaterTwice$Steps" "in") ∈ lw_tbl := gt 63 rfl
theorem kw_64 : (Jvm.Cond.laysFinal "WaterTwice$Steps" "WaterTwice$Steps" "out" "[I") ∈ wsG := gm 64 rfl rfl
theorem kt_65 : (Jvm.Cond.soleField "WaterTwice$Steps" "out") ∈ lw_tbl := gt 65 rfl
theorem kw_66 : (Jvm.Cond.laysFinal "WaterTwice$Steps" "WaterTwice$Steps" "lag" "[I") ∈ wsG := gm 66 rfl rfl
theorem kt_67 : (Jvm.Cond.soleField "WaterTwice$Steps" "lag") ∈ lw_tbl := gt 67 rfl
theorem kw_68 : (Jvm.Cond.lays "WaterTwice$Steps" "WaterTwice$Steps" "size" "I") ∈ wsG := gm 68 rfl rfl
theorem kt_69 : (Jvm.Cond.soleField "WaterTwice$Steps" "size") ∈ lw_tbl := gt 69 rfl
theorem kt_70 : (Jvm.Cond.superclass "WaterTwice$Steps" "java/lang/Object") ∈ lw_tbl := gt 70 rfl
theorem kw_71 : (Jvm.Cond.arrayClass Jvm.ClassFile.FieldType.int) ∈ wsG := gm 71 rfl rfl
theorem kw_72 : (Jvm.Cond.classLink "WaterTwice" (16 : Nat) "WaterTwice$Limits") ∈ wsG := gm 72 rfl rfl
theorem kw_73 : (Jvm.Cond.instantiable "WaterTwice$Limits" (2 : Nat)) ∈ wsG := gm 73 rfl rfl
theorem kw_74 : (Jvm.Cond.methodLink "WaterTwice" (18 : Nat) ({ cls := "WaterTwice$Limits", name := "<init>", desc := "(LWaterTwice$Steps;)V" } : Jvm.MethodName)) ∈ wsG := gm 74 rfl rfl
theorem kw_75 : (Jvm.Cond.instanceMethod ({ cls := "WaterTwice$Limits", name := "<init>", desc := "(LWaterTwice$Steps;)V" } : Jvm.MethodName)) ∈ wsG := gm 75 rfl rfl
theorem kw_76 : (Jvm.Cond.code ({ cls := "WaterTwice$Limits", name := "<init>", desc := "(LWaterTwice$Steps;)V" } : Jvm.MethodName) prog_5_method_1_code (2 : Nat) (Option.none : Option Jvm.ClassFile.FieldType)) ∈ wsG := gm 76 rfl rfl
theorem kw_77 : (Jvm.Cond.methodLink "WaterTwice$Limits" (1 : Nat) ({ cls := "java/lang/Object", name := "<init>", desc := "()V" } : Jvm.MethodName)) ∈ wsG := gm 77 rfl rfl
theorem kw_78 : (Jvm.Cond.fieldLink "WaterTwice$Limits" (13 : Nat) "WaterTwice$Limits" "steps" "LWaterTwice$Steps;") ∈ wsG := gm 78 rfl rfl
theorem kw_79 : (Jvm.Cond.fieldLink "WaterTwice$Limits" (7 : Nat) "WaterTwice$Limits" "settings" "[I") ∈ wsG := gm 79 rfl rfl
theorem kt_80 : (Jvm.Cond.fieldLinkNest "WaterTwice" (82 : Nat) "WaterTwice$Limits" "settings" "[I" "WaterTwice") ∈ lw_tbl := gt 80 rfl
theorem kw_81 : (Jvm.Cond.laysFinal "WaterTwice$Limits" "WaterTwice$Limits" "steps" "LWaterTwice$Steps;") ∈ wsG := gm 81 rfl rfl
theorem kt_82 : (Jvm.Cond.soleField "WaterTwice$Limits" "steps") ∈ lw_tbl := gt 82 rfl
theorem kw_83 : (Jvm.Cond.laysFinal "WaterTwice$Limits" "WaterTwice$Limits" "settings" "[I") ∈ wsG := gm 83 rfl rfl
theorem kt_84 : (Jvm.Cond.soleField "WaterTwice$Limits" "settings") ∈ lw_tbl := gt 84 rfl
theorem kt_85 : (Jvm.Cond.superclass "WaterTwice$Limits" "java/lang/Object") ∈ lw_tbl := gt 85 rfl
theorem kw_86 : (Jvm.Cond.classLink "WaterTwice" (25 : Nat) "WaterTwice$Design") ∈ wsG := gm 86 rfl rfl
theorem kw_87 : (Jvm.Cond.instantiable "WaterTwice$Design" (8 : Nat)) ∈ wsG := gm 87 rfl rfl
theorem kw_88 : (Jvm.Cond.methodLink "WaterTwice" (27 : Nat) ({ cls := "WaterTwice$Design", name := "<init>", desc := "(LWaterTwice$Steps;)V" } : Jvm.MethodName)) ∈ wsG := gm 88 rfl rfl
theorem kw_89 : (Jvm.Cond.instanceMethod ({ cls := "WaterTwice$Design", name := "<init>", desc := "(LWaterTwice$Steps;)V" } : Jvm.MethodName)) ∈ wsG := gm 89 rfl rfl
theorem kw_90 : (Jvm.Cond.code ({ cls := "WaterTwice$Design", name := "<init>", desc := "(LWaterTwice$Steps;)V" } : Jvm.MethodName) prog_3_method_1_code (3 : Nat) (Option.none : Option Jvm.ClassFile.FieldType)) ∈ wsG := gm 90 rfl rfl
theorem kw_91 : (Jvm.Cond.methodLink "WaterTwice$Design" (3 : Nat) ({ cls := "java/lang/Object", name := "<init>", desc := "()V" } : Jvm.MethodName)) ∈ wsG := gm 91 rfl rfl
theorem kw_92 : (Jvm.Cond.classLink "WaterTwice$Design" (15 : Nat) "[[I") ∈ wsG := gm 92 rfl rfl
theorem kt_93 : (Jvm.Cond.arrayOver (Jvm.ClassFile.FieldType.array Jvm.ClassFile.FieldType.int)) ∈ lw_tbl := gt 93 rfl
theorem kw_94 : (Jvm.Cond.classLink "WaterTwice$Design" (27 : Nat) "WaterTwice$Fraction") ∈ wsG := gm 94 rfl rfl
theorem kt_95 : (Jvm.Cond.arrayOver (Jvm.ClassFile.FieldType.object "WaterTwice$Fraction")) ∈ lw_tbl := gt 95 rfl
theorem kw_96 : (Jvm.Cond.instantiable "WaterTwice$Fraction" (2 : Nat)) ∈ wsG := gm 96 rfl rfl
theorem kt_97 : (Jvm.Cond.methodLinkNest "WaterTwice$Design" (43 : Nat) ({ cls := "WaterTwice$Fraction", name := "<init>", desc := "()V" } : Jvm.MethodName) "WaterTwice") ∈ lw_tbl := gt 97 rfl
theorem kw_98 : (Jvm.Cond.instanceMethod ({ cls := "WaterTwice$Fraction", name := "<init>", desc := "()V" } : Jvm.MethodName)) ∈ wsG := gm 98 rfl rfl
theorem kw_99 : (Jvm.Cond.code ({ cls := "WaterTwice$Fraction", name := "<init>", desc := "()V" } : Jvm.MethodName) prog_4_method_1_code (1 : Nat) (Option.none : Option Jvm.ClassFile.FieldType)) ∈ wsG := gm 99 rfl rfl
theorem kw_100 : (Jvm.Cond.methodLink "WaterTwice$Fraction" (1 : Nat) ({ cls := "java/lang/Object", name := "<init>", desc := "()V" } : Jvm.MethodName)) ∈ wsG := gm 100 rfl rfl
theorem kw_101 : (Jvm.Cond.fieldLink "WaterTwice$Fraction" (23 : Nat) "WaterTwice$Fraction" "upper" "J") ∈ wsG := gm 101 rfl rfl
theorem kt_102 : (Jvm.Cond.fieldLinkNest "WaterTwice$Design" (92 : Nat) "WaterTwice$Fraction" "upper" "J" "WaterTwice") ∈ lw_tbl := gt 102 rfl
theorem kw_103 : (Jvm.Cond.fieldLink "WaterTwice$Fraction" (7 : Nat) "WaterTwice$Fraction" "lower" "J") ∈ wsG := gm 103 rfl rfl
theorem kt_104 : (Jvm.Cond.fieldLinkNest "WaterTwice$Design" (96 : Nat) "WaterTwice$Fraction" "lower" "J" "WaterTwice") ∈ lw_tbl := gt 104 rfl
theorem kw_105 : (Jvm.Cond.lays "WaterTwice$Fraction" "WaterTwice$Fraction" "upper" "J") ∈ wsG := gm 105 rfl rfl
theorem kt_106 : (Jvm.Cond.soleField "WaterTwice$Fraction" "upper") ∈ lw_tbl := gt 106 rfl
theorem kw_107 : (Jvm.Cond.lays "WaterTwice$Fraction" "WaterTwice$Fraction" "lower" "J") ∈ wsG := gm 107 rfl rfl
theorem kt_108 : (Jvm.Cond.soleField "WaterTwice$Fraction" "lower") ∈ lw_tbl := gt 108 rfl
theorem kt_109 : (Jvm.Cond.superclass "WaterTwice$Fraction" "java/lang/Object") ∈ lw_tbl := gt 109 rfl
theorem kw_110 : (Jvm.Cond.arrayClass Jvm.ClassFile.FieldType.boolean) ∈ wsG := gm 110 rfl rfl
theorem kw_111 : (Jvm.Cond.fieldLink "WaterTwice$Design" (39 : Nat) "WaterTwice$Design" "steps" "LWaterTwice$Steps;") ∈ wsG := gm 111 rfl rfl
theorem kw_112 : (Jvm.Cond.fieldLink "WaterTwice$Design" (9 : Nat) "WaterTwice$Design" "fresh" "[I") ∈ wsG := gm 112 rfl rfl
theorem kt_113 : (Jvm.Cond.fieldLinkNest "WaterTwice" (117 : Nat) "WaterTwice$Design" "fresh" "[I" "WaterTwice") ∈ lw_tbl := gt 113 rfl
theorem kw_114 : (Jvm.Cond.fieldLink "WaterTwice$Design" (17 : Nat) "WaterTwice$Design" "pipes" "[[I") ∈ wsG := gm 114 rfl rfl
theorem kt_115 : (Jvm.Cond.fieldLinkNest "WaterTwice" (120 : Nat) "WaterTwice$Design" "pipes" "[[I" "WaterTwice") ∈ lw_tbl := gt 115 rfl
theorem kw_116 : (Jvm.Cond.fieldLink "WaterTwice$Design" (20 : Nat) "WaterTwice$Design" "taken" "[Z") ∈ wsG := gm 116 rfl rfl
theorem kw_117 : (Jvm.Cond.fieldLink "WaterTwice$Design" (24 : Nat) "WaterTwice$Design" "order" "[I") ∈ wsG := gm 117 rfl rfl
theorem kw_118 : (Jvm.Cond.fieldLink "WaterTwice$Design" (29 : Nat) "WaterTwice$Design" "comes" "[LWaterTwice$Fraction;") ∈ wsG := gm 118 rfl rfl
theorem kw_119 : (Jvm.Cond.fieldLink "WaterTwice$Design" (33 : Nat) "WaterTwice$Design" "ends" "[LWaterTwice$Fraction;") ∈ wsG := gm 119 rfl rfl
theorem kt_120 : (Jvm.Cond.fieldLinkNest "WaterTwice" (142 : Nat) "WaterTwice$Design" "ends" "[LWaterTwice$Fraction;" "WaterTwice") ∈ lw_tbl := gt 120 rfl
theorem kw_121 : (Jvm.Cond.fieldLink "WaterTwice$Design" (36 : Nat) "WaterTwice$Design" "hitIn" "[I") ∈ wsG := gm 121 rfl rfl
theorem kt_122 : (Jvm.Cond.fieldLinkNest "WaterTwice" (150 : Nat) "WaterTwice$Design" "hitIn" "[I" "WaterTwice") ∈ lw_tbl := gt 122 rfl
theorem kw_123 : (Jvm.Cond.laysFinal "WaterTwice$Design" "WaterTwice$Design" "steps" "LWaterTwice$Steps;") ∈ wsG := gm 123 rfl rfl
theorem kt_124 : (Jvm.Cond.soleField "WaterTwice$Design" "steps") ∈ lw_tbl := gt 124 rfl
theorem kw_125 : (Jvm.Cond.laysFinal "WaterTwice$Design" "WaterTwice$Design" "fresh" "[I") ∈ wsG := gm 125 rfl rfl
theorem kt_126 : (Jvm.Cond.soleField "WaterTwice$Design" "fresh") ∈ lw_tbl := gt 126 rfl
theorem kw_127 : (Jvm.Cond.laysFinal "WaterTwice$Design" "WaterTwice$Design" "pipes" "[[I") ∈ wsG := gm 127 rfl rfl
theorem kt_128 : (Jvm.Cond.soleField "WaterTwice$Design" "pipes") ∈ lw_tbl := gt 128 rfl
theorem kw_129 : (Jvm.Cond.laysFinal "WaterTwice$Design" "WaterTwice$Design" "taken" "[Z") ∈ wsG := gm 129 rfl rfl
theorem kt_130 : (Jvm.Cond.soleField "WaterTwice$Design" "taken") ∈ lw_tbl := gt 130 rfl
theorem kw_131 : (Jvm.Cond.laysFinal "WaterTwice$Design" "WaterTwice$Design" "order" "[I") ∈ wsG := gm 131 rfl rfl
theorem kt_132 : (Jvm.Cond.soleField "WaterTwice$Design" "order") ∈ lw_tbl := gt 132 rfl
theorem kw_133 : (Jvm.Cond.laysFinal "WaterTwice$Design" "WaterTwice$Design" "comes" "[LWaterTwice$Fraction;") ∈ wsG := gm 133 rfl rfl
theorem kt_134 : (Jvm.Cond.soleField "WaterTwice$Design" "comes") ∈ lw_tbl := gt 134 rfl
theorem kw_135 : (Jvm.Cond.laysFinal "WaterTwice$Design" "WaterTwice$Design" "ends" "[LWaterTwice$Fraction;") ∈ wsG := gm 135 rfl rfl
theorem kt_136 : (Jvm.Cond.soleField "WaterTwice$Design" "ends") ∈ lw_tbl := gt 136 rfl
theorem kw_137 : (Jvm.Cond.laysFinal "WaterTwice$Design" "WaterTwice$Design" "hitIn" "[I") ∈ wsG := gm 137 rfl rfl
theorem kt_138 : (Jvm.Cond.soleField "WaterTwice$Design" "hitIn") ∈ lw_tbl := gt 138 rfl
theorem kt_139 : (Jvm.Cond.superclass "WaterTwice$Design" "java/lang/Object") ∈ lw_tbl := gt 139 rfl
theorem kw_140 : (Jvm.Cond.classLink "WaterTwice" (32 : Nat) "WaterTwice$Store") ∈ wsG := gm 140 rfl rfl
theorem kw_141 : (Jvm.Cond.instantiable "WaterTwice$Store" (2 : Nat)) ∈ wsG := gm 141 rfl rfl
theorem kt_142 : (Jvm.Cond.methodLinkNest "WaterTwice" (34 : Nat) ({ cls := "WaterTwice$Store", name := "<init>", desc := "()V" } : Jvm.MethodName) "WaterTwice") ∈ lw_tbl := gt 142 rfl
theorem kw_143 : (Jvm.Cond.instanceMethod ({ cls := "WaterTwice$Store", name := "<init>", desc := "()V" } : Jvm.MethodName)) ∈ wsG := gm 143 rfl rfl
theorem kw_144 : (Jvm.Cond.code ({ cls := "WaterTwice$Store", name := "<init>", desc := "()V" } : Jvm.MethodName) prog_8_method_1_code (1 : Nat) (Option.none : Option Jvm.ClassFile.FieldType)) ∈ wsG := gm 144 rfl rfl
theorem kw_145 : (Jvm.Cond.methodLink "WaterTwice$Store" (1 : Nat) ({ cls := "java/lang/Object", name := "<init>", desc := "()V" } : Jvm.MethodName)) ∈ wsG := gm 145 rfl rfl
theorem kw_146 : (Jvm.Cond.fieldLink "WaterTwice$Store" (9 : Nat) "WaterTwice$Store" "in" "[I") ∈ wsG := gm 146 rfl rfl
theorem kt_147 : (Jvm.Cond.fieldLinkNest "WaterTwice" (160 : Nat) "WaterTwice$Store" "in" "[I" "WaterTwice") ∈ lw_tbl := gt 147 rfl
theorem kw_148 : (Jvm.Cond.fieldLink "WaterTwice$Store" (13 : Nat) "WaterTwice$Store" "out" "[I") ∈ wsG := gm 148 rfl rfl
theorem kt_149 : (Jvm.Cond.fieldLinkNest "WaterTwice" (163 : Nat) "WaterTwice$Store" "out" "[I" "WaterTwice") ∈ lw_tbl := gt 149 rfl
theorem kw_150 : (Jvm.Cond.laysFinal "WaterTwice$Store" "WaterTwice$Store" "in" "[I") ∈ wsG := gm 150 rfl rfl
theorem kt_151 : (Jvm.Cond.soleField "WaterTwice$Store" "in") ∈ lw_tbl := gt 151 rfl
theorem kw_152 : (Jvm.Cond.laysFinal "WaterTwice$Store" "WaterTwice$Store" "out" "[I") ∈ wsG := gm 152 rfl rfl
theorem kt_153 : (Jvm.Cond.soleField "WaterTwice$Store" "out") ∈ lw_tbl := gt 153 rfl
theorem kt_154 : (Jvm.Cond.superclass "WaterTwice$Store" "java/lang/Object") ∈ lw_tbl := gt 154 rfl
theorem kw_155 : (Jvm.Cond.classLink "WaterTwice" (39 : Nat) "WaterTwice$Meters") ∈ wsG := gm 155 rfl rfl
theorem kw_156 : (Jvm.Cond.instantiable "WaterTwice$Meters" (3 : Nat)) ∈ wsG := gm 156 rfl rfl
theorem kt_157 : (Jvm.Cond.methodLinkNest "WaterTwice" (41 : Nat) ({ cls := "WaterTwice$Meters", name := "<init>", desc := "()V" } : Jvm.MethodName) "WaterTwice") ∈ lw_tbl := gt 157 rfl
theorem kw_158 : (Jvm.Cond.instanceMethod ({ cls := "WaterTwice$Meters", name := "<init>", desc := "()V" } : Jvm.MethodName)) ∈ wsG := gm 158 rfl rfl
theorem kw_159 : (Jvm.Cond.code ({ cls := "WaterTwice$Meters", name := "<init>", desc := "()V" } : Jvm.MethodName) prog_6_method_1_code (1 : Nat) (Option.none : Option Jvm.ClassFile.FieldType)) ∈ wsG := gm 159 rfl rfl
theorem kw_160 : (Jvm.Cond.methodLink "WaterTwice$Meters" (3 : Nat) ({ cls := "java/lang/Object", name := "<init>", desc := "()V" } : Jvm.MethodName)) ∈ wsG := gm 160 rfl rfl
theorem kw_161 : (Jvm.Cond.fieldLink "WaterTwice$Meters" (11 : Nat) "WaterTwice$Meters" "sign" "[I") ∈ wsG := gm 161 rfl rfl
theorem kw_162 : (Jvm.Cond.fieldLink "WaterTwice$Meters" (15 : Nat) "WaterTwice$Meters" "reading" "[I") ∈ wsG := gm 162 rfl rfl
theorem kt_163 : (Jvm.Cond.fieldLinkNest "WaterTwice" (176 : Nat) "WaterTwice$Meters" "reading" "[I" "WaterTwice") ∈ lw_tbl := gt 163 rfl
theorem kw_164 : (Jvm.Cond.fieldLink "WaterTwice$Meters" (18 : Nat) "WaterTwice$Meters" "size" "I") ∈ wsG := gm 164 rfl rfl
theorem kt_165 : (Jvm.Cond.fieldLinkNest "WaterTwice" (209 : Nat) "WaterTwice$Meters" "size" "I" "WaterTwice") ∈ lw_tbl := gt 165 rfl
theorem kw_166 : (Jvm.Cond.laysFinal "WaterTwice$Meters" "WaterTwice$Meters" "sign" "[I") ∈ wsG := gm 166 rfl rfl
theorem kt_167 : (Jvm.Cond.soleField "WaterTwice$Meters" "sign") ∈ lw_tbl := gt 167 rfl
theorem kw_168 : (Jvm.Cond.laysFinal "WaterTwice$Meters" "WaterTwice$Meters" "reading" "[I") ∈ wsG := gm 168 rfl rfl
theorem kt_169 : (Jvm.Cond.soleField "WaterTwice$Meters" "reading") ∈ lw_tbl := gt 169 rfl
theorem kw_170 : (Jvm.Cond.lays "WaterTwice$Meters" "WaterTwice$Meters" "size" "I") ∈ wsG := gm 170 rfl rfl
theorem kt_171 : (Jvm.Cond.soleField "WaterTwice$Meters" "size") ∈ lw_tbl := gt 171 rfl
theorem kt_172 : (Jvm.Cond.superclass "WaterTwice$Meters" "java/lang/Object") ∈ lw_tbl := gt 172 rfl
theorem kw_173 : (Jvm.Cond.classLink "WaterTwice" (46 : Nat) "WaterTwice$Fraction") ∈ wsG := gm 173 rfl rfl
theorem kt_174 : (Jvm.Cond.methodLinkNest "WaterTwice" (48 : Nat) ({ cls := "WaterTwice$Fraction", name := "<init>", desc := "()V" } : Jvm.MethodName) "WaterTwice") ∈ lw_tbl := gt 174 rfl
theorem kw_175 : (Jvm.Cond.fieldLink "WaterTwice" (10 : Nat) "WaterTwice" "steps" "LWaterTwice$Steps;") ∈ wsG := gm 175 rfl rfl
theorem kw_176 : (Jvm.Cond.fieldLink "WaterTwice" (21 : Nat) "WaterTwice" "limits" "LWaterTwice$Limits;") ∈ wsG := gm 176 rfl rfl
theorem kw_177 : (Jvm.Cond.fieldLink "WaterTwice" (28 : Nat) "WaterTwice" "design" "LWaterTwice$Design;") ∈ wsG := gm 177 rfl rfl
theorem kw_178 : (Jvm.Cond.fieldLink "WaterTwice" (35 : Nat) "WaterTwice" "hours" "LWaterTwice$Store;") ∈ wsG := gm 178 rfl rfl
theorem kw_179 : (Jvm.Cond.fieldLink "WaterTwice" (42 : Nat) "WaterTwice" "meters" "LWaterTwice$Meters;") ∈ wsG := gm 179 rfl rfl
theorem kw_180 : (Jvm.Cond.fieldLink "WaterTwice" (49 : Nat) "WaterTwice" "answer" "LWaterTwice$Fraction;") ∈ wsG := gm 180 rfl rfl
theorem kw_181 : (Jvm.Cond.fieldLink "WaterTwice" (85 : Nat) "WaterTwice" "traced" "J") ∈ wsG := gm 181 rfl rfl
theorem kw_182 : (Jvm.Cond.laysFinal "WaterTwice" "WaterTwice" "steps" "LWaterTwice$Steps;") ∈ wsG := gm 182 rfl rfl
theorem kt_183 : (Jvm.Cond.soleField "WaterTwice" "steps") ∈ lw_tbl := gt 183 rfl
theorem kw_184 : (Jvm.Cond.laysFinal "WaterTwice" "WaterTwice" "limits" "LWaterTwice$Limits;") ∈ wsG := gm 184 rfl rfl
theorem kt_185 : (Jvm.Cond.soleField "WaterTwice" "limits") ∈ lw_tbl := gt 185 rfl
theorem kw_186 : (Jvm.Cond.laysFinal "WaterTwice" "WaterTwice" "design" "LWaterTwice$Design;") ∈ wsG := gm 186 rfl rfl
theorem kt_187 : (Jvm.Cond.soleField "WaterTwice" "design") ∈ lw_tbl := gt 187 rfl
theorem kw_188 : (Jvm.Cond.laysFinal "WaterTwice" "WaterTwice" "hours" "LWaterTwice$Store;") ∈ wsG := gm 188 rfl rfl
theorem kt_189 : (Jvm.Cond.soleField "WaterTwice" "hours") ∈ lw_tbl := gt 189 rfl
theorem kw_190 : (Jvm.Cond.laysFinal "WaterTwice" "WaterTwice" "meters" "LWaterTwice$Meters;") ∈ wsG := gm 190 rfl rfl
theorem kt_191 : (Jvm.Cond.soleField "WaterTwice" "meters") ∈ lw_tbl := gt 191 rfl
theorem kw_192 : (Jvm.Cond.laysFinal "WaterTwice" "WaterTwice" "answer" "LWaterTwice$Fraction;") ∈ wsG := gm 192 rfl rfl
theorem kt_193 : (Jvm.Cond.soleField "WaterTwice" "answer") ∈ lw_tbl := gt 193 rfl
theorem kw_194 : (Jvm.Cond.lays "WaterTwice" "WaterTwice" "traced" "J") ∈ wsG := gm 194 rfl rfl
theorem kt_195 : (Jvm.Cond.soleField "WaterTwice" "traced") ∈ lw_tbl := gt 195 rfl
theorem kt_196 : (Jvm.Cond.superclass "WaterTwice" "java/lang/Object") ∈ lw_tbl := gt 196 rfl
theorem kw_197 : (Jvm.Cond.methodLink "WaterTwiceLaw" (13 : Nat) ({ cls := "WaterTwice", name := "step", desc := "(III)I" } : Jvm.MethodName)) ∈ wsG := gm 197 rfl rfl
theorem kw_198 : (Jvm.Cond.instanceMethod ({ cls := "WaterTwice", name := "step", desc := "(III)I" } : Jvm.MethodName)) ∈ wsG := gm 198 rfl rfl
theorem kw_199 : (Jvm.Cond.selects "WaterTwice" ({ cls := "WaterTwice", name := "step", desc := "(III)I" } : Jvm.MethodName) ({ cls := "WaterTwice", name := "step", desc := "(III)I" } : Jvm.MethodName)) ∈ wsG := gm 199 rfl rfl
theorem kw_200 : (Jvm.Cond.code ({ cls := "WaterTwice", name := "step", desc := "(III)I" } : Jvm.MethodName) prog_1_method_2_code (4 : Nat) (Option.some Jvm.ClassFile.FieldType.int)) ∈ wsG := gm 200 rfl rfl
theorem kw_201 : (Jvm.Cond.methodLink "WaterTwice" (53 : Nat) ({ cls := "WaterTwice", name := "within", desc := "(III)Z" } : Jvm.MethodName)) ∈ wsG := gm 201 rfl rfl
theorem kw_202 : (Jvm.Cond.static ({ cls := "WaterTwice", name := "within", desc := "(III)Z" } : Jvm.MethodName)) ∈ wsG := gm 202 rfl rfl
theorem kw_203 : (Jvm.Cond.code ({ cls := "WaterTwice", name := "within", desc := "(III)Z" } : Jvm.MethodName) prog_1_method_23_code (3 : Nat) (Option.some Jvm.ClassFile.FieldType.boolean)) ∈ wsG := gm 203 rfl rfl
theorem kw_204 : (Jvm.Cond.methodLink "WaterTwice" (57 : Nat) ({ cls := "WaterTwice$Steps", name := "append", desc := "(III)I" } : Jvm.MethodName)) ∈ wsG := gm 204 rfl rfl
theorem kw_205 : (Jvm.Cond.instanceMethod ({ cls := "WaterTwice$Steps", name := "append", desc := "(III)I" } : Jvm.MethodName)) ∈ wsG := gm 205 rfl rfl
theorem kw_206 : (Jvm.Cond.selects "WaterTwice$Steps" ({ cls := "WaterTwice$Steps", name := "append", desc := "(III)I" } : Jvm.MethodName) ({ cls := "WaterTwice$Steps", name := "append", desc := "(III)I" } : Jvm.MethodName)) ∈ wsG := gm 206 rfl rfl
theorem kw_207 : (Jvm.Cond.code ({ cls := "WaterTwice$Steps", name := "append", desc := "(III)I" } : Jvm.MethodName) prog_7_method_3_code (5 : Nat) (Option.some Jvm.ClassFile.FieldType.int)) ∈ wsG := gm 207 rfl rfl
theorem kw_208 : (Jvm.Cond.methodLink "WaterTwiceLaw" (18 : Nat) ({ cls := "WaterTwice", name := "change", desc := "(III)I" } : Jvm.MethodName)) ∈ wsG := gm 208 rfl rfl
theorem kw_209 : (Jvm.Cond.instanceMethod ({ cls := "WaterTwice", name := "change", desc := "(III)I" } : Jvm.MethodName)) ∈ wsG := gm 209 rfl rfl
theorem kw_210 : (Jvm.Cond.selects "WaterTwice" ({ cls := "WaterTwice", name := "change", desc := "(III)I" } : Jvm.MethodName) ({ cls := "WaterTwice", name := "change", desc := "(III)I" } : Jvm.MethodName)) ∈ wsG := gm 210 rfl rfl
theorem kw_211 : (Jvm.Cond.code ({ cls := "WaterTwice", name := "change", desc := "(III)I" } : Jvm.MethodName) prog_1_method_3_code (4 : Nat) (Option.some Jvm.ClassFile.FieldType.int)) ∈ wsG := gm 211 rfl rfl
theorem kw_212 : (Jvm.Cond.methodLink "WaterTwice" (61 : Nat) ({ cls := "WaterTwice$Steps", name := "has", desc := "(I)Z" } : Jvm.MethodName)) ∈ wsG := gm 212 rfl rfl
theorem kw_213 : (Jvm.Cond.instanceMethod ({ cls := "WaterTwice$Steps", name := "has", desc := "(I)Z" } : Jvm.MethodName)) ∈ wsG := gm 213 rfl rfl
theorem kw_214 : (Jvm.Cond.selects "WaterTwice$Steps" ({ cls := "WaterTwice$Steps", name := "has", desc := "(I)Z" } : Jvm.MethodName) ({ cls := "WaterTwice$Steps", name := "has", desc := "(I)Z" } : Jvm.MethodName)) ∈ wsG := gm 214 rfl rfl
theorem kw_215 : (Jvm.Cond.code ({ cls := "WaterTwice$Steps", name := "has", desc := "(I)Z" } : Jvm.MethodName) prog_7_method_2_code (2 : Nat) (Option.some Jvm.ClassFile.FieldType.boolean)) ∈ wsG := gm 215 rfl rfl
theorem kw_216 : (Jvm.Cond.methodLink "WaterTwice" (69 : Nat) ({ cls := "WaterTwice", name := "replace", desc := "([III)I" } : Jvm.MethodName)) ∈ wsG := gm 216 rfl rfl
theorem kw_217 : (Jvm.Cond.static ({ cls := "WaterTwice", name := "replace", desc := "([III)I" } : Jvm.MethodName)) ∈ wsG := gm 217 rfl rfl
theorem kw_218 : (Jvm.Cond.code ({ cls := "WaterTwice", name := "replace", desc := "([III)I" } : Jvm.MethodName) prog_1_method_25_code (4 : Nat) (Option.some Jvm.ClassFile.FieldType.int)) ∈ wsG := gm 218 rfl rfl
theorem kw_219 : (Jvm.Cond.methodLink "WaterTwiceLaw" (22 : Nat) ({ cls := "WaterTwice", name := "set", desc := "(II)I" } : Jvm.MethodName)) ∈ wsG := gm 219 rfl rfl
theorem kw_220 : (Jvm.Cond.instanceMethod ({ cls := "WaterTwice", name := "set", desc := "(II)I" } : Jvm.MethodName)) ∈ wsG := gm 220 rfl rfl
theorem kw_221 : (Jvm.Cond.selects "WaterTwice" ({ cls := "WaterTwice", name := "set", desc := "(II)I" } : Jvm.MethodName) ({ cls := "WaterTwice", name := "set", desc := "(II)I" } : Jvm.MethodName)) ∈ wsG := gm 221 rfl rfl
theorem kw_222 : (Jvm.Cond.code ({ cls := "WaterTwice", name := "set", desc := "(II)I" } : Jvm.MethodName) prog_1_method_4_code (3 : Nat) (Option.some Jvm.ClassFile.FieldType.int)) ∈ wsG := gm 222 rfl rfl
theorem kw_223 : (Jvm.Cond.methodLink "WaterTwice" (76 : Nat) ({ cls := "WaterTwice$Limits", name := "isSetting", desc := "(I)Z" } : Jvm.MethodName)) ∈ wsG := gm 223 rfl rfl
theorem kw_224 : (Jvm.Cond.static ({ cls := "WaterTwice$Limits", name := "isSetting", desc := "(I)Z" } : Jvm.MethodName)) ∈ wsG := gm 224 rfl rfl
theorem kw_225 : (Jvm.Cond.code ({ cls := "WaterTwice$Limits", name := "isSetting", desc := "(I)Z" } : Jvm.MethodName) prog_5_method_2_code (1 : Nat) (Option.some Jvm.ClassFile.FieldType.boolean)) ∈ wsG := gm 225 rfl rfl
theorem kw_226 : (Jvm.Cond.fieldLink "WaterTwice$Limits" (17 : Nat) "WaterTwice$Limits" "MOST" "[I") ∈ wsG := gm 226 rfl rfl
theorem kt_227 : (Jvm.Cond.laysStatic "WaterTwice$Limits" "MOST" "[I") ∈ lw_tbl := gt 227 rfl
theorem kt_228 : (Jvm.Cond.fieldLinkNest "WaterTwice" (79 : Nat) "WaterTwice$Limits" "MOST" "[I" "WaterTwice") ∈ lw_tbl := gt 228 rfl
theorem kw_229 : (Jvm.Cond.methodLink "WaterTwiceLaw" (27 : Nat) ({ cls := "WaterTwice", name := "limit", desc := "(II)I" } : Jvm.MethodName)) ∈ wsG := gm 229 rfl rfl
theorem kw_230 : (Jvm.Cond.instanceMethod ({ cls := "WaterTwice", name := "limit", desc := "(II)I" } : Jvm.MethodName)) ∈ wsG := gm 230 rfl rfl
theorem kw_231 : (Jvm.Cond.selects "WaterTwice" ({ cls := "WaterTwice", name := "limit", desc := "(II)I" } : Jvm.MethodName) ({ cls := "WaterTwice", name := "limit", desc := "(II)I" } : Jvm.MethodName)) ∈ wsG := gm 231 rfl rfl
theorem kw_232 : (Jvm.Cond.code ({ cls := "WaterTwice", name := "limit", desc := "(II)I" } : Jvm.MethodName) prog_1_method_5_code (3 : Nat) (Option.some Jvm.ClassFile.FieldType.int)) ∈ wsG := gm 232 rfl rfl
theorem kw_233 : (Jvm.Cond.methodLink "WaterTwice" (89 : Nat) ({ cls := "WaterTwice$Limits", name := "tracesOf", desc := "(I)I" } : Jvm.MethodName)) ∈ wsG := gm 233 rfl rfl
theorem kw_234 : (Jvm.Cond.static ({ cls := "WaterTwice$Limits", name := "tracesOf", desc := "(I)I" } : Jvm.MethodName)) ∈ wsG := gm 234 rfl rfl
theorem kw_235 : (Jvm.Cond.code ({ cls := "WaterTwice$Limits", name := "tracesOf", desc := "(I)I" } : Jvm.MethodName) prog_5_method_3_code (1 : Nat) (Option.some Jvm.ClassFile.FieldType.int)) ∈ wsG := gm 235 rfl rfl
theorem kw_236 : (Jvm.Cond.methodLink "WaterTwice" (93 : Nat) ({ cls := "WaterTwice$Limits", name := "by", desc := "(II)I" } : Jvm.MethodName)) ∈ wsG := gm 236 rfl rfl
theorem kw_237 : (Jvm.Cond.instanceMethod ({ cls := "WaterTwice$Limits", name := "by", desc := "(II)I" } : Jvm.MethodName)) ∈ wsG := gm 237 rfl rfl
theorem kw_238 : (Jvm.Cond.selects "WaterTwice$Limits" ({ cls := "WaterTwice$Limits", name := "by", desc := "(II)I" } : Jvm.MethodName) ({ cls := "WaterTwice$Limits", name := "by", desc := "(II)I" } : Jvm.MethodName)) ∈ wsG := gm 238 rfl rfl
theorem kw_239 : (Jvm.Cond.code ({ cls := "WaterTwice$Limits", name := "by", desc := "(II)I" } : Jvm.MethodName) prog_5_method_5_code (5 : Nat) (Option.some Jvm.ClassFile.FieldType.int)) ∈ wsG := gm 239 rfl rfl
theorem kw_240 : (Jvm.Cond.methodLink "WaterTwice$Limits" (28 : Nat) ({ cls := "java/lang/Math", name := "max", desc := "(II)I" } : Jvm.MethodName)) ∈ wsG := gm 240 rfl rfl
theorem kw_241 : (Jvm.Cond.static ({ cls := "java/lang/Math", name := "max", desc := "(II)I" } : Jvm.MethodName)) ∈ wsG := gm 241 rfl rfl
theorem kw_242 : (Jvm.Cond.code ({ cls := "java/lang/Math", name := "max", desc := "(II)I" } : Jvm.MethodName) prog_12_method_65_code (2 : Nat) (Option.some Jvm.ClassFile.FieldType.int)) ∈ wsG := gm 242 rfl rfl
theorem kw_243 : (Jvm.Cond.methodLink "WaterTwiceLaw" (31 : Nat) ({ cls := "WaterTwice", name := "dirt", desc := "(II)J" } : Jvm.MethodName)) ∈ wsG := gm 243 rfl rfl
theorem kw_244 : (Jvm.Cond.instanceMethod ({ cls := "WaterTwice", name := "dirt", desc := "(II)J" } : Jvm.MethodName)) ∈ wsG := gm 244 rfl rfl
theorem kw_245 : (Jvm.Cond.selects "WaterTwice" ({ cls := "WaterTwice", name := "dirt", desc := "(II)J" } : Jvm.MethodName) ({ cls := "WaterTwice", name := "dirt", desc := "(II)J" } : Jvm.MethodName)) ∈ wsG := gm 245 rfl rfl
theorem kw_246 : (Jvm.Cond.code ({ cls := "WaterTwice", name := "dirt", desc := "(II)J" } : Jvm.MethodName) prog_1_method_6_code (3 : Nat) (Option.some Jvm.ClassFile.FieldType.long)) ∈ wsG := gm 246 rfl rfl
theorem kw_247 : (Jvm.Cond.methodLink "WaterTwice" (97 : Nat) ({ cls := "WaterTwice", name := "isPart", desc := "(I)Z" } : Jvm.MethodName)) ∈ wsG := gm 247 rfl rfl
theorem kw_248 : (Jvm.Cond.static ({ cls := "WaterTwice", name := "isPart", desc := "(I)Z" } : Jvm.MethodName)) ∈ wsG := gm 248 rfl rfl
theorem kw_249 : (Jvm.Cond.code ({ cls := "WaterTwice", name := "isPart", desc := "(I)Z" } : Jvm.MethodName) prog_1_method_24_code (1 : Nat) (Option.some Jvm.ClassFile.FieldType.boolean)) ∈ wsG := gm 249 rfl rfl
theorem kw_250 : (Jvm.Cond.constantLong "WaterTwice" (100 : Nat) (-1 : Int64)) ∈ wsG := gm 250 rfl rfl
theorem kw_251 : (Jvm.Cond.methodLink "WaterTwice" (102 : Nat) ({ cls := "WaterTwice$Steps", name := "tellDirtBelow", desc := "(ILWaterTwice$Fraction;)V" } : Jvm.MethodName)) ∈ wsG := gm 251 rfl rfl
theorem kw_252 : (Jvm.Cond.instanceMethod ({ cls := "WaterTwice$Steps", name := "tellDirtBelow", desc := "(ILWaterTwice$Fraction;)V" } : Jvm.MethodName)) ∈ wsG := gm 252 rfl rfl
theorem kw_253 : (Jvm.Cond.selects "WaterTwice$Steps" ({ cls := "WaterTwice$Steps", name := "tellDirtBelow", desc := "(ILWaterTwice$Fraction;)V" } : Jvm.MethodName) ({ cls := "WaterTwice$Steps", name := "tellDirtBelow", desc := "(ILWaterTwice$Fraction;)V" } : Jvm.MethodName)) ∈ wsG := gm 253 rfl rfl
theorem kw_254 : (Jvm.Cond.code ({ cls := "WaterTwice$Steps", name := "tellDirtBelow", desc := "(ILWaterTwice$Fraction;)V" } : Jvm.MethodName) prog_7_method_4_code (5 : Nat) (Option.none : Option Jvm.ClassFile.FieldType)) ∈ wsG := gm 254 rfl rfl
theorem kw_255 : (Jvm.Cond.methodLink "WaterTwice$Steps" (28 : Nat) ({ cls := "WaterTwice$Steps", name := "commonLower", desc := "()J" } : Jvm.MethodName)) ∈ wsG := gm 255 rfl rfl
theorem kt_256 : (Jvm.Cond.privateMethod ({ cls := "WaterTwice$Steps", name := "commonLower", desc := "()J" } : Jvm.MethodName)) ∈ lw_tbl := gt 256 rfl
theorem kw_257 : (Jvm.Cond.instanceMethod ({ cls := "WaterTwice$Steps", name := "commonLower", desc := "()J" } : Jvm.MethodName)) ∈ wsG := gm 257 rfl rfl
theorem kw_258 : (Jvm.Cond.code ({ cls := "WaterTwice$Steps", name := "commonLower", desc := "()J" } : Jvm.MethodName) prog_7_method_8_code (4 : Nat) (Option.some Jvm.ClassFile.FieldType.long)) ∈ wsG := gm 258 rfl rfl
theorem kw_259 : (Jvm.Cond.methodLink "WaterTwice$Steps" (60 : Nat) ({ cls := "WaterTwice$Steps", name := "span", desc := "(I)I" } : Jvm.MethodName)) ∈ wsG := gm 259 rfl rfl
theorem kt_260 : (Jvm.Cond.privateMethod ({ cls := "WaterTwice$Steps", name := "span", desc := "(I)I" } : Jvm.MethodName)) ∈ lw_tbl := gt 260 rfl
theorem kw_261 : (Jvm.Cond.instanceMethod ({ cls := "WaterTwice$Steps", name := "span", desc := "(I)I" } : Jvm.MethodName)) ∈ wsG := gm 261 rfl rfl
theorem kw_262 : (Jvm.Cond.code ({ cls := "WaterTwice$Steps", name := "span", desc := "(I)I" } : Jvm.MethodName) prog_7_method_10_code (2 : Nat) (Option.some Jvm.ClassFile.FieldType.int)) ∈ wsG := gm 262 rfl rfl
theorem kw_263 : (Jvm.Cond.methodLink "WaterTwice$Steps" (70 : Nat) ({ cls := "java/lang/Math", name := "max", desc := "(II)I" } : Jvm.MethodName)) ∈ wsG := gm 263 rfl rfl
theorem kw_264 : (Jvm.Cond.methodLink "WaterTwice$Steps" (32 : Nat) ({ cls := "WaterTwice$Steps", name := "dirtBelow", desc := "(IJ)J" } : Jvm.MethodName)) ∈ wsG := gm 264 rfl rfl
theorem kt_265 : (Jvm.Cond.privateMethod ({ cls := "WaterTwice$Steps", name := "dirtBelow", desc := "(IJ)J" } : Jvm.MethodName)) ∈ lw_tbl := gt 265 rfl
theorem kw_266 : (Jvm.Cond.instanceMethod ({ cls := "WaterTwice$Steps", name := "dirtBelow", desc := "(IJ)J" } : Jvm.MethodName)) ∈ wsG := gm 266 rfl rfl
theorem kw_267 : (Jvm.Cond.code ({ cls := "WaterTwice$Steps", name := "dirtBelow", desc := "(IJ)J" } : Jvm.MethodName) prog_7_method_9_code (9 : Nat) (Option.some Jvm.ClassFile.FieldType.long)) ∈ wsG := gm 267 rfl rfl
theorem kw_268 : (Jvm.Cond.methodLink "WaterTwice$Steps" (64 : Nat) ({ cls := "java/lang/Math", name := "min", desc := "(II)I" } : Jvm.MethodName)) ∈ wsG := gm 268 rfl rfl
theorem kw_269 : (Jvm.Cond.static ({ cls := "java/lang/Math", name := "min", desc := "(II)I" } : Jvm.MethodName)) ∈ wsG := gm 269 rfl rfl
theorem kw_270 : (Jvm.Cond.code ({ cls := "java/lang/Math", name := "min", desc := "(II)I" } : Jvm.MethodName) prog_12_method_69_code (2 : Nat) (Option.some Jvm.ClassFile.FieldType.int)) ∈ wsG := gm 270 rfl rfl
theorem kw_271 : (Jvm.Cond.methodLink "WaterTwice$Steps" (36 : Nat) ({ cls := "WaterTwice$Fraction", name := "become", desc := "(JJ)V" } : Jvm.MethodName)) ∈ wsG := gm 271 rfl rfl
theorem kw_272 : (Jvm.Cond.instanceMethod ({ cls := "WaterTwice$Fraction", name := "become", desc := "(JJ)V" } : Jvm.MethodName)) ∈ wsG := gm 272 rfl rfl
theorem kw_273 : (Jvm.Cond.selects "WaterTwice$Fraction" ({ cls := "WaterTwice$Fraction", name := "become", desc := "(JJ)V" } : Jvm.MethodName) ({ cls := "WaterTwice$Fraction", name := "become", desc := "(JJ)V" } : Jvm.MethodName)) ∈ wsG := gm 273 rfl rfl
theorem kw_274 : (Jvm.Cond.code ({ cls := "WaterTwice$Fraction", name := "become", desc := "(JJ)V" } : Jvm.MethodName) prog_4_method_2_code (7 : Nat) (Option.none : Option Jvm.ClassFile.FieldType)) ∈ wsG := gm 274 rfl rfl
theorem kw_275 : (Jvm.Cond.methodLink "WaterTwice$Fraction" (13 : Nat) ({ cls := "java/lang/Math", name := "abs", desc := "(J)J" } : Jvm.MethodName)) ∈ wsG := gm 275 rfl rfl
theorem kw_276 : (Jvm.Cond.static ({ cls := "java/lang/Math", name := "abs", desc := "(J)J" } : Jvm.MethodName)) ∈ wsG := gm 276 rfl rfl
theorem kw_277 : (Jvm.Cond.code ({ cls := "java/lang/Math", name := "abs", desc := "(J)J" } : Jvm.MethodName) prog_12_method_61_code (2 : Nat) (Option.some Jvm.ClassFile.FieldType.long)) ∈ wsG := gm 277 rfl rfl
theorem kw_278 : (Jvm.Cond.methodLink "WaterTwice$Fraction" (19 : Nat) ({ cls := "WaterTwice$Fraction", name := "commonDivisor", desc := "(JJ)J" } : Jvm.MethodName)) ∈ wsG := gm 278 rfl rfl
theorem kw_279 : (Jvm.Cond.static ({ cls := "WaterTwice$Fraction", name := "commonDivisor", desc := "(JJ)J" } : Jvm.MethodName)) ∈ wsG := gm 279 rfl rfl
theorem kw_280 : (Jvm.Cond.code ({ cls := "WaterTwice$Fraction", name := "commonDivisor", desc := "(JJ)J" } : Jvm.MethodName) prog_4_method_8_code (11 : Nat) (Option.some Jvm.ClassFile.FieldType.long)) ∈ wsG := gm 280 rfl rfl
theorem kw_281 : (Jvm.Cond.methodLink "WaterTwice" (106 : Nat) ({ cls := "WaterTwice$Fraction", name := "part", desc := "(I)J" } : Jvm.MethodName)) ∈ wsG := gm 281 rfl rfl
theorem kw_282 : (Jvm.Cond.instanceMethod ({ cls := "WaterTwice$Fraction", name := "part", desc := "(I)J" } : Jvm.MethodName)) ∈ wsG := gm 282 rfl rfl
theorem kw_283 : (Jvm.Cond.selects "WaterTwice$Fraction" ({ cls := "WaterTwice$Fraction", name := "part", desc := "(I)J" } : Jvm.MethodName) ({ cls := "WaterTwice$Fraction", name := "part", desc := "(I)J" } : Jvm.MethodName)) ∈ wsG := gm 283 rfl rfl
theorem kw_284 : (Jvm.Cond.code ({ cls := "WaterTwice$Fraction", name := "part", desc := "(I)J" } : Jvm.MethodName) prog_4_method_7_code (2 : Nat) (Option.some Jvm.ClassFile.FieldType.long)) ∈ wsG := gm 284 rfl rfl
theorem kw_285 : (Jvm.Cond.methodLink "WaterTwiceLaw" (36 : Nat) ({ cls := "WaterTwice", name := "least", desc := "(I)J" } : Jvm.MethodName)) ∈ wsG := gm 285 rfl rfl
theorem kw_286 : (Jvm.Cond.instanceMethod ({ cls := "WaterTwice", name := "least", desc := "(I)J" } : Jvm.MethodName)) ∈ wsG := gm 286 rfl rfl
theorem kw_287 : (Jvm.Cond.selects "WaterTwice" ({ cls := "WaterTwice", name := "least", desc := "(I)J" } : Jvm.MethodName) ({ cls := "WaterTwice", name := "least", desc := "(I)J" } : Jvm.MethodName)) ∈ wsG := gm 287 rfl rfl
theorem kw_288 : (Jvm.Cond.code ({ cls := "WaterTwice", name := "least", desc := "(I)J" } : Jvm.MethodName) prog_1_method_7_code (3 : Nat) (Option.some Jvm.ClassFile.FieldType.long)) ∈ wsG := gm 288 rfl rfl
theorem kw_289 : (Jvm.Cond.methodLink "WaterTwice" (110 : Nat) ({ cls := "WaterTwice$Steps", name := "pinch", desc := "()I" } : Jvm.MethodName)) ∈ wsG := gm 289 rfl rfl
theorem kw_290 : (Jvm.Cond.instanceMethod ({ cls := "WaterTwice$Steps", name := "pinch", desc := "()I" } : Jvm.MethodName)) ∈ wsG := gm 290 rfl rfl
theorem kw_291 : (Jvm.Cond.selects "WaterTwice$Steps" ({ cls := "WaterTwice$Steps", name := "pinch", desc := "()I" } : Jvm.MethodName) ({ cls := "WaterTwice$Steps", name := "pinch", desc := "()I" } : Jvm.MethodName)) ∈ wsG := gm 291 rfl rfl
theorem kw_292 : (Jvm.Cond.code ({ cls := "WaterTwice$Steps", name := "pinch", desc := "()I" } : Jvm.MethodName) prog_7_method_6_code (5 : Nat) (Option.some Jvm.ClassFile.FieldType.int)) ∈ wsG := gm 292 rfl rfl
theorem kw_293 : (Jvm.Cond.methodLink "WaterTwice$Steps" (50 : Nat) ({ cls := "WaterTwice$Steps", name := "better", desc := "(IIJ)I" } : Jvm.MethodName)) ∈ wsG := gm 293 rfl rfl
theorem kt_294 : (Jvm.Cond.privateMethod ({ cls := "WaterTwice$Steps", name := "better", desc := "(IIJ)I" } : Jvm.MethodName)) ∈ lw_tbl := gt 294 rfl
theorem kw_295 : (Jvm.Cond.instanceMethod ({ cls := "WaterTwice$Steps", name := "better", desc := "(IIJ)I" } : Jvm.MethodName)) ∈ wsG := gm 295 rfl rfl
theorem kw_296 : (Jvm.Cond.code ({ cls := "WaterTwice$Steps", name := "better", desc := "(IIJ)I" } : Jvm.MethodName) prog_7_method_7_code (10 : Nat) (Option.some Jvm.ClassFile.FieldType.int)) ∈ wsG := gm 296 rfl rfl
theorem kw_297 : (Jvm.Cond.methodLink "WaterTwice$Steps" (54 : Nat) ({ cls := "java/lang/Long", name := "compare", desc := "(JJ)I" } : Jvm.MethodName)) ∈ wsG := gm 297 rfl rfl
theorem kw_298 : (Jvm.Cond.static ({ cls := "java/lang/Long", name := "compare", desc := "(JJ)I" } : Jvm.MethodName)) ∈ wsG := gm 298 rfl rfl
theorem kw_299 : (Jvm.Cond.code ({ cls := "java/lang/Long", name := "compare", desc := "(JJ)I" } : Jvm.MethodName) prog_11_method_42_code (4 : Nat) (Option.some Jvm.ClassFile.FieldType.int)) ∈ wsG := gm 299 rfl rfl
theorem kw_300 : (Jvm.Cond.methodLink "WaterTwice" (114 : Nat) ({ cls := "WaterTwice$Steps", name := "tellLeastFresh", desc := "(ILWaterTwice$Fraction;)V" } : Jvm.MethodName)) ∈ wsG := gm 300 rfl rfl
theorem kw_301 : (Jvm.Cond.instanceMethod ({ cls := "WaterTwice$Steps", name := "tellLeastFresh", desc := "(ILWaterTwice$Fraction;)V" } : Jvm.MethodName)) ∈ wsG := gm 301 rfl rfl
theorem kw_302 : (Jvm.Cond.selects "WaterTwice$Steps" ({ cls := "WaterTwice$Steps", name := "tellLeastFresh", desc := "(ILWaterTwice$Fraction;)V" } : Jvm.MethodName) ({ cls := "WaterTwice$Steps", name := "tellLeastFresh", desc := "(ILWaterTwice$Fraction;)V" } : Jvm.MethodName)) ∈ wsG := gm 302 rfl rfl
theorem kw_303 : (Jvm.Cond.code ({ cls := "WaterTwice$Steps", name := "tellLeastFresh", desc := "(ILWaterTwice$Fraction;)V" } : Jvm.MethodName) prog_7_method_5_code (3 : Nat) (Option.none : Option Jvm.ClassFile.FieldType)) ∈ wsG := gm 303 rfl rfl
theorem kw_304 : (Jvm.Cond.methodLink "WaterTwice$Steps" (42 : Nat) ({ cls := "WaterTwice$Steps", name := "tellDirtBelow", desc := "(ILWaterTwice$Fraction;)V" } : Jvm.MethodName)) ∈ wsG := gm 304 rfl rfl
theorem kw_305 : (Jvm.Cond.methodLink "WaterTwice$Steps" (46 : Nat) ({ cls := "WaterTwice$Fraction", name := "divideBy", desc := "(I)V" } : Jvm.MethodName)) ∈ wsG := gm 305 rfl rfl
theorem kw_306 : (Jvm.Cond.instanceMethod ({ cls := "WaterTwice$Fraction", name := "divideBy", desc := "(I)V" } : Jvm.MethodName)) ∈ wsG := gm 306 rfl rfl
theorem kw_307 : (Jvm.Cond.selects "WaterTwice$Fraction" ({ cls := "WaterTwice$Fraction", name := "divideBy", desc := "(I)V" } : Jvm.MethodName) ({ cls := "WaterTwice$Fraction", name := "divideBy", desc := "(I)V" } : Jvm.MethodName)) ∈ wsG := gm 307 rfl rfl
theorem kw_308 : (Jvm.Cond.code ({ cls := "WaterTwice$Fraction", name := "divideBy", desc := "(I)V" } : Jvm.MethodName) prog_4_method_5_code (2 : Nat) (Option.none : Option Jvm.ClassFile.FieldType)) ∈ wsG := gm 308 rfl rfl
theorem kw_309 : (Jvm.Cond.methodLink "WaterTwice$Fraction" (26 : Nat) ({ cls := "WaterTwice$Fraction", name := "become", desc := "(JJ)V" } : Jvm.MethodName)) ∈ wsG := gm 309 rfl rfl
theorem kw_310 : (Jvm.Cond.methodLink "WaterTwiceLaw" (41 : Nat) ({ cls := "WaterTwice", name := "fresh", desc := "(II)I" } : Jvm.MethodName)) ∈ wsG := gm 310 rfl rfl
theorem kw_311 : (Jvm.Cond.instanceMethod ({ cls := "WaterTwice", name := "fresh", desc := "(II)I" } : Jvm.MethodName)) ∈ wsG := gm 311 rfl rfl
theorem kw_312 : (Jvm.Cond.selects "WaterTwice" ({ cls := "WaterTwice", name := "fresh", desc := "(II)I" } : Jvm.MethodName) ({ cls := "WaterTwice", name := "fresh", desc := "(II)I" } : Jvm.MethodName)) ∈ wsG := gm 312 rfl rfl
theorem kw_313 : (Jvm.Cond.code ({ cls := "WaterTwice", name := "fresh", desc := "(II)I" } : Jvm.MethodName) prog_1_method_8_code (3 : Nat) (Option.some Jvm.ClassFile.FieldType.int)) ∈ wsG := gm 313 rfl rfl
theorem kw_314 : (Jvm.Cond.methodLink "WaterTwiceLaw" (45 : Nat) ({ cls := "WaterTwice", name := "pipe", desc := "(III)I" } : Jvm.MethodName)) ∈ wsG := gm 314 rfl rfl
theorem kw_315 : (Jvm.Cond.instanceMethod ({ cls := "WaterTwice", name := "pipe", desc := "(III)I" } : Jvm.MethodName)) ∈ wsG := gm 315 rfl rfl
theorem kw_316 : (Jvm.Cond.selects "WaterTwice" ({ cls := "WaterTwice", name := "pipe", desc := "(III)I" } : Jvm.MethodName) ({ cls := "WaterTwice", name := "pipe", desc := "(III)I" } : Jvm.MethodName)) ∈ wsG := gm 316 rfl rfl
theorem kw_317 : (Jvm.Cond.code ({ cls := "WaterTwice", name := "pipe", desc := "(III)I" } : Jvm.MethodName) prog_1_method_9_code (4 : Nat) (Option.some Jvm.ClassFile.FieldType.int)) ∈ wsG := gm 317 rfl rfl
theorem kw_318 : (Jvm.Cond.methodLink "WaterTwiceLaw" (49 : Nat) ({ cls := "WaterTwice", name := "water", desc := "(II)I" } : Jvm.MethodName)) ∈ wsG := gm 318 rfl rfl
theorem kw_319 : (Jvm.Cond.instanceMethod ({ cls := "WaterTwice", name := "water", desc := "(II)I" } : Jvm.MethodName)) ∈ wsG := gm 319 rfl rfl
theorem kw_320 : (Jvm.Cond.selects "WaterTwice" ({ cls := "WaterTwice", name := "water", desc := "(II)I" } : Jvm.MethodName) ({ cls := "WaterTwice", name := "water", desc := "(II)I" } : Jvm.MethodName)) ∈ wsG := gm 320 rfl rfl
theorem kw_321 : (Jvm.Cond.code ({ cls := "WaterTwice", name := "water", desc := "(II)I" } : Jvm.MethodName) prog_1_method_10_code (3 : Nat) (Option.some Jvm.ClassFile.FieldType.int)) ∈ wsG := gm 321 rfl rfl
theorem kw_322 : (Jvm.Cond.methodLink "WaterTwice" (124 : Nat) ({ cls := "WaterTwice$Design", name := "comingTo", desc := "(I)I" } : Jvm.MethodName)) ∈ wsG := gm 322 rfl rfl
theorem kw_323 : (Jvm.Cond.instanceMethod ({ cls := "WaterTwice$Design", name := "comingTo", desc := "(I)I" } : Jvm.MethodName)) ∈ wsG := gm 323 rfl rfl
theorem kw_324 : (Jvm.Cond.selects "WaterTwice$Design" ({ cls := "WaterTwice$Design", name := "comingTo", desc := "(I)I" } : Jvm.MethodName) ({ cls := "WaterTwice$Design", name := "comingTo", desc := "(I)I" } : Jvm.MethodName)) ∈ wsG := gm 324 rfl rfl
theorem kw_325 : (Jvm.Cond.code ({ cls := "WaterTwice$Design", name := "comingTo", desc := "(I)I" } : Jvm.MethodName) prog_3_method_2_code (4 : Nat) (Option.some Jvm.ClassFile.FieldType.int)) ∈ wsG := gm 325 rfl rfl
theorem kw_326 : (Jvm.Cond.methodLink "WaterTwice" (127 : Nat) ({ cls := "WaterTwice$Design", name := "goingFrom", desc := "(I)I" } : Jvm.MethodName)) ∈ wsG := gm 326 rfl rfl
theorem kw_327 : (Jvm.Cond.instanceMethod ({ cls := "WaterTwice$Design", name := "goingFrom", desc := "(I)I" } : Jvm.MethodName)) ∈ wsG := gm 327 rfl rfl
theorem kw_328 : (Jvm.Cond.selects "WaterTwice$Design" ({ cls := "WaterTwice$Design", name := "goingFrom", desc := "(I)I" } : Jvm.MethodName) ({ cls := "WaterTwice$Design", name := "goingFrom", desc := "(I)I" } : Jvm.MethodName)) ∈ wsG := gm 328 rfl rfl
theorem kw_329 : (Jvm.Cond.code ({ cls := "WaterTwice$Design", name := "goingFrom", desc := "(I)I" } : Jvm.MethodName) prog_3_method_3_code (4 : Nat) (Option.some Jvm.ClassFile.FieldType.int)) ∈ wsG := gm 329 rfl rfl
theorem kw_330 : (Jvm.Cond.methodLink "WaterTwiceLaw" (53 : Nat) ({ cls := "WaterTwice", name := "fails", desc := "()I" } : Jvm.MethodName)) ∈ wsG := gm 330 rfl rfl
theorem kw_331 : (Jvm.Cond.instanceMethod ({ cls := "WaterTwice", name := "fails", desc := "()I" } : Jvm.MethodName)) ∈ wsG := gm 331 rfl rfl
theorem kw_332 : (Jvm.Cond.selects "WaterTwice" ({ cls := "WaterTwice", name := "fails", desc := "()I" } : Jvm.MethodName) ({ cls := "WaterTwice", name := "fails", desc := "()I" } : Jvm.MethodName)) ∈ wsG := gm 332 rfl rfl
theorem kw_333 : (Jvm.Cond.code ({ cls := "WaterTwice", name := "fails", desc := "()I" } : Jvm.MethodName) prog_1_method_11_code (2 : Nat) (Option.some Jvm.ClassFile.FieldType.int)) ∈ wsG := gm 333 rfl rfl
theorem kw_334 : (Jvm.Cond.methodLink "WaterTwice" (130 : Nat) ({ cls := "WaterTwice$Design", name := "flawOfFlow", desc := "()I" } : Jvm.MethodName)) ∈ wsG := gm 334 rfl rfl
theorem kw_335 : (Jvm.Cond.instanceMethod ({ cls := "WaterTwice$Design", name := "flawOfFlow", desc := "()I" } : Jvm.MethodName)) ∈ wsG := gm 335 rfl rfl
theorem kw_336 : (Jvm.Cond.selects "WaterTwice$Design" ({ cls := "WaterTwice$Design", name := "flawOfFlow", desc := "()I" } : Jvm.MethodName) ({ cls := "WaterTwice$Design", name := "flawOfFlow", desc := "()I" } : Jvm.MethodName)) ∈ wsG := gm 336 rfl rfl
theorem kw_337 : (Jvm.Cond.code ({ cls := "WaterTwice$Design", name := "flawOfFlow", desc := "()I" } : Jvm.MethodName) prog_3_method_6_code (2 : Nat) (Option.some Jvm.ClassFile.FieldType.int)) ∈ wsG := gm 337 rfl rfl
theorem kw_338 : (Jvm.Cond.methodLink "WaterTwice$Design" (50 : Nat) ({ cls := "WaterTwice$Design", name := "comingTo", desc := "(I)I" } : Jvm.MethodName)) ∈ wsG := gm 338 rfl rfl
theorem kw_339 : (Jvm.Cond.methodLink "WaterTwice$Design" (54 : Nat) ({ cls := "WaterTwice$Design", name := "goingFrom", desc := "(I)I" } : Jvm.MethodName)) ∈ wsG := gm 339 rfl rfl
theorem kw_340 : (Jvm.Cond.methodLink "WaterTwice$Design" (57 : Nat) ({ cls := "WaterTwice$Design", name := "takeInOrder", desc := "()V" } : Jvm.MethodName)) ∈ wsG := gm 340 rfl rfl
theorem kt_341 : (Jvm.Cond.privateMethod ({ cls := "WaterTwice$Design", name := "takeInOrder", desc := "()V" } : Jvm.MethodName)) ∈ lw_tbl := gt 341 rfl
theorem kw_342 : (Jvm.Cond.instanceMethod ({ cls := "WaterTwice$Design", name := "takeInOrder", desc := "()V" } : Jvm.MethodName)) ∈ wsG := gm 342 rfl rfl
theorem kw_343 : (Jvm.Cond.code ({ cls := "WaterTwice$Design", name := "takeInOrder", desc := "()V" } : Jvm.MethodName) prog_3_method_10_code (4 : Nat) (Option.none : Option Jvm.ClassFile.FieldType)) ∈ wsG := gm 343 rfl rfl
theorem kw_344 : (Jvm.Cond.methodLink "WaterTwice$Design" (108 : Nat) ({ cls := "WaterTwice$Design", name := "hasOnlyOfTaken", desc := "(I)Z" } : Jvm.MethodName)) ∈ wsG := gm 344 rfl rfl
theorem kt_345 : (Jvm.Cond.privateMethod ({ cls := "WaterTwice$Design", name := "hasOnlyOfTaken", desc := "(I)Z" } : Jvm.MethodName)) ∈ lw_tbl := gt 345 rfl
theorem kw_346 : (Jvm.Cond.instanceMethod ({ cls := "WaterTwice$Design", name := "hasOnlyOfTaken", desc := "(I)Z" } : Jvm.MethodName)) ∈ wsG := gm 346 rfl rfl
theorem kw_347 : (Jvm.Cond.code ({ cls := "WaterTwice$Design", name := "hasOnlyOfTaken", desc := "(I)Z" } : Jvm.MethodName) prog_3_method_11_code (3 : Nat) (Option.some Jvm.ClassFile.FieldType.boolean)) ∈ wsG := gm 347 rfl rfl
theorem kw_348 : (Jvm.Cond.methodLink "WaterTwice" (133 : Nat) ({ cls := "WaterTwice$Design", name := "flawOfDirt", desc := "(LWaterTwice$Limits;)I" } : Jvm.MethodName)) ∈ wsG := gm 348 rfl rfl
theorem kw_349 : (Jvm.Cond.instanceMethod ({ cls := "WaterTwice$Design", name := "flawOfDirt", desc := "(LWaterTwice$Limits;)I" } : Jvm.MethodName)) ∈ wsG := gm 349 rfl rfl
theorem kw_350 : (Jvm.Cond.selects "WaterTwice$Design" ({ cls := "WaterTwice$Design", name := "flawOfDirt", desc := "(LWaterTwice$Limits;)I" } : Jvm.MethodName) ({ cls := "WaterTwice$Design", name := "flawOfDirt", desc := "(LWaterTwice$Limits;)I" } : Jvm.MethodName)) ∈ wsG := gm 350 rfl rfl
theorem kw_351 : (Jvm.Cond.code ({ cls := "WaterTwice$Design", name := "flawOfDirt", desc := "(LWaterTwice$Limits;)I" } : Jvm.MethodName) prog_3_method_7_code (3 : Nat) (Option.some Jvm.ClassFile.FieldType.int)) ∈ wsG := gm 351 rfl rfl
theorem kw_352 : (Jvm.Cond.methodLink "WaterTwice$Design" (60 : Nat) ({ cls := "WaterTwice$Design", name := "spreadDirt", desc := "()V" } : Jvm.MethodName)) ∈ wsG := gm 352 rfl rfl
theorem kw_353 : (Jvm.Cond.instanceMethod ({ cls := "WaterTwice$Design", name := "spreadDirt", desc := "()V" } : Jvm.MethodName)) ∈ wsG := gm 353 rfl rfl
theorem kw_354 : (Jvm.Cond.selects "WaterTwice$Design" ({ cls := "WaterTwice$Design", name := "spreadDirt", desc := "()V" } : Jvm.MethodName) ({ cls := "WaterTwice$Design", name := "spreadDirt", desc := "()V" } : Jvm.MethodName)) ∈ wsG := gm 354 rfl rfl
theorem kw_355 : (Jvm.Cond.code ({ cls := "WaterTwice$Design", name := "spreadDirt", desc := "()V" } : Jvm.MethodName) prog_3_method_8_code (2 : Nat) (Option.none : Option Jvm.ClassFile.FieldType)) ∈ wsG := gm 355 rfl rfl
theorem kw_356 : (Jvm.Cond.methodLink "WaterTwice$Design" (80 : Nat) ({ cls := "WaterTwice$Design", name := "soil", desc := "(I)V" } : Jvm.MethodName)) ∈ wsG := gm 356 rfl rfl
theorem kt_357 : (Jvm.Cond.privateMethod ({ cls := "WaterTwice$Design", name := "soil", desc := "(I)V" } : Jvm.MethodName)) ∈ lw_tbl := gt 357 rfl
theorem kw_358 : (Jvm.Cond.instanceMethod ({ cls := "WaterTwice$Design", name := "soil", desc := "(I)V" } : Jvm.MethodName)) ∈ wsG := gm 358 rfl rfl
theorem kw_359 : (Jvm.Cond.code ({ cls := "WaterTwice$Design", name := "soil", desc := "(I)V" } : Jvm.MethodName) prog_3_method_9_code (5 : Nat) (Option.none : Option Jvm.ClassFile.FieldType)) ∈ wsG := gm 359 rfl rfl
theorem kw_360 : (Jvm.Cond.methodLink "WaterTwice$Design" (84 : Nat) ({ cls := "WaterTwice$Fraction", name := "become", desc := "(JJ)V" } : Jvm.MethodName)) ∈ wsG := gm 360 rfl rfl
theorem kw_361 : (Jvm.Cond.methodLink "WaterTwice$Design" (88 : Nat) ({ cls := "WaterTwice$Fraction", name := "addTimes", desc := "(LWaterTwice$Fraction;I)V" } : Jvm.MethodName)) ∈ wsG := gm 361 rfl rfl
theorem kw_362 : (Jvm.Cond.instanceMethod ({ cls := "WaterTwice$Fraction", name := "addTimes", desc := "(LWaterTwice$Fraction;I)V" } : Jvm.MethodName)) ∈ wsG := gm 362 rfl rfl
theorem kw_363 : (Jvm.Cond.selects "WaterTwice$Fraction" ({ cls := "WaterTwice$Fraction", name := "addTimes", desc := "(LWaterTwice$Fraction;I)V" } : Jvm.MethodName) ({ cls := "WaterTwice$Fraction", name := "addTimes", desc := "(LWaterTwice$Fraction;I)V" } : Jvm.MethodName)) ∈ wsG := gm 363 rfl rfl
theorem kw_364 : (Jvm.Cond.code ({ cls := "WaterTwice$Fraction", name := "addTimes", desc := "(LWaterTwice$Fraction;I)V" } : Jvm.MethodName) prog_4_method_3_code (9 : Nat) (Option.none : Option Jvm.ClassFile.FieldType)) ∈ wsG := gm 364 rfl rfl
theorem kw_365 : (Jvm.Cond.methodLink "WaterTwice$Design" (102 : Nat) ({ cls := "WaterTwice$Fraction", name := "addWhole", desc := "(I)V" } : Jvm.MethodName)) ∈ wsG := gm 365 rfl rfl
theorem kw_366 : (Jvm.Cond.instanceMethod ({ cls := "WaterTwice$Fraction", name := "addWhole", desc := "(I)V" } : Jvm.MethodName)) ∈ wsG := gm 366 rfl rfl
theorem kw_367 : (Jvm.Cond.selects "WaterTwice$Fraction" ({ cls := "WaterTwice$Fraction", name := "addWhole", desc := "(I)V" } : Jvm.MethodName) ({ cls := "WaterTwice$Fraction", name := "addWhole", desc := "(I)V" } : Jvm.MethodName)) ∈ wsG := gm 367 rfl rfl
theorem kw_368 : (Jvm.Cond.code ({ cls := "WaterTwice$Fraction", name := "addWhole", desc := "(I)V" } : Jvm.MethodName) prog_4_method_4_code (2 : Nat) (Option.none : Option Jvm.ClassFile.FieldType)) ∈ wsG := gm 368 rfl rfl
theorem kw_369 : (Jvm.Cond.methodLink "WaterTwice$Design" (105 : Nat) ({ cls := "WaterTwice$Fraction", name := "divideBy", desc := "(I)V" } : Jvm.MethodName)) ∈ wsG := gm 369 rfl rfl
theorem kw_370 : (Jvm.Cond.methodLink "WaterTwice$Design" (66 : Nat) ({ cls := "WaterTwice$Fraction", name := "isAbove", desc := "(I)Z" } : Jvm.MethodName)) ∈ wsG := gm 370 rfl rfl
theorem kw_371 : (Jvm.Cond.instanceMethod ({ cls := "WaterTwice$Fraction", name := "isAbove", desc := "(I)Z" } : Jvm.MethodName)) ∈ wsG := gm 371 rfl rfl
theorem kw_372 : (Jvm.Cond.selects "WaterTwice$Fraction" ({ cls := "WaterTwice$Fraction", name := "isAbove", desc := "(I)Z" } : Jvm.MethodName) ({ cls := "WaterTwice$Fraction", name := "isAbove", desc := "(I)Z" } : Jvm.MethodName)) ∈ wsG := gm 372 rfl rfl
theorem kw_373 : (Jvm.Cond.code ({ cls := "WaterTwice$Fraction", name := "isAbove", desc := "(I)Z" } : Jvm.MethodName) prog_4_method_6_code (2 : Nat) (Option.some Jvm.ClassFile.FieldType.boolean)) ∈ wsG := gm 373 rfl rfl
theorem kw_374 : (Jvm.Cond.methodLink "WaterTwice$Design" (70 : Nat) ({ cls := "WaterTwice$Limits", name := "atHand", desc := "()I" } : Jvm.MethodName)) ∈ wsG := gm 374 rfl rfl
theorem kw_375 : (Jvm.Cond.instanceMethod ({ cls := "WaterTwice$Limits", name := "atHand", desc := "()I" } : Jvm.MethodName)) ∈ wsG := gm 375 rfl rfl
theorem kw_376 : (Jvm.Cond.selects "WaterTwice$Limits" ({ cls := "WaterTwice$Limits", name := "atHand", desc := "()I" } : Jvm.MethodName) ({ cls := "WaterTwice$Limits", name := "atHand", desc := "()I" } : Jvm.MethodName)) ∈ wsG := gm 376 rfl rfl
theorem kw_377 : (Jvm.Cond.code ({ cls := "WaterTwice$Limits", name := "atHand", desc := "()I" } : Jvm.MethodName) prog_5_method_4_code (1 : Nat) (Option.some Jvm.ClassFile.FieldType.int)) ∈ wsG := gm 377 rfl rfl
theorem kw_378 : (Jvm.Cond.methodLink "WaterTwice$Design" (76 : Nat) ({ cls := "WaterTwice$Limits", name := "by", desc := "(II)I" } : Jvm.MethodName)) ∈ wsG := gm 378 rfl rfl
theorem kw_379 : (Jvm.Cond.methodLink "WaterTwiceLaw" (58 : Nat) ({ cls := "WaterTwice", name := "at", desc := "(II)J" } : Jvm.MethodName)) ∈ wsG := gm 379 rfl rfl
theorem kw_380 : (Jvm.Cond.instanceMethod ({ cls := "WaterTwice", name := "at", desc := "(II)J" } : Jvm.MethodName)) ∈ wsG := gm 380 rfl rfl
theorem kw_381 : (Jvm.Cond.selects "WaterTwice" ({ cls := "WaterTwice", name := "at", desc := "(II)J" } : Jvm.MethodName) ({ cls := "WaterTwice", name := "at", desc := "(II)J" } : Jvm.MethodName)) ∈ wsG := gm 381 rfl rfl
theorem kw_382 : (Jvm.Cond.code ({ cls := "WaterTwice", name := "at", desc := "(II)J" } : Jvm.MethodName) prog_1_method_12_code (3 : Nat) (Option.some Jvm.ClassFile.FieldType.long)) ∈ wsG := gm 382 rfl rfl
theorem kw_383 : (Jvm.Cond.constantLong "WaterTwice" (137 : Nat) (-2 : Int64)) ∈ wsG := gm 383 rfl rfl
theorem kw_384 : (Jvm.Cond.methodLink "WaterTwice" (139 : Nat) ({ cls := "WaterTwice$Design", name := "spreadDirt", desc := "()V" } : Jvm.MethodName)) ∈ wsG := gm 384 rfl rfl
theorem kw_385 : (Jvm.Cond.methodLink "WaterTwiceLaw" (62 : Nat) ({ cls := "WaterTwice", name := "hit", desc := "(III)I" } : Jvm.MethodName)) ∈ wsG := gm 385 rfl rfl
theorem kw_386 : (Jvm.Cond.instanceMethod ({ cls := "WaterTwice", name := "hit", desc := "(III)I" } : Jvm.MethodName)) ∈ wsG := gm 386 rfl rfl
theorem kw_387 : (Jvm.Cond.selects "WaterTwice" ({ cls := "WaterTwice", name := "hit", desc := "(III)I" } : Jvm.MethodName) ({ cls := "WaterTwice", name := "hit", desc := "(III)I" } : Jvm.MethodName)) ∈ wsG := gm 387 rfl rfl
theorem kw_388 : (Jvm.Cond.code ({ cls := "WaterTwice", name := "hit", desc := "(III)I" } : Jvm.MethodName) prog_1_method_13_code (4 : Nat) (Option.some Jvm.ClassFile.FieldType.int)) ∈ wsG := gm 388 rfl rfl
theorem kw_389 : (Jvm.Cond.methodLink "WaterTwice" (146 : Nat) ({ cls := "WaterTwice$Design", name := "spreadUpset", desc := "(II)V" } : Jvm.MethodName)) ∈ wsG := gm 389 rfl rfl
theorem kw_390 : (Jvm.Cond.instanceMethod ({ cls := "WaterTwice$Design", name := "spreadUpset", desc := "(II)V" } : Jvm.MethodName)) ∈ wsG := gm 390 rfl rfl
theorem kw_391 : (Jvm.Cond.selects "WaterTwice$Design" ({ cls := "WaterTwice$Design", name := "spreadUpset", desc := "(II)V" } : Jvm.MethodName) ({ cls := "WaterTwice$Design", name := "spreadUpset", desc := "(II)V" } : Jvm.MethodName)) ∈ wsG := gm 391 rfl rfl
theorem kw_392 : (Jvm.Cond.code ({ cls := "WaterTwice$Design", name := "spreadUpset", desc := "(II)V" } : Jvm.MethodName) prog_3_method_12_code (5 : Nat) (Option.none : Option Jvm.ClassFile.FieldType)) ∈ wsG := gm 392 rfl rfl
theorem kw_393 : (Jvm.Cond.methodLink "WaterTwice$Design" (111 : Nat) ({ cls := "WaterTwice$Design", name := "hitBehindOthers", desc := "(I)I" } : Jvm.MethodName)) ∈ wsG := gm 393 rfl rfl
theorem kt_394 : (Jvm.Cond.privateMethod ({ cls := "WaterTwice$Design", name := "hitBehindOthers", desc := "(I)I" } : Jvm.MethodName)) ∈ lw_tbl := gt 394 rfl
theorem kw_395 : (Jvm.Cond.instanceMethod ({ cls := "WaterTwice$Design", name := "hitBehindOthers", desc := "(I)I" } : Jvm.MethodName)) ∈ wsG := gm 395 rfl rfl
theorem kw_396 : (Jvm.Cond.code ({ cls := "WaterTwice$Design", name := "hitBehindOthers", desc := "(I)I" } : Jvm.MethodName) prog_3_method_13_code (4 : Nat) (Option.some Jvm.ClassFile.FieldType.int)) ∈ wsG := gm 396 rfl rfl
theorem kw_397 : (Jvm.Cond.methodLink "WaterTwiceLaw" (66 : Nat) ({ cls := "WaterTwice", name := "steady", desc := "(IIIII)I" } : Jvm.MethodName)) ∈ wsG := gm 397 rfl rfl
theorem kw_398 : (Jvm.Cond.instanceMethod ({ cls := "WaterTwice", name := "steady", desc := "(IIIII)I" } : Jvm.MethodName)) ∈ wsG := gm 398 rfl rfl
theorem kw_399 : (Jvm.Cond.selects "WaterTwice" ({ cls := "WaterTwice", name := "steady", desc := "(IIIII)I" } : Jvm.MethodName) ({ cls := "WaterTwice", name := "steady", desc := "(IIIII)I" } : Jvm.MethodName)) ∈ wsG := gm 399 rfl rfl
set_option maxRecDepth 20000 in
theorem kw_400 : (Jvm.Cond.code ({ cls := "WaterTwice", name := "steady", desc := "(IIIII)I" } : Jvm.MethodName) prog_1_method_14_code (6 : Nat) (Option.some Jvm.ClassFile.FieldType.int)) ∈ wsG := gm 400 rfl rfl
set_option maxRecDepth 20000 in
theorem kw_401 : (Jvm.Cond.constant "WaterTwice" (155 : Nat) (1000000 : Int32)) ∈ wsG := gm 401 rfl rfl
set_option maxRecDepth 20000 in
theorem kw_402 : (Jvm.Cond.methodLink "WaterTwice" (156 : Nat) ({ cls := "WaterTwice$Basin", name := "tellSteady", desc := "(IIIIZ)I" } : Jvm.MethodName)) ∈ wsG := gm 402 rfl rfl
set_option maxRecDepth 20000 in
theorem kw_403 : (Jvm.Cond.static ({ cls := "WaterTwice$Basin", name := "tellSteady", desc := "(IIIIZ)I" } : Jvm.MethodName)) ∈ wsG := gm 403 rfl rfl
set_option maxRecDepth 20000 in
theorem kw_404 : (Jvm.Cond.code ({ cls := "WaterTwice$Basin", name := "tellSteady", desc := "(IIIIZ)I" } : Jvm.MethodName) prog_2_method_2_code (10 : Nat) (Option.some Jvm.ClassFile.FieldType.int)) ∈ wsG := gm 404 rfl rfl
set_option maxRecDepth 20000 in
theorem kw_405 : (Jvm.Cond.methodLink "WaterTwice$Basin" (9 : Nat) ({ cls := "WaterTwice$Basin", name := "behindAnHour", desc := "(JIII)J" } : Jvm.MethodName)) ∈ wsG := gm 405 rfl rfl
set_option maxRecDepth 20000 in
theorem kw_406 : (Jvm.Cond.static ({ cls := "WaterTwice$Basin", name := "behindAnHour", desc := "(JIII)J" } : Jvm.MethodName)) ∈ wsG := gm 406 rfl rfl
set_option maxRecDepth 20000 in
theorem kw_407 : (Jvm.Cond.code ({ cls := "WaterTwice$Basin", name := "behindAnHour", desc := "(JIII)J" } : Jvm.MethodName) prog_2_method_3_code (7 : Nat) (Option.some Jvm.ClassFile.FieldType.long)) ∈ wsG := gm 407 rfl rfl
set_option maxRecDepth 20000 in
theorem kw_408 : (Jvm.Cond.methodLink "WaterTwiceLaw" (71 : Nat) ({ cls := "WaterTwice", name := "store", desc := "(III)I" } : Jvm.MethodName)) ∈ wsG := gm 408 rfl rfl
set_option maxRecDepth 20000 in
theorem kw_409 : (Jvm.Cond.instanceMethod ({ cls := "WaterTwice", name := "store", desc := "(III)I" } : Jvm.MethodName)) ∈ wsG := gm 409 rfl rfl
set_option maxRecDepth 20000 in
theorem kw_410 : (Jvm.Cond.selects "WaterTwice" ({ cls := "WaterTwice", name := "store", desc := "(III)I" } : Jvm.MethodName) ({ cls := "WaterTwice", name := "store", desc := "(III)I" } : Jvm.MethodName)) ∈ wsG := gm 410 rfl rfl
set_option maxRecDepth 20000 in
theorem kw_411 : (Jvm.Cond.code ({ cls := "WaterTwice", name := "store", desc := "(III)I" } : Jvm.MethodName) prog_1_method_15_code (4 : Nat) (Option.some Jvm.ClassFile.FieldType.int)) ∈ wsG := gm 411 rfl rfl
set_option maxRecDepth 20000 in
theorem kw_412 : (Jvm.Cond.methodLink "WaterTwiceLaw" (75 : Nat) ({ cls := "WaterTwice", name := "room", desc := "(I)I" } : Jvm.MethodName)) ∈ wsG := gm 412 rfl rfl
set_option maxRecDepth 20000 in
theorem kw_413 : (Jvm.Cond.instanceMethod ({ cls := "WaterTwice", name := "room", desc := "(I)I" } : Jvm.MethodName)) ∈ wsG := gm 413 rfl rfl
set_option maxRecDepth 20000 in
theorem kw_414 : (Jvm.Cond.selects "WaterTwice" ({ cls := "WaterTwice", name := "room", desc := "(I)I" } : Jvm.MethodName) ({ cls := "WaterTwice", name := "room", desc := "(I)I" } : Jvm.MethodName)) ∈ wsG := gm 414 rfl rfl
set_option maxRecDepth 20000 in
theorem kw_415 : (Jvm.Cond.code ({ cls := "WaterTwice", name := "room", desc := "(I)I" } : Jvm.MethodName) prog_1_method_16_code (3 : Nat) (Option.some Jvm.ClassFile.FieldType.int)) ∈ wsG := gm 415 rfl rfl
set_option maxRecDepth 20000 in
theorem kw_416 : (Jvm.Cond.methodLink "WaterTwice" (166 : Nat) ({ cls := "WaterTwice$Store", name := "leastBegun", desc := "()I" } : Jvm.MethodName)) ∈ wsG := gm 416 rfl rfl
set_option maxRecDepth 20000 in
theorem kw_417 : (Jvm.Cond.instanceMethod ({ cls := "WaterTwice$Store", name := "leastBegun", desc := "()I" } : Jvm.MethodName)) ∈ wsG := gm 417 rfl rfl
set_option maxRecDepth 20000 in
theorem kw_418 : (Jvm.Cond.selects "WaterTwice$Store" ({ cls := "WaterTwice$Store", name := "leastBegun", desc := "()I" } : Jvm.MethodName) ({ cls := "WaterTwice$Store", name := "leastBegun", desc := "()I" } : Jvm.MethodName)) ∈ wsG := gm 418 rfl rfl
set_option maxRecDepth 20000 in
theorem kw_419 : (Jvm.Cond.code ({ cls := "WaterTwice$Store", name := "leastBegun", desc := "()I" } : Jvm.MethodName) prog_8_method_2_code (4 : Nat) (Option.some Jvm.ClassFile.FieldType.int)) ∈ wsG := gm 419 rfl rfl
set_option maxRecDepth 20000 in
theorem kw_420 : (Jvm.Cond.methodLink "WaterTwice$Store" (16 : Nat) ({ cls := "java/lang/Math", name := "min", desc := "(II)I" } : Jvm.MethodName)) ∈ wsG := gm 420 rfl rfl
set_option maxRecDepth 20000 in
theorem kw_421 : (Jvm.Cond.methodLink "WaterTwice" (169 : Nat) ({ cls := "WaterTwice$Store", name := "mostHeld", desc := "(I)I" } : Jvm.MethodName)) ∈ wsG := gm 421 rfl rfl
set_option maxRecDepth 20000 in
theorem kw_422 : (Jvm.Cond.instanceMethod ({ cls := "WaterTwice$Store", name := "mostHeld", desc := "(I)I" } : Jvm.MethodName)) ∈ wsG := gm 422 rfl rfl
set_option maxRecDepth 20000 in
theorem kw_423 : (Jvm.Cond.selects "WaterTwice$Store" ({ cls := "WaterTwice$Store", name := "mostHeld", desc := "(I)I" } : Jvm.MethodName) ({ cls := "WaterTwice$Store", name := "mostHeld", desc := "(I)I" } : Jvm.MethodName)) ∈ wsG := gm 423 rfl rfl
set_option maxRecDepth 20000 in
theorem kw_424 : (Jvm.Cond.code ({ cls := "WaterTwice$Store", name := "mostHeld", desc := "(I)I" } : Jvm.MethodName) prog_8_method_3_code (5 : Nat) (Option.some Jvm.ClassFile.FieldType.int)) ∈ wsG := gm 424 rfl rfl
set_option maxRecDepth 20000 in
theorem kw_425 : (Jvm.Cond.methodLink "WaterTwice$Store" (22 : Nat) ({ cls := "java/lang/Math", name := "max", desc := "(II)I" } : Jvm.MethodName)) ∈ wsG := gm 425 rfl rfl
set_option maxRecDepth 20000 in
theorem kw_426 : (Jvm.Cond.methodLink "WaterTwiceLaw" (80 : Nat) ({ cls := "WaterTwice", name := "meter", desc := "(I)I" } : Jvm.MethodName)) ∈ wsG := gm 426 rfl rfl
set_option maxRecDepth 20000 in
theorem kw_427 : (Jvm.Cond.instanceMethod ({ cls := "WaterTwice", name := "meter", desc := "(I)I" } : Jvm.MethodName)) ∈ wsG := gm 427 rfl rfl
set_option maxRecDepth 20000 in
theorem kw_428 : (Jvm.Cond.selects "WaterTwice" ({ cls := "WaterTwice", name := "meter", desc := "(I)I" } : Jvm.MethodName) ({ cls := "WaterTwice", name := "meter", desc := "(I)I" } : Jvm.MethodName)) ∈ wsG := gm 428 rfl rfl
set_option maxRecDepth 20000 in
theorem kw_429 : (Jvm.Cond.code ({ cls := "WaterTwice", name := "meter", desc := "(I)I" } : Jvm.MethodName) prog_1_method_17_code (2 : Nat) (Option.some Jvm.ClassFile.FieldType.int)) ∈ wsG := gm 429 rfl rfl
set_option maxRecDepth 20000 in
theorem kw_430 : (Jvm.Cond.methodLink "WaterTwice" (172 : Nat) ({ cls := "WaterTwice$Meters", name := "append", desc := "(I)I" } : Jvm.MethodName)) ∈ wsG := gm 430 rfl rfl
set_option maxRecDepth 20000 in
theorem kw_431 : (Jvm.Cond.instanceMethod ({ cls := "WaterTwice$Meters", name := "append", desc := "(I)I" } : Jvm.MethodName)) ∈ wsG := gm 431 rfl rfl
set_option maxRecDepth 20000 in
theorem kw_432 : (Jvm.Cond.selects "WaterTwice$Meters" ({ cls := "WaterTwice$Meters", name := "append", desc := "(I)I" } : Jvm.MethodName) ({ cls := "WaterTwice$Meters", name := "append", desc := "(I)I" } : Jvm.MethodName)) ∈ wsG := gm 432 rfl rfl
set_option maxRecDepth 20000 in
theorem kw_433 : (Jvm.Cond.code ({ cls := "WaterTwice$Meters", name := "append", desc := "(I)I" } : Jvm.MethodName) prog_6_method_3_code (3 : Nat) (Option.some Jvm.ClassFile.FieldType.int)) ∈ wsG := gm 433 rfl rfl
set_option maxRecDepth 20000 in
theorem kw_434 : (Jvm.Cond.methodLink "WaterTwiceLaw" (84 : Nat) ({ cls := "WaterTwice", name := "read", desc := "(II)I" } : Jvm.MethodName)) ∈ wsG := gm 434 rfl rfl
set_option maxRecDepth 20000 in
theorem kw_435 : (Jvm.Cond.instanceMethod ({ cls := "WaterTwice", name := "read", desc := "(II)I" } : Jvm.MethodName)) ∈ wsG := gm 435 rfl rfl
set_option maxRecDepth 20000 in
theorem kw_436 : (Jvm.Cond.selects "WaterTwice" ({ cls := "WaterTwice", name := "read", desc := "(II)I" } : Jvm.MethodName) ({ cls := "WaterTwice", name := "read", desc := "(II)I" } : Jvm.MethodName)) ∈ wsG := gm 436 rfl rfl
set_option maxRecDepth 20000 in
theorem kw_437 : (Jvm.Cond.code ({ cls := "WaterTwice", name := "read", desc := "(II)I" } : Jvm.MethodName) prog_1_method_18_code (3 : Nat) (Option.some Jvm.ClassFile.FieldType.int)) ∈ wsG := gm 437 rfl rfl
set_option maxRecDepth 20000 in
theorem kw_438 : (Jvm.Cond.methodLink "WaterTwice" (174 : Nat) ({ cls := "WaterTwice$Meters", name := "has", desc := "(I)Z" } : Jvm.MethodName)) ∈ wsG := gm 438 rfl rfl
set_option maxRecDepth 20000 in
theorem kw_439 : (Jvm.Cond.instanceMethod ({ cls := "WaterTwice$Meters", name := "has", desc := "(I)Z" } : Jvm.MethodName)) ∈ wsG := gm 439 rfl rfl
set_option maxRecDepth 20000 in
theorem kw_440 : (Jvm.Cond.selects "WaterTwice$Meters" ({ cls := "WaterTwice$Meters", name := "has", desc := "(I)Z" } : Jvm.MethodName) ({ cls := "WaterTwice$Meters", name := "has", desc := "(I)Z" } : Jvm.MethodName)) ∈ wsG := gm 440 rfl rfl
set_option maxRecDepth 20000 in
theorem kw_441 : (Jvm.Cond.code ({ cls := "WaterTwice$Meters", name := "has", desc := "(I)Z" } : Jvm.MethodName) prog_6_method_2_code (2 : Nat) (Option.some Jvm.ClassFile.FieldType.boolean)) ∈ wsG := gm 441 rfl rfl
set_option maxRecDepth 20000 in
theorem kw_442 : (Jvm.Cond.constant "WaterTwice" (175 : Nat) (100000 : Int32)) ∈ wsG := gm 442 rfl rfl
set_option maxRecDepth 20000 in
theorem kw_443 : (Jvm.Cond.methodLink "WaterTwiceLaw" (88 : Nat) ({ cls := "WaterTwice", name := "gap", desc := "(I)J" } : Jvm.MethodName)) ∈ wsG := gm 443 rfl rfl
set_option maxRecDepth 20000 in
theorem kw_444 : (Jvm.Cond.instanceMethod ({ cls := "WaterTwice", name := "gap", desc := "(I)J" } : Jvm.MethodName)) ∈ wsG := gm 444 rfl rfl
set_option maxRecDepth 20000 in
theorem kw_445 : (Jvm.Cond.selects "WaterTwice" ({ cls := "WaterTwice", name := "gap", desc := "(I)J" } : Jvm.MethodName) ({ cls := "WaterTwice", name := "gap", desc := "(I)J" } : Jvm.MethodName)) ∈ wsG := gm 445 rfl rfl
set_option maxRecDepth 20000 in
theorem kw_446 : (Jvm.Cond.code ({ cls := "WaterTwice", name := "gap", desc := "(I)J" } : Jvm.MethodName) prog_1_method_19_code (2 : Nat) (Option.some Jvm.ClassFile.FieldType.long)) ∈ wsG := gm 446 rfl rfl
set_option maxRecDepth 20000 in
theorem kw_447 : (Jvm.Cond.methodLink "WaterTwice" (179 : Nat) ({ cls := "WaterTwice$Meters", name := "sum", desc := "()J" } : Jvm.MethodName)) ∈ wsG := gm 447 rfl rfl
set_option maxRecDepth 20000 in
theorem kw_448 : (Jvm.Cond.instanceMethod ({ cls := "WaterTwice$Meters", name := "sum", desc := "()J" } : Jvm.MethodName)) ∈ wsG := gm 448 rfl rfl
set_option maxRecDepth 20000 in
theorem kw_449 : (Jvm.Cond.selects "WaterTwice$Meters" ({ cls := "WaterTwice$Meters", name := "sum", desc := "()J" } : Jvm.MethodName) ({ cls := "WaterTwice$Meters", name := "sum", desc := "()J" } : Jvm.MethodName)) ∈ wsG := gm 449 rfl rfl
set_option maxRecDepth 20000 in
theorem kw_450 : (Jvm.Cond.code ({ cls := "WaterTwice$Meters", name := "sum", desc := "()J" } : Jvm.MethodName) prog_6_method_4_code (4 : Nat) (Option.some Jvm.ClassFile.FieldType.long)) ∈ wsG := gm 450 rfl rfl
set_option maxRecDepth 20000 in
theorem kw_451 : (Jvm.Cond.methodLink "WaterTwice" (183 : Nat) ({ cls := "WaterTwice$Meters", name := "missing", desc := "()I" } : Jvm.MethodName)) ∈ wsG := gm 451 rfl rfl
set_option maxRecDepth 20000 in
theorem kw_452 : (Jvm.Cond.instanceMethod ({ cls := "WaterTwice$Meters", name := "missing", desc := "()I" } : Jvm.MethodName)) ∈ wsG := gm 452 rfl rfl
set_option maxRecDepth 20000 in
theorem kw_453 : (Jvm.Cond.selects "WaterTwice$Meters" ({ cls := "WaterTwice$Meters", name := "missing", desc := "()I" } : Jvm.MethodName) ({ cls := "WaterTwice$Meters", name := "missing", desc := "()I" } : Jvm.MethodName)) ∈ wsG := gm 453 rfl rfl
set_option maxRecDepth 20000 in
theorem kw_454 : (Jvm.Cond.code ({ cls := "WaterTwice$Meters", name := "missing", desc := "()I" } : Jvm.MethodName) prog_6_method_5_code (3 : Nat) (Option.some Jvm.ClassFile.FieldType.int)) ∈ wsG := gm 454 rfl rfl
set_option maxRecDepth 20000 in
theorem kw_455 : (Jvm.Cond.methodLink "WaterTwice" (186 : Nat) ({ cls := "WaterTwice$Meters", name := "told", desc := "()I" } : Jvm.MethodName)) ∈ wsG := gm 455 rfl rfl
set_option maxRecDepth 20000 in
theorem kw_456 : (Jvm.Cond.instanceMethod ({ cls := "WaterTwice$Meters", name := "told", desc := "()I" } : Jvm.MethodName)) ∈ wsG := gm 456 rfl rfl
set_option maxRecDepth 20000 in
theorem kw_457 : (Jvm.Cond.selects "WaterTwice$Meters" ({ cls := "WaterTwice$Meters", name := "told", desc := "()I" } : Jvm.MethodName) ({ cls := "WaterTwice$Meters", name := "told", desc := "()I" } : Jvm.MethodName)) ∈ wsG := gm 457 rfl rfl
set_option maxRecDepth 20000 in
theorem kw_458 : (Jvm.Cond.code ({ cls := "WaterTwice$Meters", name := "told", desc := "()I" } : Jvm.MethodName) prog_6_method_6_code (2 : Nat) (Option.some Jvm.ClassFile.FieldType.int)) ∈ wsG := gm 458 rfl rfl
set_option maxRecDepth 20000 in
theorem kw_459 : (Jvm.Cond.methodLink "WaterTwice$Meters" (22 : Nat) ({ cls := "WaterTwice$Meters", name := "missing", desc := "()I" } : Jvm.MethodName)) ∈ wsG := gm 459 rfl rfl
set_option maxRecDepth 20000 in
theorem kw_460 : (Jvm.Cond.methodLink "WaterTwice" (189 : Nat) ({ cls := "WaterTwice$Meters", name := "toldAs", desc := "()J" } : Jvm.MethodName)) ∈ wsG := gm 460 rfl rfl
set_option maxRecDepth 20000 in
theorem kw_461 : (Jvm.Cond.instanceMethod ({ cls := "WaterTwice$Meters", name := "toldAs", desc := "()J" } : Jvm.MethodName)) ∈ wsG := gm 461 rfl rfl
set_option maxRecDepth 20000 in
theorem kw_462 : (Jvm.Cond.selects "WaterTwice$Meters" ({ cls := "WaterTwice$Meters", name := "toldAs", desc := "()J" } : Jvm.MethodName) ({ cls := "WaterTwice$Meters", name := "toldAs", desc := "()J" } : Jvm.MethodName)) ∈ wsG := gm 462 rfl rfl
set_option maxRecDepth 20000 in
theorem kw_463 : (Jvm.Cond.code ({ cls := "WaterTwice$Meters", name := "toldAs", desc := "()J" } : Jvm.MethodName) prog_6_method_7_code (2 : Nat) (Option.some Jvm.ClassFile.FieldType.long)) ∈ wsG := gm 463 rfl rfl
set_option maxRecDepth 20000 in
theorem kw_464 : (Jvm.Cond.methodLink "WaterTwice$Meters" (26 : Nat) ({ cls := "WaterTwice$Meters", name := "told", desc := "()I" } : Jvm.MethodName)) ∈ wsG := gm 464 rfl rfl
set_option maxRecDepth 20000 in
theorem kw_465 : (Jvm.Cond.constantLong "WaterTwice$Meters" (29 : Nat) (-1000000000000 : Int64)) ∈ wsG := gm 465 rfl rfl
set_option maxRecDepth 20000 in
theorem kw_466 : (Jvm.Cond.methodLink "WaterTwice$Meters" (31 : Nat) ({ cls := "WaterTwice$Meters", name := "sum", desc := "()J" } : Jvm.MethodName)) ∈ wsG := gm 466 rfl rfl
set_option maxRecDepth 20000 in
theorem kw_467 : (Jvm.Cond.constantLong "WaterTwice" (192 : Nat) (-1000000000000 : Int64)) ∈ wsG := gm 467 rfl rfl
set_option maxRecDepth 20000 in
theorem kw_468 : (Jvm.Cond.methodLink "WaterTwiceLaw" (92 : Nat) ({ cls := "WaterTwice", name := "mended", desc := "(II)J" } : Jvm.MethodName)) ∈ wsG := gm 468 rfl rfl
set_option maxRecDepth 20000 in
theorem kw_469 : (Jvm.Cond.instanceMethod ({ cls := "WaterTwice", name := "mended", desc := "(II)J" } : Jvm.MethodName)) ∈ wsG := gm 469 rfl rfl
set_option maxRecDepth 20000 in
theorem kw_470 : (Jvm.Cond.selects "WaterTwice" ({ cls := "WaterTwice", name := "mended", desc := "(II)J" } : Jvm.MethodName) ({ cls := "WaterTwice", name := "mended", desc := "(II)J" } : Jvm.MethodName)) ∈ wsG := gm 470 rfl rfl
set_option maxRecDepth 20000 in
theorem kw_471 : (Jvm.Cond.code ({ cls := "WaterTwice", name := "mended", desc := "(II)J" } : Jvm.MethodName) prog_1_method_20_code (3 : Nat) (Option.some Jvm.ClassFile.FieldType.long)) ∈ wsG := gm 471 rfl rfl
set_option maxRecDepth 20000 in
theorem kw_472 : (Jvm.Cond.constantLong "WaterTwice" (194 : Nat) (-999999999999 : Int64)) ∈ wsG := gm 472 rfl rfl
set_option maxRecDepth 20000 in
theorem kw_473 : (Jvm.Cond.methodLink "WaterTwice" (196 : Nat) ({ cls := "WaterTwice$Meters", name := "tellMended", desc := "(ILWaterTwice$Fraction;)V" } : Jvm.MethodName)) ∈ wsG := gm 473 rfl rfl
set_option maxRecDepth 20000 in
theorem kw_474 : (Jvm.Cond.instanceMethod ({ cls := "WaterTwice$Meters", name := "tellMended", desc := "(ILWaterTwice$Fraction;)V" } : Jvm.MethodName)) ∈ wsG := gm 474 rfl rfl
set_option maxRecDepth 20000 in
theorem kw_475 : (Jvm.Cond.selects "WaterTwice$Meters" ({ cls := "WaterTwice$Meters", name := "tellMended", desc := "(ILWaterTwice$Fraction;)V" } : Jvm.MethodName) ({ cls := "WaterTwice$Meters", name := "tellMended", desc := "(ILWaterTwice$Fraction;)V" } : Jvm.MethodName)) ∈ wsG := gm 475 rfl rfl
set_option maxRecDepth 20000 in
theorem kw_476 : (Jvm.Cond.code ({ cls := "WaterTwice$Meters", name := "tellMended", desc := "(ILWaterTwice$Fraction;)V" } : Jvm.MethodName) prog_6_method_8_code (3 : Nat) (Option.none : Option Jvm.ClassFile.FieldType)) ∈ wsG := gm 476 rfl rfl
set_option maxRecDepth 20000 in
theorem kw_477 : (Jvm.Cond.methodLink "WaterTwice$Meters" (35 : Nat) ({ cls := "WaterTwice$Fraction", name := "become", desc := "(JJ)V" } : Jvm.MethodName)) ∈ wsG := gm 477 rfl rfl
set_option maxRecDepth 20000 in
theorem kw_478 : (Jvm.Cond.methodLink "WaterTwiceLaw" (96 : Nat) ({ cls := "WaterTwice", name := "count", desc := "(I)I" } : Jvm.MethodName)) ∈ wsG := gm 478 rfl rfl
set_option maxRecDepth 20000 in
theorem kw_479 : (Jvm.Cond.instanceMethod ({ cls := "WaterTwice", name := "count", desc := "(I)I" } : Jvm.MethodName)) ∈ wsG := gm 479 rfl rfl
set_option maxRecDepth 20000 in
theorem kw_480 : (Jvm.Cond.selects "WaterTwice" ({ cls := "WaterTwice", name := "count", desc := "(I)I" } : Jvm.MethodName) ({ cls := "WaterTwice", name := "count", desc := "(I)I" } : Jvm.MethodName)) ∈ wsG := gm 480 rfl rfl
set_option maxRecDepth 20000 in
theorem kw_481 : (Jvm.Cond.code ({ cls := "WaterTwice", name := "count", desc := "(I)I" } : Jvm.MethodName) prog_1_method_21_code (2 : Nat) (Option.some Jvm.ClassFile.FieldType.int)) ∈ wsG := gm 481 rfl rfl
set_option maxRecDepth 20000 in
theorem kw_482 : (Jvm.Cond.methodLink "WaterTwice" (203 : Nat) ({ cls := "WaterTwice$Design", name := "allFresh", desc := "()I" } : Jvm.MethodName)) ∈ wsG := gm 482 rfl rfl
set_option maxRecDepth 20000 in
theorem kw_483 : (Jvm.Cond.instanceMethod ({ cls := "WaterTwice$Design", name := "allFresh", desc := "()I" } : Jvm.MethodName)) ∈ wsG := gm 483 rfl rfl
set_option maxRecDepth 20000 in
theorem kw_484 : (Jvm.Cond.selects "WaterTwice$Design" ({ cls := "WaterTwice$Design", name := "allFresh", desc := "()I" } : Jvm.MethodName) ({ cls := "WaterTwice$Design", name := "allFresh", desc := "()I" } : Jvm.MethodName)) ∈ wsG := gm 484 rfl rfl
set_option maxRecDepth 20000 in
theorem kw_485 : (Jvm.Cond.code ({ cls := "WaterTwice$Design", name := "allFresh", desc := "()I" } : Jvm.MethodName) prog_3_method_4_code (3 : Nat) (Option.some Jvm.ClassFile.FieldType.int)) ∈ wsG := gm 485 rfl rfl
set_option maxRecDepth 20000 in
theorem kw_486 : (Jvm.Cond.methodLink "WaterTwice" (206 : Nat) ({ cls := "WaterTwice$Design", name := "pipesInUse", desc := "()I" } : Jvm.MethodName)) ∈ wsG := gm 486 rfl rfl
set_option maxRecDepth 20000 in
theorem kw_487 : (Jvm.Cond.instanceMethod ({ cls := "WaterTwice$Design", name := "pipesInUse", desc := "()I" } : Jvm.MethodName)) ∈ wsG := gm 487 rfl rfl
set_option maxRecDepth 20000 in
theorem kw_488 : (Jvm.Cond.selects "WaterTwice$Design" ({ cls := "WaterTwice$Design", name := "pipesInUse", desc := "()I" } : Jvm.MethodName) ({ cls := "WaterTwice$Design", name := "pipesInUse", desc := "()I" } : Jvm.MethodName)) ∈ wsG := gm 488 rfl rfl
set_option maxRecDepth 20000 in
theorem kw_489 : (Jvm.Cond.code ({ cls := "WaterTwice$Design", name := "pipesInUse", desc := "()I" } : Jvm.MethodName) prog_3_method_5_code (4 : Nat) (Option.some Jvm.ClassFile.FieldType.int)) ∈ wsG := gm 489 rfl rfl
set_option maxRecDepth 20000 in
theorem kw_490 : (Jvm.Cond.methodLink "WaterTwiceLaw" (100 : Nat) ({ cls := "WaterTwice", name := "trace", desc := "()J" } : Jvm.MethodName)) ∈ wsG := gm 490 rfl rfl
set_option maxRecDepth 20000 in
theorem kw_491 : (Jvm.Cond.instanceMethod ({ cls := "WaterTwice", name := "trace", desc := "()J" } : Jvm.MethodName)) ∈ wsG := gm 491 rfl rfl
set_option maxRecDepth 20000 in
theorem kw_492 : (Jvm.Cond.selects "WaterTwice" ({ cls := "WaterTwice", name := "trace", desc := "()J" } : Jvm.MethodName) ({ cls := "WaterTwice", name := "trace", desc := "()J" } : Jvm.MethodName)) ∈ wsG := gm 492 rfl rfl
set_option maxRecDepth 20000 in
theorem kw_493 : (Jvm.Cond.code ({ cls := "WaterTwice", name := "trace", desc := "()J" } : Jvm.MethodName) prog_1_method_22_code (1 : Nat) (Option.some Jvm.ClassFile.FieldType.long)) ∈ wsG := gm 493 rfl rfl
set_option maxRecDepth 20000 in
theorem kw_494 : (Jvm.Cond.classLink "WaterTwiceLaw" (10 : Nat) "WaterTwiceModel") ∈ wsG := gm 494 rfl rfl
set_option maxRecDepth 20000 in
theorem kw_495 : (Jvm.Cond.instantiable "WaterTwiceModel" (20 : Nat)) ∈ wsG := gm 495 rfl rfl
set_option maxRecDepth 20000 in
theorem kw_496 : (Jvm.Cond.methodLink "WaterTwiceLaw" (12 : Nat) ({ cls := "WaterTwiceModel", name := "<init>", desc := "()V" } : Jvm.MethodName)) ∈ wsG := gm 496 rfl rfl
set_option maxRecDepth 20000 in
theorem kw_497 : (Jvm.Cond.instanceMethod ({ cls := "WaterTwiceModel", name := "<init>", desc := "()V" } : Jvm.MethodName)) ∈ wsG := gm 497 rfl rfl
set_option maxRecDepth 20000 in
theorem kw_498 : (Jvm.Cond.code ({ cls := "WaterTwiceModel", name := "<init>", desc := "()V" } : Jvm.MethodName) prog_10_method_1_code (1 : Nat) (Option.none : Option Jvm.ClassFile.FieldType)) ∈ wsG := gm 498 rfl rfl
set_option maxRecDepth 20000 in
theorem kw_499 : (Jvm.Cond.methodLink "WaterTwiceModel" (1 : Nat) ({ cls := "java/lang/Object", name := "<init>", desc := "()V" } : Jvm.MethodName)) ∈ wsG := gm 499 rfl rfl
set_option maxRecDepth 20000 in
theorem kw_500 : (Jvm.Cond.fieldLink "WaterTwiceModel" (60 : Nat) "WaterTwiceModel" "thrown" "I") ∈ wsG := gm 500 rfl rfl
set_option maxRecDepth 20000 in
theorem kw_501 : (Jvm.Cond.fieldLink "WaterTwiceModel" (88 : Nat) "WaterTwiceModel" "trace" "J") ∈ wsG := gm 501 rfl rfl
set_option maxRecDepth 20000 in
theorem kw_502 : (Jvm.Cond.fieldLink "WaterTwiceModel" (64 : Nat) "WaterTwiceModel" "steps" "I") ∈ wsG := gm 502 rfl rfl
set_option maxRecDepth 20000 in
theorem kw_503 : (Jvm.Cond.fieldLink "WaterTwiceModel" (7 : Nat) "WaterTwiceModel" "load" "[I") ∈ wsG := gm 503 rfl rfl
set_option maxRecDepth 20000 in
theorem kw_504 : (Jvm.Cond.fieldLink "WaterTwiceModel" (13 : Nat) "WaterTwiceModel" "in" "[I") ∈ wsG := gm 504 rfl rfl
set_option maxRecDepth 20000 in
theorem kw_505 : (Jvm.Cond.fieldLink "WaterTwiceModel" (16 : Nat) "WaterTwiceModel" "out" "[I") ∈ wsG := gm 505 rfl rfl
set_option maxRecDepth 20000 in
theorem kw_506 : (Jvm.Cond.fieldLink "WaterTwiceModel" (19 : Nat) "WaterTwiceModel" "lag" "[I") ∈ wsG := gm 506 rfl rfl
set_option maxRecDepth 20000 in
theorem kw_507 : (Jvm.Cond.fieldLink "WaterTwiceModel" (22 : Nat) "WaterTwiceModel" "rules" "[I") ∈ wsG := gm 507 rfl rfl
set_option maxRecDepth 20000 in
theorem kw_508 : (Jvm.Cond.fieldLink "WaterTwiceModel" (25 : Nat) "WaterTwiceModel" "fresh" "[I") ∈ wsG := gm 508 rfl rfl
set_option maxRecDepth 20000 in
theorem kw_509 : (Jvm.Cond.fieldLink "WaterTwiceModel" (28 : Nat) "WaterTwiceModel" "pipe" "[I") ∈ wsG := gm 509 rfl rfl
set_option maxRecDepth 20000 in
theorem kw_510 : (Jvm.Cond.fieldLink "WaterTwiceModel" (31 : Nat) "WaterTwiceModel" "upper" "[J") ∈ wsG := gm 510 rfl rfl
set_option maxRecDepth 20000 in
theorem kw_511 : (Jvm.Cond.fieldLink "WaterTwiceModel" (35 : Nat) "WaterTwiceModel" "lower" "[J") ∈ wsG := gm 511 rfl rfl
set_option maxRecDepth 20000 in
theorem kw_512 : (Jvm.Cond.fieldLink "WaterTwiceModel" (38 : Nat) "WaterTwiceModel" "comesUpper" "[J") ∈ wsG := gm 512 rfl rfl
set_option maxRecDepth 20000 in
theorem kw_513 : (Jvm.Cond.fieldLink "WaterTwiceModel" (41 : Nat) "WaterTwiceModel" "comesLower" "[J") ∈ wsG := gm 513 rfl rfl
set_option maxRecDepth 20000 in
theorem kw_514 : (Jvm.Cond.fieldLink "WaterTwiceModel" (44 : Nat) "WaterTwiceModel" "isTaken" "[Z") ∈ wsG := gm 514 rfl rfl
set_option maxRecDepth 20000 in
theorem kw_515 : (Jvm.Cond.fieldLink "WaterTwiceModel" (48 : Nat) "WaterTwiceModel" "hits" "[I") ∈ wsG := gm 515 rfl rfl
set_option maxRecDepth 20000 in
theorem kw_516 : (Jvm.Cond.fieldLink "WaterTwiceModel" (51 : Nat) "WaterTwiceModel" "store" "[I") ∈ wsG := gm 516 rfl rfl
set_option maxRecDepth 20000 in
theorem kw_517 : (Jvm.Cond.fieldLink "WaterTwiceModel" (143 : Nat) "WaterTwiceModel" "meters" "I") ∈ wsG := gm 517 rfl rfl
set_option maxRecDepth 20000 in
theorem kw_518 : (Jvm.Cond.fieldLink "WaterTwiceModel" (54 : Nat) "WaterTwiceModel" "sign" "[I") ∈ wsG := gm 518 rfl rfl
set_option maxRecDepth 20000 in
theorem kw_519 : (Jvm.Cond.fieldLink "WaterTwiceModel" (57 : Nat) "WaterTwiceModel" "reading" "[I") ∈ wsG := gm 519 rfl rfl
set_option maxRecDepth 20000 in
theorem kw_520 : (Jvm.Cond.lays "WaterTwiceModel" "WaterTwiceModel" "thrown" "I") ∈ wsG := gm 520 rfl rfl
set_option maxRecDepth 20000 in
theorem kt_521 : (Jvm.Cond.soleField "WaterTwiceModel" "thrown") ∈ lw_tbl := gt 521 rfl
set_option maxRecDepth 20000 in
theorem kw_522 : (Jvm.Cond.lays "WaterTwiceModel" "WaterTwiceModel" "trace" "J") ∈ wsG := gm 522 rfl rfl
set_option maxRecDepth 20000 in
theorem kt_523 : (Jvm.Cond.soleField "WaterTwiceModel" "trace") ∈ lw_tbl := gt 523 rfl
set_option maxRecDepth 20000 in
theorem kw_524 : (Jvm.Cond.lays "WaterTwiceModel" "WaterTwiceModel" "steps" "I") ∈ wsG := gm 524 rfl rfl
set_option maxRecDepth 20000 in
theorem kt_525 : (Jvm.Cond.soleField "WaterTwiceModel" "steps") ∈ lw_tbl := gt 525 rfl
set_option maxRecDepth 20000 in
theorem kw_526 : (Jvm.Cond.laysFinal "WaterTwiceModel" "WaterTwiceModel" "load" "[I") ∈ wsG := gm 526 rfl rfl
set_option maxRecDepth 20000 in
theorem kt_527 : (Jvm.Cond.soleField "WaterTwiceModel" "load") ∈ lw_tbl := gt 527 rfl
set_option maxRecDepth 20000 in
theorem kw_528 : (Jvm.Cond.laysFinal "WaterTwiceModel" "WaterTwiceModel" "in" "[I") ∈ wsG := gm 528 rfl rfl
set_option maxRecDepth 20000 in
theorem kt_529 : (Jvm.Cond.soleField "WaterTwiceModel" "in") ∈ lw_tbl := gt 529 rfl
set_option maxRecDepth 20000 in
theorem kw_530 : (Jvm.Cond.laysFinal "WaterTwiceModel" "WaterTwiceModel" "out" "[I") ∈ wsG := gm 530 rfl rfl
set_option maxRecDepth 20000 in
theorem kt_531 : (Jvm.Cond.soleField "WaterTwiceModel" "out") ∈ lw_tbl := gt 531 rfl
set_option maxRecDepth 20000 in
theorem kw_532 : (Jvm.Cond.laysFinal "WaterTwiceModel" "WaterTwiceModel" "lag" "[I") ∈ wsG := gm 532 rfl rfl
set_option maxRecDepth 20000 in
theorem kt_533 : (Jvm.Cond.soleField "WaterTwiceModel" "lag") ∈ lw_tbl := gt 533 rfl
set_option maxRecDepth 20000 in
theorem kw_534 : (Jvm.Cond.laysFinal "WaterTwiceModel" "WaterTwiceModel" "rules" "[I") ∈ wsG := gm 534 rfl rfl
set_option maxRecDepth 20000 in
theorem kt_535 : (Jvm.Cond.soleField "WaterTwiceModel" "rules") ∈ lw_tbl := gt 535 rfl
set_option maxRecDepth 20000 in
theorem kw_536 : (Jvm.Cond.laysFinal "WaterTwiceModel" "WaterTwiceModel" "fresh" "[I") ∈ wsG := gm 536 rfl rfl
set_option maxRecDepth 20000 in
theorem kt_537 : (Jvm.Cond.soleField "WaterTwiceModel" "fresh") ∈ lw_tbl := gt 537 rfl
set_option maxRecDepth 20000 in
theorem kw_538 : (Jvm.Cond.laysFinal "WaterTwiceModel" "WaterTwiceModel" "pipe" "[I") ∈ wsG := gm 538 rfl rfl
set_option maxRecDepth 20000 in
theorem kt_539 : (Jvm.Cond.soleField "WaterTwiceModel" "pipe") ∈ lw_tbl := gt 539 rfl
set_option maxRecDepth 20000 in
theorem kw_540 : (Jvm.Cond.laysFinal "WaterTwiceModel" "WaterTwiceModel" "upper" "[J") ∈ wsG := gm 540 rfl rfl
set_option maxRecDepth 20000 in
theorem kt_541 : (Jvm.Cond.soleField "WaterTwiceModel" "upper") ∈ lw_tbl := gt 541 rfl
set_option maxRecDepth 20000 in
theorem kw_542 : (Jvm.Cond.laysFinal "WaterTwiceModel" "WaterTwiceModel" "lower" "[J") ∈ wsG := gm 542 rfl rfl
set_option maxRecDepth 20000 in
theorem kt_543 : (Jvm.Cond.soleField "WaterTwiceModel" "lower") ∈ lw_tbl := gt 543 rfl
set_option maxRecDepth 20000 in
theorem kw_544 : (Jvm.Cond.laysFinal "WaterTwiceModel" "WaterTwiceModel" "comesUpper" "[J") ∈ wsG := gm 544 rfl rfl
set_option maxRecDepth 20000 in
theorem kt_545 : (Jvm.Cond.soleField "WaterTwiceModel" "comesUpper") ∈ lw_tbl := gt 545 rfl
set_option maxRecDepth 20000 in
theorem kw_546 : (Jvm.Cond.laysFinal "WaterTwiceModel" "WaterTwiceModel" "comesLower" "[J") ∈ wsG := gm 546 rfl rfl
set_option maxRecDepth 20000 in
theorem kt_547 : (Jvm.Cond.soleField "WaterTwiceModel" "comesLower") ∈ lw_tbl := gt 547 rfl
set_option maxRecDepth 20000 in
theorem kw_548 : (Jvm.Cond.laysFinal "WaterTwiceModel" "WaterTwiceModel" "isTaken" "[Z") ∈ wsG := gm 548 rfl rfl
set_option maxRecDepth 20000 in
theorem kt_549 : (Jvm.Cond.soleField "WaterTwiceModel" "isTaken") ∈ lw_tbl := gt 549 rfl
set_option maxRecDepth 20000 in
theorem kw_550 : (Jvm.Cond.laysFinal "WaterTwiceModel" "WaterTwiceModel" "hits" "[I") ∈ wsG := gm 550 rfl rfl
set_option maxRecDepth 20000 in
theorem kt_551 : (Jvm.Cond.soleField "WaterTwiceModel" "hits") ∈ lw_tbl := gt 551 rfl
set_option maxRecDepth 20000 in
theorem kw_552 : (Jvm.Cond.laysFinal "WaterTwiceModel" "WaterTwiceModel" "store" "[I") ∈ wsG := gm 552 rfl rfl
set_option maxRecDepth 20000 in
theorem kt_553 : (Jvm.Cond.soleField "WaterTwiceModel" "store") ∈ lw_tbl := gt 553 rfl
set_option maxRecDepth 20000 in
theorem kw_554 : (Jvm.Cond.lays "WaterTwiceModel" "WaterTwiceModel" "meters" "I") ∈ wsG := gm 554 rfl rfl
set_option maxRecDepth 20000 in
theorem kt_555 : (Jvm.Cond.soleField "WaterTwiceModel" "meters") ∈ lw_tbl := gt 555 rfl
set_option maxRecDepth 20000 in
theorem kw_556 : (Jvm.Cond.laysFinal "WaterTwiceModel" "WaterTwiceModel" "sign" "[I") ∈ wsG := gm 556 rfl rfl
set_option maxRecDepth 20000 in
theorem kt_557 : (Jvm.Cond.soleField "WaterTwiceModel" "sign") ∈ lw_tbl := gt 557 rfl
set_option maxRecDepth 20000 in
theorem kw_558 : (Jvm.Cond.laysFinal "WaterTwiceModel" "WaterTwiceModel" "reading" "[I") ∈ wsG := gm 558 rfl rfl
set_option maxRecDepth 20000 in
theorem kt_559 : (Jvm.Cond.soleField "WaterTwiceModel" "reading") ∈ lw_tbl := gt 559 rfl
set_option maxRecDepth 20000 in
theorem kt_560 : (Jvm.Cond.superclass "WaterTwiceModel" "java/lang/Object") ∈ lw_tbl := gt 560 rfl
set_option maxRecDepth 20000 in
theorem kw_561 : (Jvm.Cond.arrayClass Jvm.ClassFile.FieldType.long) ∈ wsG := gm 561 rfl rfl
set_option maxRecDepth 20000 in
theorem kw_562 : (Jvm.Cond.methodLink "WaterTwiceLaw" (17 : Nat) ({ cls := "WaterTwiceModel", name := "step", desc := "(III)I" } : Jvm.MethodName)) ∈ wsG := gm 562 rfl rfl
set_option maxRecDepth 20000 in
theorem kw_563 : (Jvm.Cond.instanceMethod ({ cls := "WaterTwiceModel", name := "step", desc := "(III)I" } : Jvm.MethodName)) ∈ wsG := gm 563 rfl rfl
set_option maxRecDepth 20000 in
theorem kw_564 : (Jvm.Cond.selects "WaterTwiceModel" ({ cls := "WaterTwiceModel", name := "step", desc := "(III)I" } : Jvm.MethodName) ({ cls := "WaterTwiceModel", name := "step", desc := "(III)I" } : Jvm.MethodName)) ∈ wsG := gm 564 rfl rfl
set_option maxRecDepth 20000 in
theorem kw_565 : (Jvm.Cond.code ({ cls := "WaterTwiceModel", name := "step", desc := "(III)I" } : Jvm.MethodName) prog_10_method_6_code (4 : Nat) (Option.some Jvm.ClassFile.FieldType.int)) ∈ wsG := gm 565 rfl rfl
set_option maxRecDepth 20000 in
theorem kw_566 : (Jvm.Cond.constantLong "WaterTwiceModel" (70 : Nat) (1000 : Int64)) ∈ wsG := gm 566 rfl rfl
set_option maxRecDepth 20000 in
theorem kw_567 : (Jvm.Cond.methodLink "WaterTwiceModel" (67 : Nat) ({ cls := "WaterTwiceModel", name := "in", desc := "(JJJ)Z" } : Jvm.MethodName)) ∈ wsG := gm 567 rfl rfl
set_option maxRecDepth 20000 in
theorem kw_568 : (Jvm.Cond.static ({ cls := "WaterTwiceModel", name := "in", desc := "(JJJ)Z" } : Jvm.MethodName)) ∈ wsG := gm 568 rfl rfl
set_option maxRecDepth 20000 in
theorem kw_569 : (Jvm.Cond.code ({ cls := "WaterTwiceModel", name := "in", desc := "(JJJ)Z" } : Jvm.MethodName) prog_10_method_3_code (6 : Nat) (Option.some Jvm.ClassFile.FieldType.boolean)) ∈ wsG := gm 569 rfl rfl
set_option maxRecDepth 20000 in
theorem kw_570 : (Jvm.Cond.constantLong "WaterTwiceModel" (72 : Nat) (400 : Int64)) ∈ wsG := gm 570 rfl rfl
set_option maxRecDepth 20000 in
theorem kw_571 : (Jvm.Cond.constantLong "WaterTwiceModel" (74 : Nat) (500 : Int64)) ∈ wsG := gm 571 rfl rfl
set_option maxRecDepth 20000 in
theorem kw_572 : (Jvm.Cond.methodLink "WaterTwiceLaw" (21 : Nat) ({ cls := "WaterTwiceModel", name := "change", desc := "(III)I" } : Jvm.MethodName)) ∈ wsG := gm 572 rfl rfl
set_option maxRecDepth 20000 in
theorem kw_573 : (Jvm.Cond.instanceMethod ({ cls := "WaterTwiceModel", name := "change", desc := "(III)I" } : Jvm.MethodName)) ∈ wsG := gm 573 rfl rfl
set_option maxRecDepth 20000 in
theorem kw_574 : (Jvm.Cond.selects "WaterTwiceModel" ({ cls := "WaterTwiceModel", name := "change", desc := "(III)I" } : Jvm.MethodName) ({ cls := "WaterTwiceModel", name := "change", desc := "(III)I" } : Jvm.MethodName)) ∈ wsG := gm 574 rfl rfl
set_option maxRecDepth 20000 in
theorem kw_575 : (Jvm.Cond.code ({ cls := "WaterTwiceModel", name := "change", desc := "(III)I" } : Jvm.MethodName) prog_10_method_7_code (5 : Nat) (Option.some Jvm.ClassFile.FieldType.int)) ∈ wsG := gm 575 rfl rfl
set_option maxRecDepth 20000 in
theorem kw_576 : (Jvm.Cond.methodLink "WaterTwiceModel" (76 : Nat) ({ cls := "WaterTwiceModel", name := "isStep", desc := "(I)Z" } : Jvm.MethodName)) ∈ wsG := gm 576 rfl rfl
set_option maxRecDepth 20000 in
theorem kt_577 : (Jvm.Cond.privateMethod ({ cls := "WaterTwiceModel", name := "isStep", desc := "(I)Z" } : Jvm.MethodName)) ∈ lw_tbl := gt 577 rfl
set_option maxRecDepth 20000 in
theorem kw_578 : (Jvm.Cond.instanceMethod ({ cls := "WaterTwiceModel", name := "isStep", desc := "(I)Z" } : Jvm.MethodName)) ∈ wsG := gm 578 rfl rfl
set_option maxRecDepth 20000 in
theorem kw_579 : (Jvm.Cond.code ({ cls := "WaterTwiceModel", name := "isStep", desc := "(I)Z" } : Jvm.MethodName) prog_10_method_5_code (2 : Nat) (Option.some Jvm.ClassFile.FieldType.boolean)) ∈ wsG := gm 579 rfl rfl
set_option maxRecDepth 20000 in
theorem kw_580 : (Jvm.Cond.constantLong "WaterTwiceModel" (80 : Nat) (9 : Int64)) ∈ wsG := gm 580 rfl rfl
set_option maxRecDepth 20000 in
theorem kw_581 : (Jvm.Cond.methodLink "WaterTwiceLaw" (26 : Nat) ({ cls := "WaterTwiceModel", name := "set", desc := "(II)I" } : Jvm.MethodName)) ∈ wsG := gm 581 rfl rfl
set_option maxRecDepth 20000 in
theorem kw_582 : (Jvm.Cond.instanceMethod ({ cls := "WaterTwiceModel", name := "set", desc := "(II)I" } : Jvm.MethodName)) ∈ wsG := gm 582 rfl rfl
set_option maxRecDepth 20000 in
theorem kw_583 : (Jvm.Cond.selects "WaterTwiceModel" ({ cls := "WaterTwiceModel", name := "set", desc := "(II)I" } : Jvm.MethodName) ({ cls := "WaterTwiceModel", name := "set", desc := "(II)I" } : Jvm.MethodName)) ∈ wsG := gm 583 rfl rfl
set_option maxRecDepth 20000 in
theorem kw_584 : (Jvm.Cond.code ({ cls := "WaterTwiceModel", name := "set", desc := "(II)I" } : Jvm.MethodName) prog_10_method_8_code (4 : Nat) (Option.some Jvm.ClassFile.FieldType.int)) ∈ wsG := gm 584 rfl rfl
set_option maxRecDepth 20000 in
theorem kw_585 : (Jvm.Cond.constantLong "WaterTwiceModel" (82 : Nat) (2 : Int64)) ∈ wsG := gm 585 rfl rfl
set_option maxRecDepth 20000 in
theorem kw_586 : (Jvm.Cond.constantLong "WaterTwiceModel" (84 : Nat) (100 : Int64)) ∈ wsG := gm 586 rfl rfl
set_option maxRecDepth 20000 in
theorem kw_587 : (Jvm.Cond.constantLong "WaterTwiceModel" (86 : Nat) (40 : Int64)) ∈ wsG := gm 587 rfl rfl
set_option maxRecDepth 20000 in
theorem kw_588 : (Jvm.Cond.methodLink "WaterTwiceLaw" (30 : Nat) ({ cls := "WaterTwiceModel", name := "limit", desc := "(II)I" } : Jvm.MethodName)) ∈ wsG := gm 588 rfl rfl
set_option maxRecDepth 20000 in
theorem kw_589 : (Jvm.Cond.instanceMethod ({ cls := "WaterTwiceModel", name := "limit", desc := "(II)I" } : Jvm.MethodName)) ∈ wsG := gm 589 rfl rfl
set_option maxRecDepth 20000 in
theorem kw_590 : (Jvm.Cond.selects "WaterTwiceModel" ({ cls := "WaterTwiceModel", name := "limit", desc := "(II)I" } : Jvm.MethodName) ({ cls := "WaterTwiceModel", name := "limit", desc := "(II)I" } : Jvm.MethodName)) ∈ wsG := gm 590 rfl rfl
set_option maxRecDepth 20000 in
theorem kw_591 : (Jvm.Cond.code ({ cls := "WaterTwiceModel", name := "limit", desc := "(II)I" } : Jvm.MethodName) prog_10_method_10_code (3 : Nat) (Option.some Jvm.ClassFile.FieldType.int)) ∈ wsG := gm 591 rfl rfl
set_option maxRecDepth 20000 in
theorem kw_592 : (Jvm.Cond.constantLong "WaterTwiceModel" (92 : Nat) (11 : Int64)) ∈ wsG := gm 592 rfl rfl
set_option maxRecDepth 20000 in
theorem kw_593 : (Jvm.Cond.constantLong "WaterTwiceModel" (94 : Nat) (111 : Int64)) ∈ wsG := gm 593 rfl rfl
set_option maxRecDepth 20000 in
theorem kw_594 : (Jvm.Cond.methodLink "WaterTwiceModel" (96 : Nat) ({ cls := "WaterTwiceModel", name := "limitOf", desc := "(II)I" } : Jvm.MethodName)) ∈ wsG := gm 594 rfl rfl
set_option maxRecDepth 20000 in
theorem kt_595 : (Jvm.Cond.privateMethod ({ cls := "WaterTwiceModel", name := "limitOf", desc := "(II)I" } : Jvm.MethodName)) ∈ lw_tbl := gt 595 rfl
set_option maxRecDepth 20000 in
theorem kw_596 : (Jvm.Cond.instanceMethod ({ cls := "WaterTwiceModel", name := "limitOf", desc := "(II)I" } : Jvm.MethodName)) ∈ wsG := gm 596 rfl rfl
set_option maxRecDepth 20000 in
theorem kw_597 : (Jvm.Cond.code ({ cls := "WaterTwiceModel", name := "limitOf", desc := "(II)I" } : Jvm.MethodName) prog_10_method_9_code (4 : Nat) (Option.some Jvm.ClassFile.FieldType.int)) ∈ wsG := gm 597 rfl rfl
set_option maxRecDepth 20000 in
theorem kw_598 : (Jvm.Cond.methodLink "WaterTwiceLaw" (35 : Nat) ({ cls := "WaterTwiceModel", name := "dirt", desc := "(II)J" } : Jvm.MethodName)) ∈ wsG := gm 598 rfl rfl
set_option maxRecDepth 20000 in
theorem kw_599 : (Jvm.Cond.instanceMethod ({ cls := "WaterTwiceModel", name := "dirt", desc := "(II)J" } : Jvm.MethodName)) ∈ wsG := gm 599 rfl rfl
set_option maxRecDepth 20000 in
theorem kw_600 : (Jvm.Cond.selects "WaterTwiceModel" ({ cls := "WaterTwiceModel", name := "dirt", desc := "(II)J" } : Jvm.MethodName) ({ cls := "WaterTwiceModel", name := "dirt", desc := "(II)J" } : Jvm.MethodName)) ∈ wsG := gm 600 rfl rfl
set_option maxRecDepth 20000 in
theorem kw_601 : (Jvm.Cond.code ({ cls := "WaterTwiceModel", name := "dirt", desc := "(II)J" } : Jvm.MethodName) prog_10_method_13_code (9 : Nat) (Option.some Jvm.ClassFile.FieldType.long)) ∈ wsG := gm 601 rfl rfl
set_option maxRecDepth 20000 in
theorem kw_602 : (Jvm.Cond.constantLong "WaterTwiceModel" (104 : Nat) (-1 : Int64)) ∈ wsG := gm 602 rfl rfl
set_option maxRecDepth 20000 in
theorem kw_603 : (Jvm.Cond.methodLink "WaterTwiceModel" (106 : Nat) ({ cls := "WaterTwiceModel", name := "below", desc := "()J" } : Jvm.MethodName)) ∈ wsG := gm 603 rfl rfl
set_option maxRecDepth 20000 in
theorem kt_604 : (Jvm.Cond.privateMethod ({ cls := "WaterTwiceModel", name := "below", desc := "()J" } : Jvm.MethodName)) ∈ lw_tbl := gt 604 rfl
set_option maxRecDepth 20000 in
theorem kw_605 : (Jvm.Cond.instanceMethod ({ cls := "WaterTwiceModel", name := "below", desc := "()J" } : Jvm.MethodName)) ∈ wsG := gm 605 rfl rfl
set_option maxRecDepth 20000 in
theorem kw_606 : (Jvm.Cond.code ({ cls := "WaterTwiceModel", name := "below", desc := "()J" } : Jvm.MethodName) prog_10_method_11_code (4 : Nat) (Option.some Jvm.ClassFile.FieldType.long)) ∈ wsG := gm 606 rfl rfl
set_option maxRecDepth 20000 in
theorem kw_607 : (Jvm.Cond.methodLink "WaterTwiceModel" (100 : Nat) ({ cls := "WaterTwiceModel", name := "common", desc := "(JJ)J" } : Jvm.MethodName)) ∈ wsG := gm 607 rfl rfl
set_option maxRecDepth 20000 in
theorem kw_608 : (Jvm.Cond.static ({ cls := "WaterTwiceModel", name := "common", desc := "(JJ)J" } : Jvm.MethodName)) ∈ wsG := gm 608 rfl rfl
set_option maxRecDepth 20000 in
theorem kw_609 : (Jvm.Cond.code ({ cls := "WaterTwiceModel", name := "common", desc := "(JJ)J" } : Jvm.MethodName) prog_10_method_4_code (10 : Nat) (Option.some Jvm.ClassFile.FieldType.long)) ∈ wsG := gm 609 rfl rfl
set_option maxRecDepth 20000 in
theorem kw_610 : (Jvm.Cond.methodLink "WaterTwiceModel" (110 : Nat) ({ cls := "WaterTwiceModel", name := "dirtOf", desc := "(IJ)J" } : Jvm.MethodName)) ∈ wsG := gm 610 rfl rfl
set_option maxRecDepth 20000 in
theorem kt_611 : (Jvm.Cond.privateMethod ({ cls := "WaterTwiceModel", name := "dirtOf", desc := "(IJ)J" } : Jvm.MethodName)) ∈ lw_tbl := gt 611 rfl
set_option maxRecDepth 20000 in
theorem kw_612 : (Jvm.Cond.instanceMethod ({ cls := "WaterTwiceModel", name := "dirtOf", desc := "(IJ)J" } : Jvm.MethodName)) ∈ wsG := gm 612 rfl rfl
set_option maxRecDepth 20000 in
theorem kw_613 : (Jvm.Cond.code ({ cls := "WaterTwiceModel", name := "dirtOf", desc := "(IJ)J" } : Jvm.MethodName) prog_10_method_12_code (8 : Nat) (Option.some Jvm.ClassFile.FieldType.long)) ∈ wsG := gm 613 rfl rfl
set_option maxRecDepth 20000 in
theorem kw_614 : (Jvm.Cond.methodLink "WaterTwiceLaw" (40 : Nat) ({ cls := "WaterTwiceModel", name := "least", desc := "(I)J" } : Jvm.MethodName)) ∈ wsG := gm 614 rfl rfl
set_option maxRecDepth 20000 in
theorem kw_615 : (Jvm.Cond.instanceMethod ({ cls := "WaterTwiceModel", name := "least", desc := "(I)J" } : Jvm.MethodName)) ∈ wsG := gm 615 rfl rfl
set_option maxRecDepth 20000 in
theorem kw_616 : (Jvm.Cond.selects "WaterTwiceModel" ({ cls := "WaterTwiceModel", name := "least", desc := "(I)J" } : Jvm.MethodName) ({ cls := "WaterTwiceModel", name := "least", desc := "(I)J" } : Jvm.MethodName)) ∈ wsG := gm 616 rfl rfl
set_option maxRecDepth 20000 in
theorem kw_617 : (Jvm.Cond.code ({ cls := "WaterTwiceModel", name := "least", desc := "(I)J" } : Jvm.MethodName) prog_10_method_15_code (9 : Nat) (Option.some Jvm.ClassFile.FieldType.long)) ∈ wsG := gm 617 rfl rfl
set_option maxRecDepth 20000 in
theorem kw_618 : (Jvm.Cond.methodLink "WaterTwiceModel" (114 : Nat) ({ cls := "WaterTwiceModel", name := "pinch", desc := "()I" } : Jvm.MethodName)) ∈ wsG := gm 618 rfl rfl
set_option maxRecDepth 20000 in
theorem kt_619 : (Jvm.Cond.privateMethod ({ cls := "WaterTwiceModel", name := "pinch", desc := "()I" } : Jvm.MethodName)) ∈ lw_tbl := gt 619 rfl
set_option maxRecDepth 20000 in
theorem kw_620 : (Jvm.Cond.instanceMethod ({ cls := "WaterTwiceModel", name := "pinch", desc := "()I" } : Jvm.MethodName)) ∈ wsG := gm 620 rfl rfl
set_option maxRecDepth 20000 in
theorem kw_621 : (Jvm.Cond.code ({ cls := "WaterTwiceModel", name := "pinch", desc := "()I" } : Jvm.MethodName) prog_10_method_14_code (12 : Nat) (Option.some Jvm.ClassFile.FieldType.int)) ∈ wsG := gm 621 rfl rfl
set_option maxRecDepth 20000 in
theorem kw_622 : (Jvm.Cond.methodLink "WaterTwiceLaw" (44 : Nat) ({ cls := "WaterTwiceModel", name := "fresh", desc := "(II)I" } : Jvm.MethodName)) ∈ wsG := gm 622 rfl rfl
set_option maxRecDepth 20000 in
theorem kw_623 : (Jvm.Cond.instanceMethod ({ cls := "WaterTwiceModel", name := "fresh", desc := "(II)I" } : Jvm.MethodName)) ∈ wsG := gm 623 rfl rfl
set_option maxRecDepth 20000 in
theorem kw_624 : (Jvm.Cond.selects "WaterTwiceModel" ({ cls := "WaterTwiceModel", name := "fresh", desc := "(II)I" } : Jvm.MethodName) ({ cls := "WaterTwiceModel", name := "fresh", desc := "(II)I" } : Jvm.MethodName)) ∈ wsG := gm 624 rfl rfl
set_option maxRecDepth 20000 in
theorem kw_625 : (Jvm.Cond.code ({ cls := "WaterTwiceModel", name := "fresh", desc := "(II)I" } : Jvm.MethodName) prog_10_method_16_code (4 : Nat) (Option.some Jvm.ClassFile.FieldType.int)) ∈ wsG := gm 625 rfl rfl
set_option maxRecDepth 20000 in
theorem kw_626 : (Jvm.Cond.methodLink "WaterTwiceLaw" (48 : Nat) ({ cls := "WaterTwiceModel", name := "pipe", desc := "(III)I" } : Jvm.MethodName)) ∈ wsG := gm 626 rfl rfl
set_option maxRecDepth 20000 in
theorem kw_627 : (Jvm.Cond.instanceMethod ({ cls := "WaterTwiceModel", name := "pipe", desc := "(III)I" } : Jvm.MethodName)) ∈ wsG := gm 627 rfl rfl
set_option maxRecDepth 20000 in
theorem kw_628 : (Jvm.Cond.selects "WaterTwiceModel" ({ cls := "WaterTwiceModel", name := "pipe", desc := "(III)I" } : Jvm.MethodName) ({ cls := "WaterTwiceModel", name := "pipe", desc := "(III)I" } : Jvm.MethodName)) ∈ wsG := gm 628 rfl rfl
set_option maxRecDepth 20000 in
theorem kw_629 : (Jvm.Cond.code ({ cls := "WaterTwiceModel", name := "pipe", desc := "(III)I" } : Jvm.MethodName) prog_10_method_17_code (5 : Nat) (Option.some Jvm.ClassFile.FieldType.int)) ∈ wsG := gm 629 rfl rfl
set_option maxRecDepth 20000 in
theorem kw_630 : (Jvm.Cond.methodLink "WaterTwiceLaw" (52 : Nat) ({ cls := "WaterTwiceModel", name := "water", desc := "(II)I" } : Jvm.MethodName)) ∈ wsG := gm 630 rfl rfl
set_option maxRecDepth 20000 in
theorem kw_631 : (Jvm.Cond.instanceMethod ({ cls := "WaterTwiceModel", name := "water", desc := "(II)I" } : Jvm.MethodName)) ∈ wsG := gm 631 rfl rfl
set_option maxRecDepth 20000 in
theorem kw_632 : (Jvm.Cond.selects "WaterTwiceModel" ({ cls := "WaterTwiceModel", name := "water", desc := "(II)I" } : Jvm.MethodName) ({ cls := "WaterTwiceModel", name := "water", desc := "(II)I" } : Jvm.MethodName)) ∈ wsG := gm 632 rfl rfl
set_option maxRecDepth 20000 in
theorem kw_633 : (Jvm.Cond.code ({ cls := "WaterTwiceModel", name := "water", desc := "(II)I" } : Jvm.MethodName) prog_10_method_20_code (3 : Nat) (Option.some Jvm.ClassFile.FieldType.int)) ∈ wsG := gm 633 rfl rfl
set_option maxRecDepth 20000 in
theorem kw_634 : (Jvm.Cond.methodLink "WaterTwiceModel" (118 : Nat) ({ cls := "WaterTwiceModel", name := "comes", desc := "(I)I" } : Jvm.MethodName)) ∈ wsG := gm 634 rfl rfl
set_option maxRecDepth 20000 in
theorem kt_635 : (Jvm.Cond.privateMethod ({ cls := "WaterTwiceModel", name := "comes", desc := "(I)I" } : Jvm.MethodName)) ∈ lw_tbl := gt 635 rfl
set_option maxRecDepth 20000 in
theorem kw_636 : (Jvm.Cond.instanceMethod ({ cls := "WaterTwiceModel", name := "comes", desc := "(I)I" } : Jvm.MethodName)) ∈ wsG := gm 636 rfl rfl
set_option maxRecDepth 20000 in
theorem kw_637 : (Jvm.Cond.code ({ cls := "WaterTwiceModel", name := "comes", desc := "(I)I" } : Jvm.MethodName) prog_10_method_18_code (4 : Nat) (Option.some Jvm.ClassFile.FieldType.int)) ∈ wsG := gm 637 rfl rfl
set_option maxRecDepth 20000 in
theorem kw_638 : (Jvm.Cond.methodLink "WaterTwiceModel" (122 : Nat) ({ cls := "WaterTwiceModel", name := "goes", desc := "(I)I" } : Jvm.MethodName)) ∈ wsG := gm 638 rfl rfl
set_option maxRecDepth 20000 in
theorem kt_639 : (Jvm.Cond.privateMethod ({ cls := "WaterTwiceModel", name := "goes", desc := "(I)I" } : Jvm.MethodName)) ∈ lw_tbl := gt 639 rfl
set_option maxRecDepth 20000 in
theorem kw_640 : (Jvm.Cond.instanceMethod ({ cls := "WaterTwiceModel", name := "goes", desc := "(I)I" } : Jvm.MethodName)) ∈ wsG := gm 640 rfl rfl
set_option maxRecDepth 20000 in
theorem kw_641 : (Jvm.Cond.code ({ cls := "WaterTwiceModel", name := "goes", desc := "(I)I" } : Jvm.MethodName) prog_10_method_19_code (4 : Nat) (Option.some Jvm.ClassFile.FieldType.int)) ∈ wsG := gm 641 rfl rfl
set_option maxRecDepth 20000 in
theorem kw_642 : (Jvm.Cond.methodLink "WaterTwiceLaw" (57 : Nat) ({ cls := "WaterTwiceModel", name := "fails", desc := "()I" } : Jvm.MethodName)) ∈ wsG := gm 642 rfl rfl
set_option maxRecDepth 20000 in
theorem kw_643 : (Jvm.Cond.instanceMethod ({ cls := "WaterTwiceModel", name := "fails", desc := "()I" } : Jvm.MethodName)) ∈ wsG := gm 643 rfl rfl
set_option maxRecDepth 20000 in
theorem kw_644 : (Jvm.Cond.selects "WaterTwiceModel" ({ cls := "WaterTwiceModel", name := "fails", desc := "()I" } : Jvm.MethodName) ({ cls := "WaterTwiceModel", name := "fails", desc := "()I" } : Jvm.MethodName)) ∈ wsG := gm 644 rfl rfl
set_option maxRecDepth 20000 in
theorem kw_645 : (Jvm.Cond.code ({ cls := "WaterTwiceModel", name := "fails", desc := "()I" } : Jvm.MethodName) prog_10_method_23_code (3 : Nat) (Option.some Jvm.ClassFile.FieldType.int)) ∈ wsG := gm 645 rfl rfl
set_option maxRecDepth 20000 in
theorem kw_646 : (Jvm.Cond.methodLink "WaterTwiceModel" (129 : Nat) ({ cls := "WaterTwiceModel", name := "failsFirst", desc := "()I" } : Jvm.MethodName)) ∈ wsG := gm 646 rfl rfl
set_option maxRecDepth 20000 in
theorem kt_647 : (Jvm.Cond.privateMethod ({ cls := "WaterTwiceModel", name := "failsFirst", desc := "()I" } : Jvm.MethodName)) ∈ lw_tbl := gt 647 rfl
set_option maxRecDepth 20000 in
theorem kw_648 : (Jvm.Cond.instanceMethod ({ cls := "WaterTwiceModel", name := "failsFirst", desc := "()I" } : Jvm.MethodName)) ∈ wsG := gm 648 rfl rfl
set_option maxRecDepth 20000 in
theorem kw_649 : (Jvm.Cond.code ({ cls := "WaterTwiceModel", name := "failsFirst", desc := "()I" } : Jvm.MethodName) prog_10_method_22_code (5 : Nat) (Option.some Jvm.ClassFile.FieldType.int)) ∈ wsG := gm 649 rfl rfl
set_option maxRecDepth 20000 in
theorem kw_650 : (Jvm.Cond.methodLink "WaterTwiceModel" (125 : Nat) ({ cls := "WaterTwiceModel", name := "takes", desc := "(I)V" } : Jvm.MethodName)) ∈ wsG := gm 650 rfl rfl
set_option maxRecDepth 20000 in
theorem kt_651 : (Jvm.Cond.privateMethod ({ cls := "WaterTwiceModel", name := "takes", desc := "(I)V" } : Jvm.MethodName)) ∈ lw_tbl := gt 651 rfl
set_option maxRecDepth 20000 in
theorem kw_652 : (Jvm.Cond.instanceMethod ({ cls := "WaterTwiceModel", name := "takes", desc := "(I)V" } : Jvm.MethodName)) ∈ wsG := gm 652 rfl rfl
set_option maxRecDepth 20000 in
theorem kw_653 : (Jvm.Cond.code ({ cls := "WaterTwiceModel", name := "takes", desc := "(I)V" } : Jvm.MethodName) prog_10_method_21_code (9 : Nat) (Option.none : Option Jvm.ClassFile.FieldType)) ∈ wsG := gm 653 rfl rfl
set_option maxRecDepth 20000 in
theorem kw_654 : (Jvm.Cond.methodLink "WaterTwiceLaw" (61 : Nat) ({ cls := "WaterTwiceModel", name := "at", desc := "(II)J" } : Jvm.MethodName)) ∈ wsG := gm 654 rfl rfl
set_option maxRecDepth 20000 in
theorem kw_655 : (Jvm.Cond.instanceMethod ({ cls := "WaterTwiceModel", name := "at", desc := "(II)J" } : Jvm.MethodName)) ∈ wsG := gm 655 rfl rfl
set_option maxRecDepth 20000 in
theorem kw_656 : (Jvm.Cond.selects "WaterTwiceModel" ({ cls := "WaterTwiceModel", name := "at", desc := "(II)J" } : Jvm.MethodName) ({ cls := "WaterTwiceModel", name := "at", desc := "(II)J" } : Jvm.MethodName)) ∈ wsG := gm 656 rfl rfl
set_option maxRecDepth 20000 in
theorem kw_657 : (Jvm.Cond.code ({ cls := "WaterTwiceModel", name := "at", desc := "(II)J" } : Jvm.MethodName) prog_10_method_24_code (3 : Nat) (Option.some Jvm.ClassFile.FieldType.long)) ∈ wsG := gm 657 rfl rfl
set_option maxRecDepth 20000 in
theorem kw_658 : (Jvm.Cond.constantLong "WaterTwiceModel" (132 : Nat) (-2 : Int64)) ∈ wsG := gm 658 rfl rfl
set_option maxRecDepth 20000 in
theorem kw_659 : (Jvm.Cond.methodLink "WaterTwiceLaw" (65 : Nat) ({ cls := "WaterTwiceModel", name := "hit", desc := "(III)I" } : Jvm.MethodName)) ∈ wsG := gm 659 rfl rfl
set_option maxRecDepth 20000 in
theorem kw_660 : (Jvm.Cond.instanceMethod ({ cls := "WaterTwiceModel", name := "hit", desc := "(III)I" } : Jvm.MethodName)) ∈ wsG := gm 660 rfl rfl
set_option maxRecDepth 20000 in
theorem kw_661 : (Jvm.Cond.selects "WaterTwiceModel" ({ cls := "WaterTwiceModel", name := "hit", desc := "(III)I" } : Jvm.MethodName) ({ cls := "WaterTwiceModel", name := "hit", desc := "(III)I" } : Jvm.MethodName)) ∈ wsG := gm 661 rfl rfl
set_option maxRecDepth 20000 in
theorem kw_662 : (Jvm.Cond.code ({ cls := "WaterTwiceModel", name := "hit", desc := "(III)I" } : Jvm.MethodName) prog_10_method_25_code (7 : Nat) (Option.some Jvm.ClassFile.FieldType.int)) ∈ wsG := gm 662 rfl rfl
set_option maxRecDepth 20000 in
theorem kw_663 : (Jvm.Cond.constant "WaterTwiceModel" (134 : Nat) (100000 : Int32)) ∈ wsG := gm 663 rfl rfl
set_option maxRecDepth 20000 in
theorem kw_664 : (Jvm.Cond.methodLink "WaterTwiceLaw" (70 : Nat) ({ cls := "WaterTwiceModel", name := "steady", desc := "(IIIII)I" } : Jvm.MethodName)) ∈ wsG := gm 664 rfl rfl
set_option maxRecDepth 20000 in
theorem kw_665 : (Jvm.Cond.instanceMethod ({ cls := "WaterTwiceModel", name := "steady", desc := "(IIIII)I" } : Jvm.MethodName)) ∈ wsG := gm 665 rfl rfl
set_option maxRecDepth 20000 in
theorem kw_666 : (Jvm.Cond.selects "WaterTwiceModel" ({ cls := "WaterTwiceModel", name := "steady", desc := "(IIIII)I" } : Jvm.MethodName) ({ cls := "WaterTwiceModel", name := "steady", desc := "(IIIII)I" } : Jvm.MethodName)) ∈ wsG := gm 666 rfl rfl
set_option maxRecDepth 20000 in
theorem kw_667 : (Jvm.Cond.code ({ cls := "WaterTwiceModel", name := "steady", desc := "(IIIII)I" } : Jvm.MethodName) prog_10_method_27_code (11 : Nat) (Option.some Jvm.ClassFile.FieldType.int)) ∈ wsG := gm 667 rfl rfl
set_option maxRecDepth 20000 in
theorem kw_668 : (Jvm.Cond.constantLong "WaterTwiceModel" (135 : Nat) (1000000 : Int64)) ∈ wsG := gm 668 rfl rfl
set_option maxRecDepth 20000 in
theorem kw_669 : (Jvm.Cond.methodLink "WaterTwiceModel" (137 : Nat) ({ cls := "WaterTwiceModel", name := "hour", desc := "(JIII)J" } : Jvm.MethodName)) ∈ wsG := gm 669 rfl rfl
set_option maxRecDepth 20000 in
theorem kw_670 : (Jvm.Cond.static ({ cls := "WaterTwiceModel", name := "hour", desc := "(JIII)J" } : Jvm.MethodName)) ∈ wsG := gm 670 rfl rfl
set_option maxRecDepth 20000 in
theorem kw_671 : (Jvm.Cond.code ({ cls := "WaterTwiceModel", name := "hour", desc := "(JIII)J" } : Jvm.MethodName) prog_10_method_26_code (7 : Nat) (Option.some Jvm.ClassFile.FieldType.long)) ∈ wsG := gm 671 rfl rfl
set_option maxRecDepth 20000 in
theorem kw_672 : (Jvm.Cond.methodLink "WaterTwiceLaw" (74 : Nat) ({ cls := "WaterTwiceModel", name := "store", desc := "(III)I" } : Jvm.MethodName)) ∈ wsG := gm 672 rfl rfl
set_option maxRecDepth 20000 in
theorem kw_673 : (Jvm.Cond.instanceMethod ({ cls := "WaterTwiceModel", name := "store", desc := "(III)I" } : Jvm.MethodName)) ∈ wsG := gm 673 rfl rfl
set_option maxRecDepth 20000 in
theorem kw_674 : (Jvm.Cond.selects "WaterTwiceModel" ({ cls := "WaterTwiceModel", name := "store", desc := "(III)I" } : Jvm.MethodName) ({ cls := "WaterTwiceModel", name := "store", desc := "(III)I" } : Jvm.MethodName)) ∈ wsG := gm 674 rfl rfl
set_option maxRecDepth 20000 in
theorem kw_675 : (Jvm.Cond.code ({ cls := "WaterTwiceModel", name := "store", desc := "(III)I" } : Jvm.MethodName) prog_10_method_28_code (5 : Nat) (Option.some Jvm.ClassFile.FieldType.int)) ∈ wsG := gm 675 rfl rfl
set_option maxRecDepth 20000 in
theorem kw_676 : (Jvm.Cond.constantLong "WaterTwiceModel" (141 : Nat) (23 : Int64)) ∈ wsG := gm 676 rfl rfl
set_option maxRecDepth 20000 in
theorem kw_677 : (Jvm.Cond.methodLink "WaterTwiceLaw" (79 : Nat) ({ cls := "WaterTwiceModel", name := "room", desc := "(I)I" } : Jvm.MethodName)) ∈ wsG := gm 677 rfl rfl
set_option maxRecDepth 20000 in
theorem kw_678 : (Jvm.Cond.instanceMethod ({ cls := "WaterTwiceModel", name := "room", desc := "(I)I" } : Jvm.MethodName)) ∈ wsG := gm 678 rfl rfl
set_option maxRecDepth 20000 in
theorem kw_679 : (Jvm.Cond.selects "WaterTwiceModel" ({ cls := "WaterTwiceModel", name := "room", desc := "(I)I" } : Jvm.MethodName) ({ cls := "WaterTwiceModel", name := "room", desc := "(I)I" } : Jvm.MethodName)) ∈ wsG := gm 679 rfl rfl
set_option maxRecDepth 20000 in
theorem kw_680 : (Jvm.Cond.code ({ cls := "WaterTwiceModel", name := "room", desc := "(I)I" } : Jvm.MethodName) prog_10_method_29_code (6 : Nat) (Option.some Jvm.ClassFile.FieldType.int)) ∈ wsG := gm 680 rfl rfl
set_option maxRecDepth 20000 in
theorem kw_681 : (Jvm.Cond.methodLink "WaterTwiceLaw" (83 : Nat) ({ cls := "WaterTwiceModel", name := "meter", desc := "(I)I" } : Jvm.MethodName)) ∈ wsG := gm 681 rfl rfl
set_option maxRecDepth 20000 in
theorem kw_682 : (Jvm.Cond.instanceMethod ({ cls := "WaterTwiceModel", name := "meter", desc := "(I)I" } : Jvm.MethodName)) ∈ wsG := gm 682 rfl rfl
set_option maxRecDepth 20000 in
theorem kw_683 : (Jvm.Cond.selects "WaterTwiceModel" ({ cls := "WaterTwiceModel", name := "meter", desc := "(I)I" } : Jvm.MethodName) ({ cls := "WaterTwiceModel", name := "meter", desc := "(I)I" } : Jvm.MethodName)) ∈ wsG := gm 683 rfl rfl
set_option maxRecDepth 20000 in
theorem kw_684 : (Jvm.Cond.code ({ cls := "WaterTwiceModel", name := "meter", desc := "(I)I" } : Jvm.MethodName) prog_10_method_30_code (2 : Nat) (Option.some Jvm.ClassFile.FieldType.int)) ∈ wsG := gm 684 rfl rfl
set_option maxRecDepth 20000 in
theorem kw_685 : (Jvm.Cond.methodLink "WaterTwiceLaw" (87 : Nat) ({ cls := "WaterTwiceModel", name := "read", desc := "(II)I" } : Jvm.MethodName)) ∈ wsG := gm 685 rfl rfl
set_option maxRecDepth 20000 in
theorem kw_686 : (Jvm.Cond.instanceMethod ({ cls := "WaterTwiceModel", name := "read", desc := "(II)I" } : Jvm.MethodName)) ∈ wsG := gm 686 rfl rfl
set_option maxRecDepth 20000 in
theorem kw_687 : (Jvm.Cond.selects "WaterTwiceModel" ({ cls := "WaterTwiceModel", name := "read", desc := "(II)I" } : Jvm.MethodName) ({ cls := "WaterTwiceModel", name := "read", desc := "(II)I" } : Jvm.MethodName)) ∈ wsG := gm 687 rfl rfl
set_option maxRecDepth 20000 in
theorem kw_688 : (Jvm.Cond.code ({ cls := "WaterTwiceModel", name := "read", desc := "(II)I" } : Jvm.MethodName) prog_10_method_32_code (4 : Nat) (Option.some Jvm.ClassFile.FieldType.int)) ∈ wsG := gm 688 rfl rfl
set_option maxRecDepth 20000 in
theorem kw_689 : (Jvm.Cond.methodLink "WaterTwiceModel" (146 : Nat) ({ cls := "WaterTwiceModel", name := "isMeter", desc := "(I)Z" } : Jvm.MethodName)) ∈ wsG := gm 689 rfl rfl
set_option maxRecDepth 20000 in
theorem kt_690 : (Jvm.Cond.privateMethod ({ cls := "WaterTwiceModel", name := "isMeter", desc := "(I)Z" } : Jvm.MethodName)) ∈ lw_tbl := gt 690 rfl
set_option maxRecDepth 20000 in
theorem kw_691 : (Jvm.Cond.instanceMethod ({ cls := "WaterTwiceModel", name := "isMeter", desc := "(I)Z" } : Jvm.MethodName)) ∈ wsG := gm 691 rfl rfl
set_option maxRecDepth 20000 in
theorem kw_692 : (Jvm.Cond.code ({ cls := "WaterTwiceModel", name := "isMeter", desc := "(I)Z" } : Jvm.MethodName) prog_10_method_31_code (2 : Nat) (Option.some Jvm.ClassFile.FieldType.boolean)) ∈ wsG := gm 692 rfl rfl
set_option maxRecDepth 20000 in
theorem kw_693 : (Jvm.Cond.constantLong "WaterTwiceModel" (149 : Nat) (100000 : Int64)) ∈ wsG := gm 693 rfl rfl
set_option maxRecDepth 20000 in
theorem kw_694 : (Jvm.Cond.methodLink "WaterTwiceLaw" (91 : Nat) ({ cls := "WaterTwiceModel", name := "gap", desc := "(I)J" } : Jvm.MethodName)) ∈ wsG := gm 694 rfl rfl
set_option maxRecDepth 20000 in
theorem kw_695 : (Jvm.Cond.instanceMethod ({ cls := "WaterTwiceModel", name := "gap", desc := "(I)J" } : Jvm.MethodName)) ∈ wsG := gm 695 rfl rfl
set_option maxRecDepth 20000 in
theorem kw_696 : (Jvm.Cond.selects "WaterTwiceModel" ({ cls := "WaterTwiceModel", name := "gap", desc := "(I)J" } : Jvm.MethodName) ({ cls := "WaterTwiceModel", name := "gap", desc := "(I)J" } : Jvm.MethodName)) ∈ wsG := gm 696 rfl rfl
set_option maxRecDepth 20000 in
theorem kw_697 : (Jvm.Cond.code ({ cls := "WaterTwiceModel", name := "gap", desc := "(I)J" } : Jvm.MethodName) prog_10_method_35_code (4 : Nat) (Option.some Jvm.ClassFile.FieldType.long)) ∈ wsG := gm 697 rfl rfl
set_option maxRecDepth 20000 in
theorem kw_698 : (Jvm.Cond.constantLong "WaterTwiceModel" (151 : Nat) (3 : Int64)) ∈ wsG := gm 698 rfl rfl
set_option maxRecDepth 20000 in
theorem kw_699 : (Jvm.Cond.constantLong "WaterTwiceModel" (153 : Nat) (-1000000000000 : Int64)) ∈ wsG := gm 699 rfl rfl
set_option maxRecDepth 20000 in
theorem kw_700 : (Jvm.Cond.methodLink "WaterTwiceModel" (155 : Nat) ({ cls := "WaterTwiceModel", name := "missing", desc := "()I" } : Jvm.MethodName)) ∈ wsG := gm 700 rfl rfl
set_option maxRecDepth 20000 in
theorem kt_701 : (Jvm.Cond.privateMethod ({ cls := "WaterTwiceModel", name := "missing", desc := "()I" } : Jvm.MethodName)) ∈ lw_tbl := gt 701 rfl
set_option maxRecDepth 20000 in
theorem kw_702 : (Jvm.Cond.instanceMethod ({ cls := "WaterTwiceModel", name := "missing", desc := "()I" } : Jvm.MethodName)) ∈ wsG := gm 702 rfl rfl
set_option maxRecDepth 20000 in
theorem kw_703 : (Jvm.Cond.code ({ cls := "WaterTwiceModel", name := "missing", desc := "()I" } : Jvm.MethodName) prog_10_method_33_code (3 : Nat) (Option.some Jvm.ClassFile.FieldType.int)) ∈ wsG := gm 703 rfl rfl
set_option maxRecDepth 20000 in
theorem kw_704 : (Jvm.Cond.methodLink "WaterTwiceModel" (158 : Nat) ({ cls := "WaterTwiceModel", name := "gapOf", desc := "()J" } : Jvm.MethodName)) ∈ wsG := gm 704 rfl rfl
set_option maxRecDepth 20000 in
theorem kt_705 : (Jvm.Cond.privateMethod ({ cls := "WaterTwiceModel", name := "gapOf", desc := "()J" } : Jvm.MethodName)) ∈ lw_tbl := gt 705 rfl
set_option maxRecDepth 20000 in
theorem kw_706 : (Jvm.Cond.instanceMethod ({ cls := "WaterTwiceModel", name := "gapOf", desc := "()J" } : Jvm.MethodName)) ∈ wsG := gm 706 rfl rfl
set_option maxRecDepth 20000 in
theorem kw_707 : (Jvm.Cond.code ({ cls := "WaterTwiceModel", name := "gapOf", desc := "()J" } : Jvm.MethodName) prog_10_method_34_code (4 : Nat) (Option.some Jvm.ClassFile.FieldType.long)) ∈ wsG := gm 707 rfl rfl
set_option maxRecDepth 20000 in
theorem kw_708 : (Jvm.Cond.methodLink "WaterTwiceLaw" (95 : Nat) ({ cls := "WaterTwiceModel", name := "mended", desc := "(II)J" } : Jvm.MethodName)) ∈ wsG := gm 708 rfl rfl
set_option maxRecDepth 20000 in
theorem kw_709 : (Jvm.Cond.instanceMethod ({ cls := "WaterTwiceModel", name := "mended", desc := "(II)J" } : Jvm.MethodName)) ∈ wsG := gm 709 rfl rfl
set_option maxRecDepth 20000 in
theorem kw_710 : (Jvm.Cond.selects "WaterTwiceModel" ({ cls := "WaterTwiceModel", name := "mended", desc := "(II)J" } : Jvm.MethodName) ({ cls := "WaterTwiceModel", name := "mended", desc := "(II)J" } : Jvm.MethodName)) ∈ wsG := gm 710 rfl rfl
set_option maxRecDepth 20000 in
theorem kw_711 : (Jvm.Cond.code ({ cls := "WaterTwiceModel", name := "mended", desc := "(II)J" } : Jvm.MethodName) prog_10_method_36_code (7 : Nat) (Option.some Jvm.ClassFile.FieldType.long)) ∈ wsG := gm 711 rfl rfl
set_option maxRecDepth 20000 in
theorem kw_712 : (Jvm.Cond.constantLong "WaterTwiceModel" (161 : Nat) (-999999999999 : Int64)) ∈ wsG := gm 712 rfl rfl
set_option maxRecDepth 20000 in
theorem kw_713 : (Jvm.Cond.methodLink "WaterTwiceLaw" (99 : Nat) ({ cls := "WaterTwiceModel", name := "count", desc := "(I)I" } : Jvm.MethodName)) ∈ wsG := gm 713 rfl rfl
set_option maxRecDepth 20000 in
theorem kw_714 : (Jvm.Cond.instanceMethod ({ cls := "WaterTwiceModel", name := "count", desc := "(I)I" } : Jvm.MethodName)) ∈ wsG := gm 714 rfl rfl
set_option maxRecDepth 20000 in
theorem kw_715 : (Jvm.Cond.selects "WaterTwiceModel" ({ cls := "WaterTwiceModel", name := "count", desc := "(I)I" } : Jvm.MethodName) ({ cls := "WaterTwiceModel", name := "count", desc := "(I)I" } : Jvm.MethodName)) ∈ wsG := gm 715 rfl rfl
set_option maxRecDepth 20000 in
theorem kw_716 : (Jvm.Cond.code ({ cls := "WaterTwiceModel", name := "count", desc := "(I)I" } : Jvm.MethodName) prog_10_method_37_code (6 : Nat) (Option.some Jvm.ClassFile.FieldType.int)) ∈ wsG := gm 716 rfl rfl
set_option maxRecDepth 20000 in
theorem kw_717 : (Jvm.Cond.methodLink "WaterTwiceLaw" (104 : Nat) ({ cls := "WaterTwiceModel", name := "trace", desc := "()J" } : Jvm.MethodName)) ∈ wsG := gm 717 rfl rfl
set_option maxRecDepth 20000 in
theorem kw_718 : (Jvm.Cond.instanceMethod ({ cls := "WaterTwiceModel", name := "trace", desc := "()J" } : Jvm.MethodName)) ∈ wsG := gm 718 rfl rfl
set_option maxRecDepth 20000 in
theorem kw_719 : (Jvm.Cond.selects "WaterTwiceModel" ({ cls := "WaterTwiceModel", name := "trace", desc := "()J" } : Jvm.MethodName) ({ cls := "WaterTwiceModel", name := "trace", desc := "()J" } : Jvm.MethodName)) ∈ wsG := gm 719 rfl rfl
set_option maxRecDepth 20000 in
theorem kw_720 : (Jvm.Cond.code ({ cls := "WaterTwiceModel", name := "trace", desc := "()J" } : Jvm.MethodName) prog_10_method_38_code (1 : Nat) (Option.some Jvm.ClassFile.FieldType.long)) ∈ wsG := gm 720 rfl rfl
