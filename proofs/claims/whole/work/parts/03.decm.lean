theorem dX8_init_0 : decode cX8_init 0 = .ok (.aload_n 0, 1) := by decide +kernel
theorem dX8_init_1 : decode cX8_init 1 = .ok (.invokespecial 1, 3) := by decide +kernel
theorem dX8_init_4 : decode cX8_init 4 = .ok (.aload_n 0, 1) := by decide +kernel
theorem dX8_init_5 : decode cX8_init 5 = .ok (.iconst 5, 1) := by decide +kernel
theorem dX8_init_6 : decode cX8_init 6 = .ok (.newarray .int, 2) := by decide +kernel
theorem dX8_init_8 : decode cX8_init 8 = .ok (.putfield 7, 3) := by decide +kernel
theorem dX8_init_11 : decode cX8_init 11 = .ok (.aload_n 0, 1) := by decide +kernel
theorem dX8_init_12 : decode cX8_init 12 = .ok (.iconst 5, 1) := by decide +kernel
theorem dX8_init_13 : decode cX8_init 13 = .ok (.newarray .int, 2) := by decide +kernel
theorem dX8_init_15 : decode cX8_init 15 = .ok (.putfield 13, 3) := by decide +kernel
theorem dX8_init_18 : decode cX8_init 18 = .ok (.aload_n 0, 1) := by decide +kernel
theorem dX8_init_19 : decode cX8_init 19 = .ok (.iconst 5, 1) := by decide +kernel
theorem dX8_init_20 : decode cX8_init 20 = .ok (.newarray .int, 2) := by decide +kernel
theorem dX8_init_22 : decode cX8_init 22 = .ok (.putfield 16, 3) := by decide +kernel
theorem dX8_init_25 : decode cX8_init 25 = .ok (.aload_n 0, 1) := by decide +kernel
theorem dX8_init_26 : decode cX8_init 26 = .ok (.iconst 5, 1) := by decide +kernel
theorem dX8_init_27 : decode cX8_init 27 = .ok (.newarray .int, 2) := by decide +kernel
theorem dX8_init_29 : decode cX8_init 29 = .ok (.putfield 19, 3) := by decide +kernel
theorem dX8_init_32 : decode cX8_init 32 = .ok (.aload_n 0, 1) := by decide +kernel
theorem dX8_init_33 : decode cX8_init 33 = .ok (.iconst 3, 1) := by decide +kernel
theorem dX8_init_34 : decode cX8_init 34 = .ok (.newarray .int, 2) := by decide +kernel
theorem dX8_init_36 : decode cX8_init 36 = .ok (.putfield 22, 3) := by decide +kernel
theorem dX8_init_39 : decode cX8_init 39 = .ok (.aload_n 0, 1) := by decide +kernel
theorem dX8_init_40 : decode cX8_init 40 = .ok (.iconst 5, 1) := by decide +kernel
theorem dX8_init_41 : decode cX8_init 41 = .ok (.newarray .int, 2) := by decide +kernel
theorem dX8_init_43 : decode cX8_init 43 = .ok (.putfield 25, 3) := by decide +kernel
theorem dX8_init_46 : decode cX8_init 46 = .ok (.aload_n 0, 1) := by decide +kernel
theorem dX8_init_47 : decode cX8_init 47 = .ok (.bipush 25, 2) := by decide +kernel
theorem dX8_init_49 : decode cX8_init 49 = .ok (.newarray .int, 2) := by decide +kernel
theorem dX8_init_51 : decode cX8_init 51 = .ok (.putfield 28, 3) := by decide +kernel
theorem dX8_init_54 : decode cX8_init 54 = .ok (.aload_n 0, 1) := by decide +kernel
theorem dX8_init_55 : decode cX8_init 55 = .ok (.iconst 5, 1) := by decide +kernel
theorem dX8_init_56 : decode cX8_init 56 = .ok (.newarray .long, 2) := by decide +kernel
theorem dX8_init_58 : decode cX8_init 58 = .ok (.putfield 31, 3) := by decide +kernel
theorem dX8_init_61 : decode cX8_init 61 = .ok (.aload_n 0, 1) := by decide +kernel
theorem dX8_init_62 : decode cX8_init 62 = .ok (.iconst 5, 1) := by decide +kernel
theorem dX8_init_63 : decode cX8_init 63 = .ok (.newarray .long, 2) := by decide +kernel
theorem dX8_init_65 : decode cX8_init 65 = .ok (.putfield 35, 3) := by decide +kernel
theorem dX8_init_68 : decode cX8_init 68 = .ok (.aload_n 0, 1) := by decide +kernel
theorem dX8_init_69 : decode cX8_init 69 = .ok (.iconst 5, 1) := by decide +kernel
theorem dX8_init_70 : decode cX8_init 70 = .ok (.newarray .long, 2) := by decide +kernel
theorem dX8_init_72 : decode cX8_init 72 = .ok (.putfield 38, 3) := by decide +kernel
theorem dX8_init_75 : decode cX8_init 75 = .ok (.aload_n 0, 1) := by decide +kernel
theorem dX8_init_76 : decode cX8_init 76 = .ok (.iconst 5, 1) := by decide +kernel
theorem dX8_init_77 : decode cX8_init 77 = .ok (.newarray .long, 2) := by decide +kernel
theorem dX8_init_79 : decode cX8_init 79 = .ok (.putfield 41, 3) := by decide +kernel
theorem dX8_init_82 : decode cX8_init 82 = .ok (.aload_n 0, 1) := by decide +kernel
theorem dX8_init_83 : decode cX8_init 83 = .ok (.iconst 5, 1) := by decide +kernel
theorem dX8_init_84 : decode cX8_init 84 = .ok (.newarray .boolean, 2) := by decide +kernel
theorem dX8_init_86 : decode cX8_init 86 = .ok (.putfield 44, 3) := by decide +kernel
theorem dX8_init_89 : decode cX8_init 89 = .ok (.aload_n 0, 1) := by decide +kernel
theorem dX8_init_90 : decode cX8_init 90 = .ok (.iconst 5, 1) := by decide +kernel
theorem dX8_init_91 : decode cX8_init 91 = .ok (.newarray .int, 2) := by decide +kernel
theorem dX8_init_93 : decode cX8_init 93 = .ok (.putfield 48, 3) := by decide +kernel
theorem dX8_init_96 : decode cX8_init 96 = .ok (.aload_n 0, 1) := by decide +kernel
theorem dX8_init_97 : decode cX8_init 97 = .ok (.bipush 48, 2) := by decide +kernel
theorem dX8_init_99 : decode cX8_init 99 = .ok (.newarray .int, 2) := by decide +kernel
theorem dX8_init_101 : decode cX8_init 101 = .ok (.putfield 51, 3) := by decide +kernel
theorem dX8_init_104 : decode cX8_init 104 = .ok (.aload_n 0, 1) := by decide +kernel
theorem dX8_init_105 : decode cX8_init 105 = .ok (.bipush 8, 2) := by decide +kernel
theorem dX8_init_107 : decode cX8_init 107 = .ok (.newarray .int, 2) := by decide +kernel
theorem dX8_init_109 : decode cX8_init 109 = .ok (.putfield 54, 3) := by decide +kernel
theorem dX8_init_112 : decode cX8_init 112 = .ok (.aload_n 0, 1) := by decide +kernel
theorem dX8_init_113 : decode cX8_init 113 = .ok (.bipush 8, 2) := by decide +kernel
theorem dX8_init_115 : decode cX8_init 115 = .ok (.newarray .int, 2) := by decide +kernel
theorem dX8_init_117 : decode cX8_init 117 = .ok (.putfield 57, 3) := by decide +kernel
theorem dX8_init_120 : decode cX8_init 120 = .ok (.aload_n 0, 1) := by decide +kernel
theorem dX8_init_121 : decode cX8_init 121 = .ok (.getfield 22, 3) := by decide +kernel
theorem dX8_init_124 : decode cX8_init 124 = .ok (.iconst 0, 1) := by decide +kernel
theorem dX8_init_125 : decode cX8_init 125 = .ok (.bipush 10, 2) := by decide +kernel
theorem dX8_init_127 : decode cX8_init 127 = .ok (.iastore, 1) := by decide +kernel
theorem dX8_init_128 : decode cX8_init 128 = .ok (.return_, 1) := by decide +kernel
theorem dX8_in_0 : decode cX8_in 0 = .ok (.lload_n 0, 1) := by decide +kernel
theorem dX8_in_1 : decode cX8_in 1 = .ok (.lload_n 2, 1) := by decide +kernel
theorem dX8_in_2 : decode cX8_in 2 = .ok (.lcmp, 1) := by decide +kernel
theorem dX8_in_3 : decode cX8_in 3 = .ok (.ifCond .lt 14, 3) := by decide +kernel
theorem dX8_in_6 : decode cX8_in 6 = .ok (.lload_n 0, 1) := by decide +kernel
theorem dX8_in_7 : decode cX8_in 7 = .ok (.lload 4, 2) := by decide +kernel
theorem dX8_in_9 : decode cX8_in 9 = .ok (.lcmp, 1) := by decide +kernel
theorem dX8_in_10 : decode cX8_in 10 = .ok (.ifCond .gt 7, 3) := by decide +kernel
theorem dX8_in_13 : decode cX8_in 13 = .ok (.iconst 1, 1) := by decide +kernel
theorem dX8_in_14 : decode cX8_in 14 = .ok (.goto 4, 3) := by decide +kernel
theorem dX8_in_17 : decode cX8_in 17 = .ok (.iconst 0, 1) := by decide +kernel
theorem dX8_in_18 : decode cX8_in 18 = .ok (.ireturn, 1) := by decide +kernel
theorem dX8_common_0 : decode cX8_common 0 = .ok (.lload_n 0, 1) := by decide +kernel
theorem dX8_common_1 : decode cX8_common 1 = .ok (.lconst 0, 1) := by decide +kernel
theorem dX8_common_2 : decode cX8_common 2 = .ok (.lcmp, 1) := by decide +kernel
theorem dX8_common_3 : decode cX8_common 3 = .ok (.ifCond .ge 8, 3) := by decide +kernel
theorem dX8_common_6 : decode cX8_common 6 = .ok (.lload_n 0, 1) := by decide +kernel
theorem dX8_common_7 : decode cX8_common 7 = .ok (.lneg, 1) := by decide +kernel
theorem dX8_common_8 : decode cX8_common 8 = .ok (.goto 4, 3) := by decide +kernel
theorem dX8_common_11 : decode cX8_common 11 = .ok (.lload_n 0, 1) := by decide +kernel
theorem dX8_common_12 : decode cX8_common 12 = .ok (.lstore 4, 2) := by decide +kernel
theorem dX8_common_14 : decode cX8_common 14 = .ok (.lload_n 2, 1) := by decide +kernel
theorem dX8_common_15 : decode cX8_common 15 = .ok (.lstore 6, 2) := by decide +kernel
theorem dX8_common_17 : decode cX8_common 17 = .ok (.lload 6, 2) := by decide +kernel
theorem dX8_common_19 : decode cX8_common 19 = .ok (.lconst 0, 1) := by decide +kernel
theorem dX8_common_20 : decode cX8_common 20 = .ok (.lcmp, 1) := by decide +kernel
theorem dX8_common_21 : decode cX8_common 21 = .ok (.ifCond .eq 21, 3) := by decide +kernel
theorem dX8_common_24 : decode cX8_common 24 = .ok (.lload 4, 2) := by decide +kernel
theorem dX8_common_26 : decode cX8_common 26 = .ok (.lload 6, 2) := by decide +kernel
theorem dX8_common_28 : decode cX8_common 28 = .ok (.lrem, 1) := by decide +kernel
theorem dX8_common_29 : decode cX8_common 29 = .ok (.lstore 8, 2) := by decide +kernel
theorem dX8_common_31 : decode cX8_common 31 = .ok (.lload 6, 2) := by decide +kernel
theorem dX8_common_33 : decode cX8_common 33 = .ok (.lstore 4, 2) := by decide +kernel
theorem dX8_common_35 : decode cX8_common 35 = .ok (.lload 8, 2) := by decide +kernel
theorem dX8_common_37 : decode cX8_common 37 = .ok (.lstore 6, 2) := by decide +kernel
theorem dX8_common_39 : decode cX8_common 39 = .ok (.goto (-22), 3) := by decide +kernel
theorem dX8_common_42 : decode cX8_common 42 = .ok (.lload 4, 2) := by decide +kernel
theorem dX8_common_44 : decode cX8_common 44 = .ok (.lreturn, 1) := by decide +kernel
theorem dX8_isStep_0 : decode cX8_isStep 0 = .ok (.iload_n 1, 1) := by decide +kernel
theorem dX8_isStep_1 : decode cX8_isStep 1 = .ok (.i2l, 1) := by decide +kernel
theorem dX8_isStep_2 : decode cX8_isStep 2 = .ok (.lconst 0, 1) := by decide +kernel
theorem dX8_isStep_3 : decode cX8_isStep 3 = .ok (.aload_n 0, 1) := by decide +kernel
theorem dX8_isStep_4 : decode cX8_isStep 4 = .ok (.getfield 64, 3) := by decide +kernel
theorem dX8_isStep_7 : decode cX8_isStep 7 = .ok (.iconst 1, 1) := by decide +kernel
theorem dX8_isStep_8 : decode cX8_isStep 8 = .ok (.isub, 1) := by decide +kernel
theorem dX8_isStep_9 : decode cX8_isStep 9 = .ok (.i2l, 1) := by decide +kernel
theorem dX8_isStep_10 : decode cX8_isStep 10 = .ok (.invokestatic 67, 3) := by decide +kernel
theorem dX8_isStep_13 : decode cX8_isStep 13 = .ok (.ireturn, 1) := by decide +kernel
theorem dX8_step_0 : decode cX8_step 0 = .ok (.aload_n 0, 1) := by decide +kernel
theorem dX8_step_1 : decode cX8_step 1 = .ok (.iconst 0, 1) := by decide +kernel
theorem dX8_step_2 : decode cX8_step 2 = .ok (.putfield 60, 3) := by decide +kernel
theorem dX8_step_5 : decode cX8_step 5 = .ok (.iload_n 1, 1) := by decide +kernel
theorem dX8_step_6 : decode cX8_step 6 = .ok (.i2l, 1) := by decide +kernel
theorem dX8_step_7 : decode cX8_step 7 = .ok (.lconst 1, 1) := by decide +kernel
theorem dX8_step_8 : decode cX8_step 8 = .ok (.ldc2_w 70, 3) := by decide +kernel
theorem dX8_step_11 : decode cX8_step 11 = .ok (.invokestatic 67, 3) := by decide +kernel
theorem dX8_step_14 : decode cX8_step 14 = .ok (.ifCond .eq 30, 3) := by decide +kernel
theorem dX8_step_17 : decode cX8_step 17 = .ok (.iload_n 2, 1) := by decide +kernel
theorem dX8_step_18 : decode cX8_step 18 = .ok (.i2l, 1) := by decide +kernel
theorem dX8_step_19 : decode cX8_step 19 = .ok (.lconst 0, 1) := by decide +kernel
theorem dX8_step_20 : decode cX8_step 20 = .ok (.ldc2_w 72, 3) := by decide +kernel
theorem dX8_step_23 : decode cX8_step 23 = .ok (.invokestatic 67, 3) := by decide +kernel
theorem dX8_step_26 : decode cX8_step 26 = .ok (.ifCond .eq 18, 3) := by decide +kernel
theorem dX8_step_29 : decode cX8_step 29 = .ok (.iload_n 3, 1) := by decide +kernel
theorem dX8_step_30 : decode cX8_step 30 = .ok (.i2l, 1) := by decide +kernel
theorem dX8_step_31 : decode cX8_step 31 = .ok (.iload_n 2, 1) := by decide +kernel
theorem dX8_step_32 : decode cX8_step 32 = .ok (.iconst 1, 1) := by decide +kernel
theorem dX8_step_33 : decode cX8_step 33 = .ok (.iadd, 1) := by decide +kernel
theorem dX8_step_34 : decode cX8_step 34 = .ok (.i2l, 1) := by decide +kernel
theorem dX8_step_35 : decode cX8_step 35 = .ok (.ldc2_w 74, 3) := by decide +kernel
theorem dX8_step_38 : decode cX8_step 38 = .ok (.invokestatic 67, 3) := by decide +kernel
theorem dX8_step_41 : decode cX8_step 41 = .ok (.ifCond .ne 5, 3) := by decide +kernel
theorem dX8_step_44 : decode cX8_step 44 = .ok (.iconst (-1), 1) := by decide +kernel
theorem dX8_step_45 : decode cX8_step 45 = .ok (.ireturn, 1) := by decide +kernel
theorem dX8_step_46 : decode cX8_step 46 = .ok (.aload_n 0, 1) := by decide +kernel
theorem dX8_step_47 : decode cX8_step 47 = .ok (.getfield 64, 3) := by decide +kernel
theorem dX8_step_50 : decode cX8_step 50 = .ok (.iconst 5, 1) := by decide +kernel
theorem dX8_step_51 : decode cX8_step 51 = .ok (.if_icmp .ne 6, 3) := by decide +kernel
theorem dX8_step_54 : decode cX8_step 54 = .ok (.bipush (-3), 2) := by decide +kernel
theorem dX8_step_56 : decode cX8_step 56 = .ok (.ireturn, 1) := by decide +kernel
theorem dX8_step_57 : decode cX8_step 57 = .ok (.aload_n 0, 1) := by decide +kernel
theorem dX8_step_58 : decode cX8_step 58 = .ok (.getfield 7, 3) := by decide +kernel
theorem dX8_step_61 : decode cX8_step 61 = .ok (.aload_n 0, 1) := by decide +kernel
theorem dX8_step_62 : decode cX8_step 62 = .ok (.getfield 64, 3) := by decide +kernel
theorem dX8_step_65 : decode cX8_step 65 = .ok (.iload_n 1, 1) := by decide +kernel
theorem dX8_step_66 : decode cX8_step 66 = .ok (.iastore, 1) := by decide +kernel
theorem dX8_step_67 : decode cX8_step 67 = .ok (.aload_n 0, 1) := by decide +kernel
theorem dX8_step_68 : decode cX8_step 68 = .ok (.getfield 13, 3) := by decide +kernel
theorem dX8_step_71 : decode cX8_step 71 = .ok (.aload_n 0, 1) := by decide +kernel
theorem dX8_step_72 : decode cX8_step 72 = .ok (.getfield 64, 3) := by decide +kernel
theorem dX8_step_75 : decode cX8_step 75 = .ok (.iload_n 2, 1) := by decide +kernel
theorem dX8_step_76 : decode cX8_step 76 = .ok (.iastore, 1) := by decide +kernel
theorem dX8_step_77 : decode cX8_step 77 = .ok (.aload_n 0, 1) := by decide +kernel
theorem dX8_step_78 : decode cX8_step 78 = .ok (.getfield 16, 3) := by decide +kernel
theorem dX8_step_81 : decode cX8_step 81 = .ok (.aload_n 0, 1) := by decide +kernel
theorem dX8_step_82 : decode cX8_step 82 = .ok (.getfield 64, 3) := by decide +kernel
theorem dX8_step_85 : decode cX8_step 85 = .ok (.iload_n 3, 1) := by decide +kernel
theorem dX8_step_86 : decode cX8_step 86 = .ok (.iastore, 1) := by decide +kernel
theorem dX8_step_87 : decode cX8_step 87 = .ok (.aload_n 0, 1) := by decide +kernel
theorem dX8_step_88 : decode cX8_step 88 = .ok (.getfield 19, 3) := by decide +kernel
theorem dX8_step_91 : decode cX8_step 91 = .ok (.aload_n 0, 1) := by decide +kernel
theorem dX8_step_92 : decode cX8_step 92 = .ok (.getfield 64, 3) := by decide +kernel
theorem dX8_step_95 : decode cX8_step 95 = .ok (.iconst 1, 1) := by decide +kernel
theorem dX8_step_96 : decode cX8_step 96 = .ok (.iastore, 1) := by decide +kernel
theorem dX8_step_97 : decode cX8_step 97 = .ok (.aload_n 0, 1) := by decide +kernel
theorem dX8_step_98 : decode cX8_step 98 = .ok (.dup, 1) := by decide +kernel
theorem dX8_step_99 : decode cX8_step 99 = .ok (.getfield 64, 3) := by decide +kernel
theorem dX8_step_102 : decode cX8_step 102 = .ok (.iconst 1, 1) := by decide +kernel
theorem dX8_step_103 : decode cX8_step 103 = .ok (.iadd, 1) := by decide +kernel
theorem dX8_step_104 : decode cX8_step 104 = .ok (.putfield 64, 3) := by decide +kernel
theorem dX8_step_107 : decode cX8_step 107 = .ok (.aload_n 0, 1) := by decide +kernel
theorem dX8_step_108 : decode cX8_step 108 = .ok (.getfield 64, 3) := by decide +kernel
theorem dX8_step_111 : decode cX8_step 111 = .ok (.iconst 1, 1) := by decide +kernel
theorem dX8_step_112 : decode cX8_step 112 = .ok (.isub, 1) := by decide +kernel
theorem dX8_step_113 : decode cX8_step 113 = .ok (.ireturn, 1) := by decide +kernel
theorem dX8_change_0 : decode cX8_change 0 = .ok (.aload_n 0, 1) := by decide +kernel
theorem dX8_change_1 : decode cX8_change 1 = .ok (.iconst 0, 1) := by decide +kernel
theorem dX8_change_2 : decode cX8_change 2 = .ok (.putfield 60, 3) := by decide +kernel
theorem dX8_change_5 : decode cX8_change 5 = .ok (.aload_n 0, 1) := by decide +kernel
theorem dX8_change_6 : decode cX8_change 6 = .ok (.iload_n 1, 1) := by decide +kernel
theorem dX8_change_7 : decode cX8_change 7 = .ok (.invokevirtual 76, 3) := by decide +kernel
theorem dX8_change_10 : decode cX8_change 10 = .ok (.ifCond .eq 43, 3) := by decide +kernel
theorem dX8_change_13 : decode cX8_change 13 = .ok (.iload_n 2, 1) := by decide +kernel
theorem dX8_change_14 : decode cX8_change 14 = .ok (.i2l, 1) := by decide +kernel
theorem dX8_change_15 : decode cX8_change 15 = .ok (.lconst 0, 1) := by decide +kernel
theorem dX8_change_16 : decode cX8_change 16 = .ok (.lconst 1, 1) := by decide +kernel
theorem dX8_change_17 : decode cX8_change 17 = .ok (.invokestatic 67, 3) := by decide +kernel
theorem dX8_change_20 : decode cX8_change 20 = .ok (.ifCond .eq 33, 3) := by decide +kernel
theorem dX8_change_23 : decode cX8_change 23 = .ok (.iload_n 3, 1) := by decide +kernel
theorem dX8_change_24 : decode cX8_change 24 = .ok (.i2l, 1) := by decide +kernel
theorem dX8_change_25 : decode cX8_change 25 = .ok (.iload_n 2, 1) := by decide +kernel
theorem dX8_change_26 : decode cX8_change 26 = .ok (.ifCond .ne 7, 3) := by decide +kernel
theorem dX8_change_29 : decode cX8_change 29 = .ok (.lconst 1, 1) := by decide +kernel
theorem dX8_change_30 : decode cX8_change 30 = .ok (.goto 4, 3) := by decide +kernel
theorem dX8_change_33 : decode cX8_change 33 = .ok (.lconst 0, 1) := by decide +kernel
theorem dX8_change_34 : decode cX8_change 34 = .ok (.iload_n 2, 1) := by decide +kernel
theorem dX8_change_35 : decode cX8_change 35 = .ok (.ifCond .ne 9, 3) := by decide +kernel
theorem dX8_change_38 : decode cX8_change 38 = .ok (.ldc2_w 70, 3) := by decide +kernel
theorem dX8_change_41 : decode cX8_change 41 = .ok (.goto 6, 3) := by decide +kernel
theorem dX8_change_44 : decode cX8_change 44 = .ok (.ldc2_w 80, 3) := by decide +kernel
theorem dX8_change_47 : decode cX8_change 47 = .ok (.invokestatic 67, 3) := by decide +kernel
theorem dX8_change_50 : decode cX8_change 50 = .ok (.ifCond .ne 5, 3) := by decide +kernel
theorem dX8_change_53 : decode cX8_change 53 = .ok (.iconst (-1), 1) := by decide +kernel
theorem dX8_change_54 : decode cX8_change 54 = .ok (.ireturn, 1) := by decide +kernel
theorem dX8_change_55 : decode cX8_change 55 = .ok (.iload_n 2, 1) := by decide +kernel
theorem dX8_change_56 : decode cX8_change 56 = .ok (.ifCond .ne 12, 3) := by decide +kernel
theorem dX8_change_59 : decode cX8_change 59 = .ok (.aload_n 0, 1) := by decide +kernel
theorem dX8_change_60 : decode cX8_change 60 = .ok (.getfield 7, 3) := by decide +kernel
theorem dX8_change_63 : decode cX8_change 63 = .ok (.iload_n 1, 1) := by decide +kernel
theorem dX8_change_64 : decode cX8_change 64 = .ok (.iaload, 1) := by decide +kernel
theorem dX8_change_65 : decode cX8_change 65 = .ok (.goto 9, 3) := by decide +kernel
theorem dX8_change_68 : decode cX8_change 68 = .ok (.aload_n 0, 1) := by decide +kernel
theorem dX8_change_69 : decode cX8_change 69 = .ok (.getfield 19, 3) := by decide +kernel
theorem dX8_change_72 : decode cX8_change 72 = .ok (.iload_n 1, 1) := by decide +kernel
theorem dX8_change_73 : decode cX8_change 73 = .ok (.iaload, 1) := by decide +kernel
theorem dX8_change_74 : decode cX8_change 74 = .ok (.istore 4, 2) := by decide +kernel
theorem dX8_change_76 : decode cX8_change 76 = .ok (.aload_n 0, 1) := by decide +kernel
theorem dX8_change_77 : decode cX8_change 77 = .ok (.getfield 7, 3) := by decide +kernel
theorem dX8_change_80 : decode cX8_change 80 = .ok (.iload_n 1, 1) := by decide +kernel
theorem dX8_change_81 : decode cX8_change 81 = .ok (.iload_n 2, 1) := by decide +kernel
theorem dX8_change_82 : decode cX8_change 82 = .ok (.ifCond .ne 7, 3) := by decide +kernel
theorem dX8_change_85 : decode cX8_change 85 = .ok (.iload_n 3, 1) := by decide +kernel
theorem dX8_change_86 : decode cX8_change 86 = .ok (.goto 9, 3) := by decide +kernel
theorem dX8_change_89 : decode cX8_change 89 = .ok (.aload_n 0, 1) := by decide +kernel
theorem dX8_change_90 : decode cX8_change 90 = .ok (.getfield 7, 3) := by decide +kernel
theorem dX8_change_93 : decode cX8_change 93 = .ok (.iload_n 1, 1) := by decide +kernel
theorem dX8_change_94 : decode cX8_change 94 = .ok (.iaload, 1) := by decide +kernel
theorem dX8_change_95 : decode cX8_change 95 = .ok (.iastore, 1) := by decide +kernel
theorem dX8_change_96 : decode cX8_change 96 = .ok (.aload_n 0, 1) := by decide +kernel
theorem dX8_change_97 : decode cX8_change 97 = .ok (.getfield 19, 3) := by decide +kernel
theorem dX8_change_100 : decode cX8_change 100 = .ok (.iload_n 1, 1) := by decide +kernel
theorem dX8_change_101 : decode cX8_change 101 = .ok (.iload_n 2, 1) := by decide +kernel
theorem dX8_change_102 : decode cX8_change 102 = .ok (.iconst 1, 1) := by decide +kernel
theorem dX8_change_103 : decode cX8_change 103 = .ok (.if_icmp .ne 7, 3) := by decide +kernel
theorem dX8_change_106 : decode cX8_change 106 = .ok (.iload_n 3, 1) := by decide +kernel
theorem dX8_change_107 : decode cX8_change 107 = .ok (.goto 9, 3) := by decide +kernel
theorem dX8_change_110 : decode cX8_change 110 = .ok (.aload_n 0, 1) := by decide +kernel
theorem dX8_change_111 : decode cX8_change 111 = .ok (.getfield 19, 3) := by decide +kernel
theorem dX8_change_114 : decode cX8_change 114 = .ok (.iload_n 1, 1) := by decide +kernel
theorem dX8_change_115 : decode cX8_change 115 = .ok (.iaload, 1) := by decide +kernel
theorem dX8_change_116 : decode cX8_change 116 = .ok (.iastore, 1) := by decide +kernel
theorem dX8_change_117 : decode cX8_change 117 = .ok (.iload 4, 2) := by decide +kernel
theorem dX8_change_119 : decode cX8_change 119 = .ok (.ireturn, 1) := by decide +kernel
theorem dX8_set_0 : decode cX8_set 0 = .ok (.aload_n 0, 1) := by decide +kernel
theorem dX8_set_1 : decode cX8_set 1 = .ok (.iconst 0, 1) := by decide +kernel
theorem dX8_set_2 : decode cX8_set 2 = .ok (.putfield 60, 3) := by decide +kernel
theorem dX8_set_5 : decode cX8_set 5 = .ok (.iload_n 1, 1) := by decide +kernel
theorem dX8_set_6 : decode cX8_set 6 = .ok (.i2l, 1) := by decide +kernel
theorem dX8_set_7 : decode cX8_set 7 = .ok (.lconst 0, 1) := by decide +kernel
theorem dX8_set_8 : decode cX8_set 8 = .ok (.ldc2_w 82, 3) := by decide +kernel
theorem dX8_set_11 : decode cX8_set 11 = .ok (.invokestatic 67, 3) := by decide +kernel
theorem dX8_set_14 : decode cX8_set 14 = .ok (.ifCond .eq 36, 3) := by decide +kernel
theorem dX8_set_17 : decode cX8_set 17 = .ok (.iload_n 2, 1) := by decide +kernel
theorem dX8_set_18 : decode cX8_set 18 = .ok (.i2l, 1) := by decide +kernel
theorem dX8_set_19 : decode cX8_set 19 = .ok (.lconst 0, 1) := by decide +kernel
theorem dX8_set_20 : decode cX8_set 20 = .ok (.iload_n 1, 1) := by decide +kernel
theorem dX8_set_21 : decode cX8_set 21 = .ok (.ifCond .ne 9, 3) := by decide +kernel
theorem dX8_set_24 : decode cX8_set 24 = .ok (.ldc2_w 84, 3) := by decide +kernel
theorem dX8_set_27 : decode cX8_set 27 = .ok (.goto 17, 3) := by decide +kernel
theorem dX8_set_30 : decode cX8_set 30 = .ok (.iload_n 1, 1) := by decide +kernel
theorem dX8_set_31 : decode cX8_set 31 = .ok (.iconst 1, 1) := by decide +kernel
theorem dX8_set_32 : decode cX8_set 32 = .ok (.if_icmp .ne 9, 3) := by decide +kernel
theorem dX8_set_35 : decode cX8_set 35 = .ok (.ldc2_w 86, 3) := by decide +kernel
theorem dX8_set_38 : decode cX8_set 38 = .ok (.goto 6, 3) := by decide +kernel
theorem dX8_set_41 : decode cX8_set 41 = .ok (.ldc2_w 82, 3) := by decide +kernel
theorem dX8_set_44 : decode cX8_set 44 = .ok (.invokestatic 67, 3) := by decide +kernel
theorem dX8_set_47 : decode cX8_set 47 = .ok (.ifCond .ne 5, 3) := by decide +kernel
theorem dX8_set_50 : decode cX8_set 50 = .ok (.iconst (-1), 1) := by decide +kernel
theorem dX8_set_51 : decode cX8_set 51 = .ok (.ireturn, 1) := by decide +kernel
theorem dX8_set_52 : decode cX8_set 52 = .ok (.aload_n 0, 1) := by decide +kernel
theorem dX8_set_53 : decode cX8_set 53 = .ok (.getfield 22, 3) := by decide +kernel
theorem dX8_set_56 : decode cX8_set 56 = .ok (.iload_n 1, 1) := by decide +kernel
theorem dX8_set_57 : decode cX8_set 57 = .ok (.iaload, 1) := by decide +kernel
theorem dX8_set_58 : decode cX8_set 58 = .ok (.istore_n 3, 1) := by decide +kernel
theorem dX8_set_59 : decode cX8_set 59 = .ok (.aload_n 0, 1) := by decide +kernel
theorem dX8_set_60 : decode cX8_set 60 = .ok (.getfield 22, 3) := by decide +kernel
theorem dX8_set_63 : decode cX8_set 63 = .ok (.iload_n 1, 1) := by decide +kernel
theorem dX8_set_64 : decode cX8_set 64 = .ok (.iload_n 2, 1) := by decide +kernel
theorem dX8_set_65 : decode cX8_set 65 = .ok (.iastore, 1) := by decide +kernel
theorem dX8_set_66 : decode cX8_set 66 = .ok (.iload_n 3, 1) := by decide +kernel
theorem dX8_set_67 : decode cX8_set 67 = .ok (.ireturn, 1) := by decide +kernel
theorem dX8_limitOf_0 : decode cX8_limitOf 0 = .ok (.aload_n 0, 1) := by decide +kernel
theorem dX8_limitOf_1 : decode cX8_limitOf 1 = .ok (.getfield 16, 3) := by decide +kernel
theorem dX8_limitOf_4 : decode cX8_limitOf 4 = .ok (.iload_n 2, 1) := by decide +kernel
theorem dX8_limitOf_5 : decode cX8_limitOf 5 = .ok (.iaload, 1) := by decide +kernel
theorem dX8_limitOf_6 : decode cX8_limitOf 6 = .ok (.istore_n 3, 1) := by decide +kernel
theorem dX8_limitOf_7 : decode cX8_limitOf 7 = .ok (.iload_n 1, 1) := by decide +kernel
theorem dX8_limitOf_8 : decode cX8_limitOf 8 = .ok (.ifCond .le 40, 3) := by decide +kernel
theorem dX8_limitOf_11 : decode cX8_limitOf 11 = .ok (.iload_n 3, 1) := by decide +kernel
theorem dX8_limitOf_12 : decode cX8_limitOf 12 = .ok (.aload_n 0, 1) := by decide +kernel
theorem dX8_limitOf_13 : decode cX8_limitOf 13 = .ok (.getfield 22, 3) := by decide +kernel
theorem dX8_limitOf_16 : decode cX8_limitOf 16 = .ok (.iconst 0, 1) := by decide +kernel
theorem dX8_limitOf_17 : decode cX8_limitOf 17 = .ok (.iaload, 1) := by decide +kernel
theorem dX8_limitOf_18 : decode cX8_limitOf 18 = .ok (.isub, 1) := by decide +kernel
theorem dX8_limitOf_19 : decode cX8_limitOf 19 = .ok (.aload_n 0, 1) := by decide +kernel
theorem dX8_limitOf_20 : decode cX8_limitOf 20 = .ok (.getfield 13, 3) := by decide +kernel
theorem dX8_limitOf_23 : decode cX8_limitOf 23 = .ok (.iload_n 2, 1) := by decide +kernel
theorem dX8_limitOf_24 : decode cX8_limitOf 24 = .ok (.iaload, 1) := by decide +kernel
theorem dX8_limitOf_25 : decode cX8_limitOf 25 = .ok (.if_icmp .le 14, 3) := by decide +kernel
theorem dX8_limitOf_28 : decode cX8_limitOf 28 = .ok (.iload_n 3, 1) := by decide +kernel
theorem dX8_limitOf_29 : decode cX8_limitOf 29 = .ok (.aload_n 0, 1) := by decide +kernel
theorem dX8_limitOf_30 : decode cX8_limitOf 30 = .ok (.getfield 22, 3) := by decide +kernel
theorem dX8_limitOf_33 : decode cX8_limitOf 33 = .ok (.iconst 0, 1) := by decide +kernel
theorem dX8_limitOf_34 : decode cX8_limitOf 34 = .ok (.iaload, 1) := by decide +kernel
theorem dX8_limitOf_35 : decode cX8_limitOf 35 = .ok (.isub, 1) := by decide +kernel
theorem dX8_limitOf_36 : decode cX8_limitOf 36 = .ok (.goto 11, 3) := by decide +kernel
theorem dX8_limitOf_39 : decode cX8_limitOf 39 = .ok (.aload_n 0, 1) := by decide +kernel
theorem dX8_limitOf_40 : decode cX8_limitOf 40 = .ok (.getfield 13, 3) := by decide +kernel
theorem dX8_limitOf_43 : decode cX8_limitOf 43 = .ok (.iload_n 2, 1) := by decide +kernel
theorem dX8_limitOf_44 : decode cX8_limitOf 44 = .ok (.iaload, 1) := by decide +kernel
theorem dX8_limitOf_45 : decode cX8_limitOf 45 = .ok (.iconst 1, 1) := by decide +kernel
theorem dX8_limitOf_46 : decode cX8_limitOf 46 = .ok (.iadd, 1) := by decide +kernel
theorem dX8_limitOf_47 : decode cX8_limitOf 47 = .ok (.istore_n 3, 1) := by decide +kernel
theorem dX8_limitOf_48 : decode cX8_limitOf 48 = .ok (.iload_n 1, 1) := by decide +kernel
theorem dX8_limitOf_49 : decode cX8_limitOf 49 = .ok (.iconst 1, 1) := by decide +kernel
theorem dX8_limitOf_50 : decode cX8_limitOf 50 = .ok (.if_icmp .le 44, 3) := by decide +kernel
theorem dX8_limitOf_53 : decode cX8_limitOf 53 = .ok (.iload_n 3, 1) := by decide +kernel
theorem dX8_limitOf_54 : decode cX8_limitOf 54 = .ok (.iconst 2, 1) := by decide +kernel
theorem dX8_limitOf_55 : decode cX8_limitOf 55 = .ok (.aload_n 0, 1) := by decide +kernel
theorem dX8_limitOf_56 : decode cX8_limitOf 56 = .ok (.getfield 22, 3) := by decide +kernel
theorem dX8_limitOf_59 : decode cX8_limitOf 59 = .ok (.iconst 1, 1) := by decide +kernel
theorem dX8_limitOf_60 : decode cX8_limitOf 60 = .ok (.iaload, 1) := by decide +kernel
theorem dX8_limitOf_61 : decode cX8_limitOf 61 = .ok (.imul, 1) := by decide +kernel
theorem dX8_limitOf_62 : decode cX8_limitOf 62 = .ok (.isub, 1) := by decide +kernel
theorem dX8_limitOf_63 : decode cX8_limitOf 63 = .ok (.aload_n 0, 1) := by decide +kernel
theorem dX8_limitOf_64 : decode cX8_limitOf 64 = .ok (.getfield 13, 3) := by decide +kernel
theorem dX8_limitOf_67 : decode cX8_limitOf 67 = .ok (.iload_n 2, 1) := by decide +kernel
theorem dX8_limitOf_68 : decode cX8_limitOf 68 = .ok (.iaload, 1) := by decide +kernel
theorem dX8_limitOf_69 : decode cX8_limitOf 69 = .ok (.if_icmp .le 16, 3) := by decide +kernel
theorem dX8_limitOf_72 : decode cX8_limitOf 72 = .ok (.iload_n 3, 1) := by decide +kernel
theorem dX8_limitOf_73 : decode cX8_limitOf 73 = .ok (.iconst 2, 1) := by decide +kernel
theorem dX8_limitOf_74 : decode cX8_limitOf 74 = .ok (.aload_n 0, 1) := by decide +kernel
theorem dX8_limitOf_75 : decode cX8_limitOf 75 = .ok (.getfield 22, 3) := by decide +kernel
theorem dX8_limitOf_78 : decode cX8_limitOf 78 = .ok (.iconst 1, 1) := by decide +kernel
theorem dX8_limitOf_79 : decode cX8_limitOf 79 = .ok (.iaload, 1) := by decide +kernel
theorem dX8_limitOf_80 : decode cX8_limitOf 80 = .ok (.imul, 1) := by decide +kernel
theorem dX8_limitOf_81 : decode cX8_limitOf 81 = .ok (.isub, 1) := by decide +kernel
theorem dX8_limitOf_82 : decode cX8_limitOf 82 = .ok (.goto 11, 3) := by decide +kernel
theorem dX8_limitOf_85 : decode cX8_limitOf 85 = .ok (.aload_n 0, 1) := by decide +kernel
theorem dX8_limitOf_86 : decode cX8_limitOf 86 = .ok (.getfield 13, 3) := by decide +kernel
theorem dX8_limitOf_89 : decode cX8_limitOf 89 = .ok (.iload_n 2, 1) := by decide +kernel
theorem dX8_limitOf_90 : decode cX8_limitOf 90 = .ok (.iaload, 1) := by decide +kernel
theorem dX8_limitOf_91 : decode cX8_limitOf 91 = .ok (.iconst 1, 1) := by decide +kernel
theorem dX8_limitOf_92 : decode cX8_limitOf 92 = .ok (.iadd, 1) := by decide +kernel
theorem dX8_limitOf_93 : decode cX8_limitOf 93 = .ok (.istore_n 3, 1) := by decide +kernel
theorem dX8_limitOf_94 : decode cX8_limitOf 94 = .ok (.iload_n 3, 1) := by decide +kernel
theorem dX8_limitOf_95 : decode cX8_limitOf 95 = .ok (.ireturn, 1) := by decide +kernel
theorem dX8_limit_0 : decode cX8_limit 0 = .ok (.aload_n 0, 1) := by decide +kernel
theorem dX8_limit_1 : decode cX8_limit 1 = .ok (.iconst 0, 1) := by decide +kernel
theorem dX8_limit_2 : decode cX8_limit 2 = .ok (.putfield 60, 3) := by decide +kernel
theorem dX8_limit_5 : decode cX8_limit 5 = .ok (.iload_n 1, 1) := by decide +kernel
theorem dX8_limit_6 : decode cX8_limit 6 = .ok (.i2l, 1) := by decide +kernel
theorem dX8_limit_7 : decode cX8_limit 7 = .ok (.lconst 0, 1) := by decide +kernel
theorem dX8_limit_8 : decode cX8_limit 8 = .ok (.ldc2_w 82, 3) := by decide +kernel
theorem dX8_limit_11 : decode cX8_limit 11 = .ok (.invokestatic 67, 3) := by decide +kernel
theorem dX8_limit_14 : decode cX8_limit 14 = .ok (.ifCond .eq 11, 3) := by decide +kernel
theorem dX8_limit_17 : decode cX8_limit 17 = .ok (.aload_n 0, 1) := by decide +kernel
theorem dX8_limit_18 : decode cX8_limit 18 = .ok (.iload_n 2, 1) := by decide +kernel
theorem dX8_limit_19 : decode cX8_limit 19 = .ok (.invokevirtual 76, 3) := by decide +kernel
theorem dX8_limit_22 : decode cX8_limit 22 = .ok (.ifCond .ne 5, 3) := by decide +kernel
theorem dX8_limit_25 : decode cX8_limit 25 = .ok (.iconst (-1), 1) := by decide +kernel
theorem dX8_limit_26 : decode cX8_limit 26 = .ok (.ireturn, 1) := by decide +kernel
theorem dX8_limit_27 : decode cX8_limit 27 = .ok (.aload_n 0, 1) := by decide +kernel
theorem dX8_limit_28 : decode cX8_limit 28 = .ok (.dup, 1) := by decide +kernel
theorem dX8_limit_29 : decode cX8_limit 29 = .ok (.getfield 88, 3) := by decide +kernel
theorem dX8_limit_32 : decode cX8_limit 32 = .ok (.iload_n 1, 1) := by decide +kernel
theorem dX8_limit_33 : decode cX8_limit 33 = .ok (.ifCond .ne 7, 3) := by decide +kernel
theorem dX8_limit_36 : decode cX8_limit 36 = .ok (.lconst 1, 1) := by decide +kernel
theorem dX8_limit_37 : decode cX8_limit 37 = .ok (.goto 17, 3) := by decide +kernel
theorem dX8_limit_40 : decode cX8_limit 40 = .ok (.iload_n 1, 1) := by decide +kernel
theorem dX8_limit_41 : decode cX8_limit 41 = .ok (.iconst 1, 1) := by decide +kernel
theorem dX8_limit_42 : decode cX8_limit 42 = .ok (.if_icmp .ne 9, 3) := by decide +kernel
theorem dX8_limit_45 : decode cX8_limit 45 = .ok (.ldc2_w 92, 3) := by decide +kernel
theorem dX8_limit_48 : decode cX8_limit 48 = .ok (.goto 6, 3) := by decide +kernel
theorem dX8_limit_51 : decode cX8_limit 51 = .ok (.ldc2_w 94, 3) := by decide +kernel
theorem dX8_limit_54 : decode cX8_limit 54 = .ok (.ladd, 1) := by decide +kernel
theorem dX8_limit_55 : decode cX8_limit 55 = .ok (.putfield 88, 3) := by decide +kernel
theorem dX8_limit_58 : decode cX8_limit 58 = .ok (.aload_n 0, 1) := by decide +kernel
theorem dX8_limit_59 : decode cX8_limit 59 = .ok (.iload_n 1, 1) := by decide +kernel
theorem dX8_limit_60 : decode cX8_limit 60 = .ok (.iload_n 2, 1) := by decide +kernel
theorem dX8_limit_61 : decode cX8_limit 61 = .ok (.invokevirtual 96, 3) := by decide +kernel
theorem dX8_limit_64 : decode cX8_limit 64 = .ok (.ireturn, 1) := by decide +kernel
theorem dX8_below_0 : decode cX8_below 0 = .ok (.lconst 1, 1) := by decide +kernel
theorem dX8_below_1 : decode cX8_below 1 = .ok (.lstore_n 1, 1) := by decide +kernel
theorem dX8_below_2 : decode cX8_below 2 = .ok (.iconst 0, 1) := by decide +kernel
theorem dX8_below_3 : decode cX8_below 3 = .ok (.istore_n 3, 1) := by decide +kernel
theorem dX8_below_4 : decode cX8_below 4 = .ok (.iload_n 3, 1) := by decide +kernel
theorem dX8_below_5 : decode cX8_below 5 = .ok (.aload_n 0, 1) := by decide +kernel
theorem dX8_below_6 : decode cX8_below 6 = .ok (.getfield 64, 3) := by decide +kernel
theorem dX8_below_9 : decode cX8_below 9 = .ok (.if_icmp .ge 45, 3) := by decide +kernel
theorem dX8_below_12 : decode cX8_below 12 = .ok (.lload_n 1, 1) := by decide +kernel
theorem dX8_below_13 : decode cX8_below 13 = .ok (.lload_n 1, 1) := by decide +kernel
theorem dX8_below_14 : decode cX8_below 14 = .ok (.aload_n 0, 1) := by decide +kernel
theorem dX8_below_15 : decode cX8_below 15 = .ok (.getfield 16, 3) := by decide +kernel
theorem dX8_below_18 : decode cX8_below 18 = .ok (.iload_n 3, 1) := by decide +kernel
theorem dX8_below_19 : decode cX8_below 19 = .ok (.iaload, 1) := by decide +kernel
theorem dX8_below_20 : decode cX8_below 20 = .ok (.aload_n 0, 1) := by decide +kernel
theorem dX8_below_21 : decode cX8_below 21 = .ok (.getfield 13, 3) := by decide +kernel
theorem dX8_below_24 : decode cX8_below 24 = .ok (.iload_n 3, 1) := by decide +kernel
theorem dX8_below_25 : decode cX8_below 25 = .ok (.iaload, 1) := by decide +kernel
theorem dX8_below_26 : decode cX8_below 26 = .ok (.isub, 1) := by decide +kernel
theorem dX8_below_27 : decode cX8_below 27 = .ok (.i2l, 1) := by decide +kernel
theorem dX8_below_28 : decode cX8_below 28 = .ok (.invokestatic 100, 3) := by decide +kernel
theorem dX8_below_31 : decode cX8_below 31 = .ok (.ldiv, 1) := by decide +kernel
theorem dX8_below_32 : decode cX8_below 32 = .ok (.aload_n 0, 1) := by decide +kernel
theorem dX8_below_33 : decode cX8_below 33 = .ok (.getfield 16, 3) := by decide +kernel
theorem dX8_below_36 : decode cX8_below 36 = .ok (.iload_n 3, 1) := by decide +kernel
theorem dX8_below_37 : decode cX8_below 37 = .ok (.iaload, 1) := by decide +kernel
theorem dX8_below_38 : decode cX8_below 38 = .ok (.aload_n 0, 1) := by decide +kernel
theorem dX8_below_39 : decode cX8_below 39 = .ok (.getfield 13, 3) := by decide +kernel
theorem dX8_below_42 : decode cX8_below 42 = .ok (.iload_n 3, 1) := by decide +kernel
theorem dX8_below_43 : decode cX8_below 43 = .ok (.iaload, 1) := by decide +kernel
theorem dX8_below_44 : decode cX8_below 44 = .ok (.isub, 1) := by decide +kernel
theorem dX8_below_45 : decode cX8_below 45 = .ok (.i2l, 1) := by decide +kernel
theorem dX8_below_46 : decode cX8_below 46 = .ok (.lmul, 1) := by decide +kernel
theorem dX8_below_47 : decode cX8_below 47 = .ok (.lstore_n 1, 1) := by decide +kernel
theorem dX8_below_48 : decode cX8_below 48 = .ok (.iinc 3 1, 3) := by decide +kernel
theorem dX8_below_51 : decode cX8_below 51 = .ok (.goto (-47), 3) := by decide +kernel
theorem dX8_below_54 : decode cX8_below 54 = .ok (.lload_n 1, 1) := by decide +kernel
theorem dX8_below_55 : decode cX8_below 55 = .ok (.lreturn, 1) := by decide +kernel
theorem dX8_dirtOf_0 : decode cX8_dirtOf 0 = .ok (.lconst 0, 1) := by decide +kernel
theorem dX8_dirtOf_1 : decode cX8_dirtOf 1 = .ok (.lstore 4, 2) := by decide +kernel
theorem dX8_dirtOf_3 : decode cX8_dirtOf 3 = .ok (.iconst 0, 1) := by decide +kernel
theorem dX8_dirtOf_4 : decode cX8_dirtOf 4 = .ok (.istore 6, 2) := by decide +kernel
theorem dX8_dirtOf_6 : decode cX8_dirtOf 6 = .ok (.iload 6, 2) := by decide +kernel
theorem dX8_dirtOf_8 : decode cX8_dirtOf 8 = .ok (.aload_n 0, 1) := by decide +kernel
theorem dX8_dirtOf_9 : decode cX8_dirtOf 9 = .ok (.getfield 64, 3) := by decide +kernel
theorem dX8_dirtOf_12 : decode cX8_dirtOf 12 = .ok (.if_icmp .ge 93, 3) := by decide +kernel
theorem dX8_dirtOf_15 : decode cX8_dirtOf 15 = .ok (.iload_n 1, 1) := by decide +kernel
theorem dX8_dirtOf_16 : decode cX8_dirtOf 16 = .ok (.aload_n 0, 1) := by decide +kernel
theorem dX8_dirtOf_17 : decode cX8_dirtOf 17 = .ok (.getfield 16, 3) := by decide +kernel
theorem dX8_dirtOf_20 : decode cX8_dirtOf 20 = .ok (.iload 6, 2) := by decide +kernel
theorem dX8_dirtOf_22 : decode cX8_dirtOf 22 = .ok (.iaload, 1) := by decide +kernel
theorem dX8_dirtOf_23 : decode cX8_dirtOf 23 = .ok (.if_icmp .ge 7, 3) := by decide +kernel
theorem dX8_dirtOf_26 : decode cX8_dirtOf 26 = .ok (.iload_n 1, 1) := by decide +kernel
theorem dX8_dirtOf_27 : decode cX8_dirtOf 27 = .ok (.goto 10, 3) := by decide +kernel
theorem dX8_dirtOf_30 : decode cX8_dirtOf 30 = .ok (.aload_n 0, 1) := by decide +kernel
theorem dX8_dirtOf_31 : decode cX8_dirtOf 31 = .ok (.getfield 16, 3) := by decide +kernel
theorem dX8_dirtOf_34 : decode cX8_dirtOf 34 = .ok (.iload 6, 2) := by decide +kernel
theorem dX8_dirtOf_36 : decode cX8_dirtOf 36 = .ok (.iaload, 1) := by decide +kernel
theorem dX8_dirtOf_37 : decode cX8_dirtOf 37 = .ok (.istore 7, 2) := by decide +kernel
theorem dX8_dirtOf_39 : decode cX8_dirtOf 39 = .ok (.lload 4, 2) := by decide +kernel
theorem dX8_dirtOf_41 : decode cX8_dirtOf 41 = .ok (.iload 7, 2) := by decide +kernel
theorem dX8_dirtOf_43 : decode cX8_dirtOf 43 = .ok (.aload_n 0, 1) := by decide +kernel
theorem dX8_dirtOf_44 : decode cX8_dirtOf 44 = .ok (.getfield 13, 3) := by decide +kernel
theorem dX8_dirtOf_47 : decode cX8_dirtOf 47 = .ok (.iload 6, 2) := by decide +kernel
theorem dX8_dirtOf_49 : decode cX8_dirtOf 49 = .ok (.iaload, 1) := by decide +kernel
theorem dX8_dirtOf_50 : decode cX8_dirtOf 50 = .ok (.if_icmp .le 45, 3) := by decide +kernel
theorem dX8_dirtOf_53 : decode cX8_dirtOf 53 = .ok (.aload_n 0, 1) := by decide +kernel
theorem dX8_dirtOf_54 : decode cX8_dirtOf 54 = .ok (.getfield 7, 3) := by decide +kernel
theorem dX8_dirtOf_57 : decode cX8_dirtOf 57 = .ok (.iload 6, 2) := by decide +kernel
theorem dX8_dirtOf_59 : decode cX8_dirtOf 59 = .ok (.iaload, 1) := by decide +kernel
theorem dX8_dirtOf_60 : decode cX8_dirtOf 60 = .ok (.i2l, 1) := by decide +kernel
theorem dX8_dirtOf_61 : decode cX8_dirtOf 61 = .ok (.iload 7, 2) := by decide +kernel
theorem dX8_dirtOf_63 : decode cX8_dirtOf 63 = .ok (.aload_n 0, 1) := by decide +kernel
theorem dX8_dirtOf_64 : decode cX8_dirtOf 64 = .ok (.getfield 13, 3) := by decide +kernel
theorem dX8_dirtOf_67 : decode cX8_dirtOf 67 = .ok (.iload 6, 2) := by decide +kernel
theorem dX8_dirtOf_69 : decode cX8_dirtOf 69 = .ok (.iaload, 1) := by decide +kernel
theorem dX8_dirtOf_70 : decode cX8_dirtOf 70 = .ok (.isub, 1) := by decide +kernel
theorem dX8_dirtOf_71 : decode cX8_dirtOf 71 = .ok (.i2l, 1) := by decide +kernel
theorem dX8_dirtOf_72 : decode cX8_dirtOf 72 = .ok (.lmul, 1) := by decide +kernel
theorem dX8_dirtOf_73 : decode cX8_dirtOf 73 = .ok (.lload_n 2, 1) := by decide +kernel
theorem dX8_dirtOf_74 : decode cX8_dirtOf 74 = .ok (.aload_n 0, 1) := by decide +kernel
theorem dX8_dirtOf_75 : decode cX8_dirtOf 75 = .ok (.getfield 16, 3) := by decide +kernel
theorem dX8_dirtOf_78 : decode cX8_dirtOf 78 = .ok (.iload 6, 2) := by decide +kernel
theorem dX8_dirtOf_80 : decode cX8_dirtOf 80 = .ok (.iaload, 1) := by decide +kernel
theorem dX8_dirtOf_81 : decode cX8_dirtOf 81 = .ok (.aload_n 0, 1) := by decide +kernel
theorem dX8_dirtOf_82 : decode cX8_dirtOf 82 = .ok (.getfield 13, 3) := by decide +kernel
theorem dX8_dirtOf_85 : decode cX8_dirtOf 85 = .ok (.iload 6, 2) := by decide +kernel
theorem dX8_dirtOf_87 : decode cX8_dirtOf 87 = .ok (.iaload, 1) := by decide +kernel
theorem dX8_dirtOf_88 : decode cX8_dirtOf 88 = .ok (.isub, 1) := by decide +kernel
theorem dX8_dirtOf_89 : decode cX8_dirtOf 89 = .ok (.i2l, 1) := by decide +kernel
theorem dX8_dirtOf_90 : decode cX8_dirtOf 90 = .ok (.ldiv, 1) := by decide +kernel
theorem dX8_dirtOf_91 : decode cX8_dirtOf 91 = .ok (.lmul, 1) := by decide +kernel
theorem dX8_dirtOf_92 : decode cX8_dirtOf 92 = .ok (.goto 4, 3) := by decide +kernel
theorem dX8_dirtOf_95 : decode cX8_dirtOf 95 = .ok (.lconst 0, 1) := by decide +kernel
theorem dX8_dirtOf_96 : decode cX8_dirtOf 96 = .ok (.ladd, 1) := by decide +kernel
theorem dX8_dirtOf_97 : decode cX8_dirtOf 97 = .ok (.lstore 4, 2) := by decide +kernel
theorem dX8_dirtOf_99 : decode cX8_dirtOf 99 = .ok (.iinc 6 1, 3) := by decide +kernel
theorem dX8_dirtOf_102 : decode cX8_dirtOf 102 = .ok (.goto (-96), 3) := by decide +kernel
theorem dX8_dirtOf_105 : decode cX8_dirtOf 105 = .ok (.lload 4, 2) := by decide +kernel
theorem dX8_dirtOf_107 : decode cX8_dirtOf 107 = .ok (.lreturn, 1) := by decide +kernel
theorem dX8_dirt_0 : decode cX8_dirt 0 = .ok (.aload_n 0, 1) := by decide +kernel
theorem dX8_dirt_1 : decode cX8_dirt 1 = .ok (.iconst 0, 1) := by decide +kernel
theorem dX8_dirt_2 : decode cX8_dirt 2 = .ok (.putfield 60, 3) := by decide +kernel
theorem dX8_dirt_5 : decode cX8_dirt 5 = .ok (.iload_n 1, 1) := by decide +kernel
theorem dX8_dirt_6 : decode cX8_dirt 6 = .ok (.i2l, 1) := by decide +kernel
theorem dX8_dirt_7 : decode cX8_dirt 7 = .ok (.lconst 1, 1) := by decide +kernel
theorem dX8_dirt_8 : decode cX8_dirt 8 = .ok (.ldc2_w 74, 3) := by decide +kernel
theorem dX8_dirt_11 : decode cX8_dirt 11 = .ok (.invokestatic 67, 3) := by decide +kernel
theorem dX8_dirt_14 : decode cX8_dirt 14 = .ok (.ifCond .eq 13, 3) := by decide +kernel
theorem dX8_dirt_17 : decode cX8_dirt 17 = .ok (.iload_n 2, 1) := by decide +kernel
theorem dX8_dirt_18 : decode cX8_dirt 18 = .ok (.i2l, 1) := by decide +kernel
theorem dX8_dirt_19 : decode cX8_dirt 19 = .ok (.lconst 0, 1) := by decide +kernel
theorem dX8_dirt_20 : decode cX8_dirt 20 = .ok (.lconst 1, 1) := by decide +kernel
theorem dX8_dirt_21 : decode cX8_dirt 21 = .ok (.invokestatic 67, 3) := by decide +kernel
theorem dX8_dirt_24 : decode cX8_dirt 24 = .ok (.ifCond .ne 7, 3) := by decide +kernel
theorem dX8_dirt_27 : decode cX8_dirt 27 = .ok (.ldc2_w 104, 3) := by decide +kernel
theorem dX8_dirt_30 : decode cX8_dirt 30 = .ok (.lreturn, 1) := by decide +kernel
theorem dX8_dirt_31 : decode cX8_dirt 31 = .ok (.aload_n 0, 1) := by decide +kernel
theorem dX8_dirt_32 : decode cX8_dirt 32 = .ok (.invokevirtual 106, 3) := by decide +kernel
theorem dX8_dirt_35 : decode cX8_dirt 35 = .ok (.lstore_n 3, 1) := by decide +kernel
theorem dX8_dirt_36 : decode cX8_dirt 36 = .ok (.aload_n 0, 1) := by decide +kernel
theorem dX8_dirt_37 : decode cX8_dirt 37 = .ok (.iload_n 1, 1) := by decide +kernel
theorem dX8_dirt_38 : decode cX8_dirt 38 = .ok (.lload_n 3, 1) := by decide +kernel
theorem dX8_dirt_39 : decode cX8_dirt 39 = .ok (.invokevirtual 110, 3) := by decide +kernel
theorem dX8_dirt_42 : decode cX8_dirt 42 = .ok (.lstore 5, 2) := by decide +kernel
theorem dX8_dirt_44 : decode cX8_dirt 44 = .ok (.lload 5, 2) := by decide +kernel
theorem dX8_dirt_46 : decode cX8_dirt 46 = .ok (.lload_n 3, 1) := by decide +kernel
theorem dX8_dirt_47 : decode cX8_dirt 47 = .ok (.invokestatic 100, 3) := by decide +kernel
theorem dX8_dirt_50 : decode cX8_dirt 50 = .ok (.lstore 7, 2) := by decide +kernel
theorem dX8_dirt_52 : decode cX8_dirt 52 = .ok (.iload_n 2, 1) := by decide +kernel
theorem dX8_dirt_53 : decode cX8_dirt 53 = .ok (.ifCond .ne 11, 3) := by decide +kernel
theorem dX8_dirt_56 : decode cX8_dirt 56 = .ok (.lload 5, 2) := by decide +kernel
theorem dX8_dirt_58 : decode cX8_dirt 58 = .ok (.lload 7, 2) := by decide +kernel
theorem dX8_dirt_60 : decode cX8_dirt 60 = .ok (.ldiv, 1) := by decide +kernel
theorem dX8_dirt_61 : decode cX8_dirt 61 = .ok (.goto 7, 3) := by decide +kernel
theorem dX8_dirt_64 : decode cX8_dirt 64 = .ok (.lload_n 3, 1) := by decide +kernel
theorem dX8_dirt_65 : decode cX8_dirt 65 = .ok (.lload 7, 2) := by decide +kernel
theorem dX8_dirt_67 : decode cX8_dirt 67 = .ok (.ldiv, 1) := by decide +kernel
theorem dX8_dirt_68 : decode cX8_dirt 68 = .ok (.lreturn, 1) := by decide +kernel
theorem dX8_pinch_0 : decode cX8_pinch 0 = .ok (.bipush (-9), 2) := by decide +kernel
theorem dX8_pinch_2 : decode cX8_pinch 2 = .ok (.istore_n 1, 1) := by decide +kernel
theorem dX8_pinch_3 : decode cX8_pinch 3 = .ok (.aload_n 0, 1) := by decide +kernel
theorem dX8_pinch_4 : decode cX8_pinch 4 = .ok (.invokevirtual 106, 3) := by decide +kernel
theorem dX8_pinch_7 : decode cX8_pinch 7 = .ok (.lstore_n 2, 1) := by decide +kernel
theorem dX8_pinch_8 : decode cX8_pinch 8 = .ok (.iconst 1, 1) := by decide +kernel
theorem dX8_pinch_9 : decode cX8_pinch 9 = .ok (.istore 4, 2) := by decide +kernel
theorem dX8_pinch_11 : decode cX8_pinch 11 = .ok (.iload 4, 2) := by decide +kernel
theorem dX8_pinch_13 : decode cX8_pinch 13 = .ok (.sipush 500, 3) := by decide +kernel
theorem dX8_pinch_16 : decode cX8_pinch 16 = .ok (.if_icmp .gt 173, 3) := by decide +kernel
theorem dX8_pinch_19 : decode cX8_pinch 19 = .ok (.iconst 0, 1) := by decide +kernel
theorem dX8_pinch_20 : decode cX8_pinch 20 = .ok (.istore 5, 2) := by decide +kernel
theorem dX8_pinch_22 : decode cX8_pinch 22 = .ok (.iconst 0, 1) := by decide +kernel
theorem dX8_pinch_23 : decode cX8_pinch 23 = .ok (.istore 6, 2) := by decide +kernel
theorem dX8_pinch_25 : decode cX8_pinch 25 = .ok (.iload 6, 2) := by decide +kernel
theorem dX8_pinch_27 : decode cX8_pinch 27 = .ok (.aload_n 0, 1) := by decide +kernel
theorem dX8_pinch_28 : decode cX8_pinch 28 = .ok (.getfield 64, 3) := by decide +kernel
theorem dX8_pinch_31 : decode cX8_pinch 31 = .ok (.if_icmp .ge 43, 3) := by decide +kernel
theorem dX8_pinch_34 : decode cX8_pinch 34 = .ok (.iload 5, 2) := by decide +kernel
theorem dX8_pinch_36 : decode cX8_pinch 36 = .ok (.aload_n 0, 1) := by decide +kernel
theorem dX8_pinch_37 : decode cX8_pinch 37 = .ok (.getfield 13, 3) := by decide +kernel
theorem dX8_pinch_40 : decode cX8_pinch 40 = .ok (.iload 6, 2) := by decide +kernel
theorem dX8_pinch_42 : decode cX8_pinch 42 = .ok (.iaload, 1) := by decide +kernel
theorem dX8_pinch_43 : decode cX8_pinch 43 = .ok (.iload 4, 2) := by decide +kernel
theorem dX8_pinch_45 : decode cX8_pinch 45 = .ok (.if_icmp .eq 15, 3) := by decide +kernel
theorem dX8_pinch_48 : decode cX8_pinch 48 = .ok (.aload_n 0, 1) := by decide +kernel
theorem dX8_pinch_49 : decode cX8_pinch 49 = .ok (.getfield 16, 3) := by decide +kernel
theorem dX8_pinch_52 : decode cX8_pinch 52 = .ok (.iload 6, 2) := by decide +kernel
theorem dX8_pinch_54 : decode cX8_pinch 54 = .ok (.iaload, 1) := by decide +kernel
theorem dX8_pinch_55 : decode cX8_pinch 55 = .ok (.iload 4, 2) := by decide +kernel
theorem dX8_pinch_57 : decode cX8_pinch 57 = .ok (.if_icmp .ne 7, 3) := by decide +kernel
theorem dX8_pinch_60 : decode cX8_pinch 60 = .ok (.iconst 1, 1) := by decide +kernel
theorem dX8_pinch_61 : decode cX8_pinch 61 = .ok (.goto 4, 3) := by decide +kernel
theorem dX8_pinch_64 : decode cX8_pinch 64 = .ok (.iconst 0, 1) := by decide +kernel
theorem dX8_pinch_65 : decode cX8_pinch 65 = .ok (.ior, 1) := by decide +kernel
theorem dX8_pinch_66 : decode cX8_pinch 66 = .ok (.istore 5, 2) := by decide +kernel
theorem dX8_pinch_68 : decode cX8_pinch 68 = .ok (.iinc 6 1, 3) := by decide +kernel
theorem dX8_pinch_71 : decode cX8_pinch 71 = .ok (.goto (-46), 3) := by decide +kernel
theorem dX8_pinch_74 : decode cX8_pinch 74 = .ok (.iload 5, 2) := by decide +kernel
theorem dX8_pinch_76 : decode cX8_pinch 76 = .ok (.ifCond .eq 107, 3) := by decide +kernel
theorem dX8_pinch_79 : decode cX8_pinch 79 = .ok (.aload_n 0, 1) := by decide +kernel
theorem dX8_pinch_80 : decode cX8_pinch 80 = .ok (.iload 4, 2) := by decide +kernel
theorem dX8_pinch_82 : decode cX8_pinch 82 = .ok (.lload_n 2, 1) := by decide +kernel
theorem dX8_pinch_83 : decode cX8_pinch 83 = .ok (.invokevirtual 110, 3) := by decide +kernel
theorem dX8_pinch_86 : decode cX8_pinch 86 = .ok (.lstore 6, 2) := by decide +kernel
theorem dX8_pinch_88 : decode cX8_pinch 88 = .ok (.iload_n 1, 1) := by decide +kernel
theorem dX8_pinch_89 : decode cX8_pinch 89 = .ok (.bipush (-9), 2) := by decide +kernel
theorem dX8_pinch_91 : decode cX8_pinch 91 = .ok (.if_icmp .ne 9, 3) := by decide +kernel
theorem dX8_pinch_94 : decode cX8_pinch 94 = .ok (.ldc2_w 104, 3) := by decide +kernel
theorem dX8_pinch_97 : decode cX8_pinch 97 = .ok (.goto 9, 3) := by decide +kernel
theorem dX8_pinch_100 : decode cX8_pinch 100 = .ok (.aload_n 0, 1) := by decide +kernel
theorem dX8_pinch_101 : decode cX8_pinch 101 = .ok (.iload_n 1, 1) := by decide +kernel
theorem dX8_pinch_102 : decode cX8_pinch 102 = .ok (.lload_n 2, 1) := by decide +kernel
theorem dX8_pinch_103 : decode cX8_pinch 103 = .ok (.invokevirtual 110, 3) := by decide +kernel
theorem dX8_pinch_106 : decode cX8_pinch 106 = .ok (.lstore 8, 2) := by decide +kernel
theorem dX8_pinch_108 : decode cX8_pinch 108 = .ok (.iload_n 1, 1) := by decide +kernel
theorem dX8_pinch_109 : decode cX8_pinch 109 = .ok (.bipush (-9), 2) := by decide +kernel
theorem dX8_pinch_111 : decode cX8_pinch 111 = .ok (.if_icmp .ne 7, 3) := by decide +kernel
theorem dX8_pinch_114 : decode cX8_pinch 114 = .ok (.lconst 1, 1) := by decide +kernel
theorem dX8_pinch_115 : decode cX8_pinch 115 = .ok (.goto 52, 3) := by decide +kernel
theorem dX8_pinch_118 : decode cX8_pinch 118 = .ok (.lload 6, 2) := by decide +kernel
theorem dX8_pinch_120 : decode cX8_pinch 120 = .ok (.iload 4, 2) := by decide +kernel
theorem dX8_pinch_122 : decode cX8_pinch 122 = .ok (.i2l, 1) := by decide +kernel
theorem dX8_pinch_123 : decode cX8_pinch 123 = .ok (.ldiv, 1) := by decide +kernel
theorem dX8_pinch_124 : decode cX8_pinch 124 = .ok (.lload 8, 2) := by decide +kernel
theorem dX8_pinch_126 : decode cX8_pinch 126 = .ok (.iload_n 1, 1) := by decide +kernel
theorem dX8_pinch_127 : decode cX8_pinch 127 = .ok (.i2l, 1) := by decide +kernel
theorem dX8_pinch_128 : decode cX8_pinch 128 = .ok (.ldiv, 1) := by decide +kernel
theorem dX8_pinch_129 : decode cX8_pinch 129 = .ok (.lcmp, 1) := by decide +kernel
theorem dX8_pinch_130 : decode cX8_pinch 130 = .ok (.ifCond .eq 18, 3) := by decide +kernel
theorem dX8_pinch_133 : decode cX8_pinch 133 = .ok (.lload 6, 2) := by decide +kernel
theorem dX8_pinch_135 : decode cX8_pinch 135 = .ok (.iload 4, 2) := by decide +kernel
theorem dX8_pinch_137 : decode cX8_pinch 137 = .ok (.i2l, 1) := by decide +kernel
theorem dX8_pinch_138 : decode cX8_pinch 138 = .ok (.ldiv, 1) := by decide +kernel
theorem dX8_pinch_139 : decode cX8_pinch 139 = .ok (.lload 8, 2) := by decide +kernel
theorem dX8_pinch_141 : decode cX8_pinch 141 = .ok (.iload_n 1, 1) := by decide +kernel
theorem dX8_pinch_142 : decode cX8_pinch 142 = .ok (.i2l, 1) := by decide +kernel
theorem dX8_pinch_143 : decode cX8_pinch 143 = .ok (.ldiv, 1) := by decide +kernel
theorem dX8_pinch_144 : decode cX8_pinch 144 = .ok (.lsub, 1) := by decide +kernel
theorem dX8_pinch_145 : decode cX8_pinch 145 = .ok (.goto 22, 3) := by decide +kernel
theorem dX8_pinch_148 : decode cX8_pinch 148 = .ok (.lload 6, 2) := by decide +kernel
theorem dX8_pinch_150 : decode cX8_pinch 150 = .ok (.iload 4, 2) := by decide +kernel
theorem dX8_pinch_152 : decode cX8_pinch 152 = .ok (.i2l, 1) := by decide +kernel
theorem dX8_pinch_153 : decode cX8_pinch 153 = .ok (.lrem, 1) := by decide +kernel
theorem dX8_pinch_154 : decode cX8_pinch 154 = .ok (.iload_n 1, 1) := by decide +kernel
theorem dX8_pinch_155 : decode cX8_pinch 155 = .ok (.i2l, 1) := by decide +kernel
theorem dX8_pinch_156 : decode cX8_pinch 156 = .ok (.lmul, 1) := by decide +kernel
theorem dX8_pinch_157 : decode cX8_pinch 157 = .ok (.lload 8, 2) := by decide +kernel
theorem dX8_pinch_159 : decode cX8_pinch 159 = .ok (.iload_n 1, 1) := by decide +kernel
theorem dX8_pinch_160 : decode cX8_pinch 160 = .ok (.i2l, 1) := by decide +kernel
theorem dX8_pinch_161 : decode cX8_pinch 161 = .ok (.lrem, 1) := by decide +kernel
theorem dX8_pinch_162 : decode cX8_pinch 162 = .ok (.iload 4, 2) := by decide +kernel
theorem dX8_pinch_164 : decode cX8_pinch 164 = .ok (.i2l, 1) := by decide +kernel
theorem dX8_pinch_165 : decode cX8_pinch 165 = .ok (.lmul, 1) := by decide +kernel
theorem dX8_pinch_166 : decode cX8_pinch 166 = .ok (.lsub, 1) := by decide +kernel
theorem dX8_pinch_167 : decode cX8_pinch 167 = .ok (.lstore 10, 2) := by decide +kernel
theorem dX8_pinch_169 : decode cX8_pinch 169 = .ok (.lload 10, 2) := by decide +kernel
theorem dX8_pinch_171 : decode cX8_pinch 171 = .ok (.lconst 0, 1) := by decide +kernel
theorem dX8_pinch_172 : decode cX8_pinch 172 = .ok (.lcmp, 1) := by decide +kernel
theorem dX8_pinch_173 : decode cX8_pinch 173 = .ok (.ifCond .le 8, 3) := by decide +kernel
theorem dX8_pinch_176 : decode cX8_pinch 176 = .ok (.iload 4, 2) := by decide +kernel
theorem dX8_pinch_178 : decode cX8_pinch 178 = .ok (.goto 4, 3) := by decide +kernel
theorem dX8_pinch_181 : decode cX8_pinch 181 = .ok (.iload_n 1, 1) := by decide +kernel
theorem dX8_pinch_182 : decode cX8_pinch 182 = .ok (.istore_n 1, 1) := by decide +kernel
theorem dX8_pinch_183 : decode cX8_pinch 183 = .ok (.iinc 4 1, 3) := by decide +kernel
theorem dX8_pinch_186 : decode cX8_pinch 186 = .ok (.goto (-175), 3) := by decide +kernel
theorem dX8_pinch_189 : decode cX8_pinch 189 = .ok (.iload_n 1, 1) := by decide +kernel
theorem dX8_pinch_190 : decode cX8_pinch 190 = .ok (.ireturn, 1) := by decide +kernel
theorem dX8_least_0 : decode cX8_least 0 = .ok (.aload_n 0, 1) := by decide +kernel
theorem dX8_least_1 : decode cX8_least 1 = .ok (.iconst 0, 1) := by decide +kernel
theorem dX8_least_2 : decode cX8_least 2 = .ok (.putfield 60, 3) := by decide +kernel
theorem dX8_least_5 : decode cX8_least 5 = .ok (.iload_n 1, 1) := by decide +kernel
theorem dX8_least_6 : decode cX8_least 6 = .ok (.i2l, 1) := by decide +kernel
theorem dX8_least_7 : decode cX8_least 7 = .ok (.lconst 0, 1) := by decide +kernel
theorem dX8_least_8 : decode cX8_least 8 = .ok (.ldc2_w 82, 3) := by decide +kernel
theorem dX8_least_11 : decode cX8_least 11 = .ok (.invokestatic 67, 3) := by decide +kernel
theorem dX8_least_14 : decode cX8_least 14 = .ok (.ifCond .ne 7, 3) := by decide +kernel
theorem dX8_least_17 : decode cX8_least 17 = .ok (.ldc2_w 104, 3) := by decide +kernel
theorem dX8_least_20 : decode cX8_least 20 = .ok (.lreturn, 1) := by decide +kernel
theorem dX8_least_21 : decode cX8_least 21 = .ok (.aload_n 0, 1) := by decide +kernel
theorem dX8_least_22 : decode cX8_least 22 = .ok (.invokevirtual 114, 3) := by decide +kernel
theorem dX8_least_25 : decode cX8_least 25 = .ok (.istore_n 2, 1) := by decide +kernel
theorem dX8_least_26 : decode cX8_least 26 = .ok (.iload_n 1, 1) := by decide +kernel
theorem dX8_least_27 : decode cX8_least 27 = .ok (.iconst 2, 1) := by decide +kernel
theorem dX8_least_28 : decode cX8_least 28 = .ok (.if_icmp .ne 6, 3) := by decide +kernel
theorem dX8_least_31 : decode cX8_least 31 = .ok (.iload_n 2, 1) := by decide +kernel
theorem dX8_least_32 : decode cX8_least 32 = .ok (.i2l, 1) := by decide +kernel
theorem dX8_least_33 : decode cX8_least 33 = .ok (.lreturn, 1) := by decide +kernel
theorem dX8_least_34 : decode cX8_least 34 = .ok (.iload_n 2, 1) := by decide +kernel
theorem dX8_least_35 : decode cX8_least 35 = .ok (.bipush (-9), 2) := by decide +kernel
theorem dX8_least_37 : decode cX8_least 37 = .ok (.if_icmp .ne 6, 3) := by decide +kernel
theorem dX8_least_40 : decode cX8_least 40 = .ok (.iload_n 1, 1) := by decide +kernel
theorem dX8_least_41 : decode cX8_least 41 = .ok (.i2l, 1) := by decide +kernel
theorem dX8_least_42 : decode cX8_least 42 = .ok (.lreturn, 1) := by decide +kernel
theorem dX8_least_43 : decode cX8_least 43 = .ok (.aload_n 0, 1) := by decide +kernel
theorem dX8_least_44 : decode cX8_least 44 = .ok (.invokevirtual 106, 3) := by decide +kernel
theorem dX8_least_47 : decode cX8_least 47 = .ok (.lstore_n 3, 1) := by decide +kernel
theorem dX8_least_48 : decode cX8_least 48 = .ok (.aload_n 0, 1) := by decide +kernel
theorem dX8_least_49 : decode cX8_least 49 = .ok (.iload_n 2, 1) := by decide +kernel
theorem dX8_least_50 : decode cX8_least 50 = .ok (.lload_n 3, 1) := by decide +kernel
theorem dX8_least_51 : decode cX8_least 51 = .ok (.invokevirtual 110, 3) := by decide +kernel
theorem dX8_least_54 : decode cX8_least 54 = .ok (.lstore 5, 2) := by decide +kernel
theorem dX8_least_56 : decode cX8_least 56 = .ok (.lload 5, 2) := by decide +kernel
theorem dX8_least_58 : decode cX8_least 58 = .ok (.lload_n 3, 1) := by decide +kernel
theorem dX8_least_59 : decode cX8_least 59 = .ok (.iload_n 2, 1) := by decide +kernel
theorem dX8_least_60 : decode cX8_least 60 = .ok (.i2l, 1) := by decide +kernel
theorem dX8_least_61 : decode cX8_least 61 = .ok (.lmul, 1) := by decide +kernel
theorem dX8_least_62 : decode cX8_least 62 = .ok (.invokestatic 100, 3) := by decide +kernel
theorem dX8_least_65 : decode cX8_least 65 = .ok (.lstore 7, 2) := by decide +kernel
theorem dX8_least_67 : decode cX8_least 67 = .ok (.iload_n 1, 1) := by decide +kernel
theorem dX8_least_68 : decode cX8_least 68 = .ok (.ifCond .ne 11, 3) := by decide +kernel
theorem dX8_least_71 : decode cX8_least 71 = .ok (.lload 5, 2) := by decide +kernel
theorem dX8_least_73 : decode cX8_least 73 = .ok (.lload 7, 2) := by decide +kernel
theorem dX8_least_75 : decode cX8_least 75 = .ok (.ldiv, 1) := by decide +kernel
theorem dX8_least_76 : decode cX8_least 76 = .ok (.goto 10, 3) := by decide +kernel
theorem dX8_least_79 : decode cX8_least 79 = .ok (.lload_n 3, 1) := by decide +kernel
theorem dX8_least_80 : decode cX8_least 80 = .ok (.iload_n 2, 1) := by decide +kernel
theorem dX8_least_81 : decode cX8_least 81 = .ok (.i2l, 1) := by decide +kernel
theorem dX8_least_82 : decode cX8_least 82 = .ok (.lmul, 1) := by decide +kernel
theorem dX8_least_83 : decode cX8_least 83 = .ok (.lload 7, 2) := by decide +kernel
theorem dX8_least_85 : decode cX8_least 85 = .ok (.ldiv, 1) := by decide +kernel
theorem dX8_least_86 : decode cX8_least 86 = .ok (.lreturn, 1) := by decide +kernel
theorem dX8_fresh_0 : decode cX8_fresh 0 = .ok (.aload_n 0, 1) := by decide +kernel
theorem dX8_fresh_1 : decode cX8_fresh 1 = .ok (.iconst 0, 1) := by decide +kernel
theorem dX8_fresh_2 : decode cX8_fresh 2 = .ok (.putfield 60, 3) := by decide +kernel
theorem dX8_fresh_5 : decode cX8_fresh 5 = .ok (.aload_n 0, 1) := by decide +kernel
theorem dX8_fresh_6 : decode cX8_fresh 6 = .ok (.iload_n 1, 1) := by decide +kernel
theorem dX8_fresh_7 : decode cX8_fresh 7 = .ok (.invokevirtual 76, 3) := by decide +kernel
theorem dX8_fresh_10 : decode cX8_fresh 10 = .ok (.ifCond .eq 15, 3) := by decide +kernel
theorem dX8_fresh_13 : decode cX8_fresh 13 = .ok (.iload_n 2, 1) := by decide +kernel
theorem dX8_fresh_14 : decode cX8_fresh 14 = .ok (.i2l, 1) := by decide +kernel
theorem dX8_fresh_15 : decode cX8_fresh 15 = .ok (.lconst 0, 1) := by decide +kernel
theorem dX8_fresh_16 : decode cX8_fresh 16 = .ok (.ldc2_w 84, 3) := by decide +kernel
theorem dX8_fresh_19 : decode cX8_fresh 19 = .ok (.invokestatic 67, 3) := by decide +kernel
theorem dX8_fresh_22 : decode cX8_fresh 22 = .ok (.ifCond .ne 5, 3) := by decide +kernel
theorem dX8_fresh_25 : decode cX8_fresh 25 = .ok (.iconst (-1), 1) := by decide +kernel
theorem dX8_fresh_26 : decode cX8_fresh 26 = .ok (.ireturn, 1) := by decide +kernel
theorem dX8_fresh_27 : decode cX8_fresh 27 = .ok (.aload_n 0, 1) := by decide +kernel
theorem dX8_fresh_28 : decode cX8_fresh 28 = .ok (.getfield 25, 3) := by decide +kernel
theorem dX8_fresh_31 : decode cX8_fresh 31 = .ok (.iload_n 1, 1) := by decide +kernel
theorem dX8_fresh_32 : decode cX8_fresh 32 = .ok (.iaload, 1) := by decide +kernel
theorem dX8_fresh_33 : decode cX8_fresh 33 = .ok (.istore_n 3, 1) := by decide +kernel
theorem dX8_fresh_34 : decode cX8_fresh 34 = .ok (.aload_n 0, 1) := by decide +kernel
theorem dX8_fresh_35 : decode cX8_fresh 35 = .ok (.getfield 25, 3) := by decide +kernel
theorem dX8_fresh_38 : decode cX8_fresh 38 = .ok (.iload_n 1, 1) := by decide +kernel
theorem dX8_fresh_39 : decode cX8_fresh 39 = .ok (.iload_n 2, 1) := by decide +kernel
theorem dX8_fresh_40 : decode cX8_fresh 40 = .ok (.iastore, 1) := by decide +kernel
theorem dX8_fresh_41 : decode cX8_fresh 41 = .ok (.iload_n 3, 1) := by decide +kernel
theorem dX8_fresh_42 : decode cX8_fresh 42 = .ok (.ireturn, 1) := by decide +kernel
theorem dX8_pipe_0 : decode cX8_pipe 0 = .ok (.aload_n 0, 1) := by decide +kernel
theorem dX8_pipe_1 : decode cX8_pipe 1 = .ok (.iconst 0, 1) := by decide +kernel
theorem dX8_pipe_2 : decode cX8_pipe 2 = .ok (.putfield 60, 3) := by decide +kernel
theorem dX8_pipe_5 : decode cX8_pipe 5 = .ok (.aload_n 0, 1) := by decide +kernel
theorem dX8_pipe_6 : decode cX8_pipe 6 = .ok (.iload_n 1, 1) := by decide +kernel
theorem dX8_pipe_7 : decode cX8_pipe 7 = .ok (.invokevirtual 76, 3) := by decide +kernel
theorem dX8_pipe_10 : decode cX8_pipe 10 = .ok (.ifCond .eq 28, 3) := by decide +kernel
theorem dX8_pipe_13 : decode cX8_pipe 13 = .ok (.aload_n 0, 1) := by decide +kernel
theorem dX8_pipe_14 : decode cX8_pipe 14 = .ok (.iload_n 2, 1) := by decide +kernel
theorem dX8_pipe_15 : decode cX8_pipe 15 = .ok (.invokevirtual 76, 3) := by decide +kernel
theorem dX8_pipe_18 : decode cX8_pipe 18 = .ok (.ifCond .eq 20, 3) := by decide +kernel
theorem dX8_pipe_21 : decode cX8_pipe 21 = .ok (.iload_n 1, 1) := by decide +kernel
theorem dX8_pipe_22 : decode cX8_pipe 22 = .ok (.iload_n 2, 1) := by decide +kernel
theorem dX8_pipe_23 : decode cX8_pipe 23 = .ok (.if_icmp .eq 15, 3) := by decide +kernel
theorem dX8_pipe_26 : decode cX8_pipe 26 = .ok (.iload_n 3, 1) := by decide +kernel
theorem dX8_pipe_27 : decode cX8_pipe 27 = .ok (.i2l, 1) := by decide +kernel
theorem dX8_pipe_28 : decode cX8_pipe 28 = .ok (.lconst 0, 1) := by decide +kernel
theorem dX8_pipe_29 : decode cX8_pipe 29 = .ok (.ldc2_w 84, 3) := by decide +kernel
theorem dX8_pipe_32 : decode cX8_pipe 32 = .ok (.invokestatic 67, 3) := by decide +kernel
theorem dX8_pipe_35 : decode cX8_pipe 35 = .ok (.ifCond .ne 5, 3) := by decide +kernel
theorem dX8_pipe_38 : decode cX8_pipe 38 = .ok (.iconst (-1), 1) := by decide +kernel
theorem dX8_pipe_39 : decode cX8_pipe 39 = .ok (.ireturn, 1) := by decide +kernel
theorem dX8_pipe_40 : decode cX8_pipe 40 = .ok (.aload_n 0, 1) := by decide +kernel
theorem dX8_pipe_41 : decode cX8_pipe 41 = .ok (.getfield 28, 3) := by decide +kernel
theorem dX8_pipe_44 : decode cX8_pipe 44 = .ok (.iconst 5, 1) := by decide +kernel
theorem dX8_pipe_45 : decode cX8_pipe 45 = .ok (.iload_n 1, 1) := by decide +kernel
theorem dX8_pipe_46 : decode cX8_pipe 46 = .ok (.imul, 1) := by decide +kernel
theorem dX8_pipe_47 : decode cX8_pipe 47 = .ok (.iload_n 2, 1) := by decide +kernel
theorem dX8_pipe_48 : decode cX8_pipe 48 = .ok (.iadd, 1) := by decide +kernel
theorem dX8_pipe_49 : decode cX8_pipe 49 = .ok (.iaload, 1) := by decide +kernel
theorem dX8_pipe_50 : decode cX8_pipe 50 = .ok (.istore 4, 2) := by decide +kernel
theorem dX8_pipe_52 : decode cX8_pipe 52 = .ok (.aload_n 0, 1) := by decide +kernel
theorem dX8_pipe_53 : decode cX8_pipe 53 = .ok (.getfield 28, 3) := by decide +kernel
theorem dX8_pipe_56 : decode cX8_pipe 56 = .ok (.iconst 5, 1) := by decide +kernel
theorem dX8_pipe_57 : decode cX8_pipe 57 = .ok (.iload_n 1, 1) := by decide +kernel
theorem dX8_pipe_58 : decode cX8_pipe 58 = .ok (.imul, 1) := by decide +kernel
theorem dX8_pipe_59 : decode cX8_pipe 59 = .ok (.iload_n 2, 1) := by decide +kernel
theorem dX8_pipe_60 : decode cX8_pipe 60 = .ok (.iadd, 1) := by decide +kernel
theorem dX8_pipe_61 : decode cX8_pipe 61 = .ok (.iload_n 3, 1) := by decide +kernel
theorem dX8_pipe_62 : decode cX8_pipe 62 = .ok (.iastore, 1) := by decide +kernel
theorem dX8_pipe_63 : decode cX8_pipe 63 = .ok (.iload 4, 2) := by decide +kernel
theorem dX8_pipe_65 : decode cX8_pipe 65 = .ok (.ireturn, 1) := by decide +kernel
theorem dX8_comes_0 : decode cX8_comes 0 = .ok (.aload_n 0, 1) := by decide +kernel
theorem dX8_comes_1 : decode cX8_comes 1 = .ok (.getfield 25, 3) := by decide +kernel
theorem dX8_comes_4 : decode cX8_comes 4 = .ok (.iload_n 1, 1) := by decide +kernel
theorem dX8_comes_5 : decode cX8_comes 5 = .ok (.iaload, 1) := by decide +kernel
theorem dX8_comes_6 : decode cX8_comes 6 = .ok (.istore_n 2, 1) := by decide +kernel
theorem dX8_comes_7 : decode cX8_comes 7 = .ok (.iconst 0, 1) := by decide +kernel
theorem dX8_comes_8 : decode cX8_comes 8 = .ok (.istore_n 3, 1) := by decide +kernel
theorem dX8_comes_9 : decode cX8_comes 9 = .ok (.iload_n 3, 1) := by decide +kernel
theorem dX8_comes_10 : decode cX8_comes 10 = .ok (.aload_n 0, 1) := by decide +kernel
theorem dX8_comes_11 : decode cX8_comes 11 = .ok (.getfield 64, 3) := by decide +kernel
theorem dX8_comes_14 : decode cX8_comes 14 = .ok (.if_icmp .ge 22, 3) := by decide +kernel
theorem dX8_comes_17 : decode cX8_comes 17 = .ok (.iload_n 2, 1) := by decide +kernel
theorem dX8_comes_18 : decode cX8_comes 18 = .ok (.aload_n 0, 1) := by decide +kernel
theorem dX8_comes_19 : decode cX8_comes 19 = .ok (.getfield 28, 3) := by decide +kernel
theorem dX8_comes_22 : decode cX8_comes 22 = .ok (.iconst 5, 1) := by decide +kernel
theorem dX8_comes_23 : decode cX8_comes 23 = .ok (.iload_n 3, 1) := by decide +kernel
theorem dX8_comes_24 : decode cX8_comes 24 = .ok (.imul, 1) := by decide +kernel
theorem dX8_comes_25 : decode cX8_comes 25 = .ok (.iload_n 1, 1) := by decide +kernel
theorem dX8_comes_26 : decode cX8_comes 26 = .ok (.iadd, 1) := by decide +kernel
theorem dX8_comes_27 : decode cX8_comes 27 = .ok (.iaload, 1) := by decide +kernel
theorem dX8_comes_28 : decode cX8_comes 28 = .ok (.iadd, 1) := by decide +kernel
theorem dX8_comes_29 : decode cX8_comes 29 = .ok (.istore_n 2, 1) := by decide +kernel
theorem dX8_comes_30 : decode cX8_comes 30 = .ok (.iinc 3 1, 3) := by decide +kernel
theorem dX8_comes_33 : decode cX8_comes 33 = .ok (.goto (-24), 3) := by decide +kernel
theorem dX8_comes_36 : decode cX8_comes 36 = .ok (.iload_n 2, 1) := by decide +kernel
theorem dX8_comes_37 : decode cX8_comes 37 = .ok (.ireturn, 1) := by decide +kernel
theorem dX8_goes_0 : decode cX8_goes 0 = .ok (.iconst 0, 1) := by decide +kernel
theorem dX8_goes_1 : decode cX8_goes 1 = .ok (.istore_n 2, 1) := by decide +kernel
theorem dX8_goes_2 : decode cX8_goes 2 = .ok (.iconst 0, 1) := by decide +kernel
theorem dX8_goes_3 : decode cX8_goes 3 = .ok (.istore_n 3, 1) := by decide +kernel
theorem dX8_goes_4 : decode cX8_goes 4 = .ok (.iload_n 3, 1) := by decide +kernel
theorem dX8_goes_5 : decode cX8_goes 5 = .ok (.aload_n 0, 1) := by decide +kernel
theorem dX8_goes_6 : decode cX8_goes 6 = .ok (.getfield 64, 3) := by decide +kernel
theorem dX8_goes_9 : decode cX8_goes 9 = .ok (.if_icmp .ge 22, 3) := by decide +kernel
theorem dX8_goes_12 : decode cX8_goes 12 = .ok (.iload_n 2, 1) := by decide +kernel
theorem dX8_goes_13 : decode cX8_goes 13 = .ok (.aload_n 0, 1) := by decide +kernel
theorem dX8_goes_14 : decode cX8_goes 14 = .ok (.getfield 28, 3) := by decide +kernel
theorem dX8_goes_17 : decode cX8_goes 17 = .ok (.iconst 5, 1) := by decide +kernel
theorem dX8_goes_18 : decode cX8_goes 18 = .ok (.iload_n 1, 1) := by decide +kernel
theorem dX8_goes_19 : decode cX8_goes 19 = .ok (.imul, 1) := by decide +kernel
theorem dX8_goes_20 : decode cX8_goes 20 = .ok (.iload_n 3, 1) := by decide +kernel
theorem dX8_goes_21 : decode cX8_goes 21 = .ok (.iadd, 1) := by decide +kernel
theorem dX8_goes_22 : decode cX8_goes 22 = .ok (.iaload, 1) := by decide +kernel
theorem dX8_goes_23 : decode cX8_goes 23 = .ok (.iadd, 1) := by decide +kernel
theorem dX8_goes_24 : decode cX8_goes 24 = .ok (.istore_n 2, 1) := by decide +kernel
theorem dX8_goes_25 : decode cX8_goes 25 = .ok (.iinc 3 1, 3) := by decide +kernel
theorem dX8_goes_28 : decode cX8_goes 28 = .ok (.goto (-24), 3) := by decide +kernel
theorem dX8_goes_31 : decode cX8_goes 31 = .ok (.iload_n 2, 1) := by decide +kernel
theorem dX8_goes_32 : decode cX8_goes 32 = .ok (.ireturn, 1) := by decide +kernel
theorem dX8_water_0 : decode cX8_water 0 = .ok (.aload_n 0, 1) := by decide +kernel
theorem dX8_water_1 : decode cX8_water 1 = .ok (.iconst 0, 1) := by decide +kernel
theorem dX8_water_2 : decode cX8_water 2 = .ok (.putfield 60, 3) := by decide +kernel
theorem dX8_water_5 : decode cX8_water 5 = .ok (.aload_n 0, 1) := by decide +kernel
theorem dX8_water_6 : decode cX8_water 6 = .ok (.iload_n 1, 1) := by decide +kernel
theorem dX8_water_7 : decode cX8_water 7 = .ok (.invokevirtual 76, 3) := by decide +kernel
theorem dX8_water_10 : decode cX8_water 10 = .ok (.ifCond .eq 13, 3) := by decide +kernel
theorem dX8_water_13 : decode cX8_water 13 = .ok (.iload_n 2, 1) := by decide +kernel
theorem dX8_water_14 : decode cX8_water 14 = .ok (.i2l, 1) := by decide +kernel
theorem dX8_water_15 : decode cX8_water 15 = .ok (.lconst 0, 1) := by decide +kernel
theorem dX8_water_16 : decode cX8_water 16 = .ok (.lconst 1, 1) := by decide +kernel
theorem dX8_water_17 : decode cX8_water 17 = .ok (.invokestatic 67, 3) := by decide +kernel
theorem dX8_water_20 : decode cX8_water 20 = .ok (.ifCond .ne 5, 3) := by decide +kernel
theorem dX8_water_23 : decode cX8_water 23 = .ok (.iconst (-1), 1) := by decide +kernel
theorem dX8_water_24 : decode cX8_water 24 = .ok (.ireturn, 1) := by decide +kernel
theorem dX8_water_25 : decode cX8_water 25 = .ok (.iload_n 2, 1) := by decide +kernel
theorem dX8_water_26 : decode cX8_water 26 = .ok (.ifCond .ne 11, 3) := by decide +kernel
theorem dX8_water_29 : decode cX8_water 29 = .ok (.aload_n 0, 1) := by decide +kernel
theorem dX8_water_30 : decode cX8_water 30 = .ok (.iload_n 1, 1) := by decide +kernel
theorem dX8_water_31 : decode cX8_water 31 = .ok (.invokevirtual 118, 3) := by decide +kernel
theorem dX8_water_34 : decode cX8_water 34 = .ok (.goto 8, 3) := by decide +kernel
theorem dX8_water_37 : decode cX8_water 37 = .ok (.aload_n 0, 1) := by decide +kernel
theorem dX8_water_38 : decode cX8_water 38 = .ok (.iload_n 1, 1) := by decide +kernel
theorem dX8_water_39 : decode cX8_water 39 = .ok (.invokevirtual 122, 3) := by decide +kernel
theorem dX8_water_42 : decode cX8_water 42 = .ok (.ireturn, 1) := by decide +kernel
theorem dX8_takes_0 : decode cX8_takes 0 = .ok (.lconst 0, 1) := by decide +kernel
theorem dX8_takes_1 : decode cX8_takes 1 = .ok (.lstore_n 2, 1) := by decide +kernel
theorem dX8_takes_2 : decode cX8_takes 2 = .ok (.lconst 1, 1) := by decide +kernel
theorem dX8_takes_3 : decode cX8_takes 3 = .ok (.lstore 4, 2) := by decide +kernel
theorem dX8_takes_5 : decode cX8_takes 5 = .ok (.iconst 0, 1) := by decide +kernel
theorem dX8_takes_6 : decode cX8_takes 6 = .ok (.istore 6, 2) := by decide +kernel
theorem dX8_takes_8 : decode cX8_takes 8 = .ok (.iload 6, 2) := by decide +kernel
theorem dX8_takes_10 : decode cX8_takes 10 = .ok (.aload_n 0, 1) := by decide +kernel
theorem dX8_takes_11 : decode cX8_takes 11 = .ok (.getfield 64, 3) := by decide +kernel
theorem dX8_takes_14 : decode cX8_takes 14 = .ok (.if_icmp .ge 92, 3) := by decide +kernel
theorem dX8_takes_17 : decode cX8_takes 17 = .ok (.aload_n 0, 1) := by decide +kernel
theorem dX8_takes_18 : decode cX8_takes 18 = .ok (.getfield 28, 3) := by decide +kernel
theorem dX8_takes_21 : decode cX8_takes 21 = .ok (.iconst 5, 1) := by decide +kernel
theorem dX8_takes_22 : decode cX8_takes 22 = .ok (.iload 6, 2) := by decide +kernel
theorem dX8_takes_24 : decode cX8_takes 24 = .ok (.imul, 1) := by decide +kernel
theorem dX8_takes_25 : decode cX8_takes 25 = .ok (.iload_n 1, 1) := by decide +kernel
theorem dX8_takes_26 : decode cX8_takes 26 = .ok (.iadd, 1) := by decide +kernel
theorem dX8_takes_27 : decode cX8_takes 27 = .ok (.iaload, 1) := by decide +kernel
theorem dX8_takes_28 : decode cX8_takes 28 = .ok (.ifCond .le 72, 3) := by decide +kernel
theorem dX8_takes_31 : decode cX8_takes 31 = .ok (.lload 4, 2) := by decide +kernel
theorem dX8_takes_33 : decode cX8_takes 33 = .ok (.aload_n 0, 1) := by decide +kernel
theorem dX8_takes_34 : decode cX8_takes 34 = .ok (.getfield 35, 3) := by decide +kernel
theorem dX8_takes_37 : decode cX8_takes 37 = .ok (.iload 6, 2) := by decide +kernel
theorem dX8_takes_39 : decode cX8_takes 39 = .ok (.laload, 1) := by decide +kernel
theorem dX8_takes_40 : decode cX8_takes 40 = .ok (.invokestatic 100, 3) := by decide +kernel
theorem dX8_takes_43 : decode cX8_takes 43 = .ok (.lstore 7, 2) := by decide +kernel
theorem dX8_takes_45 : decode cX8_takes 45 = .ok (.lload_n 2, 1) := by decide +kernel
theorem dX8_takes_46 : decode cX8_takes 46 = .ok (.aload_n 0, 1) := by decide +kernel
theorem dX8_takes_47 : decode cX8_takes 47 = .ok (.getfield 35, 3) := by decide +kernel
theorem dX8_takes_50 : decode cX8_takes 50 = .ok (.iload 6, 2) := by decide +kernel
theorem dX8_takes_52 : decode cX8_takes 52 = .ok (.laload, 1) := by decide +kernel
theorem dX8_takes_53 : decode cX8_takes 53 = .ok (.lload 7, 2) := by decide +kernel
theorem dX8_takes_55 : decode cX8_takes 55 = .ok (.ldiv, 1) := by decide +kernel
theorem dX8_takes_56 : decode cX8_takes 56 = .ok (.lmul, 1) := by decide +kernel
theorem dX8_takes_57 : decode cX8_takes 57 = .ok (.aload_n 0, 1) := by decide +kernel
theorem dX8_takes_58 : decode cX8_takes 58 = .ok (.getfield 31, 3) := by decide +kernel
theorem dX8_takes_61 : decode cX8_takes 61 = .ok (.iload 6, 2) := by decide +kernel
theorem dX8_takes_63 : decode cX8_takes 63 = .ok (.laload, 1) := by decide +kernel
theorem dX8_takes_64 : decode cX8_takes 64 = .ok (.aload_n 0, 1) := by decide +kernel
theorem dX8_takes_65 : decode cX8_takes 65 = .ok (.getfield 28, 3) := by decide +kernel
theorem dX8_takes_68 : decode cX8_takes 68 = .ok (.iconst 5, 1) := by decide +kernel
theorem dX8_takes_69 : decode cX8_takes 69 = .ok (.iload 6, 2) := by decide +kernel
theorem dX8_takes_71 : decode cX8_takes 71 = .ok (.imul, 1) := by decide +kernel
theorem dX8_takes_72 : decode cX8_takes 72 = .ok (.iload_n 1, 1) := by decide +kernel
theorem dX8_takes_73 : decode cX8_takes 73 = .ok (.iadd, 1) := by decide +kernel
theorem dX8_takes_74 : decode cX8_takes 74 = .ok (.iaload, 1) := by decide +kernel
theorem dX8_takes_75 : decode cX8_takes 75 = .ok (.i2l, 1) := by decide +kernel
theorem dX8_takes_76 : decode cX8_takes 76 = .ok (.lmul, 1) := by decide +kernel
theorem dX8_takes_77 : decode cX8_takes 77 = .ok (.lload 4, 2) := by decide +kernel
theorem dX8_takes_79 : decode cX8_takes 79 = .ok (.lload 7, 2) := by decide +kernel
theorem dX8_takes_81 : decode cX8_takes 81 = .ok (.ldiv, 1) := by decide +kernel
theorem dX8_takes_82 : decode cX8_takes 82 = .ok (.lmul, 1) := by decide +kernel
theorem dX8_takes_83 : decode cX8_takes 83 = .ok (.ladd, 1) := by decide +kernel
theorem dX8_takes_84 : decode cX8_takes 84 = .ok (.lstore_n 2, 1) := by decide +kernel
theorem dX8_takes_85 : decode cX8_takes 85 = .ok (.lload 4, 2) := by decide +kernel
theorem dX8_takes_87 : decode cX8_takes 87 = .ok (.lload 7, 2) := by decide +kernel
theorem dX8_takes_89 : decode cX8_takes 89 = .ok (.ldiv, 1) := by decide +kernel
theorem dX8_takes_90 : decode cX8_takes 90 = .ok (.aload_n 0, 1) := by decide +kernel
theorem dX8_takes_91 : decode cX8_takes 91 = .ok (.getfield 35, 3) := by decide +kernel
theorem dX8_takes_94 : decode cX8_takes 94 = .ok (.iload 6, 2) := by decide +kernel
theorem dX8_takes_96 : decode cX8_takes 96 = .ok (.laload, 1) := by decide +kernel
theorem dX8_takes_97 : decode cX8_takes 97 = .ok (.lmul, 1) := by decide +kernel
theorem dX8_takes_98 : decode cX8_takes 98 = .ok (.lstore 4, 2) := by decide +kernel
theorem dX8_takes_100 : decode cX8_takes 100 = .ok (.iinc 6 1, 3) := by decide +kernel
theorem dX8_takes_103 : decode cX8_takes 103 = .ok (.goto (-95), 3) := by decide +kernel
theorem dX8_takes_106 : decode cX8_takes 106 = .ok (.aload_n 0, 1) := by decide +kernel
theorem dX8_takes_107 : decode cX8_takes 107 = .ok (.iload_n 1, 1) := by decide +kernel
theorem dX8_takes_108 : decode cX8_takes 108 = .ok (.invokevirtual 118, 3) := by decide +kernel
theorem dX8_takes_111 : decode cX8_takes 111 = .ok (.istore 6, 2) := by decide +kernel
theorem dX8_takes_113 : decode cX8_takes 113 = .ok (.lload_n 2, 1) := by decide +kernel
theorem dX8_takes_114 : decode cX8_takes 114 = .ok (.lload 4, 2) := by decide +kernel
theorem dX8_takes_116 : decode cX8_takes 116 = .ok (.iload 6, 2) := by decide +kernel
theorem dX8_takes_118 : decode cX8_takes 118 = .ok (.i2l, 1) := by decide +kernel
theorem dX8_takes_119 : decode cX8_takes 119 = .ok (.lmul, 1) := by decide +kernel
theorem dX8_takes_120 : decode cX8_takes 120 = .ok (.invokestatic 100, 3) := by decide +kernel
theorem dX8_takes_123 : decode cX8_takes 123 = .ok (.lstore 7, 2) := by decide +kernel
theorem dX8_takes_125 : decode cX8_takes 125 = .ok (.aload_n 0, 1) := by decide +kernel
theorem dX8_takes_126 : decode cX8_takes 126 = .ok (.getfield 38, 3) := by decide +kernel
theorem dX8_takes_129 : decode cX8_takes 129 = .ok (.iload_n 1, 1) := by decide +kernel
theorem dX8_takes_130 : decode cX8_takes 130 = .ok (.lload_n 2, 1) := by decide +kernel
theorem dX8_takes_131 : decode cX8_takes 131 = .ok (.lload 7, 2) := by decide +kernel
theorem dX8_takes_133 : decode cX8_takes 133 = .ok (.ldiv, 1) := by decide +kernel
theorem dX8_takes_134 : decode cX8_takes 134 = .ok (.lastore, 1) := by decide +kernel
theorem dX8_takes_135 : decode cX8_takes 135 = .ok (.aload_n 0, 1) := by decide +kernel
theorem dX8_takes_136 : decode cX8_takes 136 = .ok (.getfield 41, 3) := by decide +kernel
theorem dX8_takes_139 : decode cX8_takes 139 = .ok (.iload_n 1, 1) := by decide +kernel
theorem dX8_takes_140 : decode cX8_takes 140 = .ok (.lload 4, 2) := by decide +kernel
theorem dX8_takes_142 : decode cX8_takes 142 = .ok (.iload 6, 2) := by decide +kernel
theorem dX8_takes_144 : decode cX8_takes 144 = .ok (.i2l, 1) := by decide +kernel
theorem dX8_takes_145 : decode cX8_takes 145 = .ok (.lmul, 1) := by decide +kernel
theorem dX8_takes_146 : decode cX8_takes 146 = .ok (.lload 7, 2) := by decide +kernel
theorem dX8_takes_148 : decode cX8_takes 148 = .ok (.ldiv, 1) := by decide +kernel
theorem dX8_takes_149 : decode cX8_takes 149 = .ok (.lastore, 1) := by decide +kernel
theorem dX8_takes_150 : decode cX8_takes 150 = .ok (.lload_n 2, 1) := by decide +kernel
theorem dX8_takes_151 : decode cX8_takes 151 = .ok (.aload_n 0, 1) := by decide +kernel
theorem dX8_takes_152 : decode cX8_takes 152 = .ok (.getfield 7, 3) := by decide +kernel
theorem dX8_takes_155 : decode cX8_takes 155 = .ok (.iload_n 1, 1) := by decide +kernel
theorem dX8_takes_156 : decode cX8_takes 156 = .ok (.iaload, 1) := by decide +kernel
theorem dX8_takes_157 : decode cX8_takes 157 = .ok (.i2l, 1) := by decide +kernel
theorem dX8_takes_158 : decode cX8_takes 158 = .ok (.lload 4, 2) := by decide +kernel
theorem dX8_takes_160 : decode cX8_takes 160 = .ok (.lmul, 1) := by decide +kernel
theorem dX8_takes_161 : decode cX8_takes 161 = .ok (.ladd, 1) := by decide +kernel
theorem dX8_takes_162 : decode cX8_takes 162 = .ok (.lstore_n 2, 1) := by decide +kernel
theorem dX8_takes_163 : decode cX8_takes 163 = .ok (.lload_n 2, 1) := by decide +kernel
theorem dX8_takes_164 : decode cX8_takes 164 = .ok (.lload 4, 2) := by decide +kernel
theorem dX8_takes_166 : decode cX8_takes 166 = .ok (.iload 6, 2) := by decide +kernel
theorem dX8_takes_168 : decode cX8_takes 168 = .ok (.i2l, 1) := by decide +kernel
theorem dX8_takes_169 : decode cX8_takes 169 = .ok (.lmul, 1) := by decide +kernel
theorem dX8_takes_170 : decode cX8_takes 170 = .ok (.invokestatic 100, 3) := by decide +kernel
theorem dX8_takes_173 : decode cX8_takes 173 = .ok (.lstore 7, 2) := by decide +kernel
theorem dX8_takes_175 : decode cX8_takes 175 = .ok (.aload_n 0, 1) := by decide +kernel
theorem dX8_takes_176 : decode cX8_takes 176 = .ok (.getfield 31, 3) := by decide +kernel
theorem dX8_takes_179 : decode cX8_takes 179 = .ok (.iload_n 1, 1) := by decide +kernel
theorem dX8_takes_180 : decode cX8_takes 180 = .ok (.lload_n 2, 1) := by decide +kernel
theorem dX8_takes_181 : decode cX8_takes 181 = .ok (.lload 7, 2) := by decide +kernel
theorem dX8_takes_183 : decode cX8_takes 183 = .ok (.ldiv, 1) := by decide +kernel
theorem dX8_takes_184 : decode cX8_takes 184 = .ok (.lastore, 1) := by decide +kernel
theorem dX8_takes_185 : decode cX8_takes 185 = .ok (.aload_n 0, 1) := by decide +kernel
theorem dX8_takes_186 : decode cX8_takes 186 = .ok (.getfield 35, 3) := by decide +kernel
theorem dX8_takes_189 : decode cX8_takes 189 = .ok (.iload_n 1, 1) := by decide +kernel
theorem dX8_takes_190 : decode cX8_takes 190 = .ok (.lload 4, 2) := by decide +kernel
theorem dX8_takes_192 : decode cX8_takes 192 = .ok (.iload 6, 2) := by decide +kernel
theorem dX8_takes_194 : decode cX8_takes 194 = .ok (.i2l, 1) := by decide +kernel
theorem dX8_takes_195 : decode cX8_takes 195 = .ok (.lmul, 1) := by decide +kernel
theorem dX8_takes_196 : decode cX8_takes 196 = .ok (.lload 7, 2) := by decide +kernel
theorem dX8_takes_198 : decode cX8_takes 198 = .ok (.ldiv, 1) := by decide +kernel
theorem dX8_takes_199 : decode cX8_takes 199 = .ok (.lastore, 1) := by decide +kernel
theorem dX8_takes_200 : decode cX8_takes 200 = .ok (.aload_n 0, 1) := by decide +kernel
theorem dX8_takes_201 : decode cX8_takes 201 = .ok (.getfield 44, 3) := by decide +kernel
theorem dX8_takes_204 : decode cX8_takes 204 = .ok (.iload_n 1, 1) := by decide +kernel
theorem dX8_takes_205 : decode cX8_takes 205 = .ok (.iconst 1, 1) := by decide +kernel
theorem dX8_takes_206 : decode cX8_takes 206 = .ok (.bastore, 1) := by decide +kernel
theorem dX8_takes_207 : decode cX8_takes 207 = .ok (.return_, 1) := by decide +kernel
theorem dX8_failsFirst_0 : decode cX8_failsFirst 0 = .ok (.iconst 0, 1) := by decide +kernel
theorem dX8_failsFirst_1 : decode cX8_failsFirst 1 = .ok (.istore_n 1, 1) := by decide +kernel
theorem dX8_failsFirst_2 : decode cX8_failsFirst 2 = .ok (.iload_n 1, 1) := by decide +kernel
theorem dX8_failsFirst_3 : decode cX8_failsFirst 3 = .ok (.aload_n 0, 1) := by decide +kernel
theorem dX8_failsFirst_4 : decode cX8_failsFirst 4 = .ok (.getfield 64, 3) := by decide +kernel
theorem dX8_failsFirst_7 : decode cX8_failsFirst 7 = .ok (.if_icmp .ge 22, 3) := by decide +kernel
theorem dX8_failsFirst_10 : decode cX8_failsFirst 10 = .ok (.aload_n 0, 1) := by decide +kernel
theorem dX8_failsFirst_11 : decode cX8_failsFirst 11 = .ok (.iload_n 1, 1) := by decide +kernel
theorem dX8_failsFirst_12 : decode cX8_failsFirst 12 = .ok (.invokevirtual 118, 3) := by decide +kernel
theorem dX8_failsFirst_15 : decode cX8_failsFirst 15 = .ok (.ifCond .ne 8, 3) := by decide +kernel
theorem dX8_failsFirst_18 : decode cX8_failsFirst 18 = .ok (.bipush 10, 2) := by decide +kernel
theorem dX8_failsFirst_20 : decode cX8_failsFirst 20 = .ok (.iload_n 1, 1) := by decide +kernel
theorem dX8_failsFirst_21 : decode cX8_failsFirst 21 = .ok (.iadd, 1) := by decide +kernel
theorem dX8_failsFirst_22 : decode cX8_failsFirst 22 = .ok (.ireturn, 1) := by decide +kernel
theorem dX8_failsFirst_23 : decode cX8_failsFirst 23 = .ok (.iinc 1 1, 3) := by decide +kernel
theorem dX8_failsFirst_26 : decode cX8_failsFirst 26 = .ok (.goto (-24), 3) := by decide +kernel
theorem dX8_failsFirst_29 : decode cX8_failsFirst 29 = .ok (.iconst 0, 1) := by decide +kernel
theorem dX8_failsFirst_30 : decode cX8_failsFirst 30 = .ok (.istore_n 1, 1) := by decide +kernel
theorem dX8_failsFirst_31 : decode cX8_failsFirst 31 = .ok (.iload_n 1, 1) := by decide +kernel
theorem dX8_failsFirst_32 : decode cX8_failsFirst 32 = .ok (.aload_n 0, 1) := by decide +kernel
theorem dX8_failsFirst_33 : decode cX8_failsFirst 33 = .ok (.getfield 64, 3) := by decide +kernel
theorem dX8_failsFirst_36 : decode cX8_failsFirst 36 = .ok (.if_icmp .ge 27, 3) := by decide +kernel
theorem dX8_failsFirst_39 : decode cX8_failsFirst 39 = .ok (.aload_n 0, 1) := by decide +kernel
theorem dX8_failsFirst_40 : decode cX8_failsFirst 40 = .ok (.iload_n 1, 1) := by decide +kernel
theorem dX8_failsFirst_41 : decode cX8_failsFirst 41 = .ok (.invokevirtual 122, 3) := by decide +kernel
theorem dX8_failsFirst_44 : decode cX8_failsFirst 44 = .ok (.aload_n 0, 1) := by decide +kernel
theorem dX8_failsFirst_45 : decode cX8_failsFirst 45 = .ok (.iload_n 1, 1) := by decide +kernel
theorem dX8_failsFirst_46 : decode cX8_failsFirst 46 = .ok (.invokevirtual 118, 3) := by decide +kernel
theorem dX8_failsFirst_49 : decode cX8_failsFirst 49 = .ok (.if_icmp .le 8, 3) := by decide +kernel
theorem dX8_failsFirst_52 : decode cX8_failsFirst 52 = .ok (.bipush 20, 2) := by decide +kernel
theorem dX8_failsFirst_54 : decode cX8_failsFirst 54 = .ok (.iload_n 1, 1) := by decide +kernel
theorem dX8_failsFirst_55 : decode cX8_failsFirst 55 = .ok (.iadd, 1) := by decide +kernel
theorem dX8_failsFirst_56 : decode cX8_failsFirst 56 = .ok (.ireturn, 1) := by decide +kernel
theorem dX8_failsFirst_57 : decode cX8_failsFirst 57 = .ok (.iinc 1 1, 3) := by decide +kernel
theorem dX8_failsFirst_60 : decode cX8_failsFirst 60 = .ok (.goto (-29), 3) := by decide +kernel
theorem dX8_failsFirst_63 : decode cX8_failsFirst 63 = .ok (.iconst 0, 1) := by decide +kernel
theorem dX8_failsFirst_64 : decode cX8_failsFirst 64 = .ok (.istore_n 1, 1) := by decide +kernel
theorem dX8_failsFirst_65 : decode cX8_failsFirst 65 = .ok (.iload_n 1, 1) := by decide +kernel
theorem dX8_failsFirst_66 : decode cX8_failsFirst 66 = .ok (.aload_n 0, 1) := by decide +kernel
theorem dX8_failsFirst_67 : decode cX8_failsFirst 67 = .ok (.getfield 64, 3) := by decide +kernel
theorem dX8_failsFirst_70 : decode cX8_failsFirst 70 = .ok (.if_icmp .ge 16, 3) := by decide +kernel
theorem dX8_failsFirst_73 : decode cX8_failsFirst 73 = .ok (.aload_n 0, 1) := by decide +kernel
theorem dX8_failsFirst_74 : decode cX8_failsFirst 74 = .ok (.getfield 44, 3) := by decide +kernel
theorem dX8_failsFirst_77 : decode cX8_failsFirst 77 = .ok (.iload_n 1, 1) := by decide +kernel
theorem dX8_failsFirst_78 : decode cX8_failsFirst 78 = .ok (.iconst 0, 1) := by decide +kernel
theorem dX8_failsFirst_79 : decode cX8_failsFirst 79 = .ok (.bastore, 1) := by decide +kernel
theorem dX8_failsFirst_80 : decode cX8_failsFirst 80 = .ok (.iinc 1 1, 3) := by decide +kernel
theorem dX8_failsFirst_83 : decode cX8_failsFirst 83 = .ok (.goto (-18), 3) := by decide +kernel
theorem dX8_failsFirst_86 : decode cX8_failsFirst 86 = .ok (.iconst 1, 1) := by decide +kernel
theorem dX8_failsFirst_87 : decode cX8_failsFirst 87 = .ok (.istore_n 1, 1) := by decide +kernel
theorem dX8_failsFirst_88 : decode cX8_failsFirst 88 = .ok (.iload_n 1, 1) := by decide +kernel
theorem dX8_failsFirst_89 : decode cX8_failsFirst 89 = .ok (.ifCond .eq 100, 3) := by decide +kernel
theorem dX8_failsFirst_92 : decode cX8_failsFirst 92 = .ok (.iconst 0, 1) := by decide +kernel
theorem dX8_failsFirst_93 : decode cX8_failsFirst 93 = .ok (.istore_n 1, 1) := by decide +kernel
theorem dX8_failsFirst_94 : decode cX8_failsFirst 94 = .ok (.iconst 0, 1) := by decide +kernel
theorem dX8_failsFirst_95 : decode cX8_failsFirst 95 = .ok (.istore_n 2, 1) := by decide +kernel
theorem dX8_failsFirst_96 : decode cX8_failsFirst 96 = .ok (.iload_n 2, 1) := by decide +kernel
theorem dX8_failsFirst_97 : decode cX8_failsFirst 97 = .ok (.aload_n 0, 1) := by decide +kernel
theorem dX8_failsFirst_98 : decode cX8_failsFirst 98 = .ok (.getfield 64, 3) := by decide +kernel
theorem dX8_failsFirst_101 : decode cX8_failsFirst 101 = .ok (.if_icmp .ge 85, 3) := by decide +kernel
theorem dX8_failsFirst_104 : decode cX8_failsFirst 104 = .ok (.aload_n 0, 1) := by decide +kernel
theorem dX8_failsFirst_105 : decode cX8_failsFirst 105 = .ok (.getfield 44, 3) := by decide +kernel
theorem dX8_failsFirst_108 : decode cX8_failsFirst 108 = .ok (.iload_n 2, 1) := by decide +kernel
theorem dX8_failsFirst_109 : decode cX8_failsFirst 109 = .ok (.baload, 1) := by decide +kernel
theorem dX8_failsFirst_110 : decode cX8_failsFirst 110 = .ok (.ifCond .ne 7, 3) := by decide +kernel
theorem dX8_failsFirst_113 : decode cX8_failsFirst 113 = .ok (.iconst 1, 1) := by decide +kernel
theorem dX8_failsFirst_114 : decode cX8_failsFirst 114 = .ok (.goto 4, 3) := by decide +kernel
theorem dX8_failsFirst_117 : decode cX8_failsFirst 117 = .ok (.iconst 0, 1) := by decide +kernel
theorem dX8_failsFirst_118 : decode cX8_failsFirst 118 = .ok (.istore_n 3, 1) := by decide +kernel
theorem dX8_failsFirst_119 : decode cX8_failsFirst 119 = .ok (.iconst 0, 1) := by decide +kernel
theorem dX8_failsFirst_120 : decode cX8_failsFirst 120 = .ok (.istore 4, 2) := by decide +kernel
theorem dX8_failsFirst_122 : decode cX8_failsFirst 122 = .ok (.iload 4, 2) := by decide +kernel
theorem dX8_failsFirst_124 : decode cX8_failsFirst 124 = .ok (.aload_n 0, 1) := by decide +kernel
theorem dX8_failsFirst_125 : decode cX8_failsFirst 125 = .ok (.getfield 64, 3) := by decide +kernel
theorem dX8_failsFirst_128 : decode cX8_failsFirst 128 = .ok (.if_icmp .ge 41, 3) := by decide +kernel
theorem dX8_failsFirst_131 : decode cX8_failsFirst 131 = .ok (.iload_n 3, 1) := by decide +kernel
theorem dX8_failsFirst_132 : decode cX8_failsFirst 132 = .ok (.aload_n 0, 1) := by decide +kernel
theorem dX8_failsFirst_133 : decode cX8_failsFirst 133 = .ok (.getfield 28, 3) := by decide +kernel
theorem dX8_failsFirst_136 : decode cX8_failsFirst 136 = .ok (.iconst 5, 1) := by decide +kernel
theorem dX8_failsFirst_137 : decode cX8_failsFirst 137 = .ok (.iload 4, 2) := by decide +kernel
theorem dX8_failsFirst_139 : decode cX8_failsFirst 139 = .ok (.imul, 1) := by decide +kernel
theorem dX8_failsFirst_140 : decode cX8_failsFirst 140 = .ok (.iload_n 2, 1) := by decide +kernel
theorem dX8_failsFirst_141 : decode cX8_failsFirst 141 = .ok (.iadd, 1) := by decide +kernel
theorem dX8_failsFirst_142 : decode cX8_failsFirst 142 = .ok (.iaload, 1) := by decide +kernel
theorem dX8_failsFirst_143 : decode cX8_failsFirst 143 = .ok (.ifCond .eq 13, 3) := by decide +kernel
theorem dX8_failsFirst_146 : decode cX8_failsFirst 146 = .ok (.aload_n 0, 1) := by decide +kernel
theorem dX8_failsFirst_147 : decode cX8_failsFirst 147 = .ok (.getfield 44, 3) := by decide +kernel
theorem dX8_failsFirst_150 : decode cX8_failsFirst 150 = .ok (.iload 4, 2) := by decide +kernel
theorem dX8_failsFirst_152 : decode cX8_failsFirst 152 = .ok (.baload, 1) := by decide +kernel
theorem dX8_failsFirst_153 : decode cX8_failsFirst 153 = .ok (.ifCond .eq 7, 3) := by decide +kernel
theorem dX8_failsFirst_156 : decode cX8_failsFirst 156 = .ok (.iconst 1, 1) := by decide +kernel
theorem dX8_failsFirst_157 : decode cX8_failsFirst 157 = .ok (.goto 4, 3) := by decide +kernel
theorem dX8_failsFirst_160 : decode cX8_failsFirst 160 = .ok (.iconst 0, 1) := by decide +kernel
theorem dX8_failsFirst_161 : decode cX8_failsFirst 161 = .ok (.iand, 1) := by decide +kernel
theorem dX8_failsFirst_162 : decode cX8_failsFirst 162 = .ok (.istore_n 3, 1) := by decide +kernel
theorem dX8_failsFirst_163 : decode cX8_failsFirst 163 = .ok (.iinc 4 1, 3) := by decide +kernel
theorem dX8_failsFirst_166 : decode cX8_failsFirst 166 = .ok (.goto (-44), 3) := by decide +kernel
theorem dX8_failsFirst_169 : decode cX8_failsFirst 169 = .ok (.iload_n 3, 1) := by decide +kernel
theorem dX8_failsFirst_170 : decode cX8_failsFirst 170 = .ok (.ifCond .eq 10, 3) := by decide +kernel
theorem dX8_failsFirst_173 : decode cX8_failsFirst 173 = .ok (.aload_n 0, 1) := by decide +kernel
theorem dX8_failsFirst_174 : decode cX8_failsFirst 174 = .ok (.iload_n 2, 1) := by decide +kernel
theorem dX8_failsFirst_175 : decode cX8_failsFirst 175 = .ok (.invokevirtual 125, 3) := by decide +kernel
theorem dX8_failsFirst_178 : decode cX8_failsFirst 178 = .ok (.iconst 1, 1) := by decide +kernel
theorem dX8_failsFirst_179 : decode cX8_failsFirst 179 = .ok (.istore_n 1, 1) := by decide +kernel
theorem dX8_failsFirst_180 : decode cX8_failsFirst 180 = .ok (.iinc 2 1, 3) := by decide +kernel
theorem dX8_failsFirst_183 : decode cX8_failsFirst 183 = .ok (.goto (-87), 3) := by decide +kernel
theorem dX8_failsFirst_186 : decode cX8_failsFirst 186 = .ok (.goto (-98), 3) := by decide +kernel
theorem dX8_failsFirst_189 : decode cX8_failsFirst 189 = .ok (.iconst 0, 1) := by decide +kernel
theorem dX8_failsFirst_190 : decode cX8_failsFirst 190 = .ok (.istore_n 2, 1) := by decide +kernel
theorem dX8_failsFirst_191 : decode cX8_failsFirst 191 = .ok (.iload_n 2, 1) := by decide +kernel
theorem dX8_failsFirst_192 : decode cX8_failsFirst 192 = .ok (.aload_n 0, 1) := by decide +kernel
theorem dX8_failsFirst_193 : decode cX8_failsFirst 193 = .ok (.getfield 64, 3) := by decide +kernel
theorem dX8_failsFirst_196 : decode cX8_failsFirst 196 = .ok (.if_icmp .ge 23, 3) := by decide +kernel
theorem dX8_failsFirst_199 : decode cX8_failsFirst 199 = .ok (.aload_n 0, 1) := by decide +kernel
theorem dX8_failsFirst_200 : decode cX8_failsFirst 200 = .ok (.getfield 44, 3) := by decide +kernel
theorem dX8_failsFirst_203 : decode cX8_failsFirst 203 = .ok (.iload_n 2, 1) := by decide +kernel
theorem dX8_failsFirst_204 : decode cX8_failsFirst 204 = .ok (.baload, 1) := by decide +kernel
theorem dX8_failsFirst_205 : decode cX8_failsFirst 205 = .ok (.ifCond .ne 8, 3) := by decide +kernel
theorem dX8_failsFirst_208 : decode cX8_failsFirst 208 = .ok (.bipush 30, 2) := by decide +kernel
theorem dX8_failsFirst_210 : decode cX8_failsFirst 210 = .ok (.iload_n 2, 1) := by decide +kernel
theorem dX8_failsFirst_211 : decode cX8_failsFirst 211 = .ok (.iadd, 1) := by decide +kernel
theorem dX8_failsFirst_212 : decode cX8_failsFirst 212 = .ok (.ireturn, 1) := by decide +kernel
theorem dX8_failsFirst_213 : decode cX8_failsFirst 213 = .ok (.iinc 2 1, 3) := by decide +kernel
theorem dX8_failsFirst_216 : decode cX8_failsFirst 216 = .ok (.goto (-25), 3) := by decide +kernel
theorem dX8_failsFirst_219 : decode cX8_failsFirst 219 = .ok (.iconst 0, 1) := by decide +kernel
theorem dX8_failsFirst_220 : decode cX8_failsFirst 220 = .ok (.ireturn, 1) := by decide +kernel
theorem dX8_fails_0 : decode cX8_fails 0 = .ok (.aload_n 0, 1) := by decide +kernel
theorem dX8_fails_1 : decode cX8_fails 1 = .ok (.iconst 0, 1) := by decide +kernel
theorem dX8_fails_2 : decode cX8_fails 2 = .ok (.putfield 60, 3) := by decide +kernel
theorem dX8_fails_5 : decode cX8_fails 5 = .ok (.aload_n 0, 1) := by decide +kernel
theorem dX8_fails_6 : decode cX8_fails 6 = .ok (.invokevirtual 129, 3) := by decide +kernel
theorem dX8_fails_9 : decode cX8_fails 9 = .ok (.istore_n 1, 1) := by decide +kernel
theorem dX8_fails_10 : decode cX8_fails 10 = .ok (.iload_n 1, 1) := by decide +kernel
theorem dX8_fails_11 : decode cX8_fails 11 = .ok (.ifCond .le 5, 3) := by decide +kernel
theorem dX8_fails_14 : decode cX8_fails 14 = .ok (.iload_n 1, 1) := by decide +kernel
theorem dX8_fails_15 : decode cX8_fails 15 = .ok (.ireturn, 1) := by decide +kernel
theorem dX8_fails_16 : decode cX8_fails 16 = .ok (.iconst 0, 1) := by decide +kernel
theorem dX8_fails_17 : decode cX8_fails 17 = .ok (.istore_n 2, 1) := by decide +kernel
theorem dX8_fails_18 : decode cX8_fails 18 = .ok (.iload_n 2, 1) := by decide +kernel
theorem dX8_fails_19 : decode cX8_fails 19 = .ok (.aload_n 0, 1) := by decide +kernel
theorem dX8_fails_20 : decode cX8_fails 20 = .ok (.getfield 64, 3) := by decide +kernel
theorem dX8_fails_23 : decode cX8_fails 23 = .ok (.if_icmp .ge 38, 3) := by decide +kernel
theorem dX8_fails_26 : decode cX8_fails 26 = .ok (.aload_n 0, 1) := by decide +kernel
theorem dX8_fails_27 : decode cX8_fails 27 = .ok (.getfield 38, 3) := by decide +kernel
theorem dX8_fails_30 : decode cX8_fails 30 = .ok (.iload_n 2, 1) := by decide +kernel
theorem dX8_fails_31 : decode cX8_fails 31 = .ok (.laload, 1) := by decide +kernel
theorem dX8_fails_32 : decode cX8_fails 32 = .ok (.aload_n 0, 1) := by decide +kernel
theorem dX8_fails_33 : decode cX8_fails 33 = .ok (.getfield 13, 3) := by decide +kernel
theorem dX8_fails_36 : decode cX8_fails 36 = .ok (.iload_n 2, 1) := by decide +kernel
theorem dX8_fails_37 : decode cX8_fails 37 = .ok (.iaload, 1) := by decide +kernel
theorem dX8_fails_38 : decode cX8_fails 38 = .ok (.i2l, 1) := by decide +kernel
theorem dX8_fails_39 : decode cX8_fails 39 = .ok (.aload_n 0, 1) := by decide +kernel
theorem dX8_fails_40 : decode cX8_fails 40 = .ok (.getfield 41, 3) := by decide +kernel
theorem dX8_fails_43 : decode cX8_fails 43 = .ok (.iload_n 2, 1) := by decide +kernel
theorem dX8_fails_44 : decode cX8_fails 44 = .ok (.laload, 1) := by decide +kernel
theorem dX8_fails_45 : decode cX8_fails 45 = .ok (.lmul, 1) := by decide +kernel
theorem dX8_fails_46 : decode cX8_fails 46 = .ok (.lcmp, 1) := by decide +kernel
theorem dX8_fails_47 : decode cX8_fails 47 = .ok (.ifCond .le 8, 3) := by decide +kernel
theorem dX8_fails_50 : decode cX8_fails 50 = .ok (.bipush 40, 2) := by decide +kernel
theorem dX8_fails_52 : decode cX8_fails 52 = .ok (.iload_n 2, 1) := by decide +kernel
theorem dX8_fails_53 : decode cX8_fails 53 = .ok (.iadd, 1) := by decide +kernel
theorem dX8_fails_54 : decode cX8_fails 54 = .ok (.ireturn, 1) := by decide +kernel
theorem dX8_fails_55 : decode cX8_fails 55 = .ok (.iinc 2 1, 3) := by decide +kernel
theorem dX8_fails_58 : decode cX8_fails 58 = .ok (.goto (-40), 3) := by decide +kernel
theorem dX8_fails_61 : decode cX8_fails 61 = .ok (.iconst 0, 1) := by decide +kernel
theorem dX8_fails_62 : decode cX8_fails 62 = .ok (.istore_n 2, 1) := by decide +kernel
theorem dX8_fails_63 : decode cX8_fails 63 = .ok (.iload_n 2, 1) := by decide +kernel
theorem dX8_fails_64 : decode cX8_fails 64 = .ok (.aload_n 0, 1) := by decide +kernel
theorem dX8_fails_65 : decode cX8_fails 65 = .ok (.getfield 64, 3) := by decide +kernel
theorem dX8_fails_68 : decode cX8_fails 68 = .ok (.if_icmp .ge 43, 3) := by decide +kernel
theorem dX8_fails_71 : decode cX8_fails 71 = .ok (.aload_n 0, 1) := by decide +kernel
theorem dX8_fails_72 : decode cX8_fails 72 = .ok (.getfield 31, 3) := by decide +kernel
theorem dX8_fails_75 : decode cX8_fails 75 = .ok (.iload_n 2, 1) := by decide +kernel
theorem dX8_fails_76 : decode cX8_fails 76 = .ok (.laload, 1) := by decide +kernel
theorem dX8_fails_77 : decode cX8_fails 77 = .ok (.aload_n 0, 1) := by decide +kernel
theorem dX8_fails_78 : decode cX8_fails 78 = .ok (.aload_n 0, 1) := by decide +kernel
theorem dX8_fails_79 : decode cX8_fails 79 = .ok (.getfield 22, 3) := by decide +kernel
theorem dX8_fails_82 : decode cX8_fails 82 = .ok (.iconst 2, 1) := by decide +kernel
theorem dX8_fails_83 : decode cX8_fails 83 = .ok (.iaload, 1) := by decide +kernel
theorem dX8_fails_84 : decode cX8_fails 84 = .ok (.iload_n 2, 1) := by decide +kernel
theorem dX8_fails_85 : decode cX8_fails 85 = .ok (.invokevirtual 96, 3) := by decide +kernel
theorem dX8_fails_88 : decode cX8_fails 88 = .ok (.i2l, 1) := by decide +kernel
theorem dX8_fails_89 : decode cX8_fails 89 = .ok (.aload_n 0, 1) := by decide +kernel
theorem dX8_fails_90 : decode cX8_fails 90 = .ok (.getfield 35, 3) := by decide +kernel
theorem dX8_fails_93 : decode cX8_fails 93 = .ok (.iload_n 2, 1) := by decide +kernel
theorem dX8_fails_94 : decode cX8_fails 94 = .ok (.laload, 1) := by decide +kernel
theorem dX8_fails_95 : decode cX8_fails 95 = .ok (.lmul, 1) := by decide +kernel
theorem dX8_fails_96 : decode cX8_fails 96 = .ok (.lcmp, 1) := by decide +kernel
theorem dX8_fails_97 : decode cX8_fails 97 = .ok (.ifCond .le 8, 3) := by decide +kernel
theorem dX8_fails_100 : decode cX8_fails 100 = .ok (.bipush 50, 2) := by decide +kernel
theorem dX8_fails_102 : decode cX8_fails 102 = .ok (.iload_n 2, 1) := by decide +kernel
theorem dX8_fails_103 : decode cX8_fails 103 = .ok (.iadd, 1) := by decide +kernel
theorem dX8_fails_104 : decode cX8_fails 104 = .ok (.ireturn, 1) := by decide +kernel
theorem dX8_fails_105 : decode cX8_fails 105 = .ok (.iinc 2 1, 3) := by decide +kernel
theorem dX8_fails_108 : decode cX8_fails 108 = .ok (.goto (-45), 3) := by decide +kernel
theorem dX8_fails_111 : decode cX8_fails 111 = .ok (.iconst 0, 1) := by decide +kernel
theorem dX8_fails_112 : decode cX8_fails 112 = .ok (.ireturn, 1) := by decide +kernel
theorem dX8_at_0 : decode cX8_at 0 = .ok (.aload_n 0, 1) := by decide +kernel
theorem dX8_at_1 : decode cX8_at 1 = .ok (.iconst 0, 1) := by decide +kernel
theorem dX8_at_2 : decode cX8_at 2 = .ok (.putfield 60, 3) := by decide +kernel
theorem dX8_at_5 : decode cX8_at 5 = .ok (.aload_n 0, 1) := by decide +kernel
theorem dX8_at_6 : decode cX8_at 6 = .ok (.iload_n 1, 1) := by decide +kernel
theorem dX8_at_7 : decode cX8_at 7 = .ok (.invokevirtual 76, 3) := by decide +kernel
theorem dX8_at_10 : decode cX8_at 10 = .ok (.ifCond .eq 13, 3) := by decide +kernel
theorem dX8_at_13 : decode cX8_at 13 = .ok (.iload_n 2, 1) := by decide +kernel
theorem dX8_at_14 : decode cX8_at 14 = .ok (.i2l, 1) := by decide +kernel
theorem dX8_at_15 : decode cX8_at 15 = .ok (.lconst 0, 1) := by decide +kernel
theorem dX8_at_16 : decode cX8_at 16 = .ok (.lconst 1, 1) := by decide +kernel
theorem dX8_at_17 : decode cX8_at 17 = .ok (.invokestatic 67, 3) := by decide +kernel
theorem dX8_at_20 : decode cX8_at 20 = .ok (.ifCond .ne 7, 3) := by decide +kernel
theorem dX8_at_23 : decode cX8_at 23 = .ok (.ldc2_w 104, 3) := by decide +kernel
theorem dX8_at_26 : decode cX8_at 26 = .ok (.lreturn, 1) := by decide +kernel
theorem dX8_at_27 : decode cX8_at 27 = .ok (.aload_n 0, 1) := by decide +kernel
theorem dX8_at_28 : decode cX8_at 28 = .ok (.invokevirtual 129, 3) := by decide +kernel
theorem dX8_at_31 : decode cX8_at 31 = .ok (.ifCond .le 7, 3) := by decide +kernel
theorem dX8_at_34 : decode cX8_at 34 = .ok (.ldc2_w 132, 3) := by decide +kernel
theorem dX8_at_37 : decode cX8_at 37 = .ok (.lreturn, 1) := by decide +kernel
theorem dX8_at_38 : decode cX8_at 38 = .ok (.iload_n 2, 1) := by decide +kernel
theorem dX8_at_39 : decode cX8_at 39 = .ok (.ifCond .ne 12, 3) := by decide +kernel
theorem dX8_at_42 : decode cX8_at 42 = .ok (.aload_n 0, 1) := by decide +kernel
theorem dX8_at_43 : decode cX8_at 43 = .ok (.getfield 31, 3) := by decide +kernel
theorem dX8_at_46 : decode cX8_at 46 = .ok (.iload_n 1, 1) := by decide +kernel
theorem dX8_at_47 : decode cX8_at 47 = .ok (.laload, 1) := by decide +kernel
theorem dX8_at_48 : decode cX8_at 48 = .ok (.goto 9, 3) := by decide +kernel
theorem dX8_at_51 : decode cX8_at 51 = .ok (.aload_n 0, 1) := by decide +kernel
theorem dX8_at_52 : decode cX8_at 52 = .ok (.getfield 35, 3) := by decide +kernel
theorem dX8_at_55 : decode cX8_at 55 = .ok (.iload_n 1, 1) := by decide +kernel
theorem dX8_at_56 : decode cX8_at 56 = .ok (.laload, 1) := by decide +kernel
theorem dX8_at_57 : decode cX8_at 57 = .ok (.lreturn, 1) := by decide +kernel
theorem dX8_hit_0 : decode cX8_hit 0 = .ok (.aload_n 0, 1) := by decide +kernel
theorem dX8_hit_1 : decode cX8_hit 1 = .ok (.iconst 0, 1) := by decide +kernel
theorem dX8_hit_2 : decode cX8_hit 2 = .ok (.putfield 60, 3) := by decide +kernel
theorem dX8_hit_5 : decode cX8_hit 5 = .ok (.aload_n 0, 1) := by decide +kernel
theorem dX8_hit_6 : decode cX8_hit 6 = .ok (.iload_n 1, 1) := by decide +kernel
theorem dX8_hit_7 : decode cX8_hit 7 = .ok (.invokevirtual 76, 3) := by decide +kernel
theorem dX8_hit_10 : decode cX8_hit 10 = .ok (.ifCond .eq 23, 3) := by decide +kernel
theorem dX8_hit_13 : decode cX8_hit 13 = .ok (.iload_n 2, 1) := by decide +kernel
theorem dX8_hit_14 : decode cX8_hit 14 = .ok (.i2l, 1) := by decide +kernel
theorem dX8_hit_15 : decode cX8_hit 15 = .ok (.lconst 0, 1) := by decide +kernel
theorem dX8_hit_16 : decode cX8_hit 16 = .ok (.ldc2_w 70, 3) := by decide +kernel
theorem dX8_hit_19 : decode cX8_hit 19 = .ok (.invokestatic 67, 3) := by decide +kernel
theorem dX8_hit_22 : decode cX8_hit 22 = .ok (.ifCond .eq 11, 3) := by decide +kernel
theorem dX8_hit_25 : decode cX8_hit 25 = .ok (.aload_n 0, 1) := by decide +kernel
theorem dX8_hit_26 : decode cX8_hit 26 = .ok (.iload_n 3, 1) := by decide +kernel
theorem dX8_hit_27 : decode cX8_hit 27 = .ok (.invokevirtual 76, 3) := by decide +kernel
theorem dX8_hit_30 : decode cX8_hit 30 = .ok (.ifCond .ne 5, 3) := by decide +kernel
theorem dX8_hit_33 : decode cX8_hit 33 = .ok (.iconst (-1), 1) := by decide +kernel
theorem dX8_hit_34 : decode cX8_hit 34 = .ok (.ireturn, 1) := by decide +kernel
theorem dX8_hit_35 : decode cX8_hit 35 = .ok (.iconst 0, 1) := by decide +kernel
theorem dX8_hit_36 : decode cX8_hit 36 = .ok (.istore 4, 2) := by decide +kernel
theorem dX8_hit_38 : decode cX8_hit 38 = .ok (.iload 4, 2) := by decide +kernel
theorem dX8_hit_40 : decode cX8_hit 40 = .ok (.aload_n 0, 1) := by decide +kernel
theorem dX8_hit_41 : decode cX8_hit 41 = .ok (.getfield 64, 3) := by decide +kernel
theorem dX8_hit_44 : decode cX8_hit 44 = .ok (.if_icmp .ge 28, 3) := by decide +kernel
theorem dX8_hit_47 : decode cX8_hit 47 = .ok (.aload_n 0, 1) := by decide +kernel
theorem dX8_hit_48 : decode cX8_hit 48 = .ok (.getfield 48, 3) := by decide +kernel
theorem dX8_hit_51 : decode cX8_hit 51 = .ok (.iload 4, 2) := by decide +kernel
theorem dX8_hit_53 : decode cX8_hit 53 = .ok (.iload 4, 2) := by decide +kernel
theorem dX8_hit_55 : decode cX8_hit 55 = .ok (.iload_n 1, 1) := by decide +kernel
theorem dX8_hit_56 : decode cX8_hit 56 = .ok (.if_icmp .ne 7, 3) := by decide +kernel
theorem dX8_hit_59 : decode cX8_hit 59 = .ok (.iload_n 2, 1) := by decide +kernel
theorem dX8_hit_60 : decode cX8_hit 60 = .ok (.goto 5, 3) := by decide +kernel
theorem dX8_hit_63 : decode cX8_hit 63 = .ok (.ldc 134, 2) := by decide +kernel
theorem dX8_hit_65 : decode cX8_hit 65 = .ok (.iastore, 1) := by decide +kernel
theorem dX8_hit_66 : decode cX8_hit 66 = .ok (.iinc 4 1, 3) := by decide +kernel
theorem dX8_hit_69 : decode cX8_hit 69 = .ok (.goto (-31), 3) := by decide +kernel
theorem dX8_hit_72 : decode cX8_hit 72 = .ok (.iconst 0, 1) := by decide +kernel
theorem dX8_hit_73 : decode cX8_hit 73 = .ok (.istore 4, 2) := by decide +kernel
theorem dX8_hit_75 : decode cX8_hit 75 = .ok (.iload 4, 2) := by decide +kernel
theorem dX8_hit_77 : decode cX8_hit 77 = .ok (.iconst 5, 1) := by decide +kernel
theorem dX8_hit_78 : decode cX8_hit 78 = .ok (.if_icmp .ge 113, 3) := by decide +kernel
theorem dX8_hit_81 : decode cX8_hit 81 = .ok (.iconst 0, 1) := by decide +kernel
theorem dX8_hit_82 : decode cX8_hit 82 = .ok (.istore 5, 2) := by decide +kernel
theorem dX8_hit_84 : decode cX8_hit 84 = .ok (.iload 5, 2) := by decide +kernel
theorem dX8_hit_86 : decode cX8_hit 86 = .ok (.aload_n 0, 1) := by decide +kernel
theorem dX8_hit_87 : decode cX8_hit 87 = .ok (.getfield 64, 3) := by decide +kernel
theorem dX8_hit_90 : decode cX8_hit 90 = .ok (.if_icmp .ge 95, 3) := by decide +kernel
theorem dX8_hit_93 : decode cX8_hit 93 = .ok (.iconst 0, 1) := by decide +kernel
theorem dX8_hit_94 : decode cX8_hit 94 = .ok (.istore 6, 2) := by decide +kernel
theorem dX8_hit_96 : decode cX8_hit 96 = .ok (.iload 6, 2) := by decide +kernel
theorem dX8_hit_98 : decode cX8_hit 98 = .ok (.aload_n 0, 1) := by decide +kernel
theorem dX8_hit_99 : decode cX8_hit 99 = .ok (.getfield 64, 3) := by decide +kernel
theorem dX8_hit_102 : decode cX8_hit 102 = .ok (.if_icmp .ge 77, 3) := by decide +kernel
theorem dX8_hit_105 : decode cX8_hit 105 = .ok (.iload 5, 2) := by decide +kernel
theorem dX8_hit_107 : decode cX8_hit 107 = .ok (.iload_n 1, 1) := by decide +kernel
theorem dX8_hit_108 : decode cX8_hit 108 = .ok (.if_icmp .eq 65, 3) := by decide +kernel
theorem dX8_hit_111 : decode cX8_hit 111 = .ok (.aload_n 0, 1) := by decide +kernel
theorem dX8_hit_112 : decode cX8_hit 112 = .ok (.getfield 28, 3) := by decide +kernel
theorem dX8_hit_115 : decode cX8_hit 115 = .ok (.iconst 5, 1) := by decide +kernel
theorem dX8_hit_116 : decode cX8_hit 116 = .ok (.iload 6, 2) := by decide +kernel
theorem dX8_hit_118 : decode cX8_hit 118 = .ok (.imul, 1) := by decide +kernel
theorem dX8_hit_119 : decode cX8_hit 119 = .ok (.iload 5, 2) := by decide +kernel
theorem dX8_hit_121 : decode cX8_hit 121 = .ok (.iadd, 1) := by decide +kernel
theorem dX8_hit_122 : decode cX8_hit 122 = .ok (.iaload, 1) := by decide +kernel
theorem dX8_hit_123 : decode cX8_hit 123 = .ok (.ifCond .le 50, 3) := by decide +kernel
theorem dX8_hit_126 : decode cX8_hit 126 = .ok (.aload_n 0, 1) := by decide +kernel
theorem dX8_hit_127 : decode cX8_hit 127 = .ok (.getfield 48, 3) := by decide +kernel
theorem dX8_hit_130 : decode cX8_hit 130 = .ok (.iload 6, 2) := by decide +kernel
theorem dX8_hit_132 : decode cX8_hit 132 = .ok (.iaload, 1) := by decide +kernel
theorem dX8_hit_133 : decode cX8_hit 133 = .ok (.aload_n 0, 1) := by decide +kernel
theorem dX8_hit_134 : decode cX8_hit 134 = .ok (.getfield 19, 3) := by decide +kernel
theorem dX8_hit_137 : decode cX8_hit 137 = .ok (.iload 5, 2) := by decide +kernel
theorem dX8_hit_139 : decode cX8_hit 139 = .ok (.iaload, 1) := by decide +kernel
theorem dX8_hit_140 : decode cX8_hit 140 = .ok (.iadd, 1) := by decide +kernel
theorem dX8_hit_141 : decode cX8_hit 141 = .ok (.aload_n 0, 1) := by decide +kernel
theorem dX8_hit_142 : decode cX8_hit 142 = .ok (.getfield 48, 3) := by decide +kernel
theorem dX8_hit_145 : decode cX8_hit 145 = .ok (.iload 5, 2) := by decide +kernel
theorem dX8_hit_147 : decode cX8_hit 147 = .ok (.iaload, 1) := by decide +kernel
theorem dX8_hit_148 : decode cX8_hit 148 = .ok (.if_icmp .ge 25, 3) := by decide +kernel
theorem dX8_hit_151 : decode cX8_hit 151 = .ok (.aload_n 0, 1) := by decide +kernel
theorem dX8_hit_152 : decode cX8_hit 152 = .ok (.getfield 48, 3) := by decide +kernel
theorem dX8_hit_155 : decode cX8_hit 155 = .ok (.iload 5, 2) := by decide +kernel
theorem dX8_hit_157 : decode cX8_hit 157 = .ok (.aload_n 0, 1) := by decide +kernel
theorem dX8_hit_158 : decode cX8_hit 158 = .ok (.getfield 48, 3) := by decide +kernel
theorem dX8_hit_161 : decode cX8_hit 161 = .ok (.iload 6, 2) := by decide +kernel
theorem dX8_hit_163 : decode cX8_hit 163 = .ok (.iaload, 1) := by decide +kernel
theorem dX8_hit_164 : decode cX8_hit 164 = .ok (.aload_n 0, 1) := by decide +kernel
theorem dX8_hit_165 : decode cX8_hit 165 = .ok (.getfield 19, 3) := by decide +kernel
theorem dX8_hit_168 : decode cX8_hit 168 = .ok (.iload 5, 2) := by decide +kernel
theorem dX8_hit_170 : decode cX8_hit 170 = .ok (.iaload, 1) := by decide +kernel
theorem dX8_hit_171 : decode cX8_hit 171 = .ok (.iadd, 1) := by decide +kernel
theorem dX8_hit_172 : decode cX8_hit 172 = .ok (.iastore, 1) := by decide +kernel
theorem dX8_hit_173 : decode cX8_hit 173 = .ok (.iinc 6 1, 3) := by decide +kernel
theorem dX8_hit_176 : decode cX8_hit 176 = .ok (.goto (-80), 3) := by decide +kernel
theorem dX8_hit_179 : decode cX8_hit 179 = .ok (.iinc 5 1, 3) := by decide +kernel
theorem dX8_hit_182 : decode cX8_hit 182 = .ok (.goto (-98), 3) := by decide +kernel
theorem dX8_hit_185 : decode cX8_hit 185 = .ok (.iinc 4 1, 3) := by decide +kernel
theorem dX8_hit_188 : decode cX8_hit 188 = .ok (.goto (-113), 3) := by decide +kernel
theorem dX8_hit_191 : decode cX8_hit 191 = .ok (.aload_n 0, 1) := by decide +kernel
theorem dX8_hit_192 : decode cX8_hit 192 = .ok (.getfield 48, 3) := by decide +kernel
theorem dX8_hit_195 : decode cX8_hit 195 = .ok (.iload_n 3, 1) := by decide +kernel
theorem dX8_hit_196 : decode cX8_hit 196 = .ok (.iaload, 1) := by decide +kernel
theorem dX8_hit_197 : decode cX8_hit 197 = .ok (.ldc 134, 2) := by decide +kernel
theorem dX8_hit_199 : decode cX8_hit 199 = .ok (.if_icmp .lt 8, 3) := by decide +kernel
theorem dX8_hit_202 : decode cX8_hit 202 = .ok (.bipush (-9), 2) := by decide +kernel
theorem dX8_hit_204 : decode cX8_hit 204 = .ok (.goto 9, 3) := by decide +kernel
theorem dX8_hit_207 : decode cX8_hit 207 = .ok (.aload_n 0, 1) := by decide +kernel
theorem dX8_hit_208 : decode cX8_hit 208 = .ok (.getfield 48, 3) := by decide +kernel
theorem dX8_hit_211 : decode cX8_hit 211 = .ok (.iload_n 3, 1) := by decide +kernel
theorem dX8_hit_212 : decode cX8_hit 212 = .ok (.iaload, 1) := by decide +kernel
theorem dX8_hit_213 : decode cX8_hit 213 = .ok (.ireturn, 1) := by decide +kernel
theorem dX8_hour_0 : decode cX8_hour 0 = .ok (.lload_n 0, 1) := by decide +kernel
theorem dX8_hour_1 : decode cX8_hour 1 = .ok (.iload_n 3, 1) := by decide +kernel
theorem dX8_hour_2 : decode cX8_hour 2 = .ok (.i2l, 1) := by decide +kernel
theorem dX8_hour_3 : decode cX8_hour 3 = .ok (.ladd, 1) := by decide +kernel
theorem dX8_hour_4 : decode cX8_hour 4 = .ok (.lstore 5, 2) := by decide +kernel
theorem dX8_hour_6 : decode cX8_hour 6 = .ok (.lload 5, 2) := by decide +kernel
theorem dX8_hour_8 : decode cX8_hour 8 = .ok (.lload 5, 2) := by decide +kernel
theorem dX8_hour_10 : decode cX8_hour 10 = .ok (.iload 4, 2) := by decide +kernel
theorem dX8_hour_12 : decode cX8_hour 12 = .ok (.i2l, 1) := by decide +kernel
theorem dX8_hour_13 : decode cX8_hour 13 = .ok (.lmul, 1) := by decide +kernel
theorem dX8_hour_14 : decode cX8_hour 14 = .ok (.iload_n 2, 1) := by decide +kernel
theorem dX8_hour_15 : decode cX8_hour 15 = .ok (.i2l, 1) := by decide +kernel
theorem dX8_hour_16 : decode cX8_hour 16 = .ok (.ladd, 1) := by decide +kernel
theorem dX8_hour_17 : decode cX8_hour 17 = .ok (.lconst 1, 1) := by decide +kernel
theorem dX8_hour_18 : decode cX8_hour 18 = .ok (.lsub, 1) := by decide +kernel
theorem dX8_hour_19 : decode cX8_hour 19 = .ok (.iload_n 2, 1) := by decide +kernel
theorem dX8_hour_20 : decode cX8_hour 20 = .ok (.i2l, 1) := by decide +kernel
theorem dX8_hour_21 : decode cX8_hour 21 = .ok (.ldiv, 1) := by decide +kernel
theorem dX8_hour_22 : decode cX8_hour 22 = .ok (.lsub, 1) := by decide +kernel
theorem dX8_hour_23 : decode cX8_hour 23 = .ok (.lreturn, 1) := by decide +kernel
theorem dX8_steady_0 : decode cX8_steady 0 = .ok (.aload_n 0, 1) := by decide +kernel
theorem dX8_steady_1 : decode cX8_steady 1 = .ok (.iconst 0, 1) := by decide +kernel
theorem dX8_steady_2 : decode cX8_steady 2 = .ok (.putfield 60, 3) := by decide +kernel
theorem dX8_steady_5 : decode cX8_steady 5 = .ok (.iload_n 1, 1) := by decide +kernel
theorem dX8_steady_6 : decode cX8_steady 6 = .ok (.i2l, 1) := by decide +kernel
theorem dX8_steady_7 : decode cX8_steady 7 = .ok (.lconst 1, 1) := by decide +kernel
theorem dX8_steady_8 : decode cX8_steady 8 = .ok (.ldc2_w 70, 3) := by decide +kernel
theorem dX8_steady_11 : decode cX8_steady 11 = .ok (.invokestatic 67, 3) := by decide +kernel
theorem dX8_steady_14 : decode cX8_steady 14 = .ok (.ifCond .eq 50, 3) := by decide +kernel
theorem dX8_steady_17 : decode cX8_steady 17 = .ok (.iload_n 2, 1) := by decide +kernel
theorem dX8_steady_18 : decode cX8_steady 18 = .ok (.i2l, 1) := by decide +kernel
theorem dX8_steady_19 : decode cX8_steady 19 = .ok (.lconst 0, 1) := by decide +kernel
theorem dX8_steady_20 : decode cX8_steady 20 = .ok (.ldc2_w 135, 3) := by decide +kernel
theorem dX8_steady_23 : decode cX8_steady 23 = .ok (.invokestatic 67, 3) := by decide +kernel
theorem dX8_steady_26 : decode cX8_steady 26 = .ok (.ifCond .eq 38, 3) := by decide +kernel
theorem dX8_steady_29 : decode cX8_steady 29 = .ok (.iload_n 3, 1) := by decide +kernel
theorem dX8_steady_30 : decode cX8_steady 30 = .ok (.i2l, 1) := by decide +kernel
theorem dX8_steady_31 : decode cX8_steady 31 = .ok (.lconst 0, 1) := by decide +kernel
theorem dX8_steady_32 : decode cX8_steady 32 = .ok (.ldc2_w 70, 3) := by decide +kernel
theorem dX8_steady_35 : decode cX8_steady 35 = .ok (.invokestatic 67, 3) := by decide +kernel
theorem dX8_steady_38 : decode cX8_steady 38 = .ok (.ifCond .eq 26, 3) := by decide +kernel
theorem dX8_steady_41 : decode cX8_steady 41 = .ok (.iload 4, 2) := by decide +kernel
theorem dX8_steady_43 : decode cX8_steady 43 = .ok (.i2l, 1) := by decide +kernel
theorem dX8_steady_44 : decode cX8_steady 44 = .ok (.lconst 0, 1) := by decide +kernel
theorem dX8_steady_45 : decode cX8_steady 45 = .ok (.iload_n 1, 1) := by decide +kernel
theorem dX8_steady_46 : decode cX8_steady 46 = .ok (.i2l, 1) := by decide +kernel
theorem dX8_steady_47 : decode cX8_steady 47 = .ok (.invokestatic 67, 3) := by decide +kernel
theorem dX8_steady_50 : decode cX8_steady 50 = .ok (.ifCond .eq 14, 3) := by decide +kernel
theorem dX8_steady_53 : decode cX8_steady 53 = .ok (.iload 5, 2) := by decide +kernel
theorem dX8_steady_55 : decode cX8_steady 55 = .ok (.i2l, 1) := by decide +kernel
theorem dX8_steady_56 : decode cX8_steady 56 = .ok (.lconst 0, 1) := by decide +kernel
theorem dX8_steady_57 : decode cX8_steady 57 = .ok (.lconst 1, 1) := by decide +kernel
theorem dX8_steady_58 : decode cX8_steady 58 = .ok (.invokestatic 67, 3) := by decide +kernel
theorem dX8_steady_61 : decode cX8_steady 61 = .ok (.ifCond .ne 5, 3) := by decide +kernel
theorem dX8_steady_64 : decode cX8_steady 64 = .ok (.iconst (-1), 1) := by decide +kernel
theorem dX8_steady_65 : decode cX8_steady 65 = .ok (.ireturn, 1) := by decide +kernel
theorem dX8_steady_66 : decode cX8_steady 66 = .ok (.iload_n 2, 1) := by decide +kernel
theorem dX8_steady_67 : decode cX8_steady 67 = .ok (.i2l, 1) := by decide +kernel
theorem dX8_steady_68 : decode cX8_steady 68 = .ok (.iload_n 1, 1) := by decide +kernel
theorem dX8_steady_69 : decode cX8_steady 69 = .ok (.iload_n 3, 1) := by decide +kernel
theorem dX8_steady_70 : decode cX8_steady 70 = .ok (.iload 4, 2) := by decide +kernel
theorem dX8_steady_72 : decode cX8_steady 72 = .ok (.invokestatic 137, 3) := by decide +kernel
theorem dX8_steady_75 : decode cX8_steady 75 = .ok (.lstore 6, 2) := by decide +kernel
theorem dX8_steady_77 : decode cX8_steady 77 = .ok (.iconst 1, 1) := by decide +kernel
theorem dX8_steady_78 : decode cX8_steady 78 = .ok (.istore 8, 2) := by decide +kernel
theorem dX8_steady_80 : decode cX8_steady 80 = .ok (.iload 8, 2) := by decide +kernel
theorem dX8_steady_82 : decode cX8_steady 82 = .ok (.sipush 5000, 3) := by decide +kernel
theorem dX8_steady_85 : decode cX8_steady 85 = .ok (.if_icmp .gt 46, 3) := by decide +kernel
theorem dX8_steady_88 : decode cX8_steady 88 = .ok (.lload 6, 2) := by decide +kernel
theorem dX8_steady_90 : decode cX8_steady 90 = .ok (.iload_n 1, 1) := by decide +kernel
theorem dX8_steady_91 : decode cX8_steady 91 = .ok (.iload_n 3, 1) := by decide +kernel
theorem dX8_steady_92 : decode cX8_steady 92 = .ok (.iload 4, 2) := by decide +kernel
theorem dX8_steady_94 : decode cX8_steady 94 = .ok (.invokestatic 137, 3) := by decide +kernel
theorem dX8_steady_97 : decode cX8_steady 97 = .ok (.lstore 9, 2) := by decide +kernel
theorem dX8_steady_99 : decode cX8_steady 99 = .ok (.lload 9, 2) := by decide +kernel
theorem dX8_steady_101 : decode cX8_steady 101 = .ok (.lload 6, 2) := by decide +kernel
theorem dX8_steady_103 : decode cX8_steady 103 = .ok (.lcmp, 1) := by decide +kernel
theorem dX8_steady_104 : decode cX8_steady 104 = .ok (.ifCond .ne 17, 3) := by decide +kernel
theorem dX8_steady_107 : decode cX8_steady 107 = .ok (.iload 5, 2) := by decide +kernel
theorem dX8_steady_109 : decode cX8_steady 109 = .ok (.ifCond .ne 8, 3) := by decide +kernel
theorem dX8_steady_112 : decode cX8_steady 112 = .ok (.iload 8, 2) := by decide +kernel
theorem dX8_steady_114 : decode cX8_steady 114 = .ok (.goto 6, 3) := by decide +kernel
theorem dX8_steady_117 : decode cX8_steady 117 = .ok (.lload 6, 2) := by decide +kernel
theorem dX8_steady_119 : decode cX8_steady 119 = .ok (.l2i, 1) := by decide +kernel
theorem dX8_steady_120 : decode cX8_steady 120 = .ok (.ireturn, 1) := by decide +kernel
theorem dX8_steady_121 : decode cX8_steady 121 = .ok (.lload 9, 2) := by decide +kernel
theorem dX8_steady_123 : decode cX8_steady 123 = .ok (.lstore 6, 2) := by decide +kernel
theorem dX8_steady_125 : decode cX8_steady 125 = .ok (.iinc 8 1, 3) := by decide +kernel
theorem dX8_steady_128 : decode cX8_steady 128 = .ok (.goto (-48), 3) := by decide +kernel
theorem dX8_steady_131 : decode cX8_steady 131 = .ok (.bipush (-9), 2) := by decide +kernel
theorem dX8_steady_133 : decode cX8_steady 133 = .ok (.ireturn, 1) := by decide +kernel
theorem dX8_store_0 : decode cX8_store 0 = .ok (.aload_n 0, 1) := by decide +kernel
theorem dX8_store_1 : decode cX8_store 1 = .ok (.iconst 0, 1) := by decide +kernel
theorem dX8_store_2 : decode cX8_store 2 = .ok (.putfield 60, 3) := by decide +kernel
theorem dX8_store_5 : decode cX8_store 5 = .ok (.iload_n 1, 1) := by decide +kernel
theorem dX8_store_6 : decode cX8_store 6 = .ok (.i2l, 1) := by decide +kernel
theorem dX8_store_7 : decode cX8_store 7 = .ok (.lconst 0, 1) := by decide +kernel
theorem dX8_store_8 : decode cX8_store 8 = .ok (.ldc2_w 141, 3) := by decide +kernel
theorem dX8_store_11 : decode cX8_store 11 = .ok (.invokestatic 67, 3) := by decide +kernel
theorem dX8_store_14 : decode cX8_store 14 = .ok (.ifCond .eq 25, 3) := by decide +kernel
theorem dX8_store_17 : decode cX8_store 17 = .ok (.iload_n 2, 1) := by decide +kernel
theorem dX8_store_18 : decode cX8_store 18 = .ok (.i2l, 1) := by decide +kernel
theorem dX8_store_19 : decode cX8_store 19 = .ok (.lconst 0, 1) := by decide +kernel
theorem dX8_store_20 : decode cX8_store 20 = .ok (.lconst 1, 1) := by decide +kernel
theorem dX8_store_21 : decode cX8_store 21 = .ok (.invokestatic 67, 3) := by decide +kernel
theorem dX8_store_24 : decode cX8_store 24 = .ok (.ifCond .eq 15, 3) := by decide +kernel
theorem dX8_store_27 : decode cX8_store 27 = .ok (.iload_n 3, 1) := by decide +kernel
theorem dX8_store_28 : decode cX8_store 28 = .ok (.i2l, 1) := by decide +kernel
theorem dX8_store_29 : decode cX8_store 29 = .ok (.lconst 0, 1) := by decide +kernel
theorem dX8_store_30 : decode cX8_store 30 = .ok (.ldc2_w 74, 3) := by decide +kernel
theorem dX8_store_33 : decode cX8_store 33 = .ok (.invokestatic 67, 3) := by decide +kernel
theorem dX8_store_36 : decode cX8_store 36 = .ok (.ifCond .ne 5, 3) := by decide +kernel
theorem dX8_store_39 : decode cX8_store 39 = .ok (.iconst (-1), 1) := by decide +kernel
theorem dX8_store_40 : decode cX8_store 40 = .ok (.ireturn, 1) := by decide +kernel
theorem dX8_store_41 : decode cX8_store 41 = .ok (.aload_n 0, 1) := by decide +kernel
theorem dX8_store_42 : decode cX8_store 42 = .ok (.getfield 51, 3) := by decide +kernel
theorem dX8_store_45 : decode cX8_store 45 = .ok (.iconst 2, 1) := by decide +kernel
theorem dX8_store_46 : decode cX8_store 46 = .ok (.iload_n 1, 1) := by decide +kernel
theorem dX8_store_47 : decode cX8_store 47 = .ok (.imul, 1) := by decide +kernel
theorem dX8_store_48 : decode cX8_store 48 = .ok (.iload_n 2, 1) := by decide +kernel
theorem dX8_store_49 : decode cX8_store 49 = .ok (.iadd, 1) := by decide +kernel
theorem dX8_store_50 : decode cX8_store 50 = .ok (.iaload, 1) := by decide +kernel
theorem dX8_store_51 : decode cX8_store 51 = .ok (.istore 4, 2) := by decide +kernel
theorem dX8_store_53 : decode cX8_store 53 = .ok (.aload_n 0, 1) := by decide +kernel
theorem dX8_store_54 : decode cX8_store 54 = .ok (.getfield 51, 3) := by decide +kernel
theorem dX8_store_57 : decode cX8_store 57 = .ok (.iconst 2, 1) := by decide +kernel
theorem dX8_store_58 : decode cX8_store 58 = .ok (.iload_n 1, 1) := by decide +kernel
theorem dX8_store_59 : decode cX8_store 59 = .ok (.imul, 1) := by decide +kernel
theorem dX8_store_60 : decode cX8_store 60 = .ok (.iload_n 2, 1) := by decide +kernel
theorem dX8_store_61 : decode cX8_store 61 = .ok (.iadd, 1) := by decide +kernel
theorem dX8_store_62 : decode cX8_store 62 = .ok (.iload_n 3, 1) := by decide +kernel
theorem dX8_store_63 : decode cX8_store 63 = .ok (.iastore, 1) := by decide +kernel
theorem dX8_store_64 : decode cX8_store 64 = .ok (.iload 4, 2) := by decide +kernel
theorem dX8_store_66 : decode cX8_store 66 = .ok (.ireturn, 1) := by decide +kernel
theorem dX8_room_0 : decode cX8_room 0 = .ok (.aload_n 0, 1) := by decide +kernel
theorem dX8_room_1 : decode cX8_room 1 = .ok (.iconst 0, 1) := by decide +kernel
theorem dX8_room_2 : decode cX8_room 2 = .ok (.putfield 60, 3) := by decide +kernel
theorem dX8_room_5 : decode cX8_room 5 = .ok (.iload_n 1, 1) := by decide +kernel
theorem dX8_room_6 : decode cX8_room 6 = .ok (.i2l, 1) := by decide +kernel
theorem dX8_room_7 : decode cX8_room 7 = .ok (.lconst 0, 1) := by decide +kernel
theorem dX8_room_8 : decode cX8_room 8 = .ok (.lconst 1, 1) := by decide +kernel
theorem dX8_room_9 : decode cX8_room 9 = .ok (.invokestatic 67, 3) := by decide +kernel
theorem dX8_room_12 : decode cX8_room 12 = .ok (.ifCond .ne 5, 3) := by decide +kernel
theorem dX8_room_15 : decode cX8_room 15 = .ok (.iconst (-1), 1) := by decide +kernel
theorem dX8_room_16 : decode cX8_room 16 = .ok (.ireturn, 1) := by decide +kernel
theorem dX8_room_17 : decode cX8_room 17 = .ok (.iconst 0, 1) := by decide +kernel
theorem dX8_room_18 : decode cX8_room 18 = .ok (.istore_n 2, 1) := by decide +kernel
theorem dX8_room_19 : decode cX8_room 19 = .ok (.iconst 0, 1) := by decide +kernel
theorem dX8_room_20 : decode cX8_room 20 = .ok (.istore_n 3, 1) := by decide +kernel
theorem dX8_room_21 : decode cX8_room 21 = .ok (.iconst 0, 1) := by decide +kernel
theorem dX8_room_22 : decode cX8_room 22 = .ok (.istore 4, 2) := by decide +kernel
theorem dX8_room_24 : decode cX8_room 24 = .ok (.iconst 0, 1) := by decide +kernel
theorem dX8_room_25 : decode cX8_room 25 = .ok (.istore 5, 2) := by decide +kernel
theorem dX8_room_27 : decode cX8_room 27 = .ok (.iload 5, 2) := by decide +kernel
theorem dX8_room_29 : decode cX8_room 29 = .ok (.bipush 24, 2) := by decide +kernel
theorem dX8_room_31 : decode cX8_room 31 = .ok (.if_icmp .ge 60, 3) := by decide +kernel
theorem dX8_room_34 : decode cX8_room 34 = .ok (.iload_n 2, 1) := by decide +kernel
theorem dX8_room_35 : decode cX8_room 35 = .ok (.aload_n 0, 1) := by decide +kernel
theorem dX8_room_36 : decode cX8_room 36 = .ok (.getfield 51, 3) := by decide +kernel
theorem dX8_room_39 : decode cX8_room 39 = .ok (.iconst 2, 1) := by decide +kernel
theorem dX8_room_40 : decode cX8_room 40 = .ok (.iload 5, 2) := by decide +kernel
theorem dX8_room_42 : decode cX8_room 42 = .ok (.imul, 1) := by decide +kernel
theorem dX8_room_43 : decode cX8_room 43 = .ok (.iaload, 1) := by decide +kernel
theorem dX8_room_44 : decode cX8_room 44 = .ok (.iadd, 1) := by decide +kernel
theorem dX8_room_45 : decode cX8_room 45 = .ok (.istore_n 2, 1) := by decide +kernel
theorem dX8_room_46 : decode cX8_room 46 = .ok (.iload_n 2, 1) := by decide +kernel
theorem dX8_room_47 : decode cX8_room 47 = .ok (.iload 4, 2) := by decide +kernel
theorem dX8_room_49 : decode cX8_room 49 = .ok (.if_icmp .le 7, 3) := by decide +kernel
theorem dX8_room_52 : decode cX8_room 52 = .ok (.iload_n 2, 1) := by decide +kernel
theorem dX8_room_53 : decode cX8_room 53 = .ok (.goto 5, 3) := by decide +kernel
theorem dX8_room_56 : decode cX8_room 56 = .ok (.iload 4, 2) := by decide +kernel
theorem dX8_room_58 : decode cX8_room 58 = .ok (.istore 4, 2) := by decide +kernel
theorem dX8_room_60 : decode cX8_room 60 = .ok (.iload_n 2, 1) := by decide +kernel
theorem dX8_room_61 : decode cX8_room 61 = .ok (.aload_n 0, 1) := by decide +kernel
theorem dX8_room_62 : decode cX8_room 62 = .ok (.getfield 51, 3) := by decide +kernel
theorem dX8_room_65 : decode cX8_room 65 = .ok (.iconst 2, 1) := by decide +kernel
theorem dX8_room_66 : decode cX8_room 66 = .ok (.iload 5, 2) := by decide +kernel
theorem dX8_room_68 : decode cX8_room 68 = .ok (.imul, 1) := by decide +kernel
theorem dX8_room_69 : decode cX8_room 69 = .ok (.iconst 1, 1) := by decide +kernel
theorem dX8_room_70 : decode cX8_room 70 = .ok (.iadd, 1) := by decide +kernel
theorem dX8_room_71 : decode cX8_room 71 = .ok (.iaload, 1) := by decide +kernel
theorem dX8_room_72 : decode cX8_room 72 = .ok (.isub, 1) := by decide +kernel
theorem dX8_room_73 : decode cX8_room 73 = .ok (.istore_n 2, 1) := by decide +kernel
theorem dX8_room_74 : decode cX8_room 74 = .ok (.iload_n 2, 1) := by decide +kernel
theorem dX8_room_75 : decode cX8_room 75 = .ok (.iload_n 3, 1) := by decide +kernel
theorem dX8_room_76 : decode cX8_room 76 = .ok (.if_icmp .ge 7, 3) := by decide +kernel
theorem dX8_room_79 : decode cX8_room 79 = .ok (.iload_n 2, 1) := by decide +kernel
theorem dX8_room_80 : decode cX8_room 80 = .ok (.goto 4, 3) := by decide +kernel
theorem dX8_room_83 : decode cX8_room 83 = .ok (.iload_n 3, 1) := by decide +kernel
theorem dX8_room_84 : decode cX8_room 84 = .ok (.istore_n 3, 1) := by decide +kernel
theorem dX8_room_85 : decode cX8_room 85 = .ok (.iinc 5 1, 3) := by decide +kernel
theorem dX8_room_88 : decode cX8_room 88 = .ok (.goto (-61), 3) := by decide +kernel
theorem dX8_room_91 : decode cX8_room 91 = .ok (.iload_n 1, 1) := by decide +kernel
theorem dX8_room_92 : decode cX8_room 92 = .ok (.ifCond .ne 8, 3) := by decide +kernel
theorem dX8_room_95 : decode cX8_room 95 = .ok (.iload_n 3, 1) := by decide +kernel
theorem dX8_room_96 : decode cX8_room 96 = .ok (.ineg, 1) := by decide +kernel
theorem dX8_room_97 : decode cX8_room 97 = .ok (.goto 7, 3) := by decide +kernel
theorem dX8_room_100 : decode cX8_room 100 = .ok (.iload 4, 2) := by decide +kernel
theorem dX8_room_102 : decode cX8_room 102 = .ok (.iload_n 3, 1) := by decide +kernel
theorem dX8_room_103 : decode cX8_room 103 = .ok (.isub, 1) := by decide +kernel
theorem dX8_room_104 : decode cX8_room 104 = .ok (.ireturn, 1) := by decide +kernel
theorem dX8_meter_0 : decode cX8_meter 0 = .ok (.aload_n 0, 1) := by decide +kernel
theorem dX8_meter_1 : decode cX8_meter 1 = .ok (.iconst 0, 1) := by decide +kernel
theorem dX8_meter_2 : decode cX8_meter 2 = .ok (.putfield 60, 3) := by decide +kernel
theorem dX8_meter_5 : decode cX8_meter 5 = .ok (.iload_n 1, 1) := by decide +kernel
theorem dX8_meter_6 : decode cX8_meter 6 = .ok (.iconst 1, 1) := by decide +kernel
theorem dX8_meter_7 : decode cX8_meter 7 = .ok (.if_icmp .eq 10, 3) := by decide +kernel
theorem dX8_meter_10 : decode cX8_meter 10 = .ok (.iload_n 1, 1) := by decide +kernel
theorem dX8_meter_11 : decode cX8_meter 11 = .ok (.iconst (-1), 1) := by decide +kernel
theorem dX8_meter_12 : decode cX8_meter 12 = .ok (.if_icmp .eq 5, 3) := by decide +kernel
theorem dX8_meter_15 : decode cX8_meter 15 = .ok (.iconst (-1), 1) := by decide +kernel
theorem dX8_meter_16 : decode cX8_meter 16 = .ok (.ireturn, 1) := by decide +kernel
theorem dX8_meter_17 : decode cX8_meter 17 = .ok (.aload_n 0, 1) := by decide +kernel
theorem dX8_meter_18 : decode cX8_meter 18 = .ok (.getfield 143, 3) := by decide +kernel
theorem dX8_meter_21 : decode cX8_meter 21 = .ok (.bipush 8, 2) := by decide +kernel
theorem dX8_meter_23 : decode cX8_meter 23 = .ok (.if_icmp .ne 6, 3) := by decide +kernel
theorem dX8_meter_26 : decode cX8_meter 26 = .ok (.bipush (-3), 2) := by decide +kernel
theorem dX8_meter_28 : decode cX8_meter 28 = .ok (.ireturn, 1) := by decide +kernel
theorem dX8_meter_29 : decode cX8_meter 29 = .ok (.aload_n 0, 1) := by decide +kernel
theorem dX8_meter_30 : decode cX8_meter 30 = .ok (.getfield 54, 3) := by decide +kernel
theorem dX8_meter_33 : decode cX8_meter 33 = .ok (.aload_n 0, 1) := by decide +kernel
theorem dX8_meter_34 : decode cX8_meter 34 = .ok (.getfield 143, 3) := by decide +kernel
theorem dX8_meter_37 : decode cX8_meter 37 = .ok (.iload_n 1, 1) := by decide +kernel
theorem dX8_meter_38 : decode cX8_meter 38 = .ok (.iastore, 1) := by decide +kernel
theorem dX8_meter_39 : decode cX8_meter 39 = .ok (.aload_n 0, 1) := by decide +kernel
theorem dX8_meter_40 : decode cX8_meter 40 = .ok (.getfield 57, 3) := by decide +kernel
theorem dX8_meter_43 : decode cX8_meter 43 = .ok (.aload_n 0, 1) := by decide +kernel
theorem dX8_meter_44 : decode cX8_meter 44 = .ok (.getfield 143, 3) := by decide +kernel
theorem dX8_meter_47 : decode cX8_meter 47 = .ok (.bipush (-9), 2) := by decide +kernel
theorem dX8_meter_49 : decode cX8_meter 49 = .ok (.iastore, 1) := by decide +kernel
theorem dX8_meter_50 : decode cX8_meter 50 = .ok (.aload_n 0, 1) := by decide +kernel
theorem dX8_meter_51 : decode cX8_meter 51 = .ok (.dup, 1) := by decide +kernel
theorem dX8_meter_52 : decode cX8_meter 52 = .ok (.getfield 143, 3) := by decide +kernel
theorem dX8_meter_55 : decode cX8_meter 55 = .ok (.iconst 1, 1) := by decide +kernel
theorem dX8_meter_56 : decode cX8_meter 56 = .ok (.iadd, 1) := by decide +kernel
theorem dX8_meter_57 : decode cX8_meter 57 = .ok (.putfield 143, 3) := by decide +kernel
theorem dX8_meter_60 : decode cX8_meter 60 = .ok (.aload_n 0, 1) := by decide +kernel
theorem dX8_meter_61 : decode cX8_meter 61 = .ok (.getfield 143, 3) := by decide +kernel
theorem dX8_meter_64 : decode cX8_meter 64 = .ok (.iconst 1, 1) := by decide +kernel
theorem dX8_meter_65 : decode cX8_meter 65 = .ok (.isub, 1) := by decide +kernel
theorem dX8_meter_66 : decode cX8_meter 66 = .ok (.ireturn, 1) := by decide +kernel
theorem dX8_isMeter_0 : decode cX8_isMeter 0 = .ok (.iload_n 1, 1) := by decide +kernel
theorem dX8_isMeter_1 : decode cX8_isMeter 1 = .ok (.i2l, 1) := by decide +kernel
theorem dX8_isMeter_2 : decode cX8_isMeter 2 = .ok (.lconst 0, 1) := by decide +kernel
theorem dX8_isMeter_3 : decode cX8_isMeter 3 = .ok (.aload_n 0, 1) := by decide +kernel
theorem dX8_isMeter_4 : decode cX8_isMeter 4 = .ok (.getfield 143, 3) := by decide +kernel
theorem dX8_isMeter_7 : decode cX8_isMeter 7 = .ok (.iconst 1, 1) := by decide +kernel
theorem dX8_isMeter_8 : decode cX8_isMeter 8 = .ok (.isub, 1) := by decide +kernel
theorem dX8_isMeter_9 : decode cX8_isMeter 9 = .ok (.i2l, 1) := by decide +kernel
theorem dX8_isMeter_10 : decode cX8_isMeter 10 = .ok (.invokestatic 67, 3) := by decide +kernel
theorem dX8_isMeter_13 : decode cX8_isMeter 13 = .ok (.ireturn, 1) := by decide +kernel
theorem dX8_read_0 : decode cX8_read 0 = .ok (.aload_n 0, 1) := by decide +kernel
theorem dX8_read_1 : decode cX8_read 1 = .ok (.iconst 0, 1) := by decide +kernel
theorem dX8_read_2 : decode cX8_read 2 = .ok (.putfield 60, 3) := by decide +kernel
theorem dX8_read_5 : decode cX8_read 5 = .ok (.aload_n 0, 1) := by decide +kernel
theorem dX8_read_6 : decode cX8_read 6 = .ok (.iload_n 1, 1) := by decide +kernel
theorem dX8_read_7 : decode cX8_read 7 = .ok (.invokevirtual 146, 3) := by decide +kernel
theorem dX8_read_10 : decode cX8_read 10 = .ok (.ifCond .eq 21, 3) := by decide +kernel
theorem dX8_read_13 : decode cX8_read 13 = .ok (.iload_n 2, 1) := by decide +kernel
theorem dX8_read_14 : decode cX8_read 14 = .ok (.bipush (-9), 2) := by decide +kernel
theorem dX8_read_16 : decode cX8_read 16 = .ok (.if_icmp .eq 17, 3) := by decide +kernel
theorem dX8_read_19 : decode cX8_read 19 = .ok (.iload_n 2, 1) := by decide +kernel
theorem dX8_read_20 : decode cX8_read 20 = .ok (.i2l, 1) := by decide +kernel
theorem dX8_read_21 : decode cX8_read 21 = .ok (.lconst 0, 1) := by decide +kernel
theorem dX8_read_22 : decode cX8_read 22 = .ok (.ldc2_w 149, 3) := by decide +kernel
theorem dX8_read_25 : decode cX8_read 25 = .ok (.invokestatic 67, 3) := by decide +kernel
theorem dX8_read_28 : decode cX8_read 28 = .ok (.ifCond .ne 5, 3) := by decide +kernel
theorem dX8_read_31 : decode cX8_read 31 = .ok (.iconst (-1), 1) := by decide +kernel
theorem dX8_read_32 : decode cX8_read 32 = .ok (.ireturn, 1) := by decide +kernel
theorem dX8_read_33 : decode cX8_read 33 = .ok (.aload_n 0, 1) := by decide +kernel
theorem dX8_read_34 : decode cX8_read 34 = .ok (.getfield 57, 3) := by decide +kernel
theorem dX8_read_37 : decode cX8_read 37 = .ok (.iload_n 1, 1) := by decide +kernel
theorem dX8_read_38 : decode cX8_read 38 = .ok (.iaload, 1) := by decide +kernel
theorem dX8_read_39 : decode cX8_read 39 = .ok (.istore_n 3, 1) := by decide +kernel
theorem dX8_read_40 : decode cX8_read 40 = .ok (.aload_n 0, 1) := by decide +kernel
theorem dX8_read_41 : decode cX8_read 41 = .ok (.getfield 57, 3) := by decide +kernel
theorem dX8_read_44 : decode cX8_read 44 = .ok (.iload_n 1, 1) := by decide +kernel
theorem dX8_read_45 : decode cX8_read 45 = .ok (.iload_n 2, 1) := by decide +kernel
theorem dX8_read_46 : decode cX8_read 46 = .ok (.iastore, 1) := by decide +kernel
theorem dX8_read_47 : decode cX8_read 47 = .ok (.iload_n 3, 1) := by decide +kernel
theorem dX8_read_48 : decode cX8_read 48 = .ok (.ireturn, 1) := by decide +kernel
theorem dX8_missing_0 : decode cX8_missing 0 = .ok (.iconst 0, 1) := by decide +kernel
theorem dX8_missing_1 : decode cX8_missing 1 = .ok (.istore_n 1, 1) := by decide +kernel
theorem dX8_missing_2 : decode cX8_missing 2 = .ok (.iconst 0, 1) := by decide +kernel
theorem dX8_missing_3 : decode cX8_missing 3 = .ok (.istore_n 2, 1) := by decide +kernel
theorem dX8_missing_4 : decode cX8_missing 4 = .ok (.iload_n 2, 1) := by decide +kernel
theorem dX8_missing_5 : decode cX8_missing 5 = .ok (.aload_n 0, 1) := by decide +kernel
theorem dX8_missing_6 : decode cX8_missing 6 = .ok (.getfield 143, 3) := by decide +kernel
theorem dX8_missing_9 : decode cX8_missing 9 = .ok (.if_icmp .ge 28, 3) := by decide +kernel
theorem dX8_missing_12 : decode cX8_missing 12 = .ok (.iload_n 1, 1) := by decide +kernel
theorem dX8_missing_13 : decode cX8_missing 13 = .ok (.aload_n 0, 1) := by decide +kernel
theorem dX8_missing_14 : decode cX8_missing 14 = .ok (.getfield 57, 3) := by decide +kernel
theorem dX8_missing_17 : decode cX8_missing 17 = .ok (.iload_n 2, 1) := by decide +kernel
theorem dX8_missing_18 : decode cX8_missing 18 = .ok (.iaload, 1) := by decide +kernel
theorem dX8_missing_19 : decode cX8_missing 19 = .ok (.bipush (-9), 2) := by decide +kernel
theorem dX8_missing_21 : decode cX8_missing 21 = .ok (.if_icmp .ne 7, 3) := by decide +kernel
theorem dX8_missing_24 : decode cX8_missing 24 = .ok (.iconst 1, 1) := by decide +kernel
theorem dX8_missing_25 : decode cX8_missing 25 = .ok (.goto 4, 3) := by decide +kernel
theorem dX8_missing_28 : decode cX8_missing 28 = .ok (.iconst 0, 1) := by decide +kernel
theorem dX8_missing_29 : decode cX8_missing 29 = .ok (.iadd, 1) := by decide +kernel
theorem dX8_missing_30 : decode cX8_missing 30 = .ok (.istore_n 1, 1) := by decide +kernel
theorem dX8_missing_31 : decode cX8_missing 31 = .ok (.iinc 2 1, 3) := by decide +kernel
theorem dX8_missing_34 : decode cX8_missing 34 = .ok (.goto (-30), 3) := by decide +kernel
theorem dX8_missing_37 : decode cX8_missing 37 = .ok (.iload_n 1, 1) := by decide +kernel
theorem dX8_missing_38 : decode cX8_missing 38 = .ok (.ireturn, 1) := by decide +kernel
theorem dX8_gapOf_0 : decode cX8_gapOf 0 = .ok (.lconst 0, 1) := by decide +kernel
theorem dX8_gapOf_1 : decode cX8_gapOf 1 = .ok (.lstore_n 1, 1) := by decide +kernel
theorem dX8_gapOf_2 : decode cX8_gapOf 2 = .ok (.iconst 0, 1) := by decide +kernel
theorem dX8_gapOf_3 : decode cX8_gapOf 3 = .ok (.istore_n 3, 1) := by decide +kernel
theorem dX8_gapOf_4 : decode cX8_gapOf 4 = .ok (.iload_n 3, 1) := by decide +kernel
theorem dX8_gapOf_5 : decode cX8_gapOf 5 = .ok (.aload_n 0, 1) := by decide +kernel
theorem dX8_gapOf_6 : decode cX8_gapOf 6 = .ok (.getfield 143, 3) := by decide +kernel
theorem dX8_gapOf_9 : decode cX8_gapOf 9 = .ok (.if_icmp .ge 41, 3) := by decide +kernel
theorem dX8_gapOf_12 : decode cX8_gapOf 12 = .ok (.lload_n 1, 1) := by decide +kernel
theorem dX8_gapOf_13 : decode cX8_gapOf 13 = .ok (.aload_n 0, 1) := by decide +kernel
theorem dX8_gapOf_14 : decode cX8_gapOf 14 = .ok (.getfield 57, 3) := by decide +kernel
theorem dX8_gapOf_17 : decode cX8_gapOf 17 = .ok (.iload_n 3, 1) := by decide +kernel
theorem dX8_gapOf_18 : decode cX8_gapOf 18 = .ok (.iaload, 1) := by decide +kernel
theorem dX8_gapOf_19 : decode cX8_gapOf 19 = .ok (.bipush (-9), 2) := by decide +kernel
theorem dX8_gapOf_21 : decode cX8_gapOf 21 = .ok (.if_icmp .ne 7, 3) := by decide +kernel
theorem dX8_gapOf_24 : decode cX8_gapOf 24 = .ok (.lconst 0, 1) := by decide +kernel
theorem dX8_gapOf_25 : decode cX8_gapOf 25 = .ok (.goto 17, 3) := by decide +kernel
theorem dX8_gapOf_28 : decode cX8_gapOf 28 = .ok (.aload_n 0, 1) := by decide +kernel
theorem dX8_gapOf_29 : decode cX8_gapOf 29 = .ok (.getfield 54, 3) := by decide +kernel
theorem dX8_gapOf_32 : decode cX8_gapOf 32 = .ok (.iload_n 3, 1) := by decide +kernel
theorem dX8_gapOf_33 : decode cX8_gapOf 33 = .ok (.iaload, 1) := by decide +kernel
theorem dX8_gapOf_34 : decode cX8_gapOf 34 = .ok (.aload_n 0, 1) := by decide +kernel
theorem dX8_gapOf_35 : decode cX8_gapOf 35 = .ok (.getfield 57, 3) := by decide +kernel
theorem dX8_gapOf_38 : decode cX8_gapOf 38 = .ok (.iload_n 3, 1) := by decide +kernel
theorem dX8_gapOf_39 : decode cX8_gapOf 39 = .ok (.iaload, 1) := by decide +kernel
theorem dX8_gapOf_40 : decode cX8_gapOf 40 = .ok (.imul, 1) := by decide +kernel
theorem dX8_gapOf_41 : decode cX8_gapOf 41 = .ok (.i2l, 1) := by decide +kernel
theorem dX8_gapOf_42 : decode cX8_gapOf 42 = .ok (.ladd, 1) := by decide +kernel
theorem dX8_gapOf_43 : decode cX8_gapOf 43 = .ok (.lstore_n 1, 1) := by decide +kernel
theorem dX8_gapOf_44 : decode cX8_gapOf 44 = .ok (.iinc 3 1, 3) := by decide +kernel
theorem dX8_gapOf_47 : decode cX8_gapOf 47 = .ok (.goto (-43), 3) := by decide +kernel
theorem dX8_gapOf_50 : decode cX8_gapOf 50 = .ok (.lload_n 1, 1) := by decide +kernel
theorem dX8_gapOf_51 : decode cX8_gapOf 51 = .ok (.lreturn, 1) := by decide +kernel
theorem dX8_gap_0 : decode cX8_gap 0 = .ok (.aload_n 0, 1) := by decide +kernel
theorem dX8_gap_1 : decode cX8_gap 1 = .ok (.iconst 0, 1) := by decide +kernel
theorem dX8_gap_2 : decode cX8_gap 2 = .ok (.putfield 60, 3) := by decide +kernel
theorem dX8_gap_5 : decode cX8_gap 5 = .ok (.iload_n 1, 1) := by decide +kernel
theorem dX8_gap_6 : decode cX8_gap 6 = .ok (.i2l, 1) := by decide +kernel
theorem dX8_gap_7 : decode cX8_gap 7 = .ok (.lconst 0, 1) := by decide +kernel
theorem dX8_gap_8 : decode cX8_gap 8 = .ok (.ldc2_w 151, 3) := by decide +kernel
theorem dX8_gap_11 : decode cX8_gap 11 = .ok (.invokestatic 67, 3) := by decide +kernel
theorem dX8_gap_14 : decode cX8_gap 14 = .ok (.ifCond .ne 7, 3) := by decide +kernel
theorem dX8_gap_17 : decode cX8_gap 17 = .ok (.ldc2_w 153, 3) := by decide +kernel
theorem dX8_gap_20 : decode cX8_gap 20 = .ok (.lreturn, 1) := by decide +kernel
theorem dX8_gap_21 : decode cX8_gap 21 = .ok (.bipush (-9), 2) := by decide +kernel
theorem dX8_gap_23 : decode cX8_gap 23 = .ok (.istore_n 2, 1) := by decide +kernel
theorem dX8_gap_24 : decode cX8_gap 24 = .ok (.iconst 0, 1) := by decide +kernel
theorem dX8_gap_25 : decode cX8_gap 25 = .ok (.istore_n 3, 1) := by decide +kernel
theorem dX8_gap_26 : decode cX8_gap 26 = .ok (.iload_n 3, 1) := by decide +kernel
theorem dX8_gap_27 : decode cX8_gap 27 = .ok (.aload_n 0, 1) := by decide +kernel
theorem dX8_gap_28 : decode cX8_gap 28 = .ok (.getfield 143, 3) := by decide +kernel
theorem dX8_gap_31 : decode cX8_gap 31 = .ok (.if_icmp .ge 34, 3) := by decide +kernel
theorem dX8_gap_34 : decode cX8_gap 34 = .ok (.aload_n 0, 1) := by decide +kernel
theorem dX8_gap_35 : decode cX8_gap 35 = .ok (.invokevirtual 155, 3) := by decide +kernel
theorem dX8_gap_38 : decode cX8_gap 38 = .ok (.iconst 1, 1) := by decide +kernel
theorem dX8_gap_39 : decode cX8_gap 39 = .ok (.if_icmp .ne 26, 3) := by decide +kernel
theorem dX8_gap_42 : decode cX8_gap 42 = .ok (.aload_n 0, 1) := by decide +kernel
theorem dX8_gap_43 : decode cX8_gap 43 = .ok (.getfield 57, 3) := by decide +kernel
theorem dX8_gap_46 : decode cX8_gap 46 = .ok (.iload_n 3, 1) := by decide +kernel
theorem dX8_gap_47 : decode cX8_gap 47 = .ok (.iaload, 1) := by decide +kernel
theorem dX8_gap_48 : decode cX8_gap 48 = .ok (.bipush (-9), 2) := by decide +kernel
theorem dX8_gap_50 : decode cX8_gap 50 = .ok (.if_icmp .ne 7, 3) := by decide +kernel
theorem dX8_gap_53 : decode cX8_gap 53 = .ok (.iload_n 3, 1) := by decide +kernel
theorem dX8_gap_54 : decode cX8_gap 54 = .ok (.goto 4, 3) := by decide +kernel
theorem dX8_gap_57 : decode cX8_gap 57 = .ok (.iload_n 2, 1) := by decide +kernel
theorem dX8_gap_58 : decode cX8_gap 58 = .ok (.istore_n 2, 1) := by decide +kernel
theorem dX8_gap_59 : decode cX8_gap 59 = .ok (.iinc 3 1, 3) := by decide +kernel
theorem dX8_gap_62 : decode cX8_gap 62 = .ok (.goto (-36), 3) := by decide +kernel
theorem dX8_gap_65 : decode cX8_gap 65 = .ok (.iload_n 1, 1) := by decide +kernel
theorem dX8_gap_66 : decode cX8_gap 66 = .ok (.ifCond .ne 10, 3) := by decide +kernel
theorem dX8_gap_69 : decode cX8_gap 69 = .ok (.aload_n 0, 1) := by decide +kernel
theorem dX8_gap_70 : decode cX8_gap 70 = .ok (.invokevirtual 158, 3) := by decide +kernel
theorem dX8_gap_73 : decode cX8_gap 73 = .ok (.goto 51, 3) := by decide +kernel
theorem dX8_gap_76 : decode cX8_gap 76 = .ok (.iload_n 1, 1) := by decide +kernel
theorem dX8_gap_77 : decode cX8_gap 77 = .ok (.iconst 1, 1) := by decide +kernel
theorem dX8_gap_78 : decode cX8_gap 78 = .ok (.if_icmp .ne 11, 3) := by decide +kernel
theorem dX8_gap_81 : decode cX8_gap 81 = .ok (.aload_n 0, 1) := by decide +kernel
theorem dX8_gap_82 : decode cX8_gap 82 = .ok (.invokevirtual 155, 3) := by decide +kernel
theorem dX8_gap_85 : decode cX8_gap 85 = .ok (.i2l, 1) := by decide +kernel
theorem dX8_gap_86 : decode cX8_gap 86 = .ok (.goto 38, 3) := by decide +kernel
theorem dX8_gap_89 : decode cX8_gap 89 = .ok (.iload_n 1, 1) := by decide +kernel
theorem dX8_gap_90 : decode cX8_gap 90 = .ok (.iconst 2, 1) := by decide +kernel
theorem dX8_gap_91 : decode cX8_gap 91 = .ok (.if_icmp .ne 8, 3) := by decide +kernel
theorem dX8_gap_94 : decode cX8_gap 94 = .ok (.iload_n 2, 1) := by decide +kernel
theorem dX8_gap_95 : decode cX8_gap 95 = .ok (.i2l, 1) := by decide +kernel
theorem dX8_gap_96 : decode cX8_gap 96 = .ok (.goto 28, 3) := by decide +kernel
theorem dX8_gap_99 : decode cX8_gap 99 = .ok (.iload_n 2, 1) := by decide +kernel
theorem dX8_gap_100 : decode cX8_gap 100 = .ok (.bipush (-9), 2) := by decide +kernel
theorem dX8_gap_102 : decode cX8_gap 102 = .ok (.if_icmp .ne 9, 3) := by decide +kernel
theorem dX8_gap_105 : decode cX8_gap 105 = .ok (.ldc2_w 153, 3) := by decide +kernel
theorem dX8_gap_108 : decode cX8_gap 108 = .ok (.goto 16, 3) := by decide +kernel
theorem dX8_gap_111 : decode cX8_gap 111 = .ok (.aload_n 0, 1) := by decide +kernel
theorem dX8_gap_112 : decode cX8_gap 112 = .ok (.getfield 54, 3) := by decide +kernel
theorem dX8_gap_115 : decode cX8_gap 115 = .ok (.iload_n 2, 1) := by decide +kernel
theorem dX8_gap_116 : decode cX8_gap 116 = .ok (.iaload, 1) := by decide +kernel
theorem dX8_gap_117 : decode cX8_gap 117 = .ok (.ineg, 1) := by decide +kernel
theorem dX8_gap_118 : decode cX8_gap 118 = .ok (.i2l, 1) := by decide +kernel
theorem dX8_gap_119 : decode cX8_gap 119 = .ok (.aload_n 0, 1) := by decide +kernel
theorem dX8_gap_120 : decode cX8_gap 120 = .ok (.invokevirtual 158, 3) := by decide +kernel
theorem dX8_gap_123 : decode cX8_gap 123 = .ok (.lmul, 1) := by decide +kernel
theorem dX8_gap_124 : decode cX8_gap 124 = .ok (.lreturn, 1) := by decide +kernel
theorem dX8_mended_0 : decode cX8_mended 0 = .ok (.aload_n 0, 1) := by decide +kernel
theorem dX8_mended_1 : decode cX8_mended 1 = .ok (.iconst 0, 1) := by decide +kernel
theorem dX8_mended_2 : decode cX8_mended 2 = .ok (.putfield 60, 3) := by decide +kernel
theorem dX8_mended_5 : decode cX8_mended 5 = .ok (.aload_n 0, 1) := by decide +kernel
theorem dX8_mended_6 : decode cX8_mended 6 = .ok (.iload_n 1, 1) := by decide +kernel
theorem dX8_mended_7 : decode cX8_mended 7 = .ok (.invokevirtual 146, 3) := by decide +kernel
theorem dX8_mended_10 : decode cX8_mended 10 = .ok (.ifCond .eq 13, 3) := by decide +kernel
theorem dX8_mended_13 : decode cX8_mended 13 = .ok (.iload_n 2, 1) := by decide +kernel
theorem dX8_mended_14 : decode cX8_mended 14 = .ok (.i2l, 1) := by decide +kernel
theorem dX8_mended_15 : decode cX8_mended 15 = .ok (.lconst 0, 1) := by decide +kernel
theorem dX8_mended_16 : decode cX8_mended 16 = .ok (.lconst 1, 1) := by decide +kernel
theorem dX8_mended_17 : decode cX8_mended 17 = .ok (.invokestatic 67, 3) := by decide +kernel
theorem dX8_mended_20 : decode cX8_mended 20 = .ok (.ifCond .ne 7, 3) := by decide +kernel
theorem dX8_mended_23 : decode cX8_mended 23 = .ok (.ldc2_w 153, 3) := by decide +kernel
theorem dX8_mended_26 : decode cX8_mended 26 = .ok (.lreturn, 1) := by decide +kernel
theorem dX8_mended_27 : decode cX8_mended 27 = .ok (.aload_n 0, 1) := by decide +kernel
theorem dX8_mended_28 : decode cX8_mended 28 = .ok (.invokevirtual 155, 3) := by decide +kernel
theorem dX8_mended_31 : decode cX8_mended 31 = .ok (.ifCond .le 7, 3) := by decide +kernel
theorem dX8_mended_34 : decode cX8_mended 34 = .ok (.ldc2_w 161, 3) := by decide +kernel
theorem dX8_mended_37 : decode cX8_mended 37 = .ok (.lreturn, 1) := by decide +kernel
theorem dX8_mended_38 : decode cX8_mended 38 = .ok (.aload_n 0, 1) := by decide +kernel
theorem dX8_mended_39 : decode cX8_mended 39 = .ok (.getfield 57, 3) := by decide +kernel
theorem dX8_mended_42 : decode cX8_mended 42 = .ok (.iload_n 1, 1) := by decide +kernel
theorem dX8_mended_43 : decode cX8_mended 43 = .ok (.iaload, 1) := by decide +kernel
theorem dX8_mended_44 : decode cX8_mended 44 = .ok (.i2l, 1) := by decide +kernel
theorem dX8_mended_45 : decode cX8_mended 45 = .ok (.aload_n 0, 1) := by decide +kernel
theorem dX8_mended_46 : decode cX8_mended 46 = .ok (.getfield 143, 3) := by decide +kernel
theorem dX8_mended_49 : decode cX8_mended 49 = .ok (.i2l, 1) := by decide +kernel
theorem dX8_mended_50 : decode cX8_mended 50 = .ok (.lmul, 1) := by decide +kernel
theorem dX8_mended_51 : decode cX8_mended 51 = .ok (.aload_n 0, 1) := by decide +kernel
theorem dX8_mended_52 : decode cX8_mended 52 = .ok (.getfield 54, 3) := by decide +kernel
theorem dX8_mended_55 : decode cX8_mended 55 = .ok (.iload_n 1, 1) := by decide +kernel
theorem dX8_mended_56 : decode cX8_mended 56 = .ok (.iaload, 1) := by decide +kernel
theorem dX8_mended_57 : decode cX8_mended 57 = .ok (.i2l, 1) := by decide +kernel
theorem dX8_mended_58 : decode cX8_mended 58 = .ok (.aload_n 0, 1) := by decide +kernel
theorem dX8_mended_59 : decode cX8_mended 59 = .ok (.invokevirtual 158, 3) := by decide +kernel
theorem dX8_mended_62 : decode cX8_mended 62 = .ok (.lmul, 1) := by decide +kernel
theorem dX8_mended_63 : decode cX8_mended 63 = .ok (.lsub, 1) := by decide +kernel
theorem dX8_mended_64 : decode cX8_mended 64 = .ok (.lstore_n 3, 1) := by decide +kernel
theorem dX8_mended_65 : decode cX8_mended 65 = .ok (.lload_n 3, 1) := by decide +kernel
theorem dX8_mended_66 : decode cX8_mended 66 = .ok (.aload_n 0, 1) := by decide +kernel
theorem dX8_mended_67 : decode cX8_mended 67 = .ok (.getfield 143, 3) := by decide +kernel
theorem dX8_mended_70 : decode cX8_mended 70 = .ok (.i2l, 1) := by decide +kernel
theorem dX8_mended_71 : decode cX8_mended 71 = .ok (.invokestatic 100, 3) := by decide +kernel
theorem dX8_mended_74 : decode cX8_mended 74 = .ok (.lstore 5, 2) := by decide +kernel
theorem dX8_mended_76 : decode cX8_mended 76 = .ok (.iload_n 2, 1) := by decide +kernel
theorem dX8_mended_77 : decode cX8_mended 77 = .ok (.ifCond .ne 10, 3) := by decide +kernel
theorem dX8_mended_80 : decode cX8_mended 80 = .ok (.lload_n 3, 1) := by decide +kernel
theorem dX8_mended_81 : decode cX8_mended 81 = .ok (.lload 5, 2) := by decide +kernel
theorem dX8_mended_83 : decode cX8_mended 83 = .ok (.ldiv, 1) := by decide +kernel
theorem dX8_mended_84 : decode cX8_mended 84 = .ok (.goto 11, 3) := by decide +kernel
theorem dX8_mended_87 : decode cX8_mended 87 = .ok (.aload_n 0, 1) := by decide +kernel
theorem dX8_mended_88 : decode cX8_mended 88 = .ok (.getfield 143, 3) := by decide +kernel
theorem dX8_mended_91 : decode cX8_mended 91 = .ok (.i2l, 1) := by decide +kernel
theorem dX8_mended_92 : decode cX8_mended 92 = .ok (.lload 5, 2) := by decide +kernel
theorem dX8_mended_94 : decode cX8_mended 94 = .ok (.ldiv, 1) := by decide +kernel
theorem dX8_mended_95 : decode cX8_mended 95 = .ok (.lreturn, 1) := by decide +kernel
theorem dX8_count_0 : decode cX8_count 0 = .ok (.aload_n 0, 1) := by decide +kernel
theorem dX8_count_1 : decode cX8_count 1 = .ok (.iconst 0, 1) := by decide +kernel
theorem dX8_count_2 : decode cX8_count 2 = .ok (.putfield 60, 3) := by decide +kernel
theorem dX8_count_5 : decode cX8_count 5 = .ok (.iconst 0, 1) := by decide +kernel
theorem dX8_count_6 : decode cX8_count 6 = .ok (.istore_n 2, 1) := by decide +kernel
theorem dX8_count_7 : decode cX8_count 7 = .ok (.iconst 0, 1) := by decide +kernel
theorem dX8_count_8 : decode cX8_count 8 = .ok (.istore_n 3, 1) := by decide +kernel
theorem dX8_count_9 : decode cX8_count 9 = .ok (.iconst 0, 1) := by decide +kernel
theorem dX8_count_10 : decode cX8_count 10 = .ok (.istore 4, 2) := by decide +kernel
theorem dX8_count_12 : decode cX8_count 12 = .ok (.iload 4, 2) := by decide +kernel
theorem dX8_count_14 : decode cX8_count 14 = .ok (.aload_n 0, 1) := by decide +kernel
theorem dX8_count_15 : decode cX8_count 15 = .ok (.getfield 64, 3) := by decide +kernel
theorem dX8_count_18 : decode cX8_count 18 = .ok (.if_icmp .ge 78, 3) := by decide +kernel
theorem dX8_count_21 : decode cX8_count 21 = .ok (.iload_n 2, 1) := by decide +kernel
theorem dX8_count_22 : decode cX8_count 22 = .ok (.aload_n 0, 1) := by decide +kernel
theorem dX8_count_23 : decode cX8_count 23 = .ok (.getfield 25, 3) := by decide +kernel
theorem dX8_count_26 : decode cX8_count 26 = .ok (.iload 4, 2) := by decide +kernel
theorem dX8_count_28 : decode cX8_count 28 = .ok (.iaload, 1) := by decide +kernel
theorem dX8_count_29 : decode cX8_count 29 = .ok (.iadd, 1) := by decide +kernel
theorem dX8_count_30 : decode cX8_count 30 = .ok (.istore_n 2, 1) := by decide +kernel
theorem dX8_count_31 : decode cX8_count 31 = .ok (.iload_n 3, 1) := by decide +kernel
theorem dX8_count_32 : decode cX8_count 32 = .ok (.aload_n 0, 1) := by decide +kernel
theorem dX8_count_33 : decode cX8_count 33 = .ok (.getfield 25, 3) := by decide +kernel
theorem dX8_count_36 : decode cX8_count 36 = .ok (.iload 4, 2) := by decide +kernel
theorem dX8_count_38 : decode cX8_count 38 = .ok (.iaload, 1) := by decide +kernel
theorem dX8_count_39 : decode cX8_count 39 = .ok (.ifCond .le 7, 3) := by decide +kernel
theorem dX8_count_42 : decode cX8_count 42 = .ok (.iconst 1, 1) := by decide +kernel
theorem dX8_count_43 : decode cX8_count 43 = .ok (.goto 4, 3) := by decide +kernel
theorem dX8_count_46 : decode cX8_count 46 = .ok (.iconst 0, 1) := by decide +kernel
theorem dX8_count_47 : decode cX8_count 47 = .ok (.iadd, 1) := by decide +kernel
theorem dX8_count_48 : decode cX8_count 48 = .ok (.istore_n 3, 1) := by decide +kernel
theorem dX8_count_49 : decode cX8_count 49 = .ok (.iconst 0, 1) := by decide +kernel
theorem dX8_count_50 : decode cX8_count 50 = .ok (.istore 5, 2) := by decide +kernel
theorem dX8_count_52 : decode cX8_count 52 = .ok (.iload 5, 2) := by decide +kernel
theorem dX8_count_54 : decode cX8_count 54 = .ok (.aload_n 0, 1) := by decide +kernel
theorem dX8_count_55 : decode cX8_count 55 = .ok (.getfield 64, 3) := by decide +kernel
theorem dX8_count_58 : decode cX8_count 58 = .ok (.if_icmp .ge 32, 3) := by decide +kernel
theorem dX8_count_61 : decode cX8_count 61 = .ok (.iload_n 3, 1) := by decide +kernel
theorem dX8_count_62 : decode cX8_count 62 = .ok (.aload_n 0, 1) := by decide +kernel
theorem dX8_count_63 : decode cX8_count 63 = .ok (.getfield 28, 3) := by decide +kernel
theorem dX8_count_66 : decode cX8_count 66 = .ok (.iconst 5, 1) := by decide +kernel
theorem dX8_count_67 : decode cX8_count 67 = .ok (.iload 4, 2) := by decide +kernel
theorem dX8_count_69 : decode cX8_count 69 = .ok (.imul, 1) := by decide +kernel
theorem dX8_count_70 : decode cX8_count 70 = .ok (.iload 5, 2) := by decide +kernel
theorem dX8_count_72 : decode cX8_count 72 = .ok (.iadd, 1) := by decide +kernel
theorem dX8_count_73 : decode cX8_count 73 = .ok (.iaload, 1) := by decide +kernel
theorem dX8_count_74 : decode cX8_count 74 = .ok (.ifCond .le 7, 3) := by decide +kernel
theorem dX8_count_77 : decode cX8_count 77 = .ok (.iconst 1, 1) := by decide +kernel
theorem dX8_count_78 : decode cX8_count 78 = .ok (.goto 4, 3) := by decide +kernel
theorem dX8_count_81 : decode cX8_count 81 = .ok (.iconst 0, 1) := by decide +kernel
theorem dX8_count_82 : decode cX8_count 82 = .ok (.iadd, 1) := by decide +kernel
theorem dX8_count_83 : decode cX8_count 83 = .ok (.istore_n 3, 1) := by decide +kernel
theorem dX8_count_84 : decode cX8_count 84 = .ok (.iinc 5 1, 3) := by decide +kernel
theorem dX8_count_87 : decode cX8_count 87 = .ok (.goto (-35), 3) := by decide +kernel
theorem dX8_count_90 : decode cX8_count 90 = .ok (.iinc 4 1, 3) := by decide +kernel
theorem dX8_count_93 : decode cX8_count 93 = .ok (.goto (-81), 3) := by decide +kernel
theorem dX8_count_96 : decode cX8_count 96 = .ok (.iload_n 1, 1) := by decide +kernel
theorem dX8_count_97 : decode cX8_count 97 = .ok (.tableswitch 66 0 6 #[43, 48, 50, 52, 57, 57, 57], 43) := by decide +kernel
theorem dX8_count_140 : decode cX8_count 140 = .ok (.aload_n 0, 1) := by decide +kernel
theorem dX8_count_141 : decode cX8_count 141 = .ok (.getfield 64, 3) := by decide +kernel
theorem dX8_count_144 : decode cX8_count 144 = .ok (.ireturn, 1) := by decide +kernel
theorem dX8_count_145 : decode cX8_count 145 = .ok (.iload_n 2, 1) := by decide +kernel
theorem dX8_count_146 : decode cX8_count 146 = .ok (.ireturn, 1) := by decide +kernel
theorem dX8_count_147 : decode cX8_count 147 = .ok (.iload_n 3, 1) := by decide +kernel
theorem dX8_count_148 : decode cX8_count 148 = .ok (.ireturn, 1) := by decide +kernel
theorem dX8_count_149 : decode cX8_count 149 = .ok (.aload_n 0, 1) := by decide +kernel
theorem dX8_count_150 : decode cX8_count 150 = .ok (.getfield 143, 3) := by decide +kernel
theorem dX8_count_153 : decode cX8_count 153 = .ok (.ireturn, 1) := by decide +kernel
theorem dX8_count_154 : decode cX8_count 154 = .ok (.aload_n 0, 1) := by decide +kernel
theorem dX8_count_155 : decode cX8_count 155 = .ok (.getfield 22, 3) := by decide +kernel
theorem dX8_count_158 : decode cX8_count 158 = .ok (.iload_n 1, 1) := by decide +kernel
theorem dX8_count_159 : decode cX8_count 159 = .ok (.iconst 4, 1) := by decide +kernel
theorem dX8_count_160 : decode cX8_count 160 = .ok (.isub, 1) := by decide +kernel
theorem dX8_count_161 : decode cX8_count 161 = .ok (.iaload, 1) := by decide +kernel
theorem dX8_count_162 : decode cX8_count 162 = .ok (.ireturn, 1) := by decide +kernel
theorem dX8_count_163 : decode cX8_count 163 = .ok (.iconst (-1), 1) := by decide +kernel
theorem dX8_count_164 : decode cX8_count 164 = .ok (.ireturn, 1) := by decide +kernel
theorem dX8_trace_0 : decode cX8_trace 0 = .ok (.aload_n 0, 1) := by decide +kernel
theorem dX8_trace_1 : decode cX8_trace 1 = .ok (.iconst 0, 1) := by decide +kernel
theorem dX8_trace_2 : decode cX8_trace 2 = .ok (.putfield 60, 3) := by decide +kernel
theorem dX8_trace_5 : decode cX8_trace 5 = .ok (.aload_n 0, 1) := by decide +kernel
theorem dX8_trace_6 : decode cX8_trace 6 = .ok (.getfield 88, 3) := by decide +kernel
theorem dX8_trace_9 : decode cX8_trace 9 = .ok (.lreturn, 1) := by decide +kernel
