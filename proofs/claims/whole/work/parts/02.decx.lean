theorem dX0_tellSteady_0 : decode cX0_tellSteady 0 = .ok (.iload_n 1, 1) := by decide +kernel
theorem dX0_tellSteady_1 : decode cX0_tellSteady 1 = .ok (.i2l, 1) := by decide +kernel
theorem dX0_tellSteady_2 : decode cX0_tellSteady 2 = .ok (.iload_n 0, 1) := by decide +kernel
theorem dX0_tellSteady_3 : decode cX0_tellSteady 3 = .ok (.iload_n 2, 1) := by decide +kernel
theorem dX0_tellSteady_4 : decode cX0_tellSteady 4 = .ok (.iload_n 3, 1) := by decide +kernel
theorem dX0_tellSteady_5 : decode cX0_tellSteady 5 = .ok (.invokestatic 9, 3) := by decide +kernel
theorem dX0_tellSteady_8 : decode cX0_tellSteady 8 = .ok (.lstore 5, 2) := by decide +kernel
theorem dX0_tellSteady_10 : decode cX0_tellSteady 10 = .ok (.iconst 1, 1) := by decide +kernel
theorem dX0_tellSteady_11 : decode cX0_tellSteady 11 = .ok (.istore 7, 2) := by decide +kernel
theorem dX0_tellSteady_13 : decode cX0_tellSteady 13 = .ok (.iload 7, 2) := by decide +kernel
theorem dX0_tellSteady_15 : decode cX0_tellSteady 15 = .ok (.sipush 5000, 3) := by decide +kernel
theorem dX0_tellSteady_18 : decode cX0_tellSteady 18 = .ok (.if_icmp .gt 45, 3) := by decide +kernel
theorem dX0_tellSteady_21 : decode cX0_tellSteady 21 = .ok (.lload 5, 2) := by decide +kernel
theorem dX0_tellSteady_23 : decode cX0_tellSteady 23 = .ok (.iload_n 0, 1) := by decide +kernel
theorem dX0_tellSteady_24 : decode cX0_tellSteady 24 = .ok (.iload_n 2, 1) := by decide +kernel
theorem dX0_tellSteady_25 : decode cX0_tellSteady 25 = .ok (.iload_n 3, 1) := by decide +kernel
theorem dX0_tellSteady_26 : decode cX0_tellSteady 26 = .ok (.invokestatic 9, 3) := by decide +kernel
theorem dX0_tellSteady_29 : decode cX0_tellSteady 29 = .ok (.lstore 8, 2) := by decide +kernel
theorem dX0_tellSteady_31 : decode cX0_tellSteady 31 = .ok (.lload 8, 2) := by decide +kernel
theorem dX0_tellSteady_33 : decode cX0_tellSteady 33 = .ok (.lload 5, 2) := by decide +kernel
theorem dX0_tellSteady_35 : decode cX0_tellSteady 35 = .ok (.lcmp, 1) := by decide +kernel
theorem dX0_tellSteady_36 : decode cX0_tellSteady 36 = .ok (.ifCond .ne 17, 3) := by decide +kernel
theorem dX0_tellSteady_39 : decode cX0_tellSteady 39 = .ok (.iload 4, 2) := by decide +kernel
theorem dX0_tellSteady_41 : decode cX0_tellSteady 41 = .ok (.ifCond .eq 8, 3) := by decide +kernel
theorem dX0_tellSteady_44 : decode cX0_tellSteady 44 = .ok (.iload 7, 2) := by decide +kernel
theorem dX0_tellSteady_46 : decode cX0_tellSteady 46 = .ok (.goto 6, 3) := by decide +kernel
theorem dX0_tellSteady_49 : decode cX0_tellSteady 49 = .ok (.lload 5, 2) := by decide +kernel
theorem dX0_tellSteady_51 : decode cX0_tellSteady 51 = .ok (.l2i, 1) := by decide +kernel
theorem dX0_tellSteady_52 : decode cX0_tellSteady 52 = .ok (.ireturn, 1) := by decide +kernel
theorem dX0_tellSteady_53 : decode cX0_tellSteady 53 = .ok (.lload 8, 2) := by decide +kernel
theorem dX0_tellSteady_55 : decode cX0_tellSteady 55 = .ok (.lstore 5, 2) := by decide +kernel
theorem dX0_tellSteady_57 : decode cX0_tellSteady 57 = .ok (.iinc 7 1, 3) := by decide +kernel
theorem dX0_tellSteady_60 : decode cX0_tellSteady 60 = .ok (.goto (-47), 3) := by decide +kernel
theorem dX0_tellSteady_63 : decode cX0_tellSteady 63 = .ok (.bipush (-9), 2) := by decide +kernel
theorem dX0_tellSteady_65 : decode cX0_tellSteady 65 = .ok (.ireturn, 1) := by decide +kernel
theorem dX0_behindAnHour_0 : decode cX0_behindAnHour 0 = .ok (.lload_n 0, 1) := by decide +kernel
theorem dX0_behindAnHour_1 : decode cX0_behindAnHour 1 = .ok (.iload_n 3, 1) := by decide +kernel
theorem dX0_behindAnHour_2 : decode cX0_behindAnHour 2 = .ok (.i2l, 1) := by decide +kernel
theorem dX0_behindAnHour_3 : decode cX0_behindAnHour 3 = .ok (.ladd, 1) := by decide +kernel
theorem dX0_behindAnHour_4 : decode cX0_behindAnHour 4 = .ok (.lstore 5, 2) := by decide +kernel
theorem dX0_behindAnHour_6 : decode cX0_behindAnHour 6 = .ok (.iload_n 2, 1) := by decide +kernel
theorem dX0_behindAnHour_7 : decode cX0_behindAnHour 7 = .ok (.iconst 1, 1) := by decide +kernel
theorem dX0_behindAnHour_8 : decode cX0_behindAnHour 8 = .ok (.if_icmp .ge 8, 3) := by decide +kernel
theorem dX0_behindAnHour_11 : decode cX0_behindAnHour 11 = .ok (.lload 5, 2) := by decide +kernel
theorem dX0_behindAnHour_13 : decode cX0_behindAnHour 13 = .ok (.goto 20, 3) := by decide +kernel
theorem dX0_behindAnHour_16 : decode cX0_behindAnHour 16 = .ok (.lload 5, 2) := by decide +kernel
theorem dX0_behindAnHour_18 : decode cX0_behindAnHour 18 = .ok (.lload 5, 2) := by decide +kernel
theorem dX0_behindAnHour_20 : decode cX0_behindAnHour 20 = .ok (.iload 4, 2) := by decide +kernel
theorem dX0_behindAnHour_22 : decode cX0_behindAnHour 22 = .ok (.i2l, 1) := by decide +kernel
theorem dX0_behindAnHour_23 : decode cX0_behindAnHour 23 = .ok (.lmul, 1) := by decide +kernel
theorem dX0_behindAnHour_24 : decode cX0_behindAnHour 24 = .ok (.iload_n 2, 1) := by decide +kernel
theorem dX0_behindAnHour_25 : decode cX0_behindAnHour 25 = .ok (.i2l, 1) := by decide +kernel
theorem dX0_behindAnHour_26 : decode cX0_behindAnHour 26 = .ok (.ladd, 1) := by decide +kernel
theorem dX0_behindAnHour_27 : decode cX0_behindAnHour 27 = .ok (.lconst 1, 1) := by decide +kernel
theorem dX0_behindAnHour_28 : decode cX0_behindAnHour 28 = .ok (.lsub, 1) := by decide +kernel
theorem dX0_behindAnHour_29 : decode cX0_behindAnHour 29 = .ok (.iload_n 2, 1) := by decide +kernel
theorem dX0_behindAnHour_30 : decode cX0_behindAnHour 30 = .ok (.i2l, 1) := by decide +kernel
theorem dX0_behindAnHour_31 : decode cX0_behindAnHour 31 = .ok (.ldiv, 1) := by decide +kernel
theorem dX0_behindAnHour_32 : decode cX0_behindAnHour 32 = .ok (.lsub, 1) := by decide +kernel
theorem dX0_behindAnHour_33 : decode cX0_behindAnHour 33 = .ok (.lreturn, 1) := by decide +kernel
theorem dX1_init_0 : decode cX1_init 0 = .ok (.aload_n 0, 1) := by decide +kernel
theorem dX1_init_1 : decode cX1_init 1 = .ok (.invokespecial 3, 3) := by decide +kernel
theorem dX1_init_4 : decode cX1_init 4 = .ok (.aload_n 0, 1) := by decide +kernel
theorem dX1_init_5 : decode cX1_init 5 = .ok (.iconst 5, 1) := by decide +kernel
theorem dX1_init_6 : decode cX1_init 6 = .ok (.newarray .int, 2) := by decide +kernel
theorem dX1_init_8 : decode cX1_init 8 = .ok (.putfield 9, 3) := by decide +kernel
theorem dX1_init_11 : decode cX1_init 11 = .ok (.aload_n 0, 1) := by decide +kernel
theorem dX1_init_12 : decode cX1_init 12 = .ok (.iconst 5, 1) := by decide +kernel
theorem dX1_init_13 : decode cX1_init 13 = .ok (.iconst 5, 1) := by decide +kernel
theorem dX1_init_14 : decode cX1_init 14 = .ok (.multianewarray 15 2, 4) := by decide +kernel
theorem dX1_init_18 : decode cX1_init 18 = .ok (.putfield 17, 3) := by decide +kernel
theorem dX1_init_21 : decode cX1_init 21 = .ok (.aload_n 0, 1) := by decide +kernel
theorem dX1_init_22 : decode cX1_init 22 = .ok (.iconst 5, 1) := by decide +kernel
theorem dX1_init_23 : decode cX1_init 23 = .ok (.newarray .boolean, 2) := by decide +kernel
theorem dX1_init_25 : decode cX1_init 25 = .ok (.putfield 20, 3) := by decide +kernel
theorem dX1_init_28 : decode cX1_init 28 = .ok (.aload_n 0, 1) := by decide +kernel
theorem dX1_init_29 : decode cX1_init 29 = .ok (.iconst 5, 1) := by decide +kernel
theorem dX1_init_30 : decode cX1_init 30 = .ok (.newarray .int, 2) := by decide +kernel
theorem dX1_init_32 : decode cX1_init 32 = .ok (.putfield 24, 3) := by decide +kernel
theorem dX1_init_35 : decode cX1_init 35 = .ok (.aload_n 0, 1) := by decide +kernel
theorem dX1_init_36 : decode cX1_init 36 = .ok (.iconst 5, 1) := by decide +kernel
theorem dX1_init_37 : decode cX1_init 37 = .ok (.anewarray 27, 3) := by decide +kernel
theorem dX1_init_40 : decode cX1_init 40 = .ok (.putfield 29, 3) := by decide +kernel
theorem dX1_init_43 : decode cX1_init 43 = .ok (.aload_n 0, 1) := by decide +kernel
theorem dX1_init_44 : decode cX1_init 44 = .ok (.iconst 5, 1) := by decide +kernel
theorem dX1_init_45 : decode cX1_init 45 = .ok (.anewarray 27, 3) := by decide +kernel
theorem dX1_init_48 : decode cX1_init 48 = .ok (.putfield 33, 3) := by decide +kernel
theorem dX1_init_51 : decode cX1_init 51 = .ok (.aload_n 0, 1) := by decide +kernel
theorem dX1_init_52 : decode cX1_init 52 = .ok (.iconst 5, 1) := by decide +kernel
theorem dX1_init_53 : decode cX1_init 53 = .ok (.newarray .int, 2) := by decide +kernel
theorem dX1_init_55 : decode cX1_init 55 = .ok (.putfield 36, 3) := by decide +kernel
theorem dX1_init_58 : decode cX1_init 58 = .ok (.aload_n 0, 1) := by decide +kernel
theorem dX1_init_59 : decode cX1_init 59 = .ok (.aload_n 1, 1) := by decide +kernel
theorem dX1_init_60 : decode cX1_init 60 = .ok (.putfield 39, 3) := by decide +kernel
theorem dX1_init_63 : decode cX1_init 63 = .ok (.iconst 0, 1) := by decide +kernel
theorem dX1_init_64 : decode cX1_init 64 = .ok (.istore_n 2, 1) := by decide +kernel
theorem dX1_init_65 : decode cX1_init 65 = .ok (.iload_n 2, 1) := by decide +kernel
theorem dX1_init_66 : decode cX1_init 66 = .ok (.iconst 5, 1) := by decide +kernel
theorem dX1_init_67 : decode cX1_init 67 = .ok (.if_icmp .ge 35, 3) := by decide +kernel
theorem dX1_init_70 : decode cX1_init 70 = .ok (.aload_n 0, 1) := by decide +kernel
theorem dX1_init_71 : decode cX1_init 71 = .ok (.getfield 29, 3) := by decide +kernel
theorem dX1_init_74 : decode cX1_init 74 = .ok (.iload_n 2, 1) := by decide +kernel
theorem dX1_init_75 : decode cX1_init 75 = .ok (.new 27, 3) := by decide +kernel
theorem dX1_init_78 : decode cX1_init 78 = .ok (.dup, 1) := by decide +kernel
theorem dX1_init_79 : decode cX1_init 79 = .ok (.invokespecial 43, 3) := by decide +kernel
theorem dX1_init_82 : decode cX1_init 82 = .ok (.aastore, 1) := by decide +kernel
theorem dX1_init_83 : decode cX1_init 83 = .ok (.aload_n 0, 1) := by decide +kernel
theorem dX1_init_84 : decode cX1_init 84 = .ok (.getfield 33, 3) := by decide +kernel
theorem dX1_init_87 : decode cX1_init 87 = .ok (.iload_n 2, 1) := by decide +kernel
theorem dX1_init_88 : decode cX1_init 88 = .ok (.new 27, 3) := by decide +kernel
theorem dX1_init_91 : decode cX1_init 91 = .ok (.dup, 1) := by decide +kernel
theorem dX1_init_92 : decode cX1_init 92 = .ok (.invokespecial 43, 3) := by decide +kernel
theorem dX1_init_95 : decode cX1_init 95 = .ok (.aastore, 1) := by decide +kernel
theorem dX1_init_96 : decode cX1_init 96 = .ok (.iinc 2 1, 3) := by decide +kernel
theorem dX1_init_99 : decode cX1_init 99 = .ok (.goto (-34), 3) := by decide +kernel
theorem dX1_init_102 : decode cX1_init 102 = .ok (.return_, 1) := by decide +kernel
theorem dX1_comingTo_0 : decode cX1_comingTo 0 = .ok (.aload_n 0, 1) := by decide +kernel
theorem dX1_comingTo_1 : decode cX1_comingTo 1 = .ok (.getfield 9, 3) := by decide +kernel
theorem dX1_comingTo_4 : decode cX1_comingTo 4 = .ok (.iload_n 1, 1) := by decide +kernel
theorem dX1_comingTo_5 : decode cX1_comingTo 5 = .ok (.iaload, 1) := by decide +kernel
theorem dX1_comingTo_6 : decode cX1_comingTo 6 = .ok (.istore_n 2, 1) := by decide +kernel
theorem dX1_comingTo_7 : decode cX1_comingTo 7 = .ok (.iconst 0, 1) := by decide +kernel
theorem dX1_comingTo_8 : decode cX1_comingTo 8 = .ok (.istore_n 3, 1) := by decide +kernel
theorem dX1_comingTo_9 : decode cX1_comingTo 9 = .ok (.iload_n 3, 1) := by decide +kernel
theorem dX1_comingTo_10 : decode cX1_comingTo 10 = .ok (.aload_n 0, 1) := by decide +kernel
theorem dX1_comingTo_11 : decode cX1_comingTo 11 = .ok (.getfield 39, 3) := by decide +kernel
theorem dX1_comingTo_14 : decode cX1_comingTo 14 = .ok (.getfield 44, 3) := by decide +kernel
theorem dX1_comingTo_17 : decode cX1_comingTo 17 = .ok (.if_icmp .ge 20, 3) := by decide +kernel
theorem dX1_comingTo_20 : decode cX1_comingTo 20 = .ok (.iload_n 2, 1) := by decide +kernel
theorem dX1_comingTo_21 : decode cX1_comingTo 21 = .ok (.aload_n 0, 1) := by decide +kernel
theorem dX1_comingTo_22 : decode cX1_comingTo 22 = .ok (.getfield 17, 3) := by decide +kernel
theorem dX1_comingTo_25 : decode cX1_comingTo 25 = .ok (.iload_n 3, 1) := by decide +kernel
theorem dX1_comingTo_26 : decode cX1_comingTo 26 = .ok (.aaload, 1) := by decide +kernel
theorem dX1_comingTo_27 : decode cX1_comingTo 27 = .ok (.iload_n 1, 1) := by decide +kernel
theorem dX1_comingTo_28 : decode cX1_comingTo 28 = .ok (.iaload, 1) := by decide +kernel
theorem dX1_comingTo_29 : decode cX1_comingTo 29 = .ok (.iadd, 1) := by decide +kernel
theorem dX1_comingTo_30 : decode cX1_comingTo 30 = .ok (.istore_n 2, 1) := by decide +kernel
theorem dX1_comingTo_31 : decode cX1_comingTo 31 = .ok (.iinc 3 1, 3) := by decide +kernel
theorem dX1_comingTo_34 : decode cX1_comingTo 34 = .ok (.goto (-25), 3) := by decide +kernel
theorem dX1_comingTo_37 : decode cX1_comingTo 37 = .ok (.iload_n 2, 1) := by decide +kernel
theorem dX1_comingTo_38 : decode cX1_comingTo 38 = .ok (.ireturn, 1) := by decide +kernel
theorem dX1_goingFrom_0 : decode cX1_goingFrom 0 = .ok (.iconst 0, 1) := by decide +kernel
theorem dX1_goingFrom_1 : decode cX1_goingFrom 1 = .ok (.istore_n 2, 1) := by decide +kernel
theorem dX1_goingFrom_2 : decode cX1_goingFrom 2 = .ok (.iconst 0, 1) := by decide +kernel
theorem dX1_goingFrom_3 : decode cX1_goingFrom 3 = .ok (.istore_n 3, 1) := by decide +kernel
theorem dX1_goingFrom_4 : decode cX1_goingFrom 4 = .ok (.iload_n 3, 1) := by decide +kernel
theorem dX1_goingFrom_5 : decode cX1_goingFrom 5 = .ok (.aload_n 0, 1) := by decide +kernel
theorem dX1_goingFrom_6 : decode cX1_goingFrom 6 = .ok (.getfield 39, 3) := by decide +kernel
theorem dX1_goingFrom_9 : decode cX1_goingFrom 9 = .ok (.getfield 44, 3) := by decide +kernel
theorem dX1_goingFrom_12 : decode cX1_goingFrom 12 = .ok (.if_icmp .ge 20, 3) := by decide +kernel
theorem dX1_goingFrom_15 : decode cX1_goingFrom 15 = .ok (.iload_n 2, 1) := by decide +kernel
theorem dX1_goingFrom_16 : decode cX1_goingFrom 16 = .ok (.aload_n 0, 1) := by decide +kernel
theorem dX1_goingFrom_17 : decode cX1_goingFrom 17 = .ok (.getfield 17, 3) := by decide +kernel
theorem dX1_goingFrom_20 : decode cX1_goingFrom 20 = .ok (.iload_n 1, 1) := by decide +kernel
theorem dX1_goingFrom_21 : decode cX1_goingFrom 21 = .ok (.aaload, 1) := by decide +kernel
theorem dX1_goingFrom_22 : decode cX1_goingFrom 22 = .ok (.iload_n 3, 1) := by decide +kernel
theorem dX1_goingFrom_23 : decode cX1_goingFrom 23 = .ok (.iaload, 1) := by decide +kernel
theorem dX1_goingFrom_24 : decode cX1_goingFrom 24 = .ok (.iadd, 1) := by decide +kernel
theorem dX1_goingFrom_25 : decode cX1_goingFrom 25 = .ok (.istore_n 2, 1) := by decide +kernel
theorem dX1_goingFrom_26 : decode cX1_goingFrom 26 = .ok (.iinc 3 1, 3) := by decide +kernel
theorem dX1_goingFrom_29 : decode cX1_goingFrom 29 = .ok (.goto (-25), 3) := by decide +kernel
theorem dX1_goingFrom_32 : decode cX1_goingFrom 32 = .ok (.iload_n 2, 1) := by decide +kernel
theorem dX1_goingFrom_33 : decode cX1_goingFrom 33 = .ok (.ireturn, 1) := by decide +kernel
theorem dX1_allFresh_0 : decode cX1_allFresh 0 = .ok (.iconst 0, 1) := by decide +kernel
theorem dX1_allFresh_1 : decode cX1_allFresh 1 = .ok (.istore_n 1, 1) := by decide +kernel
theorem dX1_allFresh_2 : decode cX1_allFresh 2 = .ok (.iconst 0, 1) := by decide +kernel
theorem dX1_allFresh_3 : decode cX1_allFresh 3 = .ok (.istore_n 2, 1) := by decide +kernel
theorem dX1_allFresh_4 : decode cX1_allFresh 4 = .ok (.iload_n 2, 1) := by decide +kernel
theorem dX1_allFresh_5 : decode cX1_allFresh 5 = .ok (.aload_n 0, 1) := by decide +kernel
theorem dX1_allFresh_6 : decode cX1_allFresh 6 = .ok (.getfield 39, 3) := by decide +kernel
theorem dX1_allFresh_9 : decode cX1_allFresh 9 = .ok (.getfield 44, 3) := by decide +kernel
theorem dX1_allFresh_12 : decode cX1_allFresh 12 = .ok (.if_icmp .ge 18, 3) := by decide +kernel
theorem dX1_allFresh_15 : decode cX1_allFresh 15 = .ok (.iload_n 1, 1) := by decide +kernel
theorem dX1_allFresh_16 : decode cX1_allFresh 16 = .ok (.aload_n 0, 1) := by decide +kernel
theorem dX1_allFresh_17 : decode cX1_allFresh 17 = .ok (.getfield 9, 3) := by decide +kernel
theorem dX1_allFresh_20 : decode cX1_allFresh 20 = .ok (.iload_n 2, 1) := by decide +kernel
theorem dX1_allFresh_21 : decode cX1_allFresh 21 = .ok (.iaload, 1) := by decide +kernel
theorem dX1_allFresh_22 : decode cX1_allFresh 22 = .ok (.iadd, 1) := by decide +kernel
theorem dX1_allFresh_23 : decode cX1_allFresh 23 = .ok (.istore_n 1, 1) := by decide +kernel
theorem dX1_allFresh_24 : decode cX1_allFresh 24 = .ok (.iinc 2 1, 3) := by decide +kernel
theorem dX1_allFresh_27 : decode cX1_allFresh 27 = .ok (.goto (-23), 3) := by decide +kernel
theorem dX1_allFresh_30 : decode cX1_allFresh 30 = .ok (.iload_n 1, 1) := by decide +kernel
theorem dX1_allFresh_31 : decode cX1_allFresh 31 = .ok (.ireturn, 1) := by decide +kernel
theorem dX1_pipesInUse_0 : decode cX1_pipesInUse 0 = .ok (.iconst 0, 1) := by decide +kernel
theorem dX1_pipesInUse_1 : decode cX1_pipesInUse 1 = .ok (.istore_n 1, 1) := by decide +kernel
theorem dX1_pipesInUse_2 : decode cX1_pipesInUse 2 = .ok (.iconst 0, 1) := by decide +kernel
theorem dX1_pipesInUse_3 : decode cX1_pipesInUse 3 = .ok (.istore_n 2, 1) := by decide +kernel
theorem dX1_pipesInUse_4 : decode cX1_pipesInUse 4 = .ok (.iload_n 2, 1) := by decide +kernel
theorem dX1_pipesInUse_5 : decode cX1_pipesInUse 5 = .ok (.aload_n 0, 1) := by decide +kernel
theorem dX1_pipesInUse_6 : decode cX1_pipesInUse 6 = .ok (.getfield 39, 3) := by decide +kernel
theorem dX1_pipesInUse_9 : decode cX1_pipesInUse 9 = .ok (.getfield 44, 3) := by decide +kernel
theorem dX1_pipesInUse_12 : decode cX1_pipesInUse 12 = .ok (.if_icmp .ge 64, 3) := by decide +kernel
theorem dX1_pipesInUse_15 : decode cX1_pipesInUse 15 = .ok (.iload_n 1, 1) := by decide +kernel
theorem dX1_pipesInUse_16 : decode cX1_pipesInUse 16 = .ok (.aload_n 0, 1) := by decide +kernel
theorem dX1_pipesInUse_17 : decode cX1_pipesInUse 17 = .ok (.getfield 9, 3) := by decide +kernel
theorem dX1_pipesInUse_20 : decode cX1_pipesInUse 20 = .ok (.iload_n 2, 1) := by decide +kernel
theorem dX1_pipesInUse_21 : decode cX1_pipesInUse 21 = .ok (.iaload, 1) := by decide +kernel
theorem dX1_pipesInUse_22 : decode cX1_pipesInUse 22 = .ok (.ifCond .le 7, 3) := by decide +kernel
theorem dX1_pipesInUse_25 : decode cX1_pipesInUse 25 = .ok (.iconst 1, 1) := by decide +kernel
theorem dX1_pipesInUse_26 : decode cX1_pipesInUse 26 = .ok (.goto 4, 3) := by decide +kernel
theorem dX1_pipesInUse_29 : decode cX1_pipesInUse 29 = .ok (.iconst 0, 1) := by decide +kernel
theorem dX1_pipesInUse_30 : decode cX1_pipesInUse 30 = .ok (.iadd, 1) := by decide +kernel
theorem dX1_pipesInUse_31 : decode cX1_pipesInUse 31 = .ok (.istore_n 1, 1) := by decide +kernel
theorem dX1_pipesInUse_32 : decode cX1_pipesInUse 32 = .ok (.iconst 0, 1) := by decide +kernel
theorem dX1_pipesInUse_33 : decode cX1_pipesInUse 33 = .ok (.istore_n 3, 1) := by decide +kernel
theorem dX1_pipesInUse_34 : decode cX1_pipesInUse 34 = .ok (.iload_n 3, 1) := by decide +kernel
theorem dX1_pipesInUse_35 : decode cX1_pipesInUse 35 = .ok (.aload_n 0, 1) := by decide +kernel
theorem dX1_pipesInUse_36 : decode cX1_pipesInUse 36 = .ok (.getfield 39, 3) := by decide +kernel
theorem dX1_pipesInUse_39 : decode cX1_pipesInUse 39 = .ok (.getfield 44, 3) := by decide +kernel
theorem dX1_pipesInUse_42 : decode cX1_pipesInUse 42 = .ok (.if_icmp .ge 28, 3) := by decide +kernel
theorem dX1_pipesInUse_45 : decode cX1_pipesInUse 45 = .ok (.iload_n 1, 1) := by decide +kernel
theorem dX1_pipesInUse_46 : decode cX1_pipesInUse 46 = .ok (.aload_n 0, 1) := by decide +kernel
theorem dX1_pipesInUse_47 : decode cX1_pipesInUse 47 = .ok (.getfield 17, 3) := by decide +kernel
theorem dX1_pipesInUse_50 : decode cX1_pipesInUse 50 = .ok (.iload_n 2, 1) := by decide +kernel
theorem dX1_pipesInUse_51 : decode cX1_pipesInUse 51 = .ok (.aaload, 1) := by decide +kernel
theorem dX1_pipesInUse_52 : decode cX1_pipesInUse 52 = .ok (.iload_n 3, 1) := by decide +kernel
theorem dX1_pipesInUse_53 : decode cX1_pipesInUse 53 = .ok (.iaload, 1) := by decide +kernel
theorem dX1_pipesInUse_54 : decode cX1_pipesInUse 54 = .ok (.ifCond .le 7, 3) := by decide +kernel
theorem dX1_pipesInUse_57 : decode cX1_pipesInUse 57 = .ok (.iconst 1, 1) := by decide +kernel
theorem dX1_pipesInUse_58 : decode cX1_pipesInUse 58 = .ok (.goto 4, 3) := by decide +kernel
theorem dX1_pipesInUse_61 : decode cX1_pipesInUse 61 = .ok (.iconst 0, 1) := by decide +kernel
theorem dX1_pipesInUse_62 : decode cX1_pipesInUse 62 = .ok (.iadd, 1) := by decide +kernel
theorem dX1_pipesInUse_63 : decode cX1_pipesInUse 63 = .ok (.istore_n 1, 1) := by decide +kernel
theorem dX1_pipesInUse_64 : decode cX1_pipesInUse 64 = .ok (.iinc 3 1, 3) := by decide +kernel
theorem dX1_pipesInUse_67 : decode cX1_pipesInUse 67 = .ok (.goto (-33), 3) := by decide +kernel
theorem dX1_pipesInUse_70 : decode cX1_pipesInUse 70 = .ok (.iinc 2 1, 3) := by decide +kernel
theorem dX1_pipesInUse_73 : decode cX1_pipesInUse 73 = .ok (.goto (-69), 3) := by decide +kernel
theorem dX1_pipesInUse_76 : decode cX1_pipesInUse 76 = .ok (.iload_n 1, 1) := by decide +kernel
theorem dX1_pipesInUse_77 : decode cX1_pipesInUse 77 = .ok (.ireturn, 1) := by decide +kernel
theorem dX1_flawOfFlow_0 : decode cX1_flawOfFlow 0 = .ok (.iconst 0, 1) := by decide +kernel
theorem dX1_flawOfFlow_1 : decode cX1_flawOfFlow 1 = .ok (.istore_n 1, 1) := by decide +kernel
theorem dX1_flawOfFlow_2 : decode cX1_flawOfFlow 2 = .ok (.iload_n 1, 1) := by decide +kernel
theorem dX1_flawOfFlow_3 : decode cX1_flawOfFlow 3 = .ok (.aload_n 0, 1) := by decide +kernel
theorem dX1_flawOfFlow_4 : decode cX1_flawOfFlow 4 = .ok (.getfield 39, 3) := by decide +kernel
theorem dX1_flawOfFlow_7 : decode cX1_flawOfFlow 7 = .ok (.getfield 44, 3) := by decide +kernel
theorem dX1_flawOfFlow_10 : decode cX1_flawOfFlow 10 = .ok (.if_icmp .ge 22, 3) := by decide +kernel
theorem dX1_flawOfFlow_13 : decode cX1_flawOfFlow 13 = .ok (.aload_n 0, 1) := by decide +kernel
theorem dX1_flawOfFlow_14 : decode cX1_flawOfFlow 14 = .ok (.iload_n 1, 1) := by decide +kernel
theorem dX1_flawOfFlow_15 : decode cX1_flawOfFlow 15 = .ok (.invokevirtual 50, 3) := by decide +kernel
theorem dX1_flawOfFlow_18 : decode cX1_flawOfFlow 18 = .ok (.ifCond .ne 8, 3) := by decide +kernel
theorem dX1_flawOfFlow_21 : decode cX1_flawOfFlow 21 = .ok (.bipush 10, 2) := by decide +kernel
theorem dX1_flawOfFlow_23 : decode cX1_flawOfFlow 23 = .ok (.iload_n 1, 1) := by decide +kernel
theorem dX1_flawOfFlow_24 : decode cX1_flawOfFlow 24 = .ok (.iadd, 1) := by decide +kernel
theorem dX1_flawOfFlow_25 : decode cX1_flawOfFlow 25 = .ok (.ireturn, 1) := by decide +kernel
theorem dX1_flawOfFlow_26 : decode cX1_flawOfFlow 26 = .ok (.iinc 1 1, 3) := by decide +kernel
theorem dX1_flawOfFlow_29 : decode cX1_flawOfFlow 29 = .ok (.goto (-27), 3) := by decide +kernel
theorem dX1_flawOfFlow_32 : decode cX1_flawOfFlow 32 = .ok (.iconst 0, 1) := by decide +kernel
theorem dX1_flawOfFlow_33 : decode cX1_flawOfFlow 33 = .ok (.istore_n 1, 1) := by decide +kernel
theorem dX1_flawOfFlow_34 : decode cX1_flawOfFlow 34 = .ok (.iload_n 1, 1) := by decide +kernel
theorem dX1_flawOfFlow_35 : decode cX1_flawOfFlow 35 = .ok (.aload_n 0, 1) := by decide +kernel
theorem dX1_flawOfFlow_36 : decode cX1_flawOfFlow 36 = .ok (.getfield 39, 3) := by decide +kernel
theorem dX1_flawOfFlow_39 : decode cX1_flawOfFlow 39 = .ok (.getfield 44, 3) := by decide +kernel
theorem dX1_flawOfFlow_42 : decode cX1_flawOfFlow 42 = .ok (.if_icmp .ge 27, 3) := by decide +kernel
theorem dX1_flawOfFlow_45 : decode cX1_flawOfFlow 45 = .ok (.aload_n 0, 1) := by decide +kernel
theorem dX1_flawOfFlow_46 : decode cX1_flawOfFlow 46 = .ok (.iload_n 1, 1) := by decide +kernel
theorem dX1_flawOfFlow_47 : decode cX1_flawOfFlow 47 = .ok (.invokevirtual 54, 3) := by decide +kernel
theorem dX1_flawOfFlow_50 : decode cX1_flawOfFlow 50 = .ok (.aload_n 0, 1) := by decide +kernel
theorem dX1_flawOfFlow_51 : decode cX1_flawOfFlow 51 = .ok (.iload_n 1, 1) := by decide +kernel
theorem dX1_flawOfFlow_52 : decode cX1_flawOfFlow 52 = .ok (.invokevirtual 50, 3) := by decide +kernel
theorem dX1_flawOfFlow_55 : decode cX1_flawOfFlow 55 = .ok (.if_icmp .le 8, 3) := by decide +kernel
theorem dX1_flawOfFlow_58 : decode cX1_flawOfFlow 58 = .ok (.bipush 20, 2) := by decide +kernel
theorem dX1_flawOfFlow_60 : decode cX1_flawOfFlow 60 = .ok (.iload_n 1, 1) := by decide +kernel
theorem dX1_flawOfFlow_61 : decode cX1_flawOfFlow 61 = .ok (.iadd, 1) := by decide +kernel
theorem dX1_flawOfFlow_62 : decode cX1_flawOfFlow 62 = .ok (.ireturn, 1) := by decide +kernel
theorem dX1_flawOfFlow_63 : decode cX1_flawOfFlow 63 = .ok (.iinc 1 1, 3) := by decide +kernel
theorem dX1_flawOfFlow_66 : decode cX1_flawOfFlow 66 = .ok (.goto (-32), 3) := by decide +kernel
theorem dX1_flawOfFlow_69 : decode cX1_flawOfFlow 69 = .ok (.aload_n 0, 1) := by decide +kernel
theorem dX1_flawOfFlow_70 : decode cX1_flawOfFlow 70 = .ok (.invokevirtual 57, 3) := by decide +kernel
theorem dX1_flawOfFlow_73 : decode cX1_flawOfFlow 73 = .ok (.iconst 0, 1) := by decide +kernel
theorem dX1_flawOfFlow_74 : decode cX1_flawOfFlow 74 = .ok (.istore_n 1, 1) := by decide +kernel
theorem dX1_flawOfFlow_75 : decode cX1_flawOfFlow 75 = .ok (.iload_n 1, 1) := by decide +kernel
theorem dX1_flawOfFlow_76 : decode cX1_flawOfFlow 76 = .ok (.aload_n 0, 1) := by decide +kernel
theorem dX1_flawOfFlow_77 : decode cX1_flawOfFlow 77 = .ok (.getfield 39, 3) := by decide +kernel
theorem dX1_flawOfFlow_80 : decode cX1_flawOfFlow 80 = .ok (.getfield 44, 3) := by decide +kernel
theorem dX1_flawOfFlow_83 : decode cX1_flawOfFlow 83 = .ok (.if_icmp .ge 23, 3) := by decide +kernel
theorem dX1_flawOfFlow_86 : decode cX1_flawOfFlow 86 = .ok (.aload_n 0, 1) := by decide +kernel
theorem dX1_flawOfFlow_87 : decode cX1_flawOfFlow 87 = .ok (.getfield 20, 3) := by decide +kernel
theorem dX1_flawOfFlow_90 : decode cX1_flawOfFlow 90 = .ok (.iload_n 1, 1) := by decide +kernel
theorem dX1_flawOfFlow_91 : decode cX1_flawOfFlow 91 = .ok (.baload, 1) := by decide +kernel
theorem dX1_flawOfFlow_92 : decode cX1_flawOfFlow 92 = .ok (.ifCond .ne 8, 3) := by decide +kernel
theorem dX1_flawOfFlow_95 : decode cX1_flawOfFlow 95 = .ok (.bipush 30, 2) := by decide +kernel
theorem dX1_flawOfFlow_97 : decode cX1_flawOfFlow 97 = .ok (.iload_n 1, 1) := by decide +kernel
theorem dX1_flawOfFlow_98 : decode cX1_flawOfFlow 98 = .ok (.iadd, 1) := by decide +kernel
theorem dX1_flawOfFlow_99 : decode cX1_flawOfFlow 99 = .ok (.ireturn, 1) := by decide +kernel
theorem dX1_flawOfFlow_100 : decode cX1_flawOfFlow 100 = .ok (.iinc 1 1, 3) := by decide +kernel
theorem dX1_flawOfFlow_103 : decode cX1_flawOfFlow 103 = .ok (.goto (-28), 3) := by decide +kernel
theorem dX1_flawOfFlow_106 : decode cX1_flawOfFlow 106 = .ok (.iconst 0, 1) := by decide +kernel
theorem dX1_flawOfFlow_107 : decode cX1_flawOfFlow 107 = .ok (.ireturn, 1) := by decide +kernel
theorem dX1_flawOfDirt_0 : decode cX1_flawOfDirt 0 = .ok (.aload_n 0, 1) := by decide +kernel
theorem dX1_flawOfDirt_1 : decode cX1_flawOfDirt 1 = .ok (.invokevirtual 60, 3) := by decide +kernel
theorem dX1_flawOfDirt_4 : decode cX1_flawOfDirt 4 = .ok (.iconst 0, 1) := by decide +kernel
theorem dX1_flawOfDirt_5 : decode cX1_flawOfDirt 5 = .ok (.istore_n 2, 1) := by decide +kernel
theorem dX1_flawOfDirt_6 : decode cX1_flawOfDirt 6 = .ok (.iload_n 2, 1) := by decide +kernel
theorem dX1_flawOfDirt_7 : decode cX1_flawOfDirt 7 = .ok (.aload_n 0, 1) := by decide +kernel
theorem dX1_flawOfDirt_8 : decode cX1_flawOfDirt 8 = .ok (.getfield 39, 3) := by decide +kernel
theorem dX1_flawOfDirt_11 : decode cX1_flawOfDirt 11 = .ok (.getfield 44, 3) := by decide +kernel
theorem dX1_flawOfDirt_14 : decode cX1_flawOfDirt 14 = .ok (.if_icmp .ge 35, 3) := by decide +kernel
theorem dX1_flawOfDirt_17 : decode cX1_flawOfDirt 17 = .ok (.aload_n 0, 1) := by decide +kernel
theorem dX1_flawOfDirt_18 : decode cX1_flawOfDirt 18 = .ok (.getfield 29, 3) := by decide +kernel
theorem dX1_flawOfDirt_21 : decode cX1_flawOfDirt 21 = .ok (.iload_n 2, 1) := by decide +kernel
theorem dX1_flawOfDirt_22 : decode cX1_flawOfDirt 22 = .ok (.aaload, 1) := by decide +kernel
theorem dX1_flawOfDirt_23 : decode cX1_flawOfDirt 23 = .ok (.aload_n 0, 1) := by decide +kernel
theorem dX1_flawOfDirt_24 : decode cX1_flawOfDirt 24 = .ok (.getfield 39, 3) := by decide +kernel
theorem dX1_flawOfDirt_27 : decode cX1_flawOfDirt 27 = .ok (.getfield 63, 3) := by decide +kernel
theorem dX1_flawOfDirt_30 : decode cX1_flawOfDirt 30 = .ok (.iload_n 2, 1) := by decide +kernel
theorem dX1_flawOfDirt_31 : decode cX1_flawOfDirt 31 = .ok (.iaload, 1) := by decide +kernel
theorem dX1_flawOfDirt_32 : decode cX1_flawOfDirt 32 = .ok (.invokevirtual 66, 3) := by decide +kernel
theorem dX1_flawOfDirt_35 : decode cX1_flawOfDirt 35 = .ok (.ifCond .eq 8, 3) := by decide +kernel
theorem dX1_flawOfDirt_38 : decode cX1_flawOfDirt 38 = .ok (.bipush 40, 2) := by decide +kernel
theorem dX1_flawOfDirt_40 : decode cX1_flawOfDirt 40 = .ok (.iload_n 2, 1) := by decide +kernel
theorem dX1_flawOfDirt_41 : decode cX1_flawOfDirt 41 = .ok (.iadd, 1) := by decide +kernel
theorem dX1_flawOfDirt_42 : decode cX1_flawOfDirt 42 = .ok (.ireturn, 1) := by decide +kernel
theorem dX1_flawOfDirt_43 : decode cX1_flawOfDirt 43 = .ok (.iinc 2 1, 3) := by decide +kernel
theorem dX1_flawOfDirt_46 : decode cX1_flawOfDirt 46 = .ok (.goto (-40), 3) := by decide +kernel
theorem dX1_flawOfDirt_49 : decode cX1_flawOfDirt 49 = .ok (.iconst 0, 1) := by decide +kernel
theorem dX1_flawOfDirt_50 : decode cX1_flawOfDirt 50 = .ok (.istore_n 2, 1) := by decide +kernel
theorem dX1_flawOfDirt_51 : decode cX1_flawOfDirt 51 = .ok (.iload_n 2, 1) := by decide +kernel
theorem dX1_flawOfDirt_52 : decode cX1_flawOfDirt 52 = .ok (.aload_n 0, 1) := by decide +kernel
theorem dX1_flawOfDirt_53 : decode cX1_flawOfDirt 53 = .ok (.getfield 39, 3) := by decide +kernel
theorem dX1_flawOfDirt_56 : decode cX1_flawOfDirt 56 = .ok (.getfield 44, 3) := by decide +kernel
theorem dX1_flawOfDirt_59 : decode cX1_flawOfDirt 59 = .ok (.if_icmp .ge 35, 3) := by decide +kernel
theorem dX1_flawOfDirt_62 : decode cX1_flawOfDirt 62 = .ok (.aload_n 0, 1) := by decide +kernel
theorem dX1_flawOfDirt_63 : decode cX1_flawOfDirt 63 = .ok (.getfield 33, 3) := by decide +kernel
theorem dX1_flawOfDirt_66 : decode cX1_flawOfDirt 66 = .ok (.iload_n 2, 1) := by decide +kernel
theorem dX1_flawOfDirt_67 : decode cX1_flawOfDirt 67 = .ok (.aaload, 1) := by decide +kernel
theorem dX1_flawOfDirt_68 : decode cX1_flawOfDirt 68 = .ok (.aload_n 1, 1) := by decide +kernel
theorem dX1_flawOfDirt_69 : decode cX1_flawOfDirt 69 = .ok (.aload_n 1, 1) := by decide +kernel
theorem dX1_flawOfDirt_70 : decode cX1_flawOfDirt 70 = .ok (.invokevirtual 70, 3) := by decide +kernel
theorem dX1_flawOfDirt_73 : decode cX1_flawOfDirt 73 = .ok (.iload_n 2, 1) := by decide +kernel
theorem dX1_flawOfDirt_74 : decode cX1_flawOfDirt 74 = .ok (.invokevirtual 76, 3) := by decide +kernel
theorem dX1_flawOfDirt_77 : decode cX1_flawOfDirt 77 = .ok (.invokevirtual 66, 3) := by decide +kernel
theorem dX1_flawOfDirt_80 : decode cX1_flawOfDirt 80 = .ok (.ifCond .eq 8, 3) := by decide +kernel
theorem dX1_flawOfDirt_83 : decode cX1_flawOfDirt 83 = .ok (.bipush 50, 2) := by decide +kernel
theorem dX1_flawOfDirt_85 : decode cX1_flawOfDirt 85 = .ok (.iload_n 2, 1) := by decide +kernel
theorem dX1_flawOfDirt_86 : decode cX1_flawOfDirt 86 = .ok (.iadd, 1) := by decide +kernel
theorem dX1_flawOfDirt_87 : decode cX1_flawOfDirt 87 = .ok (.ireturn, 1) := by decide +kernel
theorem dX1_flawOfDirt_88 : decode cX1_flawOfDirt 88 = .ok (.iinc 2 1, 3) := by decide +kernel
theorem dX1_flawOfDirt_91 : decode cX1_flawOfDirt 91 = .ok (.goto (-40), 3) := by decide +kernel
theorem dX1_flawOfDirt_94 : decode cX1_flawOfDirt 94 = .ok (.iconst 0, 1) := by decide +kernel
theorem dX1_flawOfDirt_95 : decode cX1_flawOfDirt 95 = .ok (.ireturn, 1) := by decide +kernel
theorem dX1_spreadDirt_0 : decode cX1_spreadDirt 0 = .ok (.iconst 0, 1) := by decide +kernel
theorem dX1_spreadDirt_1 : decode cX1_spreadDirt 1 = .ok (.istore_n 1, 1) := by decide +kernel
theorem dX1_spreadDirt_2 : decode cX1_spreadDirt 2 = .ok (.iload_n 1, 1) := by decide +kernel
theorem dX1_spreadDirt_3 : decode cX1_spreadDirt 3 = .ok (.aload_n 0, 1) := by decide +kernel
theorem dX1_spreadDirt_4 : decode cX1_spreadDirt 4 = .ok (.getfield 39, 3) := by decide +kernel
theorem dX1_spreadDirt_7 : decode cX1_spreadDirt 7 = .ok (.getfield 44, 3) := by decide +kernel
theorem dX1_spreadDirt_10 : decode cX1_spreadDirt 10 = .ok (.if_icmp .ge 19, 3) := by decide +kernel
theorem dX1_spreadDirt_13 : decode cX1_spreadDirt 13 = .ok (.aload_n 0, 1) := by decide +kernel
theorem dX1_spreadDirt_14 : decode cX1_spreadDirt 14 = .ok (.aload_n 0, 1) := by decide +kernel
theorem dX1_spreadDirt_15 : decode cX1_spreadDirt 15 = .ok (.getfield 24, 3) := by decide +kernel
theorem dX1_spreadDirt_18 : decode cX1_spreadDirt 18 = .ok (.iload_n 1, 1) := by decide +kernel
theorem dX1_spreadDirt_19 : decode cX1_spreadDirt 19 = .ok (.iaload, 1) := by decide +kernel
theorem dX1_spreadDirt_20 : decode cX1_spreadDirt 20 = .ok (.invokevirtual 80, 3) := by decide +kernel
theorem dX1_spreadDirt_23 : decode cX1_spreadDirt 23 = .ok (.iinc 1 1, 3) := by decide +kernel
theorem dX1_spreadDirt_26 : decode cX1_spreadDirt 26 = .ok (.goto (-24), 3) := by decide +kernel
theorem dX1_spreadDirt_29 : decode cX1_spreadDirt 29 = .ok (.return_, 1) := by decide +kernel
theorem dX1_soil_0 : decode cX1_soil 0 = .ok (.aload_n 0, 1) := by decide +kernel
theorem dX1_soil_1 : decode cX1_soil 1 = .ok (.getfield 29, 3) := by decide +kernel
theorem dX1_soil_4 : decode cX1_soil 4 = .ok (.iload_n 1, 1) := by decide +kernel
theorem dX1_soil_5 : decode cX1_soil 5 = .ok (.aaload, 1) := by decide +kernel
theorem dX1_soil_6 : decode cX1_soil 6 = .ok (.astore_n 2, 1) := by decide +kernel
theorem dX1_soil_7 : decode cX1_soil 7 = .ok (.aload_n 2, 1) := by decide +kernel
theorem dX1_soil_8 : decode cX1_soil 8 = .ok (.lconst 0, 1) := by decide +kernel
theorem dX1_soil_9 : decode cX1_soil 9 = .ok (.lconst 1, 1) := by decide +kernel
theorem dX1_soil_10 : decode cX1_soil 10 = .ok (.invokevirtual 84, 3) := by decide +kernel
theorem dX1_soil_13 : decode cX1_soil 13 = .ok (.iconst 0, 1) := by decide +kernel
theorem dX1_soil_14 : decode cX1_soil 14 = .ok (.istore_n 3, 1) := by decide +kernel
theorem dX1_soil_15 : decode cX1_soil 15 = .ok (.iload_n 3, 1) := by decide +kernel
theorem dX1_soil_16 : decode cX1_soil 16 = .ok (.aload_n 0, 1) := by decide +kernel
theorem dX1_soil_17 : decode cX1_soil 17 = .ok (.getfield 39, 3) := by decide +kernel
theorem dX1_soil_20 : decode cX1_soil 20 = .ok (.getfield 44, 3) := by decide +kernel
theorem dX1_soil_23 : decode cX1_soil 23 = .ok (.if_icmp .ge 38, 3) := by decide +kernel
theorem dX1_soil_26 : decode cX1_soil 26 = .ok (.aload_n 0, 1) := by decide +kernel
theorem dX1_soil_27 : decode cX1_soil 27 = .ok (.getfield 17, 3) := by decide +kernel
theorem dX1_soil_30 : decode cX1_soil 30 = .ok (.iload_n 3, 1) := by decide +kernel
theorem dX1_soil_31 : decode cX1_soil 31 = .ok (.aaload, 1) := by decide +kernel
theorem dX1_soil_32 : decode cX1_soil 32 = .ok (.iload_n 1, 1) := by decide +kernel
theorem dX1_soil_33 : decode cX1_soil 33 = .ok (.iaload, 1) := by decide +kernel
theorem dX1_soil_34 : decode cX1_soil 34 = .ok (.ifCond .le 21, 3) := by decide +kernel
theorem dX1_soil_37 : decode cX1_soil 37 = .ok (.aload_n 2, 1) := by decide +kernel
theorem dX1_soil_38 : decode cX1_soil 38 = .ok (.aload_n 0, 1) := by decide +kernel
theorem dX1_soil_39 : decode cX1_soil 39 = .ok (.getfield 33, 3) := by decide +kernel
theorem dX1_soil_42 : decode cX1_soil 42 = .ok (.iload_n 3, 1) := by decide +kernel
theorem dX1_soil_43 : decode cX1_soil 43 = .ok (.aaload, 1) := by decide +kernel
theorem dX1_soil_44 : decode cX1_soil 44 = .ok (.aload_n 0, 1) := by decide +kernel
theorem dX1_soil_45 : decode cX1_soil 45 = .ok (.getfield 17, 3) := by decide +kernel
theorem dX1_soil_48 : decode cX1_soil 48 = .ok (.iload_n 3, 1) := by decide +kernel
theorem dX1_soil_49 : decode cX1_soil 49 = .ok (.aaload, 1) := by decide +kernel
theorem dX1_soil_50 : decode cX1_soil 50 = .ok (.iload_n 1, 1) := by decide +kernel
theorem dX1_soil_51 : decode cX1_soil 51 = .ok (.iaload, 1) := by decide +kernel
theorem dX1_soil_52 : decode cX1_soil 52 = .ok (.invokevirtual 88, 3) := by decide +kernel
theorem dX1_soil_55 : decode cX1_soil 55 = .ok (.iinc 3 1, 3) := by decide +kernel
theorem dX1_soil_58 : decode cX1_soil 58 = .ok (.goto (-43), 3) := by decide +kernel
theorem dX1_soil_61 : decode cX1_soil 61 = .ok (.aload_n 0, 1) := by decide +kernel
theorem dX1_soil_62 : decode cX1_soil 62 = .ok (.iload_n 1, 1) := by decide +kernel
theorem dX1_soil_63 : decode cX1_soil 63 = .ok (.invokevirtual 50, 3) := by decide +kernel
theorem dX1_soil_66 : decode cX1_soil 66 = .ok (.istore_n 3, 1) := by decide +kernel
theorem dX1_soil_67 : decode cX1_soil 67 = .ok (.aload_n 0, 1) := by decide +kernel
theorem dX1_soil_68 : decode cX1_soil 68 = .ok (.getfield 33, 3) := by decide +kernel
theorem dX1_soil_71 : decode cX1_soil 71 = .ok (.iload_n 1, 1) := by decide +kernel
theorem dX1_soil_72 : decode cX1_soil 72 = .ok (.aaload, 1) := by decide +kernel
theorem dX1_soil_73 : decode cX1_soil 73 = .ok (.astore 4, 2) := by decide +kernel
theorem dX1_soil_75 : decode cX1_soil 75 = .ok (.aload 4, 2) := by decide +kernel
theorem dX1_soil_77 : decode cX1_soil 77 = .ok (.aload_n 2, 1) := by decide +kernel
theorem dX1_soil_78 : decode cX1_soil 78 = .ok (.getfield 92, 3) := by decide +kernel
theorem dX1_soil_81 : decode cX1_soil 81 = .ok (.aload_n 2, 1) := by decide +kernel
theorem dX1_soil_82 : decode cX1_soil 82 = .ok (.getfield 96, 3) := by decide +kernel
theorem dX1_soil_85 : decode cX1_soil 85 = .ok (.invokevirtual 84, 3) := by decide +kernel
theorem dX1_soil_88 : decode cX1_soil 88 = .ok (.aload 4, 2) := by decide +kernel
theorem dX1_soil_90 : decode cX1_soil 90 = .ok (.aload_n 0, 1) := by decide +kernel
theorem dX1_soil_91 : decode cX1_soil 91 = .ok (.getfield 39, 3) := by decide +kernel
theorem dX1_soil_94 : decode cX1_soil 94 = .ok (.getfield 99, 3) := by decide +kernel
theorem dX1_soil_97 : decode cX1_soil 97 = .ok (.iload_n 1, 1) := by decide +kernel
theorem dX1_soil_98 : decode cX1_soil 98 = .ok (.iaload, 1) := by decide +kernel
theorem dX1_soil_99 : decode cX1_soil 99 = .ok (.invokevirtual 102, 3) := by decide +kernel
theorem dX1_soil_102 : decode cX1_soil 102 = .ok (.aload 4, 2) := by decide +kernel
theorem dX1_soil_104 : decode cX1_soil 104 = .ok (.iload_n 3, 1) := by decide +kernel
theorem dX1_soil_105 : decode cX1_soil 105 = .ok (.invokevirtual 105, 3) := by decide +kernel
theorem dX1_soil_108 : decode cX1_soil 108 = .ok (.aload_n 2, 1) := by decide +kernel
theorem dX1_soil_109 : decode cX1_soil 109 = .ok (.iload_n 3, 1) := by decide +kernel
theorem dX1_soil_110 : decode cX1_soil 110 = .ok (.invokevirtual 105, 3) := by decide +kernel
theorem dX1_soil_113 : decode cX1_soil 113 = .ok (.return_, 1) := by decide +kernel
theorem dX1_takeInOrder_0 : decode cX1_takeInOrder 0 = .ok (.iconst 0, 1) := by decide +kernel
theorem dX1_takeInOrder_1 : decode cX1_takeInOrder 1 = .ok (.istore_n 1, 1) := by decide +kernel
theorem dX1_takeInOrder_2 : decode cX1_takeInOrder 2 = .ok (.iload_n 1, 1) := by decide +kernel
theorem dX1_takeInOrder_3 : decode cX1_takeInOrder 3 = .ok (.iconst 5, 1) := by decide +kernel
theorem dX1_takeInOrder_4 : decode cX1_takeInOrder 4 = .ok (.if_icmp .ge 16, 3) := by decide +kernel
theorem dX1_takeInOrder_7 : decode cX1_takeInOrder 7 = .ok (.aload_n 0, 1) := by decide +kernel
theorem dX1_takeInOrder_8 : decode cX1_takeInOrder 8 = .ok (.getfield 20, 3) := by decide +kernel
theorem dX1_takeInOrder_11 : decode cX1_takeInOrder 11 = .ok (.iload_n 1, 1) := by decide +kernel
theorem dX1_takeInOrder_12 : decode cX1_takeInOrder 12 = .ok (.iconst 0, 1) := by decide +kernel
theorem dX1_takeInOrder_13 : decode cX1_takeInOrder 13 = .ok (.bastore, 1) := by decide +kernel
theorem dX1_takeInOrder_14 : decode cX1_takeInOrder 14 = .ok (.iinc 1 1, 3) := by decide +kernel
theorem dX1_takeInOrder_17 : decode cX1_takeInOrder 17 = .ok (.goto (-15), 3) := by decide +kernel
theorem dX1_takeInOrder_20 : decode cX1_takeInOrder 20 = .ok (.iconst 0, 1) := by decide +kernel
theorem dX1_takeInOrder_21 : decode cX1_takeInOrder 21 = .ok (.istore_n 1, 1) := by decide +kernel
theorem dX1_takeInOrder_22 : decode cX1_takeInOrder 22 = .ok (.iconst 0, 1) := by decide +kernel
theorem dX1_takeInOrder_23 : decode cX1_takeInOrder 23 = .ok (.istore_n 2, 1) := by decide +kernel
theorem dX1_takeInOrder_24 : decode cX1_takeInOrder 24 = .ok (.iload_n 2, 1) := by decide +kernel
theorem dX1_takeInOrder_25 : decode cX1_takeInOrder 25 = .ok (.aload_n 0, 1) := by decide +kernel
theorem dX1_takeInOrder_26 : decode cX1_takeInOrder 26 = .ok (.getfield 39, 3) := by decide +kernel
theorem dX1_takeInOrder_29 : decode cX1_takeInOrder 29 = .ok (.getfield 44, 3) := by decide +kernel
theorem dX1_takeInOrder_32 : decode cX1_takeInOrder 32 = .ok (.if_icmp .ge 71, 3) := by decide +kernel
theorem dX1_takeInOrder_35 : decode cX1_takeInOrder 35 = .ok (.iconst 0, 1) := by decide +kernel
theorem dX1_takeInOrder_36 : decode cX1_takeInOrder 36 = .ok (.istore_n 3, 1) := by decide +kernel
theorem dX1_takeInOrder_37 : decode cX1_takeInOrder 37 = .ok (.iload_n 3, 1) := by decide +kernel
theorem dX1_takeInOrder_38 : decode cX1_takeInOrder 38 = .ok (.aload_n 0, 1) := by decide +kernel
theorem dX1_takeInOrder_39 : decode cX1_takeInOrder 39 = .ok (.getfield 39, 3) := by decide +kernel
theorem dX1_takeInOrder_42 : decode cX1_takeInOrder 42 = .ok (.getfield 44, 3) := by decide +kernel
theorem dX1_takeInOrder_45 : decode cX1_takeInOrder 45 = .ok (.if_icmp .ge 52, 3) := by decide +kernel
theorem dX1_takeInOrder_48 : decode cX1_takeInOrder 48 = .ok (.aload_n 0, 1) := by decide +kernel
theorem dX1_takeInOrder_49 : decode cX1_takeInOrder 49 = .ok (.getfield 20, 3) := by decide +kernel
theorem dX1_takeInOrder_52 : decode cX1_takeInOrder 52 = .ok (.iload_n 3, 1) := by decide +kernel
theorem dX1_takeInOrder_53 : decode cX1_takeInOrder 53 = .ok (.baload, 1) := by decide +kernel
theorem dX1_takeInOrder_54 : decode cX1_takeInOrder 54 = .ok (.ifCond .ne 37, 3) := by decide +kernel
theorem dX1_takeInOrder_57 : decode cX1_takeInOrder 57 = .ok (.iload_n 1, 1) := by decide +kernel
theorem dX1_takeInOrder_58 : decode cX1_takeInOrder 58 = .ok (.aload_n 0, 1) := by decide +kernel
theorem dX1_takeInOrder_59 : decode cX1_takeInOrder 59 = .ok (.getfield 24, 3) := by decide +kernel
theorem dX1_takeInOrder_62 : decode cX1_takeInOrder 62 = .ok (.arraylength, 1) := by decide +kernel
theorem dX1_takeInOrder_63 : decode cX1_takeInOrder 63 = .ok (.if_icmp .ge 28, 3) := by decide +kernel
theorem dX1_takeInOrder_66 : decode cX1_takeInOrder 66 = .ok (.aload_n 0, 1) := by decide +kernel
theorem dX1_takeInOrder_67 : decode cX1_takeInOrder 67 = .ok (.iload_n 3, 1) := by decide +kernel
theorem dX1_takeInOrder_68 : decode cX1_takeInOrder 68 = .ok (.invokevirtual 108, 3) := by decide +kernel
theorem dX1_takeInOrder_71 : decode cX1_takeInOrder 71 = .ok (.ifCond .eq 20, 3) := by decide +kernel
theorem dX1_takeInOrder_74 : decode cX1_takeInOrder 74 = .ok (.aload_n 0, 1) := by decide +kernel
theorem dX1_takeInOrder_75 : decode cX1_takeInOrder 75 = .ok (.getfield 20, 3) := by decide +kernel
theorem dX1_takeInOrder_78 : decode cX1_takeInOrder 78 = .ok (.iload_n 3, 1) := by decide +kernel
theorem dX1_takeInOrder_79 : decode cX1_takeInOrder 79 = .ok (.iconst 1, 1) := by decide +kernel
theorem dX1_takeInOrder_80 : decode cX1_takeInOrder 80 = .ok (.bastore, 1) := by decide +kernel
theorem dX1_takeInOrder_81 : decode cX1_takeInOrder 81 = .ok (.aload_n 0, 1) := by decide +kernel
theorem dX1_takeInOrder_82 : decode cX1_takeInOrder 82 = .ok (.getfield 24, 3) := by decide +kernel
theorem dX1_takeInOrder_85 : decode cX1_takeInOrder 85 = .ok (.iload_n 1, 1) := by decide +kernel
theorem dX1_takeInOrder_86 : decode cX1_takeInOrder 86 = .ok (.iload_n 3, 1) := by decide +kernel
theorem dX1_takeInOrder_87 : decode cX1_takeInOrder 87 = .ok (.iastore, 1) := by decide +kernel
theorem dX1_takeInOrder_88 : decode cX1_takeInOrder 88 = .ok (.iinc 1 1, 3) := by decide +kernel
theorem dX1_takeInOrder_91 : decode cX1_takeInOrder 91 = .ok (.iinc 3 1, 3) := by decide +kernel
theorem dX1_takeInOrder_94 : decode cX1_takeInOrder 94 = .ok (.goto (-57), 3) := by decide +kernel
theorem dX1_takeInOrder_97 : decode cX1_takeInOrder 97 = .ok (.iinc 2 1, 3) := by decide +kernel
theorem dX1_takeInOrder_100 : decode cX1_takeInOrder 100 = .ok (.goto (-76), 3) := by decide +kernel
theorem dX1_takeInOrder_103 : decode cX1_takeInOrder 103 = .ok (.return_, 1) := by decide +kernel
theorem dX1_hasOnlyOfTaken_0 : decode cX1_hasOnlyOfTaken 0 = .ok (.iconst 0, 1) := by decide +kernel
theorem dX1_hasOnlyOfTaken_1 : decode cX1_hasOnlyOfTaken 1 = .ok (.istore_n 2, 1) := by decide +kernel
theorem dX1_hasOnlyOfTaken_2 : decode cX1_hasOnlyOfTaken 2 = .ok (.iload_n 2, 1) := by decide +kernel
theorem dX1_hasOnlyOfTaken_3 : decode cX1_hasOnlyOfTaken 3 = .ok (.aload_n 0, 1) := by decide +kernel
theorem dX1_hasOnlyOfTaken_4 : decode cX1_hasOnlyOfTaken 4 = .ok (.getfield 39, 3) := by decide +kernel
theorem dX1_hasOnlyOfTaken_7 : decode cX1_hasOnlyOfTaken 7 = .ok (.getfield 44, 3) := by decide +kernel
theorem dX1_hasOnlyOfTaken_10 : decode cX1_hasOnlyOfTaken 10 = .ok (.if_icmp .ge 31, 3) := by decide +kernel
theorem dX1_hasOnlyOfTaken_13 : decode cX1_hasOnlyOfTaken 13 = .ok (.aload_n 0, 1) := by decide +kernel
theorem dX1_hasOnlyOfTaken_14 : decode cX1_hasOnlyOfTaken 14 = .ok (.getfield 17, 3) := by decide +kernel
theorem dX1_hasOnlyOfTaken_17 : decode cX1_hasOnlyOfTaken 17 = .ok (.iload_n 2, 1) := by decide +kernel
theorem dX1_hasOnlyOfTaken_18 : decode cX1_hasOnlyOfTaken 18 = .ok (.aaload, 1) := by decide +kernel
theorem dX1_hasOnlyOfTaken_19 : decode cX1_hasOnlyOfTaken 19 = .ok (.iload_n 1, 1) := by decide +kernel
theorem dX1_hasOnlyOfTaken_20 : decode cX1_hasOnlyOfTaken 20 = .ok (.iaload, 1) := by decide +kernel
theorem dX1_hasOnlyOfTaken_21 : decode cX1_hasOnlyOfTaken 21 = .ok (.ifCond .le 14, 3) := by decide +kernel
theorem dX1_hasOnlyOfTaken_24 : decode cX1_hasOnlyOfTaken 24 = .ok (.aload_n 0, 1) := by decide +kernel
theorem dX1_hasOnlyOfTaken_25 : decode cX1_hasOnlyOfTaken 25 = .ok (.getfield 20, 3) := by decide +kernel
theorem dX1_hasOnlyOfTaken_28 : decode cX1_hasOnlyOfTaken 28 = .ok (.iload_n 2, 1) := by decide +kernel
theorem dX1_hasOnlyOfTaken_29 : decode cX1_hasOnlyOfTaken 29 = .ok (.baload, 1) := by decide +kernel
theorem dX1_hasOnlyOfTaken_30 : decode cX1_hasOnlyOfTaken 30 = .ok (.ifCond .ne 5, 3) := by decide +kernel
theorem dX1_hasOnlyOfTaken_33 : decode cX1_hasOnlyOfTaken 33 = .ok (.iconst 0, 1) := by decide +kernel
theorem dX1_hasOnlyOfTaken_34 : decode cX1_hasOnlyOfTaken 34 = .ok (.ireturn, 1) := by decide +kernel
theorem dX1_hasOnlyOfTaken_35 : decode cX1_hasOnlyOfTaken 35 = .ok (.iinc 2 1, 3) := by decide +kernel
theorem dX1_hasOnlyOfTaken_38 : decode cX1_hasOnlyOfTaken 38 = .ok (.goto (-36), 3) := by decide +kernel
theorem dX1_hasOnlyOfTaken_41 : decode cX1_hasOnlyOfTaken 41 = .ok (.iconst 1, 1) := by decide +kernel
theorem dX1_hasOnlyOfTaken_42 : decode cX1_hasOnlyOfTaken 42 = .ok (.ireturn, 1) := by decide +kernel
theorem dX1_spreadUpset_0 : decode cX1_spreadUpset 0 = .ok (.iconst 0, 1) := by decide +kernel
theorem dX1_spreadUpset_1 : decode cX1_spreadUpset 1 = .ok (.istore_n 3, 1) := by decide +kernel
theorem dX1_spreadUpset_2 : decode cX1_spreadUpset 2 = .ok (.iload_n 3, 1) := by decide +kernel
theorem dX1_spreadUpset_3 : decode cX1_spreadUpset 3 = .ok (.iconst 5, 1) := by decide +kernel
theorem dX1_spreadUpset_4 : decode cX1_spreadUpset 4 = .ok (.if_icmp .ge 17, 3) := by decide +kernel
theorem dX1_spreadUpset_7 : decode cX1_spreadUpset 7 = .ok (.aload_n 0, 1) := by decide +kernel
theorem dX1_spreadUpset_8 : decode cX1_spreadUpset 8 = .ok (.getfield 36, 3) := by decide +kernel
theorem dX1_spreadUpset_11 : decode cX1_spreadUpset 11 = .ok (.iload_n 3, 1) := by decide +kernel
theorem dX1_spreadUpset_12 : decode cX1_spreadUpset 12 = .ok (.bipush (-9), 2) := by decide +kernel
theorem dX1_spreadUpset_14 : decode cX1_spreadUpset 14 = .ok (.iastore, 1) := by decide +kernel
theorem dX1_spreadUpset_15 : decode cX1_spreadUpset 15 = .ok (.iinc 3 1, 3) := by decide +kernel
theorem dX1_spreadUpset_18 : decode cX1_spreadUpset 18 = .ok (.goto (-16), 3) := by decide +kernel
theorem dX1_spreadUpset_21 : decode cX1_spreadUpset 21 = .ok (.aload_n 0, 1) := by decide +kernel
theorem dX1_spreadUpset_22 : decode cX1_spreadUpset 22 = .ok (.getfield 36, 3) := by decide +kernel
theorem dX1_spreadUpset_25 : decode cX1_spreadUpset 25 = .ok (.iload_n 1, 1) := by decide +kernel
theorem dX1_spreadUpset_26 : decode cX1_spreadUpset 26 = .ok (.iload_n 2, 1) := by decide +kernel
theorem dX1_spreadUpset_27 : decode cX1_spreadUpset 27 = .ok (.iastore, 1) := by decide +kernel
theorem dX1_spreadUpset_28 : decode cX1_spreadUpset 28 = .ok (.iconst 0, 1) := by decide +kernel
theorem dX1_spreadUpset_29 : decode cX1_spreadUpset 29 = .ok (.istore_n 3, 1) := by decide +kernel
theorem dX1_spreadUpset_30 : decode cX1_spreadUpset 30 = .ok (.iload_n 3, 1) := by decide +kernel
theorem dX1_spreadUpset_31 : decode cX1_spreadUpset 31 = .ok (.aload_n 0, 1) := by decide +kernel
theorem dX1_spreadUpset_32 : decode cX1_spreadUpset 32 = .ok (.getfield 39, 3) := by decide +kernel
theorem dX1_spreadUpset_35 : decode cX1_spreadUpset 35 = .ok (.getfield 44, 3) := by decide +kernel
theorem dX1_spreadUpset_38 : decode cX1_spreadUpset 38 = .ok (.if_icmp .ge 49, 3) := by decide +kernel
theorem dX1_spreadUpset_41 : decode cX1_spreadUpset 41 = .ok (.iconst 0, 1) := by decide +kernel
theorem dX1_spreadUpset_42 : decode cX1_spreadUpset 42 = .ok (.istore 4, 2) := by decide +kernel
theorem dX1_spreadUpset_44 : decode cX1_spreadUpset 44 = .ok (.iload 4, 2) := by decide +kernel
theorem dX1_spreadUpset_46 : decode cX1_spreadUpset 46 = .ok (.aload_n 0, 1) := by decide +kernel
theorem dX1_spreadUpset_47 : decode cX1_spreadUpset 47 = .ok (.getfield 39, 3) := by decide +kernel
theorem dX1_spreadUpset_50 : decode cX1_spreadUpset 50 = .ok (.getfield 44, 3) := by decide +kernel
theorem dX1_spreadUpset_53 : decode cX1_spreadUpset 53 = .ok (.if_icmp .ge 28, 3) := by decide +kernel
theorem dX1_spreadUpset_56 : decode cX1_spreadUpset 56 = .ok (.iload 4, 2) := by decide +kernel
theorem dX1_spreadUpset_58 : decode cX1_spreadUpset 58 = .ok (.iload_n 1, 1) := by decide +kernel
theorem dX1_spreadUpset_59 : decode cX1_spreadUpset 59 = .ok (.if_icmp .eq 16, 3) := by decide +kernel
theorem dX1_spreadUpset_62 : decode cX1_spreadUpset 62 = .ok (.aload_n 0, 1) := by decide +kernel
theorem dX1_spreadUpset_63 : decode cX1_spreadUpset 63 = .ok (.getfield 36, 3) := by decide +kernel
theorem dX1_spreadUpset_66 : decode cX1_spreadUpset 66 = .ok (.iload 4, 2) := by decide +kernel
theorem dX1_spreadUpset_68 : decode cX1_spreadUpset 68 = .ok (.aload_n 0, 1) := by decide +kernel
theorem dX1_spreadUpset_69 : decode cX1_spreadUpset 69 = .ok (.iload 4, 2) := by decide +kernel
theorem dX1_spreadUpset_71 : decode cX1_spreadUpset 71 = .ok (.invokevirtual 111, 3) := by decide +kernel
theorem dX1_spreadUpset_74 : decode cX1_spreadUpset 74 = .ok (.iastore, 1) := by decide +kernel
theorem dX1_spreadUpset_75 : decode cX1_spreadUpset 75 = .ok (.iinc 4 1, 3) := by decide +kernel
theorem dX1_spreadUpset_78 : decode cX1_spreadUpset 78 = .ok (.goto (-34), 3) := by decide +kernel
theorem dX1_spreadUpset_81 : decode cX1_spreadUpset 81 = .ok (.iinc 3 1, 3) := by decide +kernel
theorem dX1_spreadUpset_84 : decode cX1_spreadUpset 84 = .ok (.goto (-54), 3) := by decide +kernel
theorem dX1_spreadUpset_87 : decode cX1_spreadUpset 87 = .ok (.return_, 1) := by decide +kernel
theorem dX1_hitBehindOthers_0 : decode cX1_hitBehindOthers 0 = .ok (.bipush (-9), 2) := by decide +kernel
theorem dX1_hitBehindOthers_2 : decode cX1_hitBehindOthers 2 = .ok (.istore_n 2, 1) := by decide +kernel
theorem dX1_hitBehindOthers_3 : decode cX1_hitBehindOthers 3 = .ok (.iconst 0, 1) := by decide +kernel
theorem dX1_hitBehindOthers_4 : decode cX1_hitBehindOthers 4 = .ok (.istore_n 3, 1) := by decide +kernel
theorem dX1_hitBehindOthers_5 : decode cX1_hitBehindOthers 5 = .ok (.iload_n 3, 1) := by decide +kernel
theorem dX1_hitBehindOthers_6 : decode cX1_hitBehindOthers 6 = .ok (.aload_n 0, 1) := by decide +kernel
theorem dX1_hitBehindOthers_7 : decode cX1_hitBehindOthers 7 = .ok (.getfield 39, 3) := by decide +kernel
theorem dX1_hitBehindOthers_10 : decode cX1_hitBehindOthers 10 = .ok (.getfield 44, 3) := by decide +kernel
theorem dX1_hitBehindOthers_13 : decode cX1_hitBehindOthers 13 = .ok (.if_icmp .ge 54, 3) := by decide +kernel
theorem dX1_hitBehindOthers_16 : decode cX1_hitBehindOthers 16 = .ok (.aload_n 0, 1) := by decide +kernel
theorem dX1_hitBehindOthers_17 : decode cX1_hitBehindOthers 17 = .ok (.getfield 17, 3) := by decide +kernel
theorem dX1_hitBehindOthers_20 : decode cX1_hitBehindOthers 20 = .ok (.iload_n 3, 1) := by decide +kernel
theorem dX1_hitBehindOthers_21 : decode cX1_hitBehindOthers 21 = .ok (.aaload, 1) := by decide +kernel
theorem dX1_hitBehindOthers_22 : decode cX1_hitBehindOthers 22 = .ok (.iload_n 1, 1) := by decide +kernel
theorem dX1_hitBehindOthers_23 : decode cX1_hitBehindOthers 23 = .ok (.iaload, 1) := by decide +kernel
theorem dX1_hitBehindOthers_24 : decode cX1_hitBehindOthers 24 = .ok (.ifCond .le 37, 3) := by decide +kernel
theorem dX1_hitBehindOthers_27 : decode cX1_hitBehindOthers 27 = .ok (.aload_n 0, 1) := by decide +kernel
theorem dX1_hitBehindOthers_28 : decode cX1_hitBehindOthers 28 = .ok (.getfield 36, 3) := by decide +kernel
theorem dX1_hitBehindOthers_31 : decode cX1_hitBehindOthers 31 = .ok (.iload_n 3, 1) := by decide +kernel
theorem dX1_hitBehindOthers_32 : decode cX1_hitBehindOthers 32 = .ok (.iaload, 1) := by decide +kernel
theorem dX1_hitBehindOthers_33 : decode cX1_hitBehindOthers 33 = .ok (.bipush (-9), 2) := by decide +kernel
theorem dX1_hitBehindOthers_35 : decode cX1_hitBehindOthers 35 = .ok (.if_icmp .eq 26, 3) := by decide +kernel
theorem dX1_hitBehindOthers_38 : decode cX1_hitBehindOthers 38 = .ok (.iload_n 2, 1) := by decide +kernel
theorem dX1_hitBehindOthers_39 : decode cX1_hitBehindOthers 39 = .ok (.bipush (-9), 2) := by decide +kernel
theorem dX1_hitBehindOthers_41 : decode cX1_hitBehindOthers 41 = .ok (.if_icmp .eq 13, 3) := by decide +kernel
theorem dX1_hitBehindOthers_44 : decode cX1_hitBehindOthers 44 = .ok (.aload_n 0, 1) := by decide +kernel
theorem dX1_hitBehindOthers_45 : decode cX1_hitBehindOthers 45 = .ok (.getfield 36, 3) := by decide +kernel
theorem dX1_hitBehindOthers_48 : decode cX1_hitBehindOthers 48 = .ok (.iload_n 3, 1) := by decide +kernel
theorem dX1_hitBehindOthers_49 : decode cX1_hitBehindOthers 49 = .ok (.iaload, 1) := by decide +kernel
theorem dX1_hitBehindOthers_50 : decode cX1_hitBehindOthers 50 = .ok (.iload_n 2, 1) := by decide +kernel
theorem dX1_hitBehindOthers_51 : decode cX1_hitBehindOthers 51 = .ok (.if_icmp .ge 10, 3) := by decide +kernel
theorem dX1_hitBehindOthers_54 : decode cX1_hitBehindOthers 54 = .ok (.aload_n 0, 1) := by decide +kernel
theorem dX1_hitBehindOthers_55 : decode cX1_hitBehindOthers 55 = .ok (.getfield 36, 3) := by decide +kernel
theorem dX1_hitBehindOthers_58 : decode cX1_hitBehindOthers 58 = .ok (.iload_n 3, 1) := by decide +kernel
theorem dX1_hitBehindOthers_59 : decode cX1_hitBehindOthers 59 = .ok (.iaload, 1) := by decide +kernel
theorem dX1_hitBehindOthers_60 : decode cX1_hitBehindOthers 60 = .ok (.istore_n 2, 1) := by decide +kernel
theorem dX1_hitBehindOthers_61 : decode cX1_hitBehindOthers 61 = .ok (.iinc 3 1, 3) := by decide +kernel
theorem dX1_hitBehindOthers_64 : decode cX1_hitBehindOthers 64 = .ok (.goto (-59), 3) := by decide +kernel
theorem dX1_hitBehindOthers_67 : decode cX1_hitBehindOthers 67 = .ok (.iload_n 2, 1) := by decide +kernel
theorem dX1_hitBehindOthers_68 : decode cX1_hitBehindOthers 68 = .ok (.bipush (-9), 2) := by decide +kernel
theorem dX1_hitBehindOthers_70 : decode cX1_hitBehindOthers 70 = .ok (.if_icmp .ne 8, 3) := by decide +kernel
theorem dX1_hitBehindOthers_73 : decode cX1_hitBehindOthers 73 = .ok (.bipush (-9), 2) := by decide +kernel
theorem dX1_hitBehindOthers_75 : decode cX1_hitBehindOthers 75 = .ok (.goto 14, 3) := by decide +kernel
theorem dX1_hitBehindOthers_78 : decode cX1_hitBehindOthers 78 = .ok (.iload_n 2, 1) := by decide +kernel
theorem dX1_hitBehindOthers_79 : decode cX1_hitBehindOthers 79 = .ok (.aload_n 0, 1) := by decide +kernel
theorem dX1_hitBehindOthers_80 : decode cX1_hitBehindOthers 80 = .ok (.getfield 39, 3) := by decide +kernel
theorem dX1_hitBehindOthers_83 : decode cX1_hitBehindOthers 83 = .ok (.getfield 114, 3) := by decide +kernel
theorem dX1_hitBehindOthers_86 : decode cX1_hitBehindOthers 86 = .ok (.iload_n 1, 1) := by decide +kernel
theorem dX1_hitBehindOthers_87 : decode cX1_hitBehindOthers 87 = .ok (.iaload, 1) := by decide +kernel
theorem dX1_hitBehindOthers_88 : decode cX1_hitBehindOthers 88 = .ok (.iadd, 1) := by decide +kernel
theorem dX1_hitBehindOthers_89 : decode cX1_hitBehindOthers 89 = .ok (.ireturn, 1) := by decide +kernel
theorem dX2_init_0 : decode cX2_init 0 = .ok (.aload_n 0, 1) := by decide +kernel
theorem dX2_init_1 : decode cX2_init 1 = .ok (.invokespecial 1, 3) := by decide +kernel
theorem dX2_init_4 : decode cX2_init 4 = .ok (.aload_n 0, 1) := by decide +kernel
theorem dX2_init_5 : decode cX2_init 5 = .ok (.lconst 1, 1) := by decide +kernel
theorem dX2_init_6 : decode cX2_init 6 = .ok (.putfield 7, 3) := by decide +kernel
theorem dX2_init_9 : decode cX2_init 9 = .ok (.return_, 1) := by decide +kernel
theorem dX2_become_0 : decode cX2_become 0 = .ok (.lload_n 1, 1) := by decide +kernel
theorem dX2_become_1 : decode cX2_become 1 = .ok (.invokestatic 13, 3) := by decide +kernel
theorem dX2_become_4 : decode cX2_become 4 = .ok (.lload_n 3, 1) := by decide +kernel
theorem dX2_become_5 : decode cX2_become 5 = .ok (.invokestatic 19, 3) := by decide +kernel
theorem dX2_become_8 : decode cX2_become 8 = .ok (.lstore 5, 2) := by decide +kernel
theorem dX2_become_10 : decode cX2_become 10 = .ok (.aload_n 0, 1) := by decide +kernel
theorem dX2_become_11 : decode cX2_become 11 = .ok (.lload_n 1, 1) := by decide +kernel
theorem dX2_become_12 : decode cX2_become 12 = .ok (.lload 5, 2) := by decide +kernel
theorem dX2_become_14 : decode cX2_become 14 = .ok (.ldiv, 1) := by decide +kernel
theorem dX2_become_15 : decode cX2_become 15 = .ok (.putfield 23, 3) := by decide +kernel
theorem dX2_become_18 : decode cX2_become 18 = .ok (.aload_n 0, 1) := by decide +kernel
theorem dX2_become_19 : decode cX2_become 19 = .ok (.lload_n 3, 1) := by decide +kernel
theorem dX2_become_20 : decode cX2_become 20 = .ok (.lload 5, 2) := by decide +kernel
theorem dX2_become_22 : decode cX2_become 22 = .ok (.ldiv, 1) := by decide +kernel
theorem dX2_become_23 : decode cX2_become 23 = .ok (.putfield 7, 3) := by decide +kernel
theorem dX2_become_26 : decode cX2_become 26 = .ok (.return_, 1) := by decide +kernel
theorem dX2_addTimes_0 : decode cX2_addTimes 0 = .ok (.aload_n 0, 1) := by decide +kernel
theorem dX2_addTimes_1 : decode cX2_addTimes 1 = .ok (.getfield 7, 3) := by decide +kernel
theorem dX2_addTimes_4 : decode cX2_addTimes 4 = .ok (.aload_n 1, 1) := by decide +kernel
theorem dX2_addTimes_5 : decode cX2_addTimes 5 = .ok (.getfield 7, 3) := by decide +kernel
theorem dX2_addTimes_8 : decode cX2_addTimes 8 = .ok (.invokestatic 19, 3) := by decide +kernel
theorem dX2_addTimes_11 : decode cX2_addTimes 11 = .ok (.lstore_n 3, 1) := by decide +kernel
theorem dX2_addTimes_12 : decode cX2_addTimes 12 = .ok (.aload_n 1, 1) := by decide +kernel
theorem dX2_addTimes_13 : decode cX2_addTimes 13 = .ok (.getfield 7, 3) := by decide +kernel
theorem dX2_addTimes_16 : decode cX2_addTimes 16 = .ok (.lload_n 3, 1) := by decide +kernel
theorem dX2_addTimes_17 : decode cX2_addTimes 17 = .ok (.ldiv, 1) := by decide +kernel
theorem dX2_addTimes_18 : decode cX2_addTimes 18 = .ok (.lstore 5, 2) := by decide +kernel
theorem dX2_addTimes_20 : decode cX2_addTimes 20 = .ok (.aload_n 0, 1) := by decide +kernel
theorem dX2_addTimes_21 : decode cX2_addTimes 21 = .ok (.getfield 7, 3) := by decide +kernel
theorem dX2_addTimes_24 : decode cX2_addTimes 24 = .ok (.lload_n 3, 1) := by decide +kernel
theorem dX2_addTimes_25 : decode cX2_addTimes 25 = .ok (.ldiv, 1) := by decide +kernel
theorem dX2_addTimes_26 : decode cX2_addTimes 26 = .ok (.lstore 7, 2) := by decide +kernel
theorem dX2_addTimes_28 : decode cX2_addTimes 28 = .ok (.aload_n 0, 1) := by decide +kernel
theorem dX2_addTimes_29 : decode cX2_addTimes 29 = .ok (.aload_n 0, 1) := by decide +kernel
theorem dX2_addTimes_30 : decode cX2_addTimes 30 = .ok (.getfield 23, 3) := by decide +kernel
theorem dX2_addTimes_33 : decode cX2_addTimes 33 = .ok (.lload 5, 2) := by decide +kernel
theorem dX2_addTimes_35 : decode cX2_addTimes 35 = .ok (.lmul, 1) := by decide +kernel
theorem dX2_addTimes_36 : decode cX2_addTimes 36 = .ok (.aload_n 1, 1) := by decide +kernel
theorem dX2_addTimes_37 : decode cX2_addTimes 37 = .ok (.getfield 23, 3) := by decide +kernel
theorem dX2_addTimes_40 : decode cX2_addTimes 40 = .ok (.iload_n 2, 1) := by decide +kernel
theorem dX2_addTimes_41 : decode cX2_addTimes 41 = .ok (.i2l, 1) := by decide +kernel
theorem dX2_addTimes_42 : decode cX2_addTimes 42 = .ok (.lmul, 1) := by decide +kernel
theorem dX2_addTimes_43 : decode cX2_addTimes 43 = .ok (.lload 7, 2) := by decide +kernel
theorem dX2_addTimes_45 : decode cX2_addTimes 45 = .ok (.lmul, 1) := by decide +kernel
theorem dX2_addTimes_46 : decode cX2_addTimes 46 = .ok (.ladd, 1) := by decide +kernel
theorem dX2_addTimes_47 : decode cX2_addTimes 47 = .ok (.aload_n 0, 1) := by decide +kernel
theorem dX2_addTimes_48 : decode cX2_addTimes 48 = .ok (.getfield 7, 3) := by decide +kernel
theorem dX2_addTimes_51 : decode cX2_addTimes 51 = .ok (.lload 5, 2) := by decide +kernel
theorem dX2_addTimes_53 : decode cX2_addTimes 53 = .ok (.lmul, 1) := by decide +kernel
theorem dX2_addTimes_54 : decode cX2_addTimes 54 = .ok (.invokevirtual 26, 3) := by decide +kernel
theorem dX2_addTimes_57 : decode cX2_addTimes 57 = .ok (.return_, 1) := by decide +kernel
theorem dX2_addWhole_0 : decode cX2_addWhole 0 = .ok (.aload_n 0, 1) := by decide +kernel
theorem dX2_addWhole_1 : decode cX2_addWhole 1 = .ok (.dup, 1) := by decide +kernel
theorem dX2_addWhole_2 : decode cX2_addWhole 2 = .ok (.getfield 23, 3) := by decide +kernel
theorem dX2_addWhole_5 : decode cX2_addWhole 5 = .ok (.iload_n 1, 1) := by decide +kernel
theorem dX2_addWhole_6 : decode cX2_addWhole 6 = .ok (.i2l, 1) := by decide +kernel
theorem dX2_addWhole_7 : decode cX2_addWhole 7 = .ok (.aload_n 0, 1) := by decide +kernel
theorem dX2_addWhole_8 : decode cX2_addWhole 8 = .ok (.getfield 7, 3) := by decide +kernel
theorem dX2_addWhole_11 : decode cX2_addWhole 11 = .ok (.lmul, 1) := by decide +kernel
theorem dX2_addWhole_12 : decode cX2_addWhole 12 = .ok (.ladd, 1) := by decide +kernel
theorem dX2_addWhole_13 : decode cX2_addWhole 13 = .ok (.putfield 23, 3) := by decide +kernel
theorem dX2_addWhole_16 : decode cX2_addWhole 16 = .ok (.return_, 1) := by decide +kernel
theorem dX2_divideBy_0 : decode cX2_divideBy 0 = .ok (.iload_n 1, 1) := by decide +kernel
theorem dX2_divideBy_1 : decode cX2_divideBy 1 = .ok (.ifCond .le 18, 3) := by decide +kernel
theorem dX2_divideBy_4 : decode cX2_divideBy 4 = .ok (.aload_n 0, 1) := by decide +kernel
theorem dX2_divideBy_5 : decode cX2_divideBy 5 = .ok (.aload_n 0, 1) := by decide +kernel
theorem dX2_divideBy_6 : decode cX2_divideBy 6 = .ok (.getfield 23, 3) := by decide +kernel
theorem dX2_divideBy_9 : decode cX2_divideBy 9 = .ok (.aload_n 0, 1) := by decide +kernel
theorem dX2_divideBy_10 : decode cX2_divideBy 10 = .ok (.getfield 7, 3) := by decide +kernel
theorem dX2_divideBy_13 : decode cX2_divideBy 13 = .ok (.iload_n 1, 1) := by decide +kernel
theorem dX2_divideBy_14 : decode cX2_divideBy 14 = .ok (.i2l, 1) := by decide +kernel
theorem dX2_divideBy_15 : decode cX2_divideBy 15 = .ok (.lmul, 1) := by decide +kernel
theorem dX2_divideBy_16 : decode cX2_divideBy 16 = .ok (.invokevirtual 26, 3) := by decide +kernel
theorem dX2_divideBy_19 : decode cX2_divideBy 19 = .ok (.return_, 1) := by decide +kernel
theorem dX2_isAbove_0 : decode cX2_isAbove 0 = .ok (.aload_n 0, 1) := by decide +kernel
theorem dX2_isAbove_1 : decode cX2_isAbove 1 = .ok (.getfield 23, 3) := by decide +kernel
theorem dX2_isAbove_4 : decode cX2_isAbove 4 = .ok (.iload_n 1, 1) := by decide +kernel
theorem dX2_isAbove_5 : decode cX2_isAbove 5 = .ok (.i2l, 1) := by decide +kernel
theorem dX2_isAbove_6 : decode cX2_isAbove 6 = .ok (.aload_n 0, 1) := by decide +kernel
theorem dX2_isAbove_7 : decode cX2_isAbove 7 = .ok (.getfield 7, 3) := by decide +kernel
theorem dX2_isAbove_10 : decode cX2_isAbove 10 = .ok (.lmul, 1) := by decide +kernel
theorem dX2_isAbove_11 : decode cX2_isAbove 11 = .ok (.lcmp, 1) := by decide +kernel
theorem dX2_isAbove_12 : decode cX2_isAbove 12 = .ok (.ifCond .le 7, 3) := by decide +kernel
theorem dX2_isAbove_15 : decode cX2_isAbove 15 = .ok (.iconst 1, 1) := by decide +kernel
theorem dX2_isAbove_16 : decode cX2_isAbove 16 = .ok (.goto 4, 3) := by decide +kernel
theorem dX2_isAbove_19 : decode cX2_isAbove 19 = .ok (.iconst 0, 1) := by decide +kernel
theorem dX2_isAbove_20 : decode cX2_isAbove 20 = .ok (.ireturn, 1) := by decide +kernel
theorem dX2_part_0 : decode cX2_part 0 = .ok (.iload_n 1, 1) := by decide +kernel
theorem dX2_part_1 : decode cX2_part 1 = .ok (.ifCond .ne 10, 3) := by decide +kernel
theorem dX2_part_4 : decode cX2_part 4 = .ok (.aload_n 0, 1) := by decide +kernel
theorem dX2_part_5 : decode cX2_part 5 = .ok (.getfield 23, 3) := by decide +kernel
theorem dX2_part_8 : decode cX2_part 8 = .ok (.goto 7, 3) := by decide +kernel
theorem dX2_part_11 : decode cX2_part 11 = .ok (.aload_n 0, 1) := by decide +kernel
theorem dX2_part_12 : decode cX2_part 12 = .ok (.getfield 7, 3) := by decide +kernel
theorem dX2_part_15 : decode cX2_part 15 = .ok (.lreturn, 1) := by decide +kernel
theorem dX2_commonDivisor_0 : decode cX2_commonDivisor 0 = .ok (.lload_n 0, 1) := by decide +kernel
theorem dX2_commonDivisor_1 : decode cX2_commonDivisor 1 = .ok (.lstore 4, 2) := by decide +kernel
theorem dX2_commonDivisor_3 : decode cX2_commonDivisor 3 = .ok (.lload_n 2, 1) := by decide +kernel
theorem dX2_commonDivisor_4 : decode cX2_commonDivisor 4 = .ok (.lstore 6, 2) := by decide +kernel
theorem dX2_commonDivisor_6 : decode cX2_commonDivisor 6 = .ok (.iconst 0, 1) := by decide +kernel
theorem dX2_commonDivisor_7 : decode cX2_commonDivisor 7 = .ok (.istore 8, 2) := by decide +kernel
theorem dX2_commonDivisor_9 : decode cX2_commonDivisor 9 = .ok (.iload 8, 2) := by decide +kernel
theorem dX2_commonDivisor_11 : decode cX2_commonDivisor 11 = .ok (.bipush 100, 2) := by decide +kernel
theorem dX2_commonDivisor_13 : decode cX2_commonDivisor 13 = .ok (.if_icmp .ge 31, 3) := by decide +kernel
theorem dX2_commonDivisor_16 : decode cX2_commonDivisor 16 = .ok (.lload 6, 2) := by decide +kernel
theorem dX2_commonDivisor_18 : decode cX2_commonDivisor 18 = .ok (.lconst 0, 1) := by decide +kernel
theorem dX2_commonDivisor_19 : decode cX2_commonDivisor 19 = .ok (.lcmp, 1) := by decide +kernel
theorem dX2_commonDivisor_20 : decode cX2_commonDivisor 20 = .ok (.ifCond .eq 24, 3) := by decide +kernel
theorem dX2_commonDivisor_23 : decode cX2_commonDivisor 23 = .ok (.lload 4, 2) := by decide +kernel
theorem dX2_commonDivisor_25 : decode cX2_commonDivisor 25 = .ok (.lload 6, 2) := by decide +kernel
theorem dX2_commonDivisor_27 : decode cX2_commonDivisor 27 = .ok (.lrem, 1) := by decide +kernel
theorem dX2_commonDivisor_28 : decode cX2_commonDivisor 28 = .ok (.lstore 9, 2) := by decide +kernel
theorem dX2_commonDivisor_30 : decode cX2_commonDivisor 30 = .ok (.lload 6, 2) := by decide +kernel
theorem dX2_commonDivisor_32 : decode cX2_commonDivisor 32 = .ok (.lstore 4, 2) := by decide +kernel
theorem dX2_commonDivisor_34 : decode cX2_commonDivisor 34 = .ok (.lload 9, 2) := by decide +kernel
theorem dX2_commonDivisor_36 : decode cX2_commonDivisor 36 = .ok (.lstore 6, 2) := by decide +kernel
theorem dX2_commonDivisor_38 : decode cX2_commonDivisor 38 = .ok (.iinc 8 1, 3) := by decide +kernel
theorem dX2_commonDivisor_41 : decode cX2_commonDivisor 41 = .ok (.goto (-32), 3) := by decide +kernel
theorem dX2_commonDivisor_44 : decode cX2_commonDivisor 44 = .ok (.lload 4, 2) := by decide +kernel
theorem dX2_commonDivisor_46 : decode cX2_commonDivisor 46 = .ok (.lconst 0, 1) := by decide +kernel
theorem dX2_commonDivisor_47 : decode cX2_commonDivisor 47 = .ok (.lcmp, 1) := by decide +kernel
theorem dX2_commonDivisor_48 : decode cX2_commonDivisor 48 = .ok (.ifCond .le 8, 3) := by decide +kernel
theorem dX2_commonDivisor_51 : decode cX2_commonDivisor 51 = .ok (.lload 4, 2) := by decide +kernel
theorem dX2_commonDivisor_53 : decode cX2_commonDivisor 53 = .ok (.goto 4, 3) := by decide +kernel
theorem dX2_commonDivisor_56 : decode cX2_commonDivisor 56 = .ok (.lconst 1, 1) := by decide +kernel
theorem dX2_commonDivisor_57 : decode cX2_commonDivisor 57 = .ok (.lreturn, 1) := by decide +kernel
theorem dX3_init_0 : decode cX3_init 0 = .ok (.aload_n 0, 1) := by decide +kernel
theorem dX3_init_1 : decode cX3_init 1 = .ok (.invokespecial 1, 3) := by decide +kernel
theorem dX3_init_4 : decode cX3_init 4 = .ok (.aload_n 0, 1) := by decide +kernel
theorem dX3_init_5 : decode cX3_init 5 = .ok (.iconst 3, 1) := by decide +kernel
theorem dX3_init_6 : decode cX3_init 6 = .ok (.newarray .int, 2) := by decide +kernel
theorem dX3_init_8 : decode cX3_init 8 = .ok (.putfield 7, 3) := by decide +kernel
theorem dX3_init_11 : decode cX3_init 11 = .ok (.aload_n 0, 1) := by decide +kernel
theorem dX3_init_12 : decode cX3_init 12 = .ok (.aload_n 1, 1) := by decide +kernel
theorem dX3_init_13 : decode cX3_init 13 = .ok (.putfield 13, 3) := by decide +kernel
theorem dX3_init_16 : decode cX3_init 16 = .ok (.aload_n 0, 1) := by decide +kernel
theorem dX3_init_17 : decode cX3_init 17 = .ok (.getfield 7, 3) := by decide +kernel
theorem dX3_init_20 : decode cX3_init 20 = .ok (.iconst 0, 1) := by decide +kernel
theorem dX3_init_21 : decode cX3_init 21 = .ok (.bipush 10, 2) := by decide +kernel
theorem dX3_init_23 : decode cX3_init 23 = .ok (.iastore, 1) := by decide +kernel
theorem dX3_init_24 : decode cX3_init 24 = .ok (.return_, 1) := by decide +kernel
theorem dX3_isSetting_0 : decode cX3_isSetting 0 = .ok (.iload_n 0, 1) := by decide +kernel
theorem dX3_isSetting_1 : decode cX3_isSetting 1 = .ok (.ifCond .lt 15, 3) := by decide +kernel
theorem dX3_isSetting_4 : decode cX3_isSetting 4 = .ok (.iload_n 0, 1) := by decide +kernel
theorem dX3_isSetting_5 : decode cX3_isSetting 5 = .ok (.getstatic 17, 3) := by decide +kernel
theorem dX3_isSetting_8 : decode cX3_isSetting 8 = .ok (.arraylength, 1) := by decide +kernel
theorem dX3_isSetting_9 : decode cX3_isSetting 9 = .ok (.if_icmp .ge 7, 3) := by decide +kernel
theorem dX3_isSetting_12 : decode cX3_isSetting 12 = .ok (.iconst 1, 1) := by decide +kernel
theorem dX3_isSetting_13 : decode cX3_isSetting 13 = .ok (.goto 4, 3) := by decide +kernel
theorem dX3_isSetting_16 : decode cX3_isSetting 16 = .ok (.iconst 0, 1) := by decide +kernel
theorem dX3_isSetting_17 : decode cX3_isSetting 17 = .ok (.ireturn, 1) := by decide +kernel
theorem dX3_tracesOf_0 : decode cX3_tracesOf 0 = .ok (.iload_n 0, 1) := by decide +kernel
theorem dX3_tracesOf_1 : decode cX3_tracesOf 1 = .ok (.lookupswitch 32 #[(0, 27), (1, 29)], 27) := by decide +kernel
theorem dX3_tracesOf_28 : decode cX3_tracesOf 28 = .ok (.iconst 1, 1) := by decide +kernel
theorem dX3_tracesOf_29 : decode cX3_tracesOf 29 = .ok (.ireturn, 1) := by decide +kernel
theorem dX3_tracesOf_30 : decode cX3_tracesOf 30 = .ok (.bipush 11, 2) := by decide +kernel
theorem dX3_tracesOf_32 : decode cX3_tracesOf 32 = .ok (.ireturn, 1) := by decide +kernel
theorem dX3_tracesOf_33 : decode cX3_tracesOf 33 = .ok (.bipush 111, 2) := by decide +kernel
theorem dX3_tracesOf_35 : decode cX3_tracesOf 35 = .ok (.ireturn, 1) := by decide +kernel
theorem dX3_atHand_0 : decode cX3_atHand 0 = .ok (.aload_n 0, 1) := by decide +kernel
theorem dX3_atHand_1 : decode cX3_atHand 1 = .ok (.getfield 7, 3) := by decide +kernel
theorem dX3_atHand_4 : decode cX3_atHand 4 = .ok (.iconst 2, 1) := by decide +kernel
theorem dX3_atHand_5 : decode cX3_atHand 5 = .ok (.iaload, 1) := by decide +kernel
theorem dX3_atHand_6 : decode cX3_atHand 6 = .ok (.ireturn, 1) := by decide +kernel
theorem dX3_by_0 : decode cX3_by 0 = .ok (.aload_n 0, 1) := by decide +kernel
theorem dX3_by_1 : decode cX3_by 1 = .ok (.getfield 13, 3) := by decide +kernel
theorem dX3_by_4 : decode cX3_by 4 = .ok (.getfield 20, 3) := by decide +kernel
theorem dX3_by_7 : decode cX3_by 7 = .ok (.iload_n 2, 1) := by decide +kernel
theorem dX3_by_8 : decode cX3_by 8 = .ok (.iaload, 1) := by decide +kernel
theorem dX3_by_9 : decode cX3_by 9 = .ok (.iconst 1, 1) := by decide +kernel
theorem dX3_by_10 : decode cX3_by 10 = .ok (.iadd, 1) := by decide +kernel
theorem dX3_by_11 : decode cX3_by 11 = .ok (.istore_n 3, 1) := by decide +kernel
theorem dX3_by_12 : decode cX3_by 12 = .ok (.aload_n 0, 1) := by decide +kernel
theorem dX3_by_13 : decode cX3_by 13 = .ok (.getfield 13, 3) := by decide +kernel
theorem dX3_by_16 : decode cX3_by 16 = .ok (.getfield 25, 3) := by decide +kernel
theorem dX3_by_19 : decode cX3_by 19 = .ok (.iload_n 2, 1) := by decide +kernel
theorem dX3_by_20 : decode cX3_by 20 = .ok (.iaload, 1) := by decide +kernel
theorem dX3_by_21 : decode cX3_by 21 = .ok (.istore 4, 2) := by decide +kernel
theorem dX3_by_23 : decode cX3_by 23 = .ok (.iload_n 1, 1) := by decide +kernel
theorem dX3_by_24 : decode cX3_by 24 = .ok (.iconst 1, 1) := by decide +kernel
theorem dX3_by_25 : decode cX3_by 25 = .ok (.if_icmp .lt 18, 3) := by decide +kernel
theorem dX3_by_28 : decode cX3_by 28 = .ok (.iload 4, 2) := by decide +kernel
theorem dX3_by_30 : decode cX3_by 30 = .ok (.aload_n 0, 1) := by decide +kernel
theorem dX3_by_31 : decode cX3_by 31 = .ok (.getfield 7, 3) := by decide +kernel
theorem dX3_by_34 : decode cX3_by 34 = .ok (.iconst 0, 1) := by decide +kernel
theorem dX3_by_35 : decode cX3_by 35 = .ok (.iaload, 1) := by decide +kernel
theorem dX3_by_36 : decode cX3_by 36 = .ok (.isub, 1) := by decide +kernel
theorem dX3_by_37 : decode cX3_by 37 = .ok (.iload_n 3, 1) := by decide +kernel
theorem dX3_by_38 : decode cX3_by 38 = .ok (.invokestatic 28, 3) := by decide +kernel
theorem dX3_by_41 : decode cX3_by 41 = .ok (.istore 4, 2) := by decide +kernel
theorem dX3_by_43 : decode cX3_by 43 = .ok (.iload_n 1, 1) := by decide +kernel
theorem dX3_by_44 : decode cX3_by 44 = .ok (.iconst 2, 1) := by decide +kernel
theorem dX3_by_45 : decode cX3_by 45 = .ok (.if_icmp .lt 20, 3) := by decide +kernel
theorem dX3_by_48 : decode cX3_by 48 = .ok (.iload 4, 2) := by decide +kernel
theorem dX3_by_50 : decode cX3_by 50 = .ok (.iconst 2, 1) := by decide +kernel
theorem dX3_by_51 : decode cX3_by 51 = .ok (.aload_n 0, 1) := by decide +kernel
theorem dX3_by_52 : decode cX3_by 52 = .ok (.getfield 7, 3) := by decide +kernel
theorem dX3_by_55 : decode cX3_by 55 = .ok (.iconst 1, 1) := by decide +kernel
theorem dX3_by_56 : decode cX3_by 56 = .ok (.iaload, 1) := by decide +kernel
theorem dX3_by_57 : decode cX3_by 57 = .ok (.imul, 1) := by decide +kernel
theorem dX3_by_58 : decode cX3_by 58 = .ok (.isub, 1) := by decide +kernel
theorem dX3_by_59 : decode cX3_by 59 = .ok (.iload_n 3, 1) := by decide +kernel
theorem dX3_by_60 : decode cX3_by 60 = .ok (.invokestatic 28, 3) := by decide +kernel
theorem dX3_by_63 : decode cX3_by 63 = .ok (.istore 4, 2) := by decide +kernel
theorem dX3_by_65 : decode cX3_by 65 = .ok (.iload 4, 2) := by decide +kernel
theorem dX3_by_67 : decode cX3_by 67 = .ok (.ireturn, 1) := by decide +kernel
theorem dX4_init_0 : decode cX4_init 0 = .ok (.aload_n 0, 1) := by decide +kernel
theorem dX4_init_1 : decode cX4_init 1 = .ok (.invokespecial 3, 3) := by decide +kernel
theorem dX4_init_4 : decode cX4_init 4 = .ok (.aload_n 0, 1) := by decide +kernel
theorem dX4_init_5 : decode cX4_init 5 = .ok (.bipush 8, 2) := by decide +kernel
theorem dX4_init_7 : decode cX4_init 7 = .ok (.newarray .int, 2) := by decide +kernel
theorem dX4_init_9 : decode cX4_init 9 = .ok (.putfield 11, 3) := by decide +kernel
theorem dX4_init_12 : decode cX4_init 12 = .ok (.aload_n 0, 1) := by decide +kernel
theorem dX4_init_13 : decode cX4_init 13 = .ok (.bipush 8, 2) := by decide +kernel
theorem dX4_init_15 : decode cX4_init 15 = .ok (.newarray .int, 2) := by decide +kernel
theorem dX4_init_17 : decode cX4_init 17 = .ok (.putfield 15, 3) := by decide +kernel
theorem dX4_init_20 : decode cX4_init 20 = .ok (.return_, 1) := by decide +kernel
theorem dX4_has_0 : decode cX4_has 0 = .ok (.iload_n 1, 1) := by decide +kernel
theorem dX4_has_1 : decode cX4_has 1 = .ok (.ifCond .lt 15, 3) := by decide +kernel
theorem dX4_has_4 : decode cX4_has 4 = .ok (.iload_n 1, 1) := by decide +kernel
theorem dX4_has_5 : decode cX4_has 5 = .ok (.aload_n 0, 1) := by decide +kernel
theorem dX4_has_6 : decode cX4_has 6 = .ok (.getfield 18, 3) := by decide +kernel
theorem dX4_has_9 : decode cX4_has 9 = .ok (.if_icmp .ge 7, 3) := by decide +kernel
theorem dX4_has_12 : decode cX4_has 12 = .ok (.iconst 1, 1) := by decide +kernel
theorem dX4_has_13 : decode cX4_has 13 = .ok (.goto 4, 3) := by decide +kernel
theorem dX4_has_16 : decode cX4_has 16 = .ok (.iconst 0, 1) := by decide +kernel
theorem dX4_has_17 : decode cX4_has 17 = .ok (.ireturn, 1) := by decide +kernel
theorem dX4_append_0 : decode cX4_append 0 = .ok (.aload_n 0, 1) := by decide +kernel
theorem dX4_append_1 : decode cX4_append 1 = .ok (.getfield 18, 3) := by decide +kernel
theorem dX4_append_4 : decode cX4_append 4 = .ok (.istore_n 2, 1) := by decide +kernel
theorem dX4_append_5 : decode cX4_append 5 = .ok (.iload_n 2, 1) := by decide +kernel
theorem dX4_append_6 : decode cX4_append 6 = .ok (.bipush 8, 2) := by decide +kernel
theorem dX4_append_8 : decode cX4_append 8 = .ok (.if_icmp .lt 6, 3) := by decide +kernel
theorem dX4_append_11 : decode cX4_append 11 = .ok (.bipush (-3), 2) := by decide +kernel
theorem dX4_append_13 : decode cX4_append 13 = .ok (.ireturn, 1) := by decide +kernel
theorem dX4_append_14 : decode cX4_append 14 = .ok (.aload_n 0, 1) := by decide +kernel
theorem dX4_append_15 : decode cX4_append 15 = .ok (.getfield 11, 3) := by decide +kernel
theorem dX4_append_18 : decode cX4_append 18 = .ok (.iload_n 2, 1) := by decide +kernel
theorem dX4_append_19 : decode cX4_append 19 = .ok (.iload_n 1, 1) := by decide +kernel
theorem dX4_append_20 : decode cX4_append 20 = .ok (.iastore, 1) := by decide +kernel
theorem dX4_append_21 : decode cX4_append 21 = .ok (.aload_n 0, 1) := by decide +kernel
theorem dX4_append_22 : decode cX4_append 22 = .ok (.getfield 15, 3) := by decide +kernel
theorem dX4_append_25 : decode cX4_append 25 = .ok (.iload_n 2, 1) := by decide +kernel
theorem dX4_append_26 : decode cX4_append 26 = .ok (.bipush (-9), 2) := by decide +kernel
theorem dX4_append_28 : decode cX4_append 28 = .ok (.iastore, 1) := by decide +kernel
theorem dX4_append_29 : decode cX4_append 29 = .ok (.aload_n 0, 1) := by decide +kernel
theorem dX4_append_30 : decode cX4_append 30 = .ok (.dup, 1) := by decide +kernel
theorem dX4_append_31 : decode cX4_append 31 = .ok (.getfield 18, 3) := by decide +kernel
theorem dX4_append_34 : decode cX4_append 34 = .ok (.iconst 1, 1) := by decide +kernel
theorem dX4_append_35 : decode cX4_append 35 = .ok (.iadd, 1) := by decide +kernel
theorem dX4_append_36 : decode cX4_append 36 = .ok (.putfield 18, 3) := by decide +kernel
theorem dX4_append_39 : decode cX4_append 39 = .ok (.iload_n 2, 1) := by decide +kernel
theorem dX4_append_40 : decode cX4_append 40 = .ok (.ireturn, 1) := by decide +kernel
theorem dX4_sum_0 : decode cX4_sum 0 = .ok (.lconst 0, 1) := by decide +kernel
theorem dX4_sum_1 : decode cX4_sum 1 = .ok (.lstore_n 1, 1) := by decide +kernel
theorem dX4_sum_2 : decode cX4_sum 2 = .ok (.iconst 0, 1) := by decide +kernel
theorem dX4_sum_3 : decode cX4_sum 3 = .ok (.istore_n 3, 1) := by decide +kernel
theorem dX4_sum_4 : decode cX4_sum 4 = .ok (.iload_n 3, 1) := by decide +kernel
theorem dX4_sum_5 : decode cX4_sum 5 = .ok (.aload_n 0, 1) := by decide +kernel
theorem dX4_sum_6 : decode cX4_sum 6 = .ok (.getfield 18, 3) := by decide +kernel
theorem dX4_sum_9 : decode cX4_sum 9 = .ok (.if_icmp .ge 37, 3) := by decide +kernel
theorem dX4_sum_12 : decode cX4_sum 12 = .ok (.aload_n 0, 1) := by decide +kernel
theorem dX4_sum_13 : decode cX4_sum 13 = .ok (.getfield 15, 3) := by decide +kernel
theorem dX4_sum_16 : decode cX4_sum 16 = .ok (.iload_n 3, 1) := by decide +kernel
theorem dX4_sum_17 : decode cX4_sum 17 = .ok (.iaload, 1) := by decide +kernel
theorem dX4_sum_18 : decode cX4_sum 18 = .ok (.bipush (-9), 2) := by decide +kernel
theorem dX4_sum_20 : decode cX4_sum 20 = .ok (.if_icmp .eq 20, 3) := by decide +kernel
theorem dX4_sum_23 : decode cX4_sum 23 = .ok (.lload_n 1, 1) := by decide +kernel
theorem dX4_sum_24 : decode cX4_sum 24 = .ok (.aload_n 0, 1) := by decide +kernel
theorem dX4_sum_25 : decode cX4_sum 25 = .ok (.getfield 11, 3) := by decide +kernel
theorem dX4_sum_28 : decode cX4_sum 28 = .ok (.iload_n 3, 1) := by decide +kernel
theorem dX4_sum_29 : decode cX4_sum 29 = .ok (.iaload, 1) := by decide +kernel
theorem dX4_sum_30 : decode cX4_sum 30 = .ok (.aload_n 0, 1) := by decide +kernel
theorem dX4_sum_31 : decode cX4_sum 31 = .ok (.getfield 15, 3) := by decide +kernel
theorem dX4_sum_34 : decode cX4_sum 34 = .ok (.iload_n 3, 1) := by decide +kernel
theorem dX4_sum_35 : decode cX4_sum 35 = .ok (.iaload, 1) := by decide +kernel
theorem dX4_sum_36 : decode cX4_sum 36 = .ok (.imul, 1) := by decide +kernel
theorem dX4_sum_37 : decode cX4_sum 37 = .ok (.i2l, 1) := by decide +kernel
theorem dX4_sum_38 : decode cX4_sum 38 = .ok (.ladd, 1) := by decide +kernel
theorem dX4_sum_39 : decode cX4_sum 39 = .ok (.lstore_n 1, 1) := by decide +kernel
theorem dX4_sum_40 : decode cX4_sum 40 = .ok (.iinc 3 1, 3) := by decide +kernel
theorem dX4_sum_43 : decode cX4_sum 43 = .ok (.goto (-39), 3) := by decide +kernel
theorem dX4_sum_46 : decode cX4_sum 46 = .ok (.lload_n 1, 1) := by decide +kernel
theorem dX4_sum_47 : decode cX4_sum 47 = .ok (.lreturn, 1) := by decide +kernel
theorem dX4_missing_0 : decode cX4_missing 0 = .ok (.iconst 0, 1) := by decide +kernel
theorem dX4_missing_1 : decode cX4_missing 1 = .ok (.istore_n 1, 1) := by decide +kernel
theorem dX4_missing_2 : decode cX4_missing 2 = .ok (.iconst 0, 1) := by decide +kernel
theorem dX4_missing_3 : decode cX4_missing 3 = .ok (.istore_n 2, 1) := by decide +kernel
theorem dX4_missing_4 : decode cX4_missing 4 = .ok (.iload_n 2, 1) := by decide +kernel
theorem dX4_missing_5 : decode cX4_missing 5 = .ok (.aload_n 0, 1) := by decide +kernel
theorem dX4_missing_6 : decode cX4_missing 6 = .ok (.getfield 18, 3) := by decide +kernel
theorem dX4_missing_9 : decode cX4_missing 9 = .ok (.if_icmp .ge 28, 3) := by decide +kernel
theorem dX4_missing_12 : decode cX4_missing 12 = .ok (.iload_n 1, 1) := by decide +kernel
theorem dX4_missing_13 : decode cX4_missing 13 = .ok (.aload_n 0, 1) := by decide +kernel
theorem dX4_missing_14 : decode cX4_missing 14 = .ok (.getfield 15, 3) := by decide +kernel
theorem dX4_missing_17 : decode cX4_missing 17 = .ok (.iload_n 2, 1) := by decide +kernel
theorem dX4_missing_18 : decode cX4_missing 18 = .ok (.iaload, 1) := by decide +kernel
theorem dX4_missing_19 : decode cX4_missing 19 = .ok (.bipush (-9), 2) := by decide +kernel
theorem dX4_missing_21 : decode cX4_missing 21 = .ok (.if_icmp .ne 7, 3) := by decide +kernel
theorem dX4_missing_24 : decode cX4_missing 24 = .ok (.iconst 1, 1) := by decide +kernel
theorem dX4_missing_25 : decode cX4_missing 25 = .ok (.goto 4, 3) := by decide +kernel
theorem dX4_missing_28 : decode cX4_missing 28 = .ok (.iconst 0, 1) := by decide +kernel
theorem dX4_missing_29 : decode cX4_missing 29 = .ok (.iadd, 1) := by decide +kernel
theorem dX4_missing_30 : decode cX4_missing 30 = .ok (.istore_n 1, 1) := by decide +kernel
theorem dX4_missing_31 : decode cX4_missing 31 = .ok (.iinc 2 1, 3) := by decide +kernel
theorem dX4_missing_34 : decode cX4_missing 34 = .ok (.goto (-30), 3) := by decide +kernel
theorem dX4_missing_37 : decode cX4_missing 37 = .ok (.iload_n 1, 1) := by decide +kernel
theorem dX4_missing_38 : decode cX4_missing 38 = .ok (.ireturn, 1) := by decide +kernel
theorem dX4_told_0 : decode cX4_told 0 = .ok (.aload_n 0, 1) := by decide +kernel
theorem dX4_told_1 : decode cX4_told 1 = .ok (.invokevirtual 22, 3) := by decide +kernel
theorem dX4_told_4 : decode cX4_told 4 = .ok (.iconst 1, 1) := by decide +kernel
theorem dX4_told_5 : decode cX4_told 5 = .ok (.if_icmp .eq 6, 3) := by decide +kernel
theorem dX4_told_8 : decode cX4_told 8 = .ok (.bipush (-9), 2) := by decide +kernel
theorem dX4_told_10 : decode cX4_told 10 = .ok (.ireturn, 1) := by decide +kernel
theorem dX4_told_11 : decode cX4_told 11 = .ok (.iconst 0, 1) := by decide +kernel
theorem dX4_told_12 : decode cX4_told 12 = .ok (.istore_n 1, 1) := by decide +kernel
theorem dX4_told_13 : decode cX4_told 13 = .ok (.iload_n 1, 1) := by decide +kernel
theorem dX4_told_14 : decode cX4_told 14 = .ok (.aload_n 0, 1) := by decide +kernel
theorem dX4_told_15 : decode cX4_told 15 = .ok (.getfield 18, 3) := by decide +kernel
theorem dX4_told_18 : decode cX4_told 18 = .ok (.if_icmp .ge 22, 3) := by decide +kernel
theorem dX4_told_21 : decode cX4_told 21 = .ok (.aload_n 0, 1) := by decide +kernel
theorem dX4_told_22 : decode cX4_told 22 = .ok (.getfield 15, 3) := by decide +kernel
theorem dX4_told_25 : decode cX4_told 25 = .ok (.iload_n 1, 1) := by decide +kernel
theorem dX4_told_26 : decode cX4_told 26 = .ok (.iaload, 1) := by decide +kernel
theorem dX4_told_27 : decode cX4_told 27 = .ok (.bipush (-9), 2) := by decide +kernel
theorem dX4_told_29 : decode cX4_told 29 = .ok (.if_icmp .ne 5, 3) := by decide +kernel
theorem dX4_told_32 : decode cX4_told 32 = .ok (.iload_n 1, 1) := by decide +kernel
theorem dX4_told_33 : decode cX4_told 33 = .ok (.ireturn, 1) := by decide +kernel
theorem dX4_told_34 : decode cX4_told 34 = .ok (.iinc 1 1, 3) := by decide +kernel
theorem dX4_told_37 : decode cX4_told 37 = .ok (.goto (-24), 3) := by decide +kernel
theorem dX4_told_40 : decode cX4_told 40 = .ok (.bipush (-9), 2) := by decide +kernel
theorem dX4_told_42 : decode cX4_told 42 = .ok (.ireturn, 1) := by decide +kernel
theorem dX4_toldAs_0 : decode cX4_toldAs 0 = .ok (.aload_n 0, 1) := by decide +kernel
theorem dX4_toldAs_1 : decode cX4_toldAs 1 = .ok (.invokevirtual 26, 3) := by decide +kernel
theorem dX4_toldAs_4 : decode cX4_toldAs 4 = .ok (.istore_n 1, 1) := by decide +kernel
theorem dX4_toldAs_5 : decode cX4_toldAs 5 = .ok (.iload_n 1, 1) := by decide +kernel
theorem dX4_toldAs_6 : decode cX4_toldAs 6 = .ok (.bipush (-9), 2) := by decide +kernel
theorem dX4_toldAs_8 : decode cX4_toldAs 8 = .ok (.if_icmp .ne 9, 3) := by decide +kernel
theorem dX4_toldAs_11 : decode cX4_toldAs 11 = .ok (.ldc2_w 29, 3) := by decide +kernel
theorem dX4_toldAs_14 : decode cX4_toldAs 14 = .ok (.goto 16, 3) := by decide +kernel
theorem dX4_toldAs_17 : decode cX4_toldAs 17 = .ok (.aload_n 0, 1) := by decide +kernel
theorem dX4_toldAs_18 : decode cX4_toldAs 18 = .ok (.getfield 11, 3) := by decide +kernel
theorem dX4_toldAs_21 : decode cX4_toldAs 21 = .ok (.iload_n 1, 1) := by decide +kernel
theorem dX4_toldAs_22 : decode cX4_toldAs 22 = .ok (.iaload, 1) := by decide +kernel
theorem dX4_toldAs_23 : decode cX4_toldAs 23 = .ok (.ineg, 1) := by decide +kernel
theorem dX4_toldAs_24 : decode cX4_toldAs 24 = .ok (.i2l, 1) := by decide +kernel
theorem dX4_toldAs_25 : decode cX4_toldAs 25 = .ok (.aload_n 0, 1) := by decide +kernel
theorem dX4_toldAs_26 : decode cX4_toldAs 26 = .ok (.invokevirtual 31, 3) := by decide +kernel
theorem dX4_toldAs_29 : decode cX4_toldAs 29 = .ok (.lmul, 1) := by decide +kernel
theorem dX4_toldAs_30 : decode cX4_toldAs 30 = .ok (.lreturn, 1) := by decide +kernel
theorem dX4_tellMended_0 : decode cX4_tellMended 0 = .ok (.aload_n 2, 1) := by decide +kernel
theorem dX4_tellMended_1 : decode cX4_tellMended 1 = .ok (.aload_n 0, 1) := by decide +kernel
theorem dX4_tellMended_2 : decode cX4_tellMended 2 = .ok (.getfield 15, 3) := by decide +kernel
theorem dX4_tellMended_5 : decode cX4_tellMended 5 = .ok (.iload_n 1, 1) := by decide +kernel
theorem dX4_tellMended_6 : decode cX4_tellMended 6 = .ok (.iaload, 1) := by decide +kernel
theorem dX4_tellMended_7 : decode cX4_tellMended 7 = .ok (.i2l, 1) := by decide +kernel
theorem dX4_tellMended_8 : decode cX4_tellMended 8 = .ok (.aload_n 0, 1) := by decide +kernel
theorem dX4_tellMended_9 : decode cX4_tellMended 9 = .ok (.getfield 18, 3) := by decide +kernel
theorem dX4_tellMended_12 : decode cX4_tellMended 12 = .ok (.i2l, 1) := by decide +kernel
theorem dX4_tellMended_13 : decode cX4_tellMended 13 = .ok (.lmul, 1) := by decide +kernel
theorem dX4_tellMended_14 : decode cX4_tellMended 14 = .ok (.aload_n 0, 1) := by decide +kernel
theorem dX4_tellMended_15 : decode cX4_tellMended 15 = .ok (.getfield 11, 3) := by decide +kernel
theorem dX4_tellMended_18 : decode cX4_tellMended 18 = .ok (.iload_n 1, 1) := by decide +kernel
theorem dX4_tellMended_19 : decode cX4_tellMended 19 = .ok (.iaload, 1) := by decide +kernel
theorem dX4_tellMended_20 : decode cX4_tellMended 20 = .ok (.i2l, 1) := by decide +kernel
theorem dX4_tellMended_21 : decode cX4_tellMended 21 = .ok (.aload_n 0, 1) := by decide +kernel
theorem dX4_tellMended_22 : decode cX4_tellMended 22 = .ok (.invokevirtual 31, 3) := by decide +kernel
theorem dX4_tellMended_25 : decode cX4_tellMended 25 = .ok (.lmul, 1) := by decide +kernel
theorem dX4_tellMended_26 : decode cX4_tellMended 26 = .ok (.lsub, 1) := by decide +kernel
theorem dX4_tellMended_27 : decode cX4_tellMended 27 = .ok (.aload_n 0, 1) := by decide +kernel
theorem dX4_tellMended_28 : decode cX4_tellMended 28 = .ok (.getfield 18, 3) := by decide +kernel
theorem dX4_tellMended_31 : decode cX4_tellMended 31 = .ok (.i2l, 1) := by decide +kernel
theorem dX4_tellMended_32 : decode cX4_tellMended 32 = .ok (.invokevirtual 35, 3) := by decide +kernel
theorem dX4_tellMended_35 : decode cX4_tellMended 35 = .ok (.return_, 1) := by decide +kernel
theorem dX5_init_0 : decode cX5_init 0 = .ok (.aload_n 0, 1) := by decide +kernel
theorem dX5_init_1 : decode cX5_init 1 = .ok (.invokespecial 3, 3) := by decide +kernel
theorem dX5_init_4 : decode cX5_init 4 = .ok (.aload_n 0, 1) := by decide +kernel
theorem dX5_init_5 : decode cX5_init 5 = .ok (.iconst 5, 1) := by decide +kernel
theorem dX5_init_6 : decode cX5_init 6 = .ok (.newarray .int, 2) := by decide +kernel
theorem dX5_init_8 : decode cX5_init 8 = .ok (.putfield 9, 3) := by decide +kernel
theorem dX5_init_11 : decode cX5_init 11 = .ok (.aload_n 0, 1) := by decide +kernel
theorem dX5_init_12 : decode cX5_init 12 = .ok (.iconst 5, 1) := by decide +kernel
theorem dX5_init_13 : decode cX5_init 13 = .ok (.newarray .int, 2) := by decide +kernel
theorem dX5_init_15 : decode cX5_init 15 = .ok (.putfield 15, 3) := by decide +kernel
theorem dX5_init_18 : decode cX5_init 18 = .ok (.aload_n 0, 1) := by decide +kernel
theorem dX5_init_19 : decode cX5_init 19 = .ok (.iconst 5, 1) := by decide +kernel
theorem dX5_init_20 : decode cX5_init 20 = .ok (.newarray .int, 2) := by decide +kernel
theorem dX5_init_22 : decode cX5_init 22 = .ok (.putfield 18, 3) := by decide +kernel
theorem dX5_init_25 : decode cX5_init 25 = .ok (.aload_n 0, 1) := by decide +kernel
theorem dX5_init_26 : decode cX5_init 26 = .ok (.iconst 5, 1) := by decide +kernel
theorem dX5_init_27 : decode cX5_init 27 = .ok (.newarray .int, 2) := by decide +kernel
theorem dX5_init_29 : decode cX5_init 29 = .ok (.putfield 21, 3) := by decide +kernel
theorem dX5_init_32 : decode cX5_init 32 = .ok (.return_, 1) := by decide +kernel
theorem dX5_has_0 : decode cX5_has 0 = .ok (.iload_n 1, 1) := by decide +kernel
theorem dX5_has_1 : decode cX5_has 1 = .ok (.ifCond .lt 15, 3) := by decide +kernel
theorem dX5_has_4 : decode cX5_has 4 = .ok (.iload_n 1, 1) := by decide +kernel
theorem dX5_has_5 : decode cX5_has 5 = .ok (.aload_n 0, 1) := by decide +kernel
theorem dX5_has_6 : decode cX5_has 6 = .ok (.getfield 24, 3) := by decide +kernel
theorem dX5_has_9 : decode cX5_has 9 = .ok (.if_icmp .ge 7, 3) := by decide +kernel
theorem dX5_has_12 : decode cX5_has 12 = .ok (.iconst 1, 1) := by decide +kernel
theorem dX5_has_13 : decode cX5_has 13 = .ok (.goto 4, 3) := by decide +kernel
theorem dX5_has_16 : decode cX5_has 16 = .ok (.iconst 0, 1) := by decide +kernel
theorem dX5_has_17 : decode cX5_has 17 = .ok (.ireturn, 1) := by decide +kernel
theorem dX5_append_0 : decode cX5_append 0 = .ok (.aload_n 0, 1) := by decide +kernel
theorem dX5_append_1 : decode cX5_append 1 = .ok (.getfield 24, 3) := by decide +kernel
theorem dX5_append_4 : decode cX5_append 4 = .ok (.istore 4, 2) := by decide +kernel
theorem dX5_append_6 : decode cX5_append 6 = .ok (.iload 4, 2) := by decide +kernel
theorem dX5_append_8 : decode cX5_append 8 = .ok (.iconst 5, 1) := by decide +kernel
theorem dX5_append_9 : decode cX5_append 9 = .ok (.if_icmp .lt 6, 3) := by decide +kernel
theorem dX5_append_12 : decode cX5_append 12 = .ok (.bipush (-3), 2) := by decide +kernel
theorem dX5_append_14 : decode cX5_append 14 = .ok (.ireturn, 1) := by decide +kernel
theorem dX5_append_15 : decode cX5_append 15 = .ok (.aload_n 0, 1) := by decide +kernel
theorem dX5_append_16 : decode cX5_append 16 = .ok (.getfield 9, 3) := by decide +kernel
theorem dX5_append_19 : decode cX5_append 19 = .ok (.iload 4, 2) := by decide +kernel
theorem dX5_append_21 : decode cX5_append 21 = .ok (.iload_n 1, 1) := by decide +kernel
theorem dX5_append_22 : decode cX5_append 22 = .ok (.iastore, 1) := by decide +kernel
theorem dX5_append_23 : decode cX5_append 23 = .ok (.aload_n 0, 1) := by decide +kernel
theorem dX5_append_24 : decode cX5_append 24 = .ok (.getfield 15, 3) := by decide +kernel
theorem dX5_append_27 : decode cX5_append 27 = .ok (.iload 4, 2) := by decide +kernel
theorem dX5_append_29 : decode cX5_append 29 = .ok (.iload_n 2, 1) := by decide +kernel
theorem dX5_append_30 : decode cX5_append 30 = .ok (.iastore, 1) := by decide +kernel
theorem dX5_append_31 : decode cX5_append 31 = .ok (.aload_n 0, 1) := by decide +kernel
theorem dX5_append_32 : decode cX5_append 32 = .ok (.getfield 18, 3) := by decide +kernel
theorem dX5_append_35 : decode cX5_append 35 = .ok (.iload 4, 2) := by decide +kernel
theorem dX5_append_37 : decode cX5_append 37 = .ok (.iload_n 3, 1) := by decide +kernel
theorem dX5_append_38 : decode cX5_append 38 = .ok (.iastore, 1) := by decide +kernel
theorem dX5_append_39 : decode cX5_append 39 = .ok (.aload_n 0, 1) := by decide +kernel
theorem dX5_append_40 : decode cX5_append 40 = .ok (.getfield 21, 3) := by decide +kernel
theorem dX5_append_43 : decode cX5_append 43 = .ok (.iload 4, 2) := by decide +kernel
theorem dX5_append_45 : decode cX5_append 45 = .ok (.iconst 1, 1) := by decide +kernel
theorem dX5_append_46 : decode cX5_append 46 = .ok (.iastore, 1) := by decide +kernel
theorem dX5_append_47 : decode cX5_append 47 = .ok (.aload_n 0, 1) := by decide +kernel
theorem dX5_append_48 : decode cX5_append 48 = .ok (.dup, 1) := by decide +kernel
theorem dX5_append_49 : decode cX5_append 49 = .ok (.getfield 24, 3) := by decide +kernel
theorem dX5_append_52 : decode cX5_append 52 = .ok (.iconst 1, 1) := by decide +kernel
theorem dX5_append_53 : decode cX5_append 53 = .ok (.iadd, 1) := by decide +kernel
theorem dX5_append_54 : decode cX5_append 54 = .ok (.putfield 24, 3) := by decide +kernel
theorem dX5_append_57 : decode cX5_append 57 = .ok (.iload 4, 2) := by decide +kernel
theorem dX5_append_59 : decode cX5_append 59 = .ok (.ireturn, 1) := by decide +kernel
theorem dX5_tellDirtBelow_0 : decode cX5_tellDirtBelow 0 = .ok (.aload_n 0, 1) := by decide +kernel
theorem dX5_tellDirtBelow_1 : decode cX5_tellDirtBelow 1 = .ok (.invokevirtual 28, 3) := by decide +kernel
theorem dX5_tellDirtBelow_4 : decode cX5_tellDirtBelow 4 = .ok (.lstore_n 3, 1) := by decide +kernel
theorem dX5_tellDirtBelow_5 : decode cX5_tellDirtBelow 5 = .ok (.aload_n 2, 1) := by decide +kernel
theorem dX5_tellDirtBelow_6 : decode cX5_tellDirtBelow 6 = .ok (.aload_n 0, 1) := by decide +kernel
theorem dX5_tellDirtBelow_7 : decode cX5_tellDirtBelow 7 = .ok (.iload_n 1, 1) := by decide +kernel
theorem dX5_tellDirtBelow_8 : decode cX5_tellDirtBelow 8 = .ok (.lload_n 3, 1) := by decide +kernel
theorem dX5_tellDirtBelow_9 : decode cX5_tellDirtBelow 9 = .ok (.invokevirtual 32, 3) := by decide +kernel
theorem dX5_tellDirtBelow_12 : decode cX5_tellDirtBelow 12 = .ok (.lload_n 3, 1) := by decide +kernel
theorem dX5_tellDirtBelow_13 : decode cX5_tellDirtBelow 13 = .ok (.invokevirtual 36, 3) := by decide +kernel
theorem dX5_tellDirtBelow_16 : decode cX5_tellDirtBelow 16 = .ok (.return_, 1) := by decide +kernel
theorem dX5_tellLeastFresh_0 : decode cX5_tellLeastFresh 0 = .ok (.aload_n 0, 1) := by decide +kernel
theorem dX5_tellLeastFresh_1 : decode cX5_tellLeastFresh 1 = .ok (.iload_n 1, 1) := by decide +kernel
theorem dX5_tellLeastFresh_2 : decode cX5_tellLeastFresh 2 = .ok (.aload_n 2, 1) := by decide +kernel
theorem dX5_tellLeastFresh_3 : decode cX5_tellLeastFresh 3 = .ok (.invokevirtual 42, 3) := by decide +kernel
theorem dX5_tellLeastFresh_6 : decode cX5_tellLeastFresh 6 = .ok (.aload_n 2, 1) := by decide +kernel
theorem dX5_tellLeastFresh_7 : decode cX5_tellLeastFresh 7 = .ok (.iload_n 1, 1) := by decide +kernel
theorem dX5_tellLeastFresh_8 : decode cX5_tellLeastFresh 8 = .ok (.invokevirtual 46, 3) := by decide +kernel
theorem dX5_tellLeastFresh_11 : decode cX5_tellLeastFresh 11 = .ok (.return_, 1) := by decide +kernel
theorem dX5_pinch_0 : decode cX5_pinch 0 = .ok (.aload_n 0, 1) := by decide +kernel
theorem dX5_pinch_1 : decode cX5_pinch 1 = .ok (.invokevirtual 28, 3) := by decide +kernel
theorem dX5_pinch_4 : decode cX5_pinch 4 = .ok (.lstore_n 1, 1) := by decide +kernel
theorem dX5_pinch_5 : decode cX5_pinch 5 = .ok (.bipush (-9), 2) := by decide +kernel
theorem dX5_pinch_7 : decode cX5_pinch 7 = .ok (.istore_n 3, 1) := by decide +kernel
theorem dX5_pinch_8 : decode cX5_pinch 8 = .ok (.iconst 0, 1) := by decide +kernel
theorem dX5_pinch_9 : decode cX5_pinch 9 = .ok (.istore 4, 2) := by decide +kernel
theorem dX5_pinch_11 : decode cX5_pinch 11 = .ok (.iload 4, 2) := by decide +kernel
theorem dX5_pinch_13 : decode cX5_pinch 13 = .ok (.aload_n 0, 1) := by decide +kernel
theorem dX5_pinch_14 : decode cX5_pinch 14 = .ok (.getfield 24, 3) := by decide +kernel
theorem dX5_pinch_17 : decode cX5_pinch 17 = .ok (.if_icmp .ge 37, 3) := by decide +kernel
theorem dX5_pinch_20 : decode cX5_pinch 20 = .ok (.aload_n 0, 1) := by decide +kernel
theorem dX5_pinch_21 : decode cX5_pinch 21 = .ok (.iload_n 3, 1) := by decide +kernel
theorem dX5_pinch_22 : decode cX5_pinch 22 = .ok (.aload_n 0, 1) := by decide +kernel
theorem dX5_pinch_23 : decode cX5_pinch 23 = .ok (.getfield 15, 3) := by decide +kernel
theorem dX5_pinch_26 : decode cX5_pinch 26 = .ok (.iload 4, 2) := by decide +kernel
theorem dX5_pinch_28 : decode cX5_pinch 28 = .ok (.iaload, 1) := by decide +kernel
theorem dX5_pinch_29 : decode cX5_pinch 29 = .ok (.lload_n 1, 1) := by decide +kernel
theorem dX5_pinch_30 : decode cX5_pinch 30 = .ok (.invokevirtual 50, 3) := by decide +kernel
theorem dX5_pinch_33 : decode cX5_pinch 33 = .ok (.istore_n 3, 1) := by decide +kernel
theorem dX5_pinch_34 : decode cX5_pinch 34 = .ok (.aload_n 0, 1) := by decide +kernel
theorem dX5_pinch_35 : decode cX5_pinch 35 = .ok (.iload_n 3, 1) := by decide +kernel
theorem dX5_pinch_36 : decode cX5_pinch 36 = .ok (.aload_n 0, 1) := by decide +kernel
theorem dX5_pinch_37 : decode cX5_pinch 37 = .ok (.getfield 18, 3) := by decide +kernel
theorem dX5_pinch_40 : decode cX5_pinch 40 = .ok (.iload 4, 2) := by decide +kernel
theorem dX5_pinch_42 : decode cX5_pinch 42 = .ok (.iaload, 1) := by decide +kernel
theorem dX5_pinch_43 : decode cX5_pinch 43 = .ok (.lload_n 1, 1) := by decide +kernel
theorem dX5_pinch_44 : decode cX5_pinch 44 = .ok (.invokevirtual 50, 3) := by decide +kernel
theorem dX5_pinch_47 : decode cX5_pinch 47 = .ok (.istore_n 3, 1) := by decide +kernel
theorem dX5_pinch_48 : decode cX5_pinch 48 = .ok (.iinc 4 1, 3) := by decide +kernel
theorem dX5_pinch_51 : decode cX5_pinch 51 = .ok (.goto (-40), 3) := by decide +kernel
theorem dX5_pinch_54 : decode cX5_pinch 54 = .ok (.iload_n 3, 1) := by decide +kernel
theorem dX5_pinch_55 : decode cX5_pinch 55 = .ok (.ireturn, 1) := by decide +kernel
theorem dX5_better_0 : decode cX5_better 0 = .ok (.iload_n 2, 1) := by decide +kernel
theorem dX5_better_1 : decode cX5_better 1 = .ok (.iconst 1, 1) := by decide +kernel
theorem dX5_better_2 : decode cX5_better 2 = .ok (.if_icmp .ge 5, 3) := by decide +kernel
theorem dX5_better_5 : decode cX5_better 5 = .ok (.iload_n 1, 1) := by decide +kernel
theorem dX5_better_6 : decode cX5_better 6 = .ok (.ireturn, 1) := by decide +kernel
theorem dX5_better_7 : decode cX5_better 7 = .ok (.iload_n 1, 1) := by decide +kernel
theorem dX5_better_8 : decode cX5_better 8 = .ok (.iconst 1, 1) := by decide +kernel
theorem dX5_better_9 : decode cX5_better 9 = .ok (.if_icmp .ge 5, 3) := by decide +kernel
theorem dX5_better_12 : decode cX5_better 12 = .ok (.iload_n 2, 1) := by decide +kernel
theorem dX5_better_13 : decode cX5_better 13 = .ok (.ireturn, 1) := by decide +kernel
theorem dX5_better_14 : decode cX5_better 14 = .ok (.aload_n 0, 1) := by decide +kernel
theorem dX5_better_15 : decode cX5_better 15 = .ok (.iload_n 1, 1) := by decide +kernel
theorem dX5_better_16 : decode cX5_better 16 = .ok (.lload_n 3, 1) := by decide +kernel
theorem dX5_better_17 : decode cX5_better 17 = .ok (.invokevirtual 32, 3) := by decide +kernel
theorem dX5_better_20 : decode cX5_better 20 = .ok (.lstore 5, 2) := by decide +kernel
theorem dX5_better_22 : decode cX5_better 22 = .ok (.aload_n 0, 1) := by decide +kernel
theorem dX5_better_23 : decode cX5_better 23 = .ok (.iload_n 2, 1) := by decide +kernel
theorem dX5_better_24 : decode cX5_better 24 = .ok (.lload_n 3, 1) := by decide +kernel
theorem dX5_better_25 : decode cX5_better 25 = .ok (.invokevirtual 32, 3) := by decide +kernel
theorem dX5_better_28 : decode cX5_better 28 = .ok (.lstore 7, 2) := by decide +kernel
theorem dX5_better_30 : decode cX5_better 30 = .ok (.lload 7, 2) := by decide +kernel
theorem dX5_better_32 : decode cX5_better 32 = .ok (.iload_n 2, 1) := by decide +kernel
theorem dX5_better_33 : decode cX5_better 33 = .ok (.i2l, 1) := by decide +kernel
theorem dX5_better_34 : decode cX5_better 34 = .ok (.ldiv, 1) := by decide +kernel
theorem dX5_better_35 : decode cX5_better 35 = .ok (.lload 5, 2) := by decide +kernel
theorem dX5_better_37 : decode cX5_better 37 = .ok (.iload_n 1, 1) := by decide +kernel
theorem dX5_better_38 : decode cX5_better 38 = .ok (.i2l, 1) := by decide +kernel
theorem dX5_better_39 : decode cX5_better 39 = .ok (.ldiv, 1) := by decide +kernel
theorem dX5_better_40 : decode cX5_better 40 = .ok (.invokestatic 54, 3) := by decide +kernel
theorem dX5_better_43 : decode cX5_better 43 = .ok (.istore 9, 2) := by decide +kernel
theorem dX5_better_45 : decode cX5_better 45 = .ok (.iload 9, 2) := by decide +kernel
theorem dX5_better_47 : decode cX5_better 47 = .ok (.ifCond .ne 24, 3) := by decide +kernel
theorem dX5_better_50 : decode cX5_better 50 = .ok (.lload 7, 2) := by decide +kernel
theorem dX5_better_52 : decode cX5_better 52 = .ok (.iload_n 2, 1) := by decide +kernel
theorem dX5_better_53 : decode cX5_better 53 = .ok (.i2l, 1) := by decide +kernel
theorem dX5_better_54 : decode cX5_better 54 = .ok (.lrem, 1) := by decide +kernel
theorem dX5_better_55 : decode cX5_better 55 = .ok (.iload_n 1, 1) := by decide +kernel
theorem dX5_better_56 : decode cX5_better 56 = .ok (.i2l, 1) := by decide +kernel
theorem dX5_better_57 : decode cX5_better 57 = .ok (.lmul, 1) := by decide +kernel
theorem dX5_better_58 : decode cX5_better 58 = .ok (.lload 5, 2) := by decide +kernel
theorem dX5_better_60 : decode cX5_better 60 = .ok (.iload_n 1, 1) := by decide +kernel
theorem dX5_better_61 : decode cX5_better 61 = .ok (.i2l, 1) := by decide +kernel
theorem dX5_better_62 : decode cX5_better 62 = .ok (.lrem, 1) := by decide +kernel
theorem dX5_better_63 : decode cX5_better 63 = .ok (.iload_n 2, 1) := by decide +kernel
theorem dX5_better_64 : decode cX5_better 64 = .ok (.i2l, 1) := by decide +kernel
theorem dX5_better_65 : decode cX5_better 65 = .ok (.lmul, 1) := by decide +kernel
theorem dX5_better_66 : decode cX5_better 66 = .ok (.invokestatic 54, 3) := by decide +kernel
theorem dX5_better_69 : decode cX5_better 69 = .ok (.istore 9, 2) := by decide +kernel
theorem dX5_better_71 : decode cX5_better 71 = .ok (.iload 9, 2) := by decide +kernel
theorem dX5_better_73 : decode cX5_better 73 = .ok (.ifCond .gt 13, 3) := by decide +kernel
theorem dX5_better_76 : decode cX5_better 76 = .ok (.iload 9, 2) := by decide +kernel
theorem dX5_better_78 : decode cX5_better 78 = .ok (.ifCond .ne 12, 3) := by decide +kernel
theorem dX5_better_81 : decode cX5_better 81 = .ok (.iload_n 2, 1) := by decide +kernel
theorem dX5_better_82 : decode cX5_better 82 = .ok (.iload_n 1, 1) := by decide +kernel
theorem dX5_better_83 : decode cX5_better 83 = .ok (.if_icmp .ge 7, 3) := by decide +kernel
theorem dX5_better_86 : decode cX5_better 86 = .ok (.iload_n 2, 1) := by decide +kernel
theorem dX5_better_87 : decode cX5_better 87 = .ok (.goto 4, 3) := by decide +kernel
theorem dX5_better_90 : decode cX5_better 90 = .ok (.iload_n 1, 1) := by decide +kernel
theorem dX5_better_91 : decode cX5_better 91 = .ok (.ireturn, 1) := by decide +kernel
theorem dX5_commonLower_0 : decode cX5_commonLower 0 = .ok (.lconst 1, 1) := by decide +kernel
theorem dX5_commonLower_1 : decode cX5_commonLower 1 = .ok (.lstore_n 1, 1) := by decide +kernel
theorem dX5_commonLower_2 : decode cX5_commonLower 2 = .ok (.iconst 0, 1) := by decide +kernel
theorem dX5_commonLower_3 : decode cX5_commonLower 3 = .ok (.istore_n 3, 1) := by decide +kernel
theorem dX5_commonLower_4 : decode cX5_commonLower 4 = .ok (.iload_n 3, 1) := by decide +kernel
theorem dX5_commonLower_5 : decode cX5_commonLower 5 = .ok (.aload_n 0, 1) := by decide +kernel
theorem dX5_commonLower_6 : decode cX5_commonLower 6 = .ok (.getfield 24, 3) := by decide +kernel
theorem dX5_commonLower_9 : decode cX5_commonLower 9 = .ok (.if_icmp .ge 18, 3) := by decide +kernel
theorem dX5_commonLower_12 : decode cX5_commonLower 12 = .ok (.lload_n 1, 1) := by decide +kernel
theorem dX5_commonLower_13 : decode cX5_commonLower 13 = .ok (.aload_n 0, 1) := by decide +kernel
theorem dX5_commonLower_14 : decode cX5_commonLower 14 = .ok (.iload_n 3, 1) := by decide +kernel
theorem dX5_commonLower_15 : decode cX5_commonLower 15 = .ok (.invokevirtual 60, 3) := by decide +kernel
theorem dX5_commonLower_18 : decode cX5_commonLower 18 = .ok (.i2l, 1) := by decide +kernel
theorem dX5_commonLower_19 : decode cX5_commonLower 19 = .ok (.lmul, 1) := by decide +kernel
theorem dX5_commonLower_20 : decode cX5_commonLower 20 = .ok (.lstore_n 1, 1) := by decide +kernel
theorem dX5_commonLower_21 : decode cX5_commonLower 21 = .ok (.iinc 3 1, 3) := by decide +kernel
theorem dX5_commonLower_24 : decode cX5_commonLower 24 = .ok (.goto (-20), 3) := by decide +kernel
theorem dX5_commonLower_27 : decode cX5_commonLower 27 = .ok (.lload_n 1, 1) := by decide +kernel
theorem dX5_commonLower_28 : decode cX5_commonLower 28 = .ok (.lreturn, 1) := by decide +kernel
theorem dX5_dirtBelow_0 : decode cX5_dirtBelow 0 = .ok (.lconst 0, 1) := by decide +kernel
theorem dX5_dirtBelow_1 : decode cX5_dirtBelow 1 = .ok (.lstore 4, 2) := by decide +kernel
theorem dX5_dirtBelow_3 : decode cX5_dirtBelow 3 = .ok (.iconst 0, 1) := by decide +kernel
theorem dX5_dirtBelow_4 : decode cX5_dirtBelow 4 = .ok (.istore 6, 2) := by decide +kernel
theorem dX5_dirtBelow_6 : decode cX5_dirtBelow 6 = .ok (.iload 6, 2) := by decide +kernel
theorem dX5_dirtBelow_8 : decode cX5_dirtBelow 8 = .ok (.aload_n 0, 1) := by decide +kernel
theorem dX5_dirtBelow_9 : decode cX5_dirtBelow 9 = .ok (.getfield 24, 3) := by decide +kernel
theorem dX5_dirtBelow_12 : decode cX5_dirtBelow 12 = .ok (.if_icmp .ge 61, 3) := by decide +kernel
theorem dX5_dirtBelow_15 : decode cX5_dirtBelow 15 = .ok (.iconst 0, 1) := by decide +kernel
theorem dX5_dirtBelow_16 : decode cX5_dirtBelow 16 = .ok (.iload_n 1, 1) := by decide +kernel
theorem dX5_dirtBelow_17 : decode cX5_dirtBelow 17 = .ok (.aload_n 0, 1) := by decide +kernel
theorem dX5_dirtBelow_18 : decode cX5_dirtBelow 18 = .ok (.getfield 18, 3) := by decide +kernel
theorem dX5_dirtBelow_21 : decode cX5_dirtBelow 21 = .ok (.iload 6, 2) := by decide +kernel
theorem dX5_dirtBelow_23 : decode cX5_dirtBelow 23 = .ok (.iaload, 1) := by decide +kernel
theorem dX5_dirtBelow_24 : decode cX5_dirtBelow 24 = .ok (.invokestatic 64, 3) := by decide +kernel
theorem dX5_dirtBelow_27 : decode cX5_dirtBelow 27 = .ok (.aload_n 0, 1) := by decide +kernel
theorem dX5_dirtBelow_28 : decode cX5_dirtBelow 28 = .ok (.getfield 15, 3) := by decide +kernel
theorem dX5_dirtBelow_31 : decode cX5_dirtBelow 31 = .ok (.iload 6, 2) := by decide +kernel
theorem dX5_dirtBelow_33 : decode cX5_dirtBelow 33 = .ok (.iaload, 1) := by decide +kernel
theorem dX5_dirtBelow_34 : decode cX5_dirtBelow 34 = .ok (.isub, 1) := by decide +kernel
theorem dX5_dirtBelow_35 : decode cX5_dirtBelow 35 = .ok (.invokestatic 70, 3) := by decide +kernel
theorem dX5_dirtBelow_38 : decode cX5_dirtBelow 38 = .ok (.i2l, 1) := by decide +kernel
theorem dX5_dirtBelow_39 : decode cX5_dirtBelow 39 = .ok (.lstore 7, 2) := by decide +kernel
theorem dX5_dirtBelow_41 : decode cX5_dirtBelow 41 = .ok (.lload 4, 2) := by decide +kernel
theorem dX5_dirtBelow_43 : decode cX5_dirtBelow 43 = .ok (.aload_n 0, 1) := by decide +kernel
theorem dX5_dirtBelow_44 : decode cX5_dirtBelow 44 = .ok (.getfield 9, 3) := by decide +kernel
theorem dX5_dirtBelow_47 : decode cX5_dirtBelow 47 = .ok (.iload 6, 2) := by decide +kernel
theorem dX5_dirtBelow_49 : decode cX5_dirtBelow 49 = .ok (.iaload, 1) := by decide +kernel
theorem dX5_dirtBelow_50 : decode cX5_dirtBelow 50 = .ok (.i2l, 1) := by decide +kernel
theorem dX5_dirtBelow_51 : decode cX5_dirtBelow 51 = .ok (.lload 7, 2) := by decide +kernel
theorem dX5_dirtBelow_53 : decode cX5_dirtBelow 53 = .ok (.lmul, 1) := by decide +kernel
theorem dX5_dirtBelow_54 : decode cX5_dirtBelow 54 = .ok (.lload_n 2, 1) := by decide +kernel
theorem dX5_dirtBelow_55 : decode cX5_dirtBelow 55 = .ok (.aload_n 0, 1) := by decide +kernel
theorem dX5_dirtBelow_56 : decode cX5_dirtBelow 56 = .ok (.iload 6, 2) := by decide +kernel
theorem dX5_dirtBelow_58 : decode cX5_dirtBelow 58 = .ok (.invokevirtual 60, 3) := by decide +kernel
theorem dX5_dirtBelow_61 : decode cX5_dirtBelow 61 = .ok (.i2l, 1) := by decide +kernel
theorem dX5_dirtBelow_62 : decode cX5_dirtBelow 62 = .ok (.ldiv, 1) := by decide +kernel
theorem dX5_dirtBelow_63 : decode cX5_dirtBelow 63 = .ok (.lmul, 1) := by decide +kernel
theorem dX5_dirtBelow_64 : decode cX5_dirtBelow 64 = .ok (.ladd, 1) := by decide +kernel
theorem dX5_dirtBelow_65 : decode cX5_dirtBelow 65 = .ok (.lstore 4, 2) := by decide +kernel
theorem dX5_dirtBelow_67 : decode cX5_dirtBelow 67 = .ok (.iinc 6 1, 3) := by decide +kernel
theorem dX5_dirtBelow_70 : decode cX5_dirtBelow 70 = .ok (.goto (-64), 3) := by decide +kernel
theorem dX5_dirtBelow_73 : decode cX5_dirtBelow 73 = .ok (.lload 4, 2) := by decide +kernel
theorem dX5_dirtBelow_75 : decode cX5_dirtBelow 75 = .ok (.lreturn, 1) := by decide +kernel
theorem dX5_span_0 : decode cX5_span 0 = .ok (.iconst 1, 1) := by decide +kernel
theorem dX5_span_1 : decode cX5_span 1 = .ok (.aload_n 0, 1) := by decide +kernel
theorem dX5_span_2 : decode cX5_span 2 = .ok (.getfield 18, 3) := by decide +kernel
theorem dX5_span_5 : decode cX5_span 5 = .ok (.iload_n 1, 1) := by decide +kernel
theorem dX5_span_6 : decode cX5_span 6 = .ok (.iaload, 1) := by decide +kernel
theorem dX5_span_7 : decode cX5_span 7 = .ok (.aload_n 0, 1) := by decide +kernel
theorem dX5_span_8 : decode cX5_span 8 = .ok (.getfield 15, 3) := by decide +kernel
theorem dX5_span_11 : decode cX5_span 11 = .ok (.iload_n 1, 1) := by decide +kernel
theorem dX5_span_12 : decode cX5_span 12 = .ok (.iaload, 1) := by decide +kernel
theorem dX5_span_13 : decode cX5_span 13 = .ok (.isub, 1) := by decide +kernel
theorem dX5_span_14 : decode cX5_span 14 = .ok (.invokestatic 70, 3) := by decide +kernel
theorem dX5_span_17 : decode cX5_span 17 = .ok (.ireturn, 1) := by decide +kernel
theorem dX6_init_0 : decode cX6_init 0 = .ok (.aload_n 0, 1) := by decide +kernel
theorem dX6_init_1 : decode cX6_init 1 = .ok (.invokespecial 1, 3) := by decide +kernel
theorem dX6_init_4 : decode cX6_init 4 = .ok (.aload_n 0, 1) := by decide +kernel
theorem dX6_init_5 : decode cX6_init 5 = .ok (.bipush 24, 2) := by decide +kernel
theorem dX6_init_7 : decode cX6_init 7 = .ok (.newarray .int, 2) := by decide +kernel
theorem dX6_init_9 : decode cX6_init 9 = .ok (.putfield 9, 3) := by decide +kernel
theorem dX6_init_12 : decode cX6_init 12 = .ok (.aload_n 0, 1) := by decide +kernel
theorem dX6_init_13 : decode cX6_init 13 = .ok (.bipush 24, 2) := by decide +kernel
theorem dX6_init_15 : decode cX6_init 15 = .ok (.newarray .int, 2) := by decide +kernel
theorem dX6_init_17 : decode cX6_init 17 = .ok (.putfield 13, 3) := by decide +kernel
theorem dX6_init_20 : decode cX6_init 20 = .ok (.return_, 1) := by decide +kernel
theorem dX6_leastBegun_0 : decode cX6_leastBegun 0 = .ok (.iconst 0, 1) := by decide +kernel
theorem dX6_leastBegun_1 : decode cX6_leastBegun 1 = .ok (.istore_n 1, 1) := by decide +kernel
theorem dX6_leastBegun_2 : decode cX6_leastBegun 2 = .ok (.iconst 0, 1) := by decide +kernel
theorem dX6_leastBegun_3 : decode cX6_leastBegun 3 = .ok (.istore_n 2, 1) := by decide +kernel
theorem dX6_leastBegun_4 : decode cX6_leastBegun 4 = .ok (.iconst 0, 1) := by decide +kernel
theorem dX6_leastBegun_5 : decode cX6_leastBegun 5 = .ok (.istore_n 3, 1) := by decide +kernel
theorem dX6_leastBegun_6 : decode cX6_leastBegun 6 = .ok (.iload_n 3, 1) := by decide +kernel
theorem dX6_leastBegun_7 : decode cX6_leastBegun 7 = .ok (.bipush 24, 2) := by decide +kernel
theorem dX6_leastBegun_9 : decode cX6_leastBegun 9 = .ok (.if_icmp .ge 31, 3) := by decide +kernel
theorem dX6_leastBegun_12 : decode cX6_leastBegun 12 = .ok (.iload_n 1, 1) := by decide +kernel
theorem dX6_leastBegun_13 : decode cX6_leastBegun 13 = .ok (.aload_n 0, 1) := by decide +kernel
theorem dX6_leastBegun_14 : decode cX6_leastBegun 14 = .ok (.getfield 9, 3) := by decide +kernel
theorem dX6_leastBegun_17 : decode cX6_leastBegun 17 = .ok (.iload_n 3, 1) := by decide +kernel
theorem dX6_leastBegun_18 : decode cX6_leastBegun 18 = .ok (.iaload, 1) := by decide +kernel
theorem dX6_leastBegun_19 : decode cX6_leastBegun 19 = .ok (.aload_n 0, 1) := by decide +kernel
theorem dX6_leastBegun_20 : decode cX6_leastBegun 20 = .ok (.getfield 13, 3) := by decide +kernel
theorem dX6_leastBegun_23 : decode cX6_leastBegun 23 = .ok (.iload_n 3, 1) := by decide +kernel
theorem dX6_leastBegun_24 : decode cX6_leastBegun 24 = .ok (.iaload, 1) := by decide +kernel
theorem dX6_leastBegun_25 : decode cX6_leastBegun 25 = .ok (.isub, 1) := by decide +kernel
theorem dX6_leastBegun_26 : decode cX6_leastBegun 26 = .ok (.iadd, 1) := by decide +kernel
theorem dX6_leastBegun_27 : decode cX6_leastBegun 27 = .ok (.istore_n 1, 1) := by decide +kernel
theorem dX6_leastBegun_28 : decode cX6_leastBegun 28 = .ok (.iload_n 2, 1) := by decide +kernel
theorem dX6_leastBegun_29 : decode cX6_leastBegun 29 = .ok (.iload_n 1, 1) := by decide +kernel
theorem dX6_leastBegun_30 : decode cX6_leastBegun 30 = .ok (.invokestatic 16, 3) := by decide +kernel
theorem dX6_leastBegun_33 : decode cX6_leastBegun 33 = .ok (.istore_n 2, 1) := by decide +kernel
theorem dX6_leastBegun_34 : decode cX6_leastBegun 34 = .ok (.iinc 3 1, 3) := by decide +kernel
theorem dX6_leastBegun_37 : decode cX6_leastBegun 37 = .ok (.goto (-31), 3) := by decide +kernel
theorem dX6_leastBegun_40 : decode cX6_leastBegun 40 = .ok (.iload_n 2, 1) := by decide +kernel
theorem dX6_leastBegun_41 : decode cX6_leastBegun 41 = .ok (.ineg, 1) := by decide +kernel
theorem dX6_leastBegun_42 : decode cX6_leastBegun 42 = .ok (.ireturn, 1) := by decide +kernel
theorem dX6_mostHeld_0 : decode cX6_mostHeld 0 = .ok (.iload_n 1, 1) := by decide +kernel
theorem dX6_mostHeld_1 : decode cX6_mostHeld 1 = .ok (.istore_n 2, 1) := by decide +kernel
theorem dX6_mostHeld_2 : decode cX6_mostHeld 2 = .ok (.iload_n 1, 1) := by decide +kernel
theorem dX6_mostHeld_3 : decode cX6_mostHeld 3 = .ok (.istore_n 3, 1) := by decide +kernel
theorem dX6_mostHeld_4 : decode cX6_mostHeld 4 = .ok (.iconst 0, 1) := by decide +kernel
theorem dX6_mostHeld_5 : decode cX6_mostHeld 5 = .ok (.istore 4, 2) := by decide +kernel
theorem dX6_mostHeld_7 : decode cX6_mostHeld 7 = .ok (.iload 4, 2) := by decide +kernel
theorem dX6_mostHeld_9 : decode cX6_mostHeld 9 = .ok (.bipush 24, 2) := by decide +kernel
theorem dX6_mostHeld_11 : decode cX6_mostHeld 11 = .ok (.if_icmp .ge 35, 3) := by decide +kernel
theorem dX6_mostHeld_14 : decode cX6_mostHeld 14 = .ok (.iload_n 2, 1) := by decide +kernel
theorem dX6_mostHeld_15 : decode cX6_mostHeld 15 = .ok (.aload_n 0, 1) := by decide +kernel
theorem dX6_mostHeld_16 : decode cX6_mostHeld 16 = .ok (.getfield 9, 3) := by decide +kernel
theorem dX6_mostHeld_19 : decode cX6_mostHeld 19 = .ok (.iload 4, 2) := by decide +kernel
theorem dX6_mostHeld_21 : decode cX6_mostHeld 21 = .ok (.iaload, 1) := by decide +kernel
theorem dX6_mostHeld_22 : decode cX6_mostHeld 22 = .ok (.iadd, 1) := by decide +kernel
theorem dX6_mostHeld_23 : decode cX6_mostHeld 23 = .ok (.istore_n 2, 1) := by decide +kernel
theorem dX6_mostHeld_24 : decode cX6_mostHeld 24 = .ok (.iload_n 3, 1) := by decide +kernel
theorem dX6_mostHeld_25 : decode cX6_mostHeld 25 = .ok (.iload_n 2, 1) := by decide +kernel
theorem dX6_mostHeld_26 : decode cX6_mostHeld 26 = .ok (.invokestatic 22, 3) := by decide +kernel
theorem dX6_mostHeld_29 : decode cX6_mostHeld 29 = .ok (.istore_n 3, 1) := by decide +kernel
theorem dX6_mostHeld_30 : decode cX6_mostHeld 30 = .ok (.iload_n 2, 1) := by decide +kernel
theorem dX6_mostHeld_31 : decode cX6_mostHeld 31 = .ok (.aload_n 0, 1) := by decide +kernel
theorem dX6_mostHeld_32 : decode cX6_mostHeld 32 = .ok (.getfield 13, 3) := by decide +kernel
theorem dX6_mostHeld_35 : decode cX6_mostHeld 35 = .ok (.iload 4, 2) := by decide +kernel
theorem dX6_mostHeld_37 : decode cX6_mostHeld 37 = .ok (.iaload, 1) := by decide +kernel
theorem dX6_mostHeld_38 : decode cX6_mostHeld 38 = .ok (.isub, 1) := by decide +kernel
theorem dX6_mostHeld_39 : decode cX6_mostHeld 39 = .ok (.istore_n 2, 1) := by decide +kernel
theorem dX6_mostHeld_40 : decode cX6_mostHeld 40 = .ok (.iinc 4 1, 3) := by decide +kernel
theorem dX6_mostHeld_43 : decode cX6_mostHeld 43 = .ok (.goto (-36), 3) := by decide +kernel
theorem dX6_mostHeld_46 : decode cX6_mostHeld 46 = .ok (.iload_n 3, 1) := by decide +kernel
theorem dX6_mostHeld_47 : decode cX6_mostHeld 47 = .ok (.ireturn, 1) := by decide +kernel
theorem dX7_init_0 : decode cX7_init 0 = .ok (.aload_n 0, 1) := by decide +kernel
theorem dX7_init_1 : decode cX7_init 1 = .ok (.invokespecial 1, 3) := by decide +kernel
theorem dX7_init_4 : decode cX7_init 4 = .ok (.aload_n 0, 1) := by decide +kernel
theorem dX7_init_5 : decode cX7_init 5 = .ok (.new 7, 3) := by decide +kernel
theorem dX7_init_8 : decode cX7_init 8 = .ok (.dup, 1) := by decide +kernel
theorem dX7_init_9 : decode cX7_init 9 = .ok (.invokespecial 9, 3) := by decide +kernel
theorem dX7_init_12 : decode cX7_init 12 = .ok (.putfield 10, 3) := by decide +kernel
theorem dX7_init_15 : decode cX7_init 15 = .ok (.aload_n 0, 1) := by decide +kernel
theorem dX7_init_16 : decode cX7_init 16 = .ok (.new 16, 3) := by decide +kernel
theorem dX7_init_19 : decode cX7_init 19 = .ok (.dup, 1) := by decide +kernel
theorem dX7_init_20 : decode cX7_init 20 = .ok (.aload_n 0, 1) := by decide +kernel
theorem dX7_init_21 : decode cX7_init 21 = .ok (.getfield 10, 3) := by decide +kernel
theorem dX7_init_24 : decode cX7_init 24 = .ok (.invokespecial 18, 3) := by decide +kernel
theorem dX7_init_27 : decode cX7_init 27 = .ok (.putfield 21, 3) := by decide +kernel
theorem dX7_init_30 : decode cX7_init 30 = .ok (.aload_n 0, 1) := by decide +kernel
theorem dX7_init_31 : decode cX7_init 31 = .ok (.new 25, 3) := by decide +kernel
theorem dX7_init_34 : decode cX7_init 34 = .ok (.dup, 1) := by decide +kernel
theorem dX7_init_35 : decode cX7_init 35 = .ok (.aload_n 0, 1) := by decide +kernel
theorem dX7_init_36 : decode cX7_init 36 = .ok (.getfield 10, 3) := by decide +kernel
theorem dX7_init_39 : decode cX7_init 39 = .ok (.invokespecial 27, 3) := by decide +kernel
theorem dX7_init_42 : decode cX7_init 42 = .ok (.putfield 28, 3) := by decide +kernel
theorem dX7_init_45 : decode cX7_init 45 = .ok (.aload_n 0, 1) := by decide +kernel
theorem dX7_init_46 : decode cX7_init 46 = .ok (.new 32, 3) := by decide +kernel
theorem dX7_init_49 : decode cX7_init 49 = .ok (.dup, 1) := by decide +kernel
theorem dX7_init_50 : decode cX7_init 50 = .ok (.invokespecial 34, 3) := by decide +kernel
theorem dX7_init_53 : decode cX7_init 53 = .ok (.putfield 35, 3) := by decide +kernel
theorem dX7_init_56 : decode cX7_init 56 = .ok (.aload_n 0, 1) := by decide +kernel
theorem dX7_init_57 : decode cX7_init 57 = .ok (.new 39, 3) := by decide +kernel
theorem dX7_init_60 : decode cX7_init 60 = .ok (.dup, 1) := by decide +kernel
theorem dX7_init_61 : decode cX7_init 61 = .ok (.invokespecial 41, 3) := by decide +kernel
theorem dX7_init_64 : decode cX7_init 64 = .ok (.putfield 42, 3) := by decide +kernel
theorem dX7_init_67 : decode cX7_init 67 = .ok (.aload_n 0, 1) := by decide +kernel
theorem dX7_init_68 : decode cX7_init 68 = .ok (.new 46, 3) := by decide +kernel
theorem dX7_init_71 : decode cX7_init 71 = .ok (.dup, 1) := by decide +kernel
theorem dX7_init_72 : decode cX7_init 72 = .ok (.invokespecial 48, 3) := by decide +kernel
theorem dX7_init_75 : decode cX7_init 75 = .ok (.putfield 49, 3) := by decide +kernel
theorem dX7_init_78 : decode cX7_init 78 = .ok (.return_, 1) := by decide +kernel
theorem dX7_step_0 : decode cX7_step 0 = .ok (.iload_n 1, 1) := by decide +kernel
theorem dX7_step_1 : decode cX7_step 1 = .ok (.iconst 1, 1) := by decide +kernel
theorem dX7_step_2 : decode cX7_step 2 = .ok (.sipush 1000, 3) := by decide +kernel
theorem dX7_step_5 : decode cX7_step 5 = .ok (.invokestatic 53, 3) := by decide +kernel
theorem dX7_step_8 : decode cX7_step 8 = .ok (.ifCond .eq 14, 3) := by decide +kernel
theorem dX7_step_11 : decode cX7_step 11 = .ok (.iload_n 2, 1) := by decide +kernel
theorem dX7_step_12 : decode cX7_step 12 = .ok (.iconst 0, 1) := by decide +kernel
theorem dX7_step_13 : decode cX7_step 13 = .ok (.sipush 400, 3) := by decide +kernel
theorem dX7_step_16 : decode cX7_step 16 = .ok (.invokestatic 53, 3) := by decide +kernel
theorem dX7_step_19 : decode cX7_step 19 = .ok (.ifCond .ne 5, 3) := by decide +kernel
theorem dX7_step_22 : decode cX7_step 22 = .ok (.iconst (-1), 1) := by decide +kernel
theorem dX7_step_23 : decode cX7_step 23 = .ok (.ireturn, 1) := by decide +kernel
theorem dX7_step_24 : decode cX7_step 24 = .ok (.iload_n 3, 1) := by decide +kernel
theorem dX7_step_25 : decode cX7_step 25 = .ok (.iload_n 2, 1) := by decide +kernel
theorem dX7_step_26 : decode cX7_step 26 = .ok (.iconst 1, 1) := by decide +kernel
theorem dX7_step_27 : decode cX7_step 27 = .ok (.iadd, 1) := by decide +kernel
theorem dX7_step_28 : decode cX7_step 28 = .ok (.sipush 500, 3) := by decide +kernel
theorem dX7_step_31 : decode cX7_step 31 = .ok (.invokestatic 53, 3) := by decide +kernel
theorem dX7_step_34 : decode cX7_step 34 = .ok (.ifCond .ne 5, 3) := by decide +kernel
theorem dX7_step_37 : decode cX7_step 37 = .ok (.iconst (-1), 1) := by decide +kernel
theorem dX7_step_38 : decode cX7_step 38 = .ok (.ireturn, 1) := by decide +kernel
theorem dX7_step_39 : decode cX7_step 39 = .ok (.aload_n 0, 1) := by decide +kernel
theorem dX7_step_40 : decode cX7_step 40 = .ok (.getfield 10, 3) := by decide +kernel
theorem dX7_step_43 : decode cX7_step 43 = .ok (.iload_n 1, 1) := by decide +kernel
theorem dX7_step_44 : decode cX7_step 44 = .ok (.iload_n 2, 1) := by decide +kernel
theorem dX7_step_45 : decode cX7_step 45 = .ok (.iload_n 3, 1) := by decide +kernel
theorem dX7_step_46 : decode cX7_step 46 = .ok (.invokevirtual 57, 3) := by decide +kernel
theorem dX7_step_49 : decode cX7_step 49 = .ok (.ireturn, 1) := by decide +kernel
theorem dX7_change_0 : decode cX7_change 0 = .ok (.aload_n 0, 1) := by decide +kernel
theorem dX7_change_1 : decode cX7_change 1 = .ok (.getfield 10, 3) := by decide +kernel
theorem dX7_change_4 : decode cX7_change 4 = .ok (.iload_n 1, 1) := by decide +kernel
theorem dX7_change_5 : decode cX7_change 5 = .ok (.invokevirtual 61, 3) := by decide +kernel
theorem dX7_change_8 : decode cX7_change 8 = .ok (.ifCond .ne 5, 3) := by decide +kernel
theorem dX7_change_11 : decode cX7_change 11 = .ok (.iconst (-1), 1) := by decide +kernel
theorem dX7_change_12 : decode cX7_change 12 = .ok (.ireturn, 1) := by decide +kernel
theorem dX7_change_13 : decode cX7_change 13 = .ok (.iload_n 2, 1) := by decide +kernel
theorem dX7_change_14 : decode cX7_change 14 = .ok (.ifCond .ne 27, 3) := by decide +kernel
theorem dX7_change_17 : decode cX7_change 17 = .ok (.iload_n 3, 1) := by decide +kernel
theorem dX7_change_18 : decode cX7_change 18 = .ok (.iconst 1, 1) := by decide +kernel
theorem dX7_change_19 : decode cX7_change 19 = .ok (.sipush 1000, 3) := by decide +kernel
theorem dX7_change_22 : decode cX7_change 22 = .ok (.invokestatic 53, 3) := by decide +kernel
theorem dX7_change_25 : decode cX7_change 25 = .ok (.ifCond .eq 16, 3) := by decide +kernel
theorem dX7_change_28 : decode cX7_change 28 = .ok (.aload_n 0, 1) := by decide +kernel
theorem dX7_change_29 : decode cX7_change 29 = .ok (.getfield 10, 3) := by decide +kernel
theorem dX7_change_32 : decode cX7_change 32 = .ok (.getfield 65, 3) := by decide +kernel
theorem dX7_change_35 : decode cX7_change 35 = .ok (.iload_n 1, 1) := by decide +kernel
theorem dX7_change_36 : decode cX7_change 36 = .ok (.iload_n 3, 1) := by decide +kernel
theorem dX7_change_37 : decode cX7_change 37 = .ok (.invokestatic 69, 3) := by decide +kernel
theorem dX7_change_40 : decode cX7_change 40 = .ok (.ireturn, 1) := by decide +kernel
theorem dX7_change_41 : decode cX7_change 41 = .ok (.iload_n 2, 1) := by decide +kernel
theorem dX7_change_42 : decode cX7_change 42 = .ok (.iconst 1, 1) := by decide +kernel
theorem dX7_change_43 : decode cX7_change 43 = .ok (.if_icmp .ne 26, 3) := by decide +kernel
theorem dX7_change_46 : decode cX7_change 46 = .ok (.iload_n 3, 1) := by decide +kernel
theorem dX7_change_47 : decode cX7_change 47 = .ok (.iconst 0, 1) := by decide +kernel
theorem dX7_change_48 : decode cX7_change 48 = .ok (.bipush 9, 2) := by decide +kernel
theorem dX7_change_50 : decode cX7_change 50 = .ok (.invokestatic 53, 3) := by decide +kernel
theorem dX7_change_53 : decode cX7_change 53 = .ok (.ifCond .eq 16, 3) := by decide +kernel
theorem dX7_change_56 : decode cX7_change 56 = .ok (.aload_n 0, 1) := by decide +kernel
theorem dX7_change_57 : decode cX7_change 57 = .ok (.getfield 10, 3) := by decide +kernel
theorem dX7_change_60 : decode cX7_change 60 = .ok (.getfield 73, 3) := by decide +kernel
theorem dX7_change_63 : decode cX7_change 63 = .ok (.iload_n 1, 1) := by decide +kernel
theorem dX7_change_64 : decode cX7_change 64 = .ok (.iload_n 3, 1) := by decide +kernel
theorem dX7_change_65 : decode cX7_change 65 = .ok (.invokestatic 69, 3) := by decide +kernel
theorem dX7_change_68 : decode cX7_change 68 = .ok (.ireturn, 1) := by decide +kernel
theorem dX7_change_69 : decode cX7_change 69 = .ok (.iconst (-1), 1) := by decide +kernel
theorem dX7_change_70 : decode cX7_change 70 = .ok (.ireturn, 1) := by decide +kernel
theorem dX7_set_0 : decode cX7_set 0 = .ok (.iload_n 1, 1) := by decide +kernel
theorem dX7_set_1 : decode cX7_set 1 = .ok (.invokestatic 76, 3) := by decide +kernel
theorem dX7_set_4 : decode cX7_set 4 = .ok (.ifCond .eq 16, 3) := by decide +kernel
theorem dX7_set_7 : decode cX7_set 7 = .ok (.iload_n 2, 1) := by decide +kernel
theorem dX7_set_8 : decode cX7_set 8 = .ok (.iconst 0, 1) := by decide +kernel
theorem dX7_set_9 : decode cX7_set 9 = .ok (.getstatic 79, 3) := by decide +kernel
theorem dX7_set_12 : decode cX7_set 12 = .ok (.iload_n 1, 1) := by decide +kernel
theorem dX7_set_13 : decode cX7_set 13 = .ok (.iaload, 1) := by decide +kernel
theorem dX7_set_14 : decode cX7_set 14 = .ok (.invokestatic 53, 3) := by decide +kernel
theorem dX7_set_17 : decode cX7_set 17 = .ok (.ifCond .ne 5, 3) := by decide +kernel
theorem dX7_set_20 : decode cX7_set 20 = .ok (.iconst (-1), 1) := by decide +kernel
theorem dX7_set_21 : decode cX7_set 21 = .ok (.ireturn, 1) := by decide +kernel
theorem dX7_set_22 : decode cX7_set 22 = .ok (.aload_n 0, 1) := by decide +kernel
theorem dX7_set_23 : decode cX7_set 23 = .ok (.getfield 21, 3) := by decide +kernel
theorem dX7_set_26 : decode cX7_set 26 = .ok (.getfield 82, 3) := by decide +kernel
theorem dX7_set_29 : decode cX7_set 29 = .ok (.iload_n 1, 1) := by decide +kernel
theorem dX7_set_30 : decode cX7_set 30 = .ok (.iload_n 2, 1) := by decide +kernel
theorem dX7_set_31 : decode cX7_set 31 = .ok (.invokestatic 69, 3) := by decide +kernel
theorem dX7_set_34 : decode cX7_set 34 = .ok (.ireturn, 1) := by decide +kernel
theorem dX7_limit_0 : decode cX7_limit 0 = .ok (.iload_n 1, 1) := by decide +kernel
theorem dX7_limit_1 : decode cX7_limit 1 = .ok (.iconst 0, 1) := by decide +kernel
theorem dX7_limit_2 : decode cX7_limit 2 = .ok (.iconst 2, 1) := by decide +kernel
theorem dX7_limit_3 : decode cX7_limit 3 = .ok (.invokestatic 53, 3) := by decide +kernel
theorem dX7_limit_6 : decode cX7_limit 6 = .ok (.ifCond .eq 14, 3) := by decide +kernel
theorem dX7_limit_9 : decode cX7_limit 9 = .ok (.aload_n 0, 1) := by decide +kernel
theorem dX7_limit_10 : decode cX7_limit 10 = .ok (.getfield 10, 3) := by decide +kernel
theorem dX7_limit_13 : decode cX7_limit 13 = .ok (.iload_n 2, 1) := by decide +kernel
theorem dX7_limit_14 : decode cX7_limit 14 = .ok (.invokevirtual 61, 3) := by decide +kernel
theorem dX7_limit_17 : decode cX7_limit 17 = .ok (.ifCond .ne 5, 3) := by decide +kernel
theorem dX7_limit_20 : decode cX7_limit 20 = .ok (.iconst (-1), 1) := by decide +kernel
theorem dX7_limit_21 : decode cX7_limit 21 = .ok (.ireturn, 1) := by decide +kernel
theorem dX7_limit_22 : decode cX7_limit 22 = .ok (.aload_n 0, 1) := by decide +kernel
theorem dX7_limit_23 : decode cX7_limit 23 = .ok (.dup, 1) := by decide +kernel
theorem dX7_limit_24 : decode cX7_limit 24 = .ok (.getfield 85, 3) := by decide +kernel
theorem dX7_limit_27 : decode cX7_limit 27 = .ok (.iload_n 1, 1) := by decide +kernel
theorem dX7_limit_28 : decode cX7_limit 28 = .ok (.invokestatic 89, 3) := by decide +kernel
theorem dX7_limit_31 : decode cX7_limit 31 = .ok (.i2l, 1) := by decide +kernel
theorem dX7_limit_32 : decode cX7_limit 32 = .ok (.ladd, 1) := by decide +kernel
theorem dX7_limit_33 : decode cX7_limit 33 = .ok (.putfield 85, 3) := by decide +kernel
theorem dX7_limit_36 : decode cX7_limit 36 = .ok (.aload_n 0, 1) := by decide +kernel
theorem dX7_limit_37 : decode cX7_limit 37 = .ok (.getfield 21, 3) := by decide +kernel
theorem dX7_limit_40 : decode cX7_limit 40 = .ok (.iload_n 1, 1) := by decide +kernel
theorem dX7_limit_41 : decode cX7_limit 41 = .ok (.iload_n 2, 1) := by decide +kernel
theorem dX7_limit_42 : decode cX7_limit 42 = .ok (.invokevirtual 93, 3) := by decide +kernel
theorem dX7_limit_45 : decode cX7_limit 45 = .ok (.ireturn, 1) := by decide +kernel
theorem dX7_dirt_0 : decode cX7_dirt 0 = .ok (.iload_n 1, 1) := by decide +kernel
theorem dX7_dirt_1 : decode cX7_dirt 1 = .ok (.iconst 1, 1) := by decide +kernel
theorem dX7_dirt_2 : decode cX7_dirt 2 = .ok (.sipush 500, 3) := by decide +kernel
theorem dX7_dirt_5 : decode cX7_dirt 5 = .ok (.invokestatic 53, 3) := by decide +kernel
theorem dX7_dirt_8 : decode cX7_dirt 8 = .ok (.ifCond .eq 10, 3) := by decide +kernel
theorem dX7_dirt_11 : decode cX7_dirt 11 = .ok (.iload_n 2, 1) := by decide +kernel
theorem dX7_dirt_12 : decode cX7_dirt 12 = .ok (.invokestatic 97, 3) := by decide +kernel
theorem dX7_dirt_15 : decode cX7_dirt 15 = .ok (.ifCond .ne 7, 3) := by decide +kernel
theorem dX7_dirt_18 : decode cX7_dirt 18 = .ok (.ldc2_w 100, 3) := by decide +kernel
theorem dX7_dirt_21 : decode cX7_dirt 21 = .ok (.lreturn, 1) := by decide +kernel
theorem dX7_dirt_22 : decode cX7_dirt 22 = .ok (.aload_n 0, 1) := by decide +kernel
theorem dX7_dirt_23 : decode cX7_dirt 23 = .ok (.getfield 10, 3) := by decide +kernel
theorem dX7_dirt_26 : decode cX7_dirt 26 = .ok (.iload_n 1, 1) := by decide +kernel
theorem dX7_dirt_27 : decode cX7_dirt 27 = .ok (.aload_n 0, 1) := by decide +kernel
theorem dX7_dirt_28 : decode cX7_dirt 28 = .ok (.getfield 49, 3) := by decide +kernel
theorem dX7_dirt_31 : decode cX7_dirt 31 = .ok (.invokevirtual 102, 3) := by decide +kernel
theorem dX7_dirt_34 : decode cX7_dirt 34 = .ok (.aload_n 0, 1) := by decide +kernel
theorem dX7_dirt_35 : decode cX7_dirt 35 = .ok (.getfield 49, 3) := by decide +kernel
theorem dX7_dirt_38 : decode cX7_dirt 38 = .ok (.iload_n 2, 1) := by decide +kernel
theorem dX7_dirt_39 : decode cX7_dirt 39 = .ok (.invokevirtual 106, 3) := by decide +kernel
theorem dX7_dirt_42 : decode cX7_dirt 42 = .ok (.lreturn, 1) := by decide +kernel
theorem dX7_least_0 : decode cX7_least 0 = .ok (.iload_n 1, 1) := by decide +kernel
theorem dX7_least_1 : decode cX7_least 1 = .ok (.iconst 0, 1) := by decide +kernel
theorem dX7_least_2 : decode cX7_least 2 = .ok (.iconst 2, 1) := by decide +kernel
theorem dX7_least_3 : decode cX7_least 3 = .ok (.invokestatic 53, 3) := by decide +kernel
theorem dX7_least_6 : decode cX7_least 6 = .ok (.ifCond .ne 7, 3) := by decide +kernel
theorem dX7_least_9 : decode cX7_least 9 = .ok (.ldc2_w 100, 3) := by decide +kernel
theorem dX7_least_12 : decode cX7_least 12 = .ok (.lreturn, 1) := by decide +kernel
theorem dX7_least_13 : decode cX7_least 13 = .ok (.aload_n 0, 1) := by decide +kernel
theorem dX7_least_14 : decode cX7_least 14 = .ok (.getfield 10, 3) := by decide +kernel
theorem dX7_least_17 : decode cX7_least 17 = .ok (.invokevirtual 110, 3) := by decide +kernel
theorem dX7_least_20 : decode cX7_least 20 = .ok (.istore_n 2, 1) := by decide +kernel
theorem dX7_least_21 : decode cX7_least 21 = .ok (.iload_n 1, 1) := by decide +kernel
theorem dX7_least_22 : decode cX7_least 22 = .ok (.iconst 2, 1) := by decide +kernel
theorem dX7_least_23 : decode cX7_least 23 = .ok (.if_icmp .ne 6, 3) := by decide +kernel
theorem dX7_least_26 : decode cX7_least 26 = .ok (.iload_n 2, 1) := by decide +kernel
theorem dX7_least_27 : decode cX7_least 27 = .ok (.i2l, 1) := by decide +kernel
theorem dX7_least_28 : decode cX7_least 28 = .ok (.lreturn, 1) := by decide +kernel
theorem dX7_least_29 : decode cX7_least 29 = .ok (.aload_n 0, 1) := by decide +kernel
theorem dX7_least_30 : decode cX7_least 30 = .ok (.getfield 10, 3) := by decide +kernel
theorem dX7_least_33 : decode cX7_least 33 = .ok (.iload_n 2, 1) := by decide +kernel
theorem dX7_least_34 : decode cX7_least 34 = .ok (.aload_n 0, 1) := by decide +kernel
theorem dX7_least_35 : decode cX7_least 35 = .ok (.getfield 49, 3) := by decide +kernel
theorem dX7_least_38 : decode cX7_least 38 = .ok (.invokevirtual 114, 3) := by decide +kernel
theorem dX7_least_41 : decode cX7_least 41 = .ok (.aload_n 0, 1) := by decide +kernel
theorem dX7_least_42 : decode cX7_least 42 = .ok (.getfield 49, 3) := by decide +kernel
theorem dX7_least_45 : decode cX7_least 45 = .ok (.iload_n 1, 1) := by decide +kernel
theorem dX7_least_46 : decode cX7_least 46 = .ok (.invokevirtual 106, 3) := by decide +kernel
theorem dX7_least_49 : decode cX7_least 49 = .ok (.lreturn, 1) := by decide +kernel
theorem dX7_fresh_0 : decode cX7_fresh 0 = .ok (.aload_n 0, 1) := by decide +kernel
theorem dX7_fresh_1 : decode cX7_fresh 1 = .ok (.getfield 10, 3) := by decide +kernel
theorem dX7_fresh_4 : decode cX7_fresh 4 = .ok (.iload_n 1, 1) := by decide +kernel
theorem dX7_fresh_5 : decode cX7_fresh 5 = .ok (.invokevirtual 61, 3) := by decide +kernel
theorem dX7_fresh_8 : decode cX7_fresh 8 = .ok (.ifCond .eq 13, 3) := by decide +kernel
theorem dX7_fresh_11 : decode cX7_fresh 11 = .ok (.iload_n 2, 1) := by decide +kernel
theorem dX7_fresh_12 : decode cX7_fresh 12 = .ok (.iconst 0, 1) := by decide +kernel
theorem dX7_fresh_13 : decode cX7_fresh 13 = .ok (.bipush 100, 2) := by decide +kernel
theorem dX7_fresh_15 : decode cX7_fresh 15 = .ok (.invokestatic 53, 3) := by decide +kernel
theorem dX7_fresh_18 : decode cX7_fresh 18 = .ok (.ifCond .ne 5, 3) := by decide +kernel
theorem dX7_fresh_21 : decode cX7_fresh 21 = .ok (.iconst (-1), 1) := by decide +kernel
theorem dX7_fresh_22 : decode cX7_fresh 22 = .ok (.ireturn, 1) := by decide +kernel
theorem dX7_fresh_23 : decode cX7_fresh 23 = .ok (.aload_n 0, 1) := by decide +kernel
theorem dX7_fresh_24 : decode cX7_fresh 24 = .ok (.getfield 28, 3) := by decide +kernel
theorem dX7_fresh_27 : decode cX7_fresh 27 = .ok (.getfield 117, 3) := by decide +kernel
theorem dX7_fresh_30 : decode cX7_fresh 30 = .ok (.iload_n 1, 1) := by decide +kernel
theorem dX7_fresh_31 : decode cX7_fresh 31 = .ok (.iload_n 2, 1) := by decide +kernel
theorem dX7_fresh_32 : decode cX7_fresh 32 = .ok (.invokestatic 69, 3) := by decide +kernel
theorem dX7_fresh_35 : decode cX7_fresh 35 = .ok (.ireturn, 1) := by decide +kernel
theorem dX7_pipe_0 : decode cX7_pipe 0 = .ok (.aload_n 0, 1) := by decide +kernel
theorem dX7_pipe_1 : decode cX7_pipe 1 = .ok (.getfield 10, 3) := by decide +kernel
theorem dX7_pipe_4 : decode cX7_pipe 4 = .ok (.iload_n 1, 1) := by decide +kernel
theorem dX7_pipe_5 : decode cX7_pipe 5 = .ok (.invokevirtual 61, 3) := by decide +kernel
theorem dX7_pipe_8 : decode cX7_pipe 8 = .ok (.ifCond .eq 29, 3) := by decide +kernel
theorem dX7_pipe_11 : decode cX7_pipe 11 = .ok (.aload_n 0, 1) := by decide +kernel
theorem dX7_pipe_12 : decode cX7_pipe 12 = .ok (.getfield 10, 3) := by decide +kernel
theorem dX7_pipe_15 : decode cX7_pipe 15 = .ok (.iload_n 2, 1) := by decide +kernel
theorem dX7_pipe_16 : decode cX7_pipe 16 = .ok (.invokevirtual 61, 3) := by decide +kernel
theorem dX7_pipe_19 : decode cX7_pipe 19 = .ok (.ifCond .eq 18, 3) := by decide +kernel
theorem dX7_pipe_22 : decode cX7_pipe 22 = .ok (.iload_n 1, 1) := by decide +kernel
theorem dX7_pipe_23 : decode cX7_pipe 23 = .ok (.iload_n 2, 1) := by decide +kernel
theorem dX7_pipe_24 : decode cX7_pipe 24 = .ok (.if_icmp .eq 13, 3) := by decide +kernel
theorem dX7_pipe_27 : decode cX7_pipe 27 = .ok (.iload_n 3, 1) := by decide +kernel
theorem dX7_pipe_28 : decode cX7_pipe 28 = .ok (.iconst 0, 1) := by decide +kernel
theorem dX7_pipe_29 : decode cX7_pipe 29 = .ok (.bipush 100, 2) := by decide +kernel
theorem dX7_pipe_31 : decode cX7_pipe 31 = .ok (.invokestatic 53, 3) := by decide +kernel
theorem dX7_pipe_34 : decode cX7_pipe 34 = .ok (.ifCond .ne 5, 3) := by decide +kernel
theorem dX7_pipe_37 : decode cX7_pipe 37 = .ok (.iconst (-1), 1) := by decide +kernel
theorem dX7_pipe_38 : decode cX7_pipe 38 = .ok (.ireturn, 1) := by decide +kernel
theorem dX7_pipe_39 : decode cX7_pipe 39 = .ok (.aload_n 0, 1) := by decide +kernel
theorem dX7_pipe_40 : decode cX7_pipe 40 = .ok (.getfield 28, 3) := by decide +kernel
theorem dX7_pipe_43 : decode cX7_pipe 43 = .ok (.getfield 120, 3) := by decide +kernel
theorem dX7_pipe_46 : decode cX7_pipe 46 = .ok (.iload_n 1, 1) := by decide +kernel
theorem dX7_pipe_47 : decode cX7_pipe 47 = .ok (.aaload, 1) := by decide +kernel
theorem dX7_pipe_48 : decode cX7_pipe 48 = .ok (.iload_n 2, 1) := by decide +kernel
theorem dX7_pipe_49 : decode cX7_pipe 49 = .ok (.iload_n 3, 1) := by decide +kernel
theorem dX7_pipe_50 : decode cX7_pipe 50 = .ok (.invokestatic 69, 3) := by decide +kernel
theorem dX7_pipe_53 : decode cX7_pipe 53 = .ok (.ireturn, 1) := by decide +kernel
theorem dX7_water_0 : decode cX7_water 0 = .ok (.aload_n 0, 1) := by decide +kernel
theorem dX7_water_1 : decode cX7_water 1 = .ok (.getfield 10, 3) := by decide +kernel
theorem dX7_water_4 : decode cX7_water 4 = .ok (.iload_n 1, 1) := by decide +kernel
theorem dX7_water_5 : decode cX7_water 5 = .ok (.invokevirtual 61, 3) := by decide +kernel
theorem dX7_water_8 : decode cX7_water 8 = .ok (.ifCond .eq 12, 3) := by decide +kernel
theorem dX7_water_11 : decode cX7_water 11 = .ok (.iload_n 2, 1) := by decide +kernel
theorem dX7_water_12 : decode cX7_water 12 = .ok (.iconst 0, 1) := by decide +kernel
theorem dX7_water_13 : decode cX7_water 13 = .ok (.iconst 1, 1) := by decide +kernel
theorem dX7_water_14 : decode cX7_water 14 = .ok (.invokestatic 53, 3) := by decide +kernel
theorem dX7_water_17 : decode cX7_water 17 = .ok (.ifCond .ne 5, 3) := by decide +kernel
theorem dX7_water_20 : decode cX7_water 20 = .ok (.iconst (-1), 1) := by decide +kernel
theorem dX7_water_21 : decode cX7_water 21 = .ok (.ireturn, 1) := by decide +kernel
theorem dX7_water_22 : decode cX7_water 22 = .ok (.iload_n 2, 1) := by decide +kernel
theorem dX7_water_23 : decode cX7_water 23 = .ok (.ifCond .ne 14, 3) := by decide +kernel
theorem dX7_water_26 : decode cX7_water 26 = .ok (.aload_n 0, 1) := by decide +kernel
theorem dX7_water_27 : decode cX7_water 27 = .ok (.getfield 28, 3) := by decide +kernel
theorem dX7_water_30 : decode cX7_water 30 = .ok (.iload_n 1, 1) := by decide +kernel
theorem dX7_water_31 : decode cX7_water 31 = .ok (.invokevirtual 124, 3) := by decide +kernel
theorem dX7_water_34 : decode cX7_water 34 = .ok (.goto 11, 3) := by decide +kernel
theorem dX7_water_37 : decode cX7_water 37 = .ok (.aload_n 0, 1) := by decide +kernel
theorem dX7_water_38 : decode cX7_water 38 = .ok (.getfield 28, 3) := by decide +kernel
theorem dX7_water_41 : decode cX7_water 41 = .ok (.iload_n 1, 1) := by decide +kernel
theorem dX7_water_42 : decode cX7_water 42 = .ok (.invokevirtual 127, 3) := by decide +kernel
theorem dX7_water_45 : decode cX7_water 45 = .ok (.ireturn, 1) := by decide +kernel
theorem dX7_fails_0 : decode cX7_fails 0 = .ok (.aload_n 0, 1) := by decide +kernel
theorem dX7_fails_1 : decode cX7_fails 1 = .ok (.getfield 28, 3) := by decide +kernel
theorem dX7_fails_4 : decode cX7_fails 4 = .ok (.invokevirtual 130, 3) := by decide +kernel
theorem dX7_fails_7 : decode cX7_fails 7 = .ok (.istore_n 1, 1) := by decide +kernel
theorem dX7_fails_8 : decode cX7_fails 8 = .ok (.iload_n 1, 1) := by decide +kernel
theorem dX7_fails_9 : decode cX7_fails 9 = .ok (.ifCond .eq 7, 3) := by decide +kernel
theorem dX7_fails_12 : decode cX7_fails 12 = .ok (.iload_n 1, 1) := by decide +kernel
theorem dX7_fails_13 : decode cX7_fails 13 = .ok (.goto 14, 3) := by decide +kernel
theorem dX7_fails_16 : decode cX7_fails 16 = .ok (.aload_n 0, 1) := by decide +kernel
theorem dX7_fails_17 : decode cX7_fails 17 = .ok (.getfield 28, 3) := by decide +kernel
theorem dX7_fails_20 : decode cX7_fails 20 = .ok (.aload_n 0, 1) := by decide +kernel
theorem dX7_fails_21 : decode cX7_fails 21 = .ok (.getfield 21, 3) := by decide +kernel
theorem dX7_fails_24 : decode cX7_fails 24 = .ok (.invokevirtual 133, 3) := by decide +kernel
theorem dX7_fails_27 : decode cX7_fails 27 = .ok (.ireturn, 1) := by decide +kernel
theorem dX7_at_0 : decode cX7_at 0 = .ok (.aload_n 0, 1) := by decide +kernel
theorem dX7_at_1 : decode cX7_at 1 = .ok (.getfield 10, 3) := by decide +kernel
theorem dX7_at_4 : decode cX7_at 4 = .ok (.iload_n 1, 1) := by decide +kernel
theorem dX7_at_5 : decode cX7_at 5 = .ok (.invokevirtual 61, 3) := by decide +kernel
theorem dX7_at_8 : decode cX7_at 8 = .ok (.ifCond .eq 10, 3) := by decide +kernel
theorem dX7_at_11 : decode cX7_at 11 = .ok (.iload_n 2, 1) := by decide +kernel
theorem dX7_at_12 : decode cX7_at 12 = .ok (.invokestatic 97, 3) := by decide +kernel
theorem dX7_at_15 : decode cX7_at 15 = .ok (.ifCond .ne 7, 3) := by decide +kernel
theorem dX7_at_18 : decode cX7_at 18 = .ok (.ldc2_w 100, 3) := by decide +kernel
theorem dX7_at_21 : decode cX7_at 21 = .ok (.lreturn, 1) := by decide +kernel
theorem dX7_at_22 : decode cX7_at 22 = .ok (.aload_n 0, 1) := by decide +kernel
theorem dX7_at_23 : decode cX7_at 23 = .ok (.getfield 28, 3) := by decide +kernel
theorem dX7_at_26 : decode cX7_at 26 = .ok (.invokevirtual 130, 3) := by decide +kernel
theorem dX7_at_29 : decode cX7_at 29 = .ok (.ifCond .eq 7, 3) := by decide +kernel
theorem dX7_at_32 : decode cX7_at 32 = .ok (.ldc2_w 137, 3) := by decide +kernel
theorem dX7_at_35 : decode cX7_at 35 = .ok (.lreturn, 1) := by decide +kernel
theorem dX7_at_36 : decode cX7_at 36 = .ok (.aload_n 0, 1) := by decide +kernel
theorem dX7_at_37 : decode cX7_at 37 = .ok (.getfield 28, 3) := by decide +kernel
theorem dX7_at_40 : decode cX7_at 40 = .ok (.invokevirtual 139, 3) := by decide +kernel
theorem dX7_at_43 : decode cX7_at 43 = .ok (.aload_n 0, 1) := by decide +kernel
theorem dX7_at_44 : decode cX7_at 44 = .ok (.getfield 28, 3) := by decide +kernel
theorem dX7_at_47 : decode cX7_at 47 = .ok (.getfield 142, 3) := by decide +kernel
theorem dX7_at_50 : decode cX7_at 50 = .ok (.iload_n 1, 1) := by decide +kernel
theorem dX7_at_51 : decode cX7_at 51 = .ok (.aaload, 1) := by decide +kernel
theorem dX7_at_52 : decode cX7_at 52 = .ok (.iload_n 2, 1) := by decide +kernel
theorem dX7_at_53 : decode cX7_at 53 = .ok (.invokevirtual 106, 3) := by decide +kernel
theorem dX7_at_56 : decode cX7_at 56 = .ok (.lreturn, 1) := by decide +kernel
theorem dX7_hit_0 : decode cX7_hit 0 = .ok (.aload_n 0, 1) := by decide +kernel
theorem dX7_hit_1 : decode cX7_hit 1 = .ok (.getfield 10, 3) := by decide +kernel
theorem dX7_hit_4 : decode cX7_hit 4 = .ok (.iload_n 1, 1) := by decide +kernel
theorem dX7_hit_5 : decode cX7_hit 5 = .ok (.invokevirtual 61, 3) := by decide +kernel
theorem dX7_hit_8 : decode cX7_hit 8 = .ok (.ifCond .eq 25, 3) := by decide +kernel
theorem dX7_hit_11 : decode cX7_hit 11 = .ok (.iload_n 2, 1) := by decide +kernel
theorem dX7_hit_12 : decode cX7_hit 12 = .ok (.iconst 0, 1) := by decide +kernel
theorem dX7_hit_13 : decode cX7_hit 13 = .ok (.sipush 1000, 3) := by decide +kernel
theorem dX7_hit_16 : decode cX7_hit 16 = .ok (.invokestatic 53, 3) := by decide +kernel
theorem dX7_hit_19 : decode cX7_hit 19 = .ok (.ifCond .eq 14, 3) := by decide +kernel
theorem dX7_hit_22 : decode cX7_hit 22 = .ok (.aload_n 0, 1) := by decide +kernel
theorem dX7_hit_23 : decode cX7_hit 23 = .ok (.getfield 10, 3) := by decide +kernel
theorem dX7_hit_26 : decode cX7_hit 26 = .ok (.iload_n 3, 1) := by decide +kernel
theorem dX7_hit_27 : decode cX7_hit 27 = .ok (.invokevirtual 61, 3) := by decide +kernel
theorem dX7_hit_30 : decode cX7_hit 30 = .ok (.ifCond .ne 5, 3) := by decide +kernel
theorem dX7_hit_33 : decode cX7_hit 33 = .ok (.iconst (-1), 1) := by decide +kernel
theorem dX7_hit_34 : decode cX7_hit 34 = .ok (.ireturn, 1) := by decide +kernel
theorem dX7_hit_35 : decode cX7_hit 35 = .ok (.aload_n 0, 1) := by decide +kernel
theorem dX7_hit_36 : decode cX7_hit 36 = .ok (.getfield 28, 3) := by decide +kernel
theorem dX7_hit_39 : decode cX7_hit 39 = .ok (.iload_n 1, 1) := by decide +kernel
theorem dX7_hit_40 : decode cX7_hit 40 = .ok (.iload_n 2, 1) := by decide +kernel
theorem dX7_hit_41 : decode cX7_hit 41 = .ok (.invokevirtual 146, 3) := by decide +kernel
theorem dX7_hit_44 : decode cX7_hit 44 = .ok (.aload_n 0, 1) := by decide +kernel
theorem dX7_hit_45 : decode cX7_hit 45 = .ok (.getfield 28, 3) := by decide +kernel
theorem dX7_hit_48 : decode cX7_hit 48 = .ok (.getfield 150, 3) := by decide +kernel
theorem dX7_hit_51 : decode cX7_hit 51 = .ok (.iload_n 3, 1) := by decide +kernel
theorem dX7_hit_52 : decode cX7_hit 52 = .ok (.iaload, 1) := by decide +kernel
theorem dX7_hit_53 : decode cX7_hit 53 = .ok (.ireturn, 1) := by decide +kernel
theorem dX7_steady_0 : decode cX7_steady 0 = .ok (.iload_n 1, 1) := by decide +kernel
theorem dX7_steady_1 : decode cX7_steady 1 = .ok (.iconst 1, 1) := by decide +kernel
theorem dX7_steady_2 : decode cX7_steady 2 = .ok (.sipush 1000, 3) := by decide +kernel
theorem dX7_steady_5 : decode cX7_steady 5 = .ok (.invokestatic 53, 3) := by decide +kernel
theorem dX7_steady_8 : decode cX7_steady 8 = .ok (.ifCond .eq 13, 3) := by decide +kernel
theorem dX7_steady_11 : decode cX7_steady 11 = .ok (.iload_n 2, 1) := by decide +kernel
theorem dX7_steady_12 : decode cX7_steady 12 = .ok (.iconst 0, 1) := by decide +kernel
theorem dX7_steady_13 : decode cX7_steady 13 = .ok (.ldc 155, 2) := by decide +kernel
theorem dX7_steady_15 : decode cX7_steady 15 = .ok (.invokestatic 53, 3) := by decide +kernel
theorem dX7_steady_18 : decode cX7_steady 18 = .ok (.ifCond .ne 5, 3) := by decide +kernel
theorem dX7_steady_21 : decode cX7_steady 21 = .ok (.iconst (-1), 1) := by decide +kernel
theorem dX7_steady_22 : decode cX7_steady 22 = .ok (.ireturn, 1) := by decide +kernel
theorem dX7_steady_23 : decode cX7_steady 23 = .ok (.iload_n 3, 1) := by decide +kernel
theorem dX7_steady_24 : decode cX7_steady 24 = .ok (.iconst 0, 1) := by decide +kernel
theorem dX7_steady_25 : decode cX7_steady 25 = .ok (.sipush 1000, 3) := by decide +kernel
theorem dX7_steady_28 : decode cX7_steady 28 = .ok (.invokestatic 53, 3) := by decide +kernel
theorem dX7_steady_31 : decode cX7_steady 31 = .ok (.ifCond .eq 23, 3) := by decide +kernel
theorem dX7_steady_34 : decode cX7_steady 34 = .ok (.iload 4, 2) := by decide +kernel
theorem dX7_steady_36 : decode cX7_steady 36 = .ok (.iconst 0, 1) := by decide +kernel
theorem dX7_steady_37 : decode cX7_steady 37 = .ok (.iload_n 1, 1) := by decide +kernel
theorem dX7_steady_38 : decode cX7_steady 38 = .ok (.invokestatic 53, 3) := by decide +kernel
theorem dX7_steady_41 : decode cX7_steady 41 = .ok (.ifCond .eq 13, 3) := by decide +kernel
theorem dX7_steady_44 : decode cX7_steady 44 = .ok (.iload 5, 2) := by decide +kernel
theorem dX7_steady_46 : decode cX7_steady 46 = .ok (.iconst 0, 1) := by decide +kernel
theorem dX7_steady_47 : decode cX7_steady 47 = .ok (.iconst 1, 1) := by decide +kernel
theorem dX7_steady_48 : decode cX7_steady 48 = .ok (.invokestatic 53, 3) := by decide +kernel
theorem dX7_steady_51 : decode cX7_steady 51 = .ok (.ifCond .ne 5, 3) := by decide +kernel
theorem dX7_steady_54 : decode cX7_steady 54 = .ok (.iconst (-1), 1) := by decide +kernel
theorem dX7_steady_55 : decode cX7_steady 55 = .ok (.ireturn, 1) := by decide +kernel
theorem dX7_steady_56 : decode cX7_steady 56 = .ok (.iload_n 1, 1) := by decide +kernel
theorem dX7_steady_57 : decode cX7_steady 57 = .ok (.iload_n 2, 1) := by decide +kernel
theorem dX7_steady_58 : decode cX7_steady 58 = .ok (.iload_n 3, 1) := by decide +kernel
theorem dX7_steady_59 : decode cX7_steady 59 = .ok (.iload 4, 2) := by decide +kernel
theorem dX7_steady_61 : decode cX7_steady 61 = .ok (.iload 5, 2) := by decide +kernel
theorem dX7_steady_63 : decode cX7_steady 63 = .ok (.ifCond .ne 7, 3) := by decide +kernel
theorem dX7_steady_66 : decode cX7_steady 66 = .ok (.iconst 1, 1) := by decide +kernel
theorem dX7_steady_67 : decode cX7_steady 67 = .ok (.goto 4, 3) := by decide +kernel
theorem dX7_steady_70 : decode cX7_steady 70 = .ok (.iconst 0, 1) := by decide +kernel
theorem dX7_steady_71 : decode cX7_steady 71 = .ok (.invokestatic 156, 3) := by decide +kernel
theorem dX7_steady_74 : decode cX7_steady 74 = .ok (.ireturn, 1) := by decide +kernel
theorem dX7_store_0 : decode cX7_store 0 = .ok (.iload_n 1, 1) := by decide +kernel
theorem dX7_store_1 : decode cX7_store 1 = .ok (.iconst 0, 1) := by decide +kernel
theorem dX7_store_2 : decode cX7_store 2 = .ok (.bipush 23, 2) := by decide +kernel
theorem dX7_store_4 : decode cX7_store 4 = .ok (.invokestatic 53, 3) := by decide +kernel
theorem dX7_store_7 : decode cX7_store 7 = .ok (.ifCond .eq 23, 3) := by decide +kernel
theorem dX7_store_10 : decode cX7_store 10 = .ok (.iload_n 2, 1) := by decide +kernel
theorem dX7_store_11 : decode cX7_store 11 = .ok (.iconst 0, 1) := by decide +kernel
theorem dX7_store_12 : decode cX7_store 12 = .ok (.iconst 1, 1) := by decide +kernel
theorem dX7_store_13 : decode cX7_store 13 = .ok (.invokestatic 53, 3) := by decide +kernel
theorem dX7_store_16 : decode cX7_store 16 = .ok (.ifCond .eq 14, 3) := by decide +kernel
theorem dX7_store_19 : decode cX7_store 19 = .ok (.iload_n 3, 1) := by decide +kernel
theorem dX7_store_20 : decode cX7_store 20 = .ok (.iconst 0, 1) := by decide +kernel
theorem dX7_store_21 : decode cX7_store 21 = .ok (.sipush 500, 3) := by decide +kernel
theorem dX7_store_24 : decode cX7_store 24 = .ok (.invokestatic 53, 3) := by decide +kernel
theorem dX7_store_27 : decode cX7_store 27 = .ok (.ifCond .ne 5, 3) := by decide +kernel
theorem dX7_store_30 : decode cX7_store 30 = .ok (.iconst (-1), 1) := by decide +kernel
theorem dX7_store_31 : decode cX7_store 31 = .ok (.ireturn, 1) := by decide +kernel
theorem dX7_store_32 : decode cX7_store 32 = .ok (.iload_n 2, 1) := by decide +kernel
theorem dX7_store_33 : decode cX7_store 33 = .ok (.ifCond .ne 13, 3) := by decide +kernel
theorem dX7_store_36 : decode cX7_store 36 = .ok (.aload_n 0, 1) := by decide +kernel
theorem dX7_store_37 : decode cX7_store 37 = .ok (.getfield 35, 3) := by decide +kernel
theorem dX7_store_40 : decode cX7_store 40 = .ok (.getfield 160, 3) := by decide +kernel
theorem dX7_store_43 : decode cX7_store 43 = .ok (.goto 10, 3) := by decide +kernel
theorem dX7_store_46 : decode cX7_store 46 = .ok (.aload_n 0, 1) := by decide +kernel
theorem dX7_store_47 : decode cX7_store 47 = .ok (.getfield 35, 3) := by decide +kernel
theorem dX7_store_50 : decode cX7_store 50 = .ok (.getfield 163, 3) := by decide +kernel
theorem dX7_store_53 : decode cX7_store 53 = .ok (.iload_n 1, 1) := by decide +kernel
theorem dX7_store_54 : decode cX7_store 54 = .ok (.iload_n 3, 1) := by decide +kernel
theorem dX7_store_55 : decode cX7_store 55 = .ok (.invokestatic 69, 3) := by decide +kernel
theorem dX7_store_58 : decode cX7_store 58 = .ok (.ireturn, 1) := by decide +kernel
theorem dX7_room_0 : decode cX7_room 0 = .ok (.iload_n 1, 1) := by decide +kernel
theorem dX7_room_1 : decode cX7_room 1 = .ok (.iconst 0, 1) := by decide +kernel
theorem dX7_room_2 : decode cX7_room 2 = .ok (.iconst 1, 1) := by decide +kernel
theorem dX7_room_3 : decode cX7_room 3 = .ok (.invokestatic 53, 3) := by decide +kernel
theorem dX7_room_6 : decode cX7_room 6 = .ok (.ifCond .ne 5, 3) := by decide +kernel
theorem dX7_room_9 : decode cX7_room 9 = .ok (.iconst (-1), 1) := by decide +kernel
theorem dX7_room_10 : decode cX7_room 10 = .ok (.ireturn, 1) := by decide +kernel
theorem dX7_room_11 : decode cX7_room 11 = .ok (.aload_n 0, 1) := by decide +kernel
theorem dX7_room_12 : decode cX7_room 12 = .ok (.getfield 35, 3) := by decide +kernel
theorem dX7_room_15 : decode cX7_room 15 = .ok (.invokevirtual 166, 3) := by decide +kernel
theorem dX7_room_18 : decode cX7_room 18 = .ok (.istore_n 2, 1) := by decide +kernel
theorem dX7_room_19 : decode cX7_room 19 = .ok (.iload_n 1, 1) := by decide +kernel
theorem dX7_room_20 : decode cX7_room 20 = .ok (.ifCond .ne 7, 3) := by decide +kernel
theorem dX7_room_23 : decode cX7_room 23 = .ok (.iload_n 2, 1) := by decide +kernel
theorem dX7_room_24 : decode cX7_room 24 = .ok (.goto 11, 3) := by decide +kernel
theorem dX7_room_27 : decode cX7_room 27 = .ok (.aload_n 0, 1) := by decide +kernel
theorem dX7_room_28 : decode cX7_room 28 = .ok (.getfield 35, 3) := by decide +kernel
theorem dX7_room_31 : decode cX7_room 31 = .ok (.iload_n 2, 1) := by decide +kernel
theorem dX7_room_32 : decode cX7_room 32 = .ok (.invokevirtual 169, 3) := by decide +kernel
theorem dX7_room_35 : decode cX7_room 35 = .ok (.ireturn, 1) := by decide +kernel
theorem dX7_meter_0 : decode cX7_meter 0 = .ok (.iload_n 1, 1) := by decide +kernel
theorem dX7_meter_1 : decode cX7_meter 1 = .ok (.iconst 1, 1) := by decide +kernel
theorem dX7_meter_2 : decode cX7_meter 2 = .ok (.if_icmp .eq 10, 3) := by decide +kernel
theorem dX7_meter_5 : decode cX7_meter 5 = .ok (.iload_n 1, 1) := by decide +kernel
theorem dX7_meter_6 : decode cX7_meter 6 = .ok (.iconst (-1), 1) := by decide +kernel
theorem dX7_meter_7 : decode cX7_meter 7 = .ok (.if_icmp .eq 5, 3) := by decide +kernel
theorem dX7_meter_10 : decode cX7_meter 10 = .ok (.iconst (-1), 1) := by decide +kernel
theorem dX7_meter_11 : decode cX7_meter 11 = .ok (.ireturn, 1) := by decide +kernel
theorem dX7_meter_12 : decode cX7_meter 12 = .ok (.aload_n 0, 1) := by decide +kernel
theorem dX7_meter_13 : decode cX7_meter 13 = .ok (.getfield 42, 3) := by decide +kernel
theorem dX7_meter_16 : decode cX7_meter 16 = .ok (.iload_n 1, 1) := by decide +kernel
theorem dX7_meter_17 : decode cX7_meter 17 = .ok (.invokevirtual 172, 3) := by decide +kernel
theorem dX7_meter_20 : decode cX7_meter 20 = .ok (.ireturn, 1) := by decide +kernel
theorem dX7_read_0 : decode cX7_read 0 = .ok (.aload_n 0, 1) := by decide +kernel
theorem dX7_read_1 : decode cX7_read 1 = .ok (.getfield 42, 3) := by decide +kernel
theorem dX7_read_4 : decode cX7_read 4 = .ok (.iload_n 1, 1) := by decide +kernel
theorem dX7_read_5 : decode cX7_read 5 = .ok (.invokevirtual 174, 3) := by decide +kernel
theorem dX7_read_8 : decode cX7_read 8 = .ok (.ifCond .eq 19, 3) := by decide +kernel
theorem dX7_read_11 : decode cX7_read 11 = .ok (.iload_n 2, 1) := by decide +kernel
theorem dX7_read_12 : decode cX7_read 12 = .ok (.bipush (-9), 2) := by decide +kernel
theorem dX7_read_14 : decode cX7_read 14 = .ok (.if_icmp .eq 15, 3) := by decide +kernel
theorem dX7_read_17 : decode cX7_read 17 = .ok (.iload_n 2, 1) := by decide +kernel
theorem dX7_read_18 : decode cX7_read 18 = .ok (.iconst 0, 1) := by decide +kernel
theorem dX7_read_19 : decode cX7_read 19 = .ok (.ldc 175, 2) := by decide +kernel
theorem dX7_read_21 : decode cX7_read 21 = .ok (.invokestatic 53, 3) := by decide +kernel
theorem dX7_read_24 : decode cX7_read 24 = .ok (.ifCond .ne 5, 3) := by decide +kernel
theorem dX7_read_27 : decode cX7_read 27 = .ok (.iconst (-1), 1) := by decide +kernel
theorem dX7_read_28 : decode cX7_read 28 = .ok (.ireturn, 1) := by decide +kernel
theorem dX7_read_29 : decode cX7_read 29 = .ok (.aload_n 0, 1) := by decide +kernel
theorem dX7_read_30 : decode cX7_read 30 = .ok (.getfield 42, 3) := by decide +kernel
theorem dX7_read_33 : decode cX7_read 33 = .ok (.getfield 176, 3) := by decide +kernel
theorem dX7_read_36 : decode cX7_read 36 = .ok (.iload_n 1, 1) := by decide +kernel
theorem dX7_read_37 : decode cX7_read 37 = .ok (.iload_n 2, 1) := by decide +kernel
theorem dX7_read_38 : decode cX7_read 38 = .ok (.invokestatic 69, 3) := by decide +kernel
theorem dX7_read_41 : decode cX7_read 41 = .ok (.ireturn, 1) := by decide +kernel
theorem dX7_gap_0 : decode cX7_gap 0 = .ok (.iload_n 1, 1) := by decide +kernel
theorem dX7_gap_1 : decode cX7_gap 1 = .ok (.tableswitch 65 0 3 #[31, 39, 48, 57], 31) := by decide +kernel
theorem dX7_gap_32 : decode cX7_gap 32 = .ok (.aload_n 0, 1) := by decide +kernel
theorem dX7_gap_33 : decode cX7_gap 33 = .ok (.getfield 42, 3) := by decide +kernel
theorem dX7_gap_36 : decode cX7_gap 36 = .ok (.invokevirtual 179, 3) := by decide +kernel
theorem dX7_gap_39 : decode cX7_gap 39 = .ok (.lreturn, 1) := by decide +kernel
theorem dX7_gap_40 : decode cX7_gap 40 = .ok (.aload_n 0, 1) := by decide +kernel
theorem dX7_gap_41 : decode cX7_gap 41 = .ok (.getfield 42, 3) := by decide +kernel
theorem dX7_gap_44 : decode cX7_gap 44 = .ok (.invokevirtual 183, 3) := by decide +kernel
theorem dX7_gap_47 : decode cX7_gap 47 = .ok (.i2l, 1) := by decide +kernel
theorem dX7_gap_48 : decode cX7_gap 48 = .ok (.lreturn, 1) := by decide +kernel
theorem dX7_gap_49 : decode cX7_gap 49 = .ok (.aload_n 0, 1) := by decide +kernel
theorem dX7_gap_50 : decode cX7_gap 50 = .ok (.getfield 42, 3) := by decide +kernel
theorem dX7_gap_53 : decode cX7_gap 53 = .ok (.invokevirtual 186, 3) := by decide +kernel
theorem dX7_gap_56 : decode cX7_gap 56 = .ok (.i2l, 1) := by decide +kernel
theorem dX7_gap_57 : decode cX7_gap 57 = .ok (.lreturn, 1) := by decide +kernel
theorem dX7_gap_58 : decode cX7_gap 58 = .ok (.aload_n 0, 1) := by decide +kernel
theorem dX7_gap_59 : decode cX7_gap 59 = .ok (.getfield 42, 3) := by decide +kernel
theorem dX7_gap_62 : decode cX7_gap 62 = .ok (.invokevirtual 189, 3) := by decide +kernel
theorem dX7_gap_65 : decode cX7_gap 65 = .ok (.lreturn, 1) := by decide +kernel
theorem dX7_gap_66 : decode cX7_gap 66 = .ok (.ldc2_w 192, 3) := by decide +kernel
theorem dX7_gap_69 : decode cX7_gap 69 = .ok (.lreturn, 1) := by decide +kernel
theorem dX7_mended_0 : decode cX7_mended 0 = .ok (.aload_n 0, 1) := by decide +kernel
theorem dX7_mended_1 : decode cX7_mended 1 = .ok (.getfield 42, 3) := by decide +kernel
theorem dX7_mended_4 : decode cX7_mended 4 = .ok (.iload_n 1, 1) := by decide +kernel
theorem dX7_mended_5 : decode cX7_mended 5 = .ok (.invokevirtual 174, 3) := by decide +kernel
theorem dX7_mended_8 : decode cX7_mended 8 = .ok (.ifCond .eq 10, 3) := by decide +kernel
theorem dX7_mended_11 : decode cX7_mended 11 = .ok (.iload_n 2, 1) := by decide +kernel
theorem dX7_mended_12 : decode cX7_mended 12 = .ok (.invokestatic 97, 3) := by decide +kernel
theorem dX7_mended_15 : decode cX7_mended 15 = .ok (.ifCond .ne 7, 3) := by decide +kernel
theorem dX7_mended_18 : decode cX7_mended 18 = .ok (.ldc2_w 192, 3) := by decide +kernel
theorem dX7_mended_21 : decode cX7_mended 21 = .ok (.lreturn, 1) := by decide +kernel
theorem dX7_mended_22 : decode cX7_mended 22 = .ok (.aload_n 0, 1) := by decide +kernel
theorem dX7_mended_23 : decode cX7_mended 23 = .ok (.getfield 42, 3) := by decide +kernel
theorem dX7_mended_26 : decode cX7_mended 26 = .ok (.invokevirtual 183, 3) := by decide +kernel
theorem dX7_mended_29 : decode cX7_mended 29 = .ok (.ifCond .le 7, 3) := by decide +kernel
theorem dX7_mended_32 : decode cX7_mended 32 = .ok (.ldc2_w 194, 3) := by decide +kernel
theorem dX7_mended_35 : decode cX7_mended 35 = .ok (.lreturn, 1) := by decide +kernel
theorem dX7_mended_36 : decode cX7_mended 36 = .ok (.aload_n 0, 1) := by decide +kernel
theorem dX7_mended_37 : decode cX7_mended 37 = .ok (.getfield 42, 3) := by decide +kernel
theorem dX7_mended_40 : decode cX7_mended 40 = .ok (.iload_n 1, 1) := by decide +kernel
theorem dX7_mended_41 : decode cX7_mended 41 = .ok (.aload_n 0, 1) := by decide +kernel
theorem dX7_mended_42 : decode cX7_mended 42 = .ok (.getfield 49, 3) := by decide +kernel
theorem dX7_mended_45 : decode cX7_mended 45 = .ok (.invokevirtual 196, 3) := by decide +kernel
theorem dX7_mended_48 : decode cX7_mended 48 = .ok (.aload_n 0, 1) := by decide +kernel
theorem dX7_mended_49 : decode cX7_mended 49 = .ok (.getfield 49, 3) := by decide +kernel
theorem dX7_mended_52 : decode cX7_mended 52 = .ok (.iload_n 2, 1) := by decide +kernel
theorem dX7_mended_53 : decode cX7_mended 53 = .ok (.invokevirtual 106, 3) := by decide +kernel
theorem dX7_mended_56 : decode cX7_mended 56 = .ok (.lreturn, 1) := by decide +kernel
theorem dX7_count_0 : decode cX7_count 0 = .ok (.iload_n 1, 1) := by decide +kernel
theorem dX7_count_1 : decode cX7_count 1 = .ok (.tableswitch 105 0 6 #[43, 51, 59, 67, 75, 85, 95], 43) := by decide +kernel
theorem dX7_count_44 : decode cX7_count 44 = .ok (.aload_n 0, 1) := by decide +kernel
theorem dX7_count_45 : decode cX7_count 45 = .ok (.getfield 10, 3) := by decide +kernel
theorem dX7_count_48 : decode cX7_count 48 = .ok (.getfield 199, 3) := by decide +kernel
theorem dX7_count_51 : decode cX7_count 51 = .ok (.ireturn, 1) := by decide +kernel
theorem dX7_count_52 : decode cX7_count 52 = .ok (.aload_n 0, 1) := by decide +kernel
theorem dX7_count_53 : decode cX7_count 53 = .ok (.getfield 28, 3) := by decide +kernel
theorem dX7_count_56 : decode cX7_count 56 = .ok (.invokevirtual 203, 3) := by decide +kernel
theorem dX7_count_59 : decode cX7_count 59 = .ok (.ireturn, 1) := by decide +kernel
theorem dX7_count_60 : decode cX7_count 60 = .ok (.aload_n 0, 1) := by decide +kernel
theorem dX7_count_61 : decode cX7_count 61 = .ok (.getfield 28, 3) := by decide +kernel
theorem dX7_count_64 : decode cX7_count 64 = .ok (.invokevirtual 206, 3) := by decide +kernel
theorem dX7_count_67 : decode cX7_count 67 = .ok (.ireturn, 1) := by decide +kernel
theorem dX7_count_68 : decode cX7_count 68 = .ok (.aload_n 0, 1) := by decide +kernel
theorem dX7_count_69 : decode cX7_count 69 = .ok (.getfield 42, 3) := by decide +kernel
theorem dX7_count_72 : decode cX7_count 72 = .ok (.getfield 209, 3) := by decide +kernel
theorem dX7_count_75 : decode cX7_count 75 = .ok (.ireturn, 1) := by decide +kernel
theorem dX7_count_76 : decode cX7_count 76 = .ok (.aload_n 0, 1) := by decide +kernel
theorem dX7_count_77 : decode cX7_count 77 = .ok (.getfield 21, 3) := by decide +kernel
theorem dX7_count_80 : decode cX7_count 80 = .ok (.getfield 82, 3) := by decide +kernel
theorem dX7_count_83 : decode cX7_count 83 = .ok (.iconst 0, 1) := by decide +kernel
theorem dX7_count_84 : decode cX7_count 84 = .ok (.iaload, 1) := by decide +kernel
theorem dX7_count_85 : decode cX7_count 85 = .ok (.ireturn, 1) := by decide +kernel
theorem dX7_count_86 : decode cX7_count 86 = .ok (.aload_n 0, 1) := by decide +kernel
theorem dX7_count_87 : decode cX7_count 87 = .ok (.getfield 21, 3) := by decide +kernel
theorem dX7_count_90 : decode cX7_count 90 = .ok (.getfield 82, 3) := by decide +kernel
theorem dX7_count_93 : decode cX7_count 93 = .ok (.iconst 1, 1) := by decide +kernel
theorem dX7_count_94 : decode cX7_count 94 = .ok (.iaload, 1) := by decide +kernel
theorem dX7_count_95 : decode cX7_count 95 = .ok (.ireturn, 1) := by decide +kernel
theorem dX7_count_96 : decode cX7_count 96 = .ok (.aload_n 0, 1) := by decide +kernel
theorem dX7_count_97 : decode cX7_count 97 = .ok (.getfield 21, 3) := by decide +kernel
theorem dX7_count_100 : decode cX7_count 100 = .ok (.getfield 82, 3) := by decide +kernel
theorem dX7_count_103 : decode cX7_count 103 = .ok (.iconst 2, 1) := by decide +kernel
theorem dX7_count_104 : decode cX7_count 104 = .ok (.iaload, 1) := by decide +kernel
theorem dX7_count_105 : decode cX7_count 105 = .ok (.ireturn, 1) := by decide +kernel
theorem dX7_count_106 : decode cX7_count 106 = .ok (.iconst (-1), 1) := by decide +kernel
theorem dX7_count_107 : decode cX7_count 107 = .ok (.ireturn, 1) := by decide +kernel
theorem dX7_trace_0 : decode cX7_trace 0 = .ok (.aload_n 0, 1) := by decide +kernel
theorem dX7_trace_1 : decode cX7_trace 1 = .ok (.getfield 85, 3) := by decide +kernel
theorem dX7_trace_4 : decode cX7_trace 4 = .ok (.lreturn, 1) := by decide +kernel
theorem dX7_within_0 : decode cX7_within 0 = .ok (.iload_n 0, 1) := by decide +kernel
theorem dX7_within_1 : decode cX7_within 1 = .ok (.iload_n 1, 1) := by decide +kernel
theorem dX7_within_2 : decode cX7_within 2 = .ok (.if_icmp .lt 12, 3) := by decide +kernel
theorem dX7_within_5 : decode cX7_within 5 = .ok (.iload_n 0, 1) := by decide +kernel
theorem dX7_within_6 : decode cX7_within 6 = .ok (.iload_n 2, 1) := by decide +kernel
theorem dX7_within_7 : decode cX7_within 7 = .ok (.if_icmp .gt 7, 3) := by decide +kernel
theorem dX7_within_10 : decode cX7_within 10 = .ok (.iconst 1, 1) := by decide +kernel
theorem dX7_within_11 : decode cX7_within 11 = .ok (.goto 4, 3) := by decide +kernel
theorem dX7_within_14 : decode cX7_within 14 = .ok (.iconst 0, 1) := by decide +kernel
theorem dX7_within_15 : decode cX7_within 15 = .ok (.ireturn, 1) := by decide +kernel
theorem dX7_isPart_0 : decode cX7_isPart 0 = .ok (.iload_n 0, 1) := by decide +kernel
theorem dX7_isPart_1 : decode cX7_isPart 1 = .ok (.iconst 0, 1) := by decide +kernel
theorem dX7_isPart_2 : decode cX7_isPart 2 = .ok (.iconst 1, 1) := by decide +kernel
theorem dX7_isPart_3 : decode cX7_isPart 3 = .ok (.invokestatic 53, 3) := by decide +kernel
theorem dX7_isPart_6 : decode cX7_isPart 6 = .ok (.ireturn, 1) := by decide +kernel
theorem dX7_replace_0 : decode cX7_replace 0 = .ok (.iload_n 1, 1) := by decide +kernel
theorem dX7_replace_1 : decode cX7_replace 1 = .ok (.ifCond .lt 9, 3) := by decide +kernel
theorem dX7_replace_4 : decode cX7_replace 4 = .ok (.iload_n 1, 1) := by decide +kernel
theorem dX7_replace_5 : decode cX7_replace 5 = .ok (.aload_n 0, 1) := by decide +kernel
theorem dX7_replace_6 : decode cX7_replace 6 = .ok (.arraylength, 1) := by decide +kernel
theorem dX7_replace_7 : decode cX7_replace 7 = .ok (.if_icmp .lt 5, 3) := by decide +kernel
theorem dX7_replace_10 : decode cX7_replace 10 = .ok (.iconst (-1), 1) := by decide +kernel
theorem dX7_replace_11 : decode cX7_replace 11 = .ok (.ireturn, 1) := by decide +kernel
theorem dX7_replace_12 : decode cX7_replace 12 = .ok (.aload_n 0, 1) := by decide +kernel
theorem dX7_replace_13 : decode cX7_replace 13 = .ok (.iload_n 1, 1) := by decide +kernel
theorem dX7_replace_14 : decode cX7_replace 14 = .ok (.iaload, 1) := by decide +kernel
theorem dX7_replace_15 : decode cX7_replace 15 = .ok (.istore_n 3, 1) := by decide +kernel
theorem dX7_replace_16 : decode cX7_replace 16 = .ok (.aload_n 0, 1) := by decide +kernel
theorem dX7_replace_17 : decode cX7_replace 17 = .ok (.iload_n 1, 1) := by decide +kernel
theorem dX7_replace_18 : decode cX7_replace 18 = .ok (.iload_n 2, 1) := by decide +kernel
theorem dX7_replace_19 : decode cX7_replace 19 = .ok (.iastore, 1) := by decide +kernel
theorem dX7_replace_20 : decode cX7_replace 20 = .ok (.iload_n 3, 1) := by decide +kernel
theorem dX7_replace_21 : decode cX7_replace 21 = .ok (.ireturn, 1) := by decide +kernel
theorem dJ13_compare_74951_0 : decode cJ13_compare_74951 0 = .ok (.lload_n 0, 1) := by decide +kernel
theorem dJ13_compare_74951_1 : decode cJ13_compare_74951 1 = .ok (.lload_n 2, 1) := by decide +kernel
theorem dJ13_compare_74951_2 : decode cJ13_compare_74951 2 = .ok (.lcmp, 1) := by decide +kernel
theorem dJ13_compare_74951_3 : decode cJ13_compare_74951 3 = .ok (.ifCond .ge 7, 3) := by decide +kernel
theorem dJ13_compare_74951_6 : decode cJ13_compare_74951 6 = .ok (.iconst (-1), 1) := by decide +kernel
theorem dJ13_compare_74951_7 : decode cJ13_compare_74951 7 = .ok (.goto 14, 3) := by decide +kernel
theorem dJ13_compare_74951_10 : decode cJ13_compare_74951 10 = .ok (.lload_n 0, 1) := by decide +kernel
theorem dJ13_compare_74951_11 : decode cJ13_compare_74951 11 = .ok (.lload_n 2, 1) := by decide +kernel
theorem dJ13_compare_74951_12 : decode cJ13_compare_74951 12 = .ok (.lcmp, 1) := by decide +kernel
theorem dJ13_compare_74951_13 : decode cJ13_compare_74951 13 = .ok (.ifCond .ne 7, 3) := by decide +kernel
theorem dJ13_compare_74951_16 : decode cJ13_compare_74951 16 = .ok (.iconst 0, 1) := by decide +kernel
theorem dJ13_compare_74951_17 : decode cJ13_compare_74951 17 = .ok (.goto 4, 3) := by decide +kernel
theorem dJ13_compare_74951_20 : decode cJ13_compare_74951 20 = .ok (.iconst 1, 1) := by decide +kernel
theorem dJ13_compare_74951_21 : decode cJ13_compare_74951 21 = .ok (.ireturn, 1) := by decide +kernel
theorem dJ9_abs_067f4_0 : decode cJ9_abs_067f4 0 = .ok (.lload_n 0, 1) := by decide +kernel
theorem dJ9_abs_067f4_1 : decode cJ9_abs_067f4 1 = .ok (.lconst 0, 1) := by decide +kernel
theorem dJ9_abs_067f4_2 : decode cJ9_abs_067f4 2 = .ok (.lcmp, 1) := by decide +kernel
theorem dJ9_abs_067f4_3 : decode cJ9_abs_067f4 3 = .ok (.ifCond .ge 8, 3) := by decide +kernel
theorem dJ9_abs_067f4_6 : decode cJ9_abs_067f4 6 = .ok (.lload_n 0, 1) := by decide +kernel
theorem dJ9_abs_067f4_7 : decode cJ9_abs_067f4 7 = .ok (.lneg, 1) := by decide +kernel
theorem dJ9_abs_067f4_8 : decode cJ9_abs_067f4 8 = .ok (.goto 4, 3) := by decide +kernel
theorem dJ9_abs_067f4_11 : decode cJ9_abs_067f4 11 = .ok (.lload_n 0, 1) := by decide +kernel
theorem dJ9_abs_067f4_12 : decode cJ9_abs_067f4 12 = .ok (.lreturn, 1) := by decide +kernel
theorem dJ9_max_7cf53_0 : decode cJ9_max_7cf53 0 = .ok (.iload_n 0, 1) := by decide +kernel
theorem dJ9_max_7cf53_1 : decode cJ9_max_7cf53 1 = .ok (.iload_n 1, 1) := by decide +kernel
theorem dJ9_max_7cf53_2 : decode cJ9_max_7cf53 2 = .ok (.if_icmp .lt 7, 3) := by decide +kernel
theorem dJ9_max_7cf53_5 : decode cJ9_max_7cf53 5 = .ok (.iload_n 0, 1) := by decide +kernel
theorem dJ9_max_7cf53_6 : decode cJ9_max_7cf53 6 = .ok (.goto 4, 3) := by decide +kernel
theorem dJ9_max_7cf53_9 : decode cJ9_max_7cf53 9 = .ok (.iload_n 1, 1) := by decide +kernel
theorem dJ9_max_7cf53_10 : decode cJ9_max_7cf53 10 = .ok (.ireturn, 1) := by decide +kernel
theorem dJ9_min_7cf53_0 : decode cJ9_min_7cf53 0 = .ok (.iload_n 0, 1) := by decide +kernel
theorem dJ9_min_7cf53_1 : decode cJ9_min_7cf53 1 = .ok (.iload_n 1, 1) := by decide +kernel
theorem dJ9_min_7cf53_2 : decode cJ9_min_7cf53 2 = .ok (.if_icmp .gt 7, 3) := by decide +kernel
theorem dJ9_min_7cf53_5 : decode cJ9_min_7cf53 5 = .ok (.iload_n 0, 1) := by decide +kernel
theorem dJ9_min_7cf53_6 : decode cJ9_min_7cf53 6 = .ok (.goto 4, 3) := by decide +kernel
theorem dJ9_min_7cf53_9 : decode cJ9_min_7cf53 9 = .ok (.iload_n 1, 1) := by decide +kernel
theorem dJ9_min_7cf53_10 : decode cJ9_min_7cf53 10 = .ok (.ireturn, 1) := by decide +kernel
