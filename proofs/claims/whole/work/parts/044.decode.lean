theorem dX11_needArgument_1 : decode cX11_needArgument 1 = .ok (.ifCond .ne 14, 3) := by decide +kernel
theorem dX11_needArgument_4 : decode cX11_needArgument 4 = .ok (.new 385, 3) := by decide +kernel
theorem dX11_needArgument_7 : decode cX11_needArgument 7 = .ok (.dup, 1) := by decide +kernel
theorem dX11_needArgument_8 : decode cX11_needArgument 8 = .ok (.ldc_w 387, 3) := by decide +kernel
theorem dX11_needArgument_11 : decode cX11_needArgument 11 = .ok (.invokespecial 389, 3) := by decide +kernel
theorem dX11_needArgument_14 : decode cX11_needArgument 14 = .ok (.athrow, 1) := by decide +kernel
theorem dX11_needArgument_15 : decode cX11_needArgument 15 = .ok (.return_, 1) := by decide +kernel
theorem dX11_needIndex_0 : decode cX11_needIndex 0 = .ok (.iload_n 0, 1) := by decide +kernel
theorem dX11_needIndex_1 : decode cX11_needIndex 1 = .ok (.ifCond .ne 14, 3) := by decide +kernel
theorem dX11_needIndex_4 : decode cX11_needIndex 4 = .ok (.new 392, 3) := by decide +kernel
theorem dX11_needIndex_7 : decode cX11_needIndex 7 = .ok (.dup, 1) := by decide +kernel
theorem dX11_needIndex_8 : decode cX11_needIndex 8 = .ok (.ldc_w 394, 3) := by decide +kernel
theorem dX11_needIndex_11 : decode cX11_needIndex 11 = .ok (.invokespecial 396, 3) := by decide +kernel
theorem dX11_needIndex_14 : decode cX11_needIndex 14 = .ok (.athrow, 1) := by decide +kernel
theorem dX11_needIndex_15 : decode cX11_needIndex 15 = .ok (.return_, 1) := by decide +kernel
theorem dX11_needElement_0 : decode cX11_needElement 0 = .ok (.iload_n 0, 1) := by decide +kernel
theorem dX11_needElement_1 : decode cX11_needElement 1 = .ok (.ifCond .ne 14, 3) := by decide +kernel
theorem dX11_needElement_4 : decode cX11_needElement 4 = .ok (.new 397, 3) := by decide +kernel
theorem dX11_needElement_7 : decode cX11_needElement 7 = .ok (.dup, 1) := by decide +kernel
theorem dX11_needElement_8 : decode cX11_needElement 8 = .ok (.ldc_w 399, 3) := by decide +kernel
theorem dX11_needElement_11 : decode cX11_needElement 11 = .ok (.invokespecial 401, 3) := by decide +kernel
theorem dX11_needElement_14 : decode cX11_needElement 14 = .ok (.athrow, 1) := by decide +kernel
theorem dX11_needElement_15 : decode cX11_needElement 15 = .ok (.return_, 1) := by decide +kernel
theorem dX11_needState_0 : decode cX11_needState 0 = .ok (.iload_n 0, 1) := by decide +kernel
theorem dX11_needState_1 : decode cX11_needState 1 = .ok (.ifCond .ne 14, 3) := by decide +kernel
theorem dX11_needState_4 : decode cX11_needState 4 = .ok (.new 402, 3) := by decide +kernel
theorem dX11_needState_7 : decode cX11_needState 7 = .ok (.dup, 1) := by decide +kernel
theorem dX11_needState_8 : decode cX11_needState 8 = .ok (.ldc_w 404, 3) := by decide +kernel
theorem dX11_needState_11 : decode cX11_needState 11 = .ok (.invokespecial 406, 3) := by decide +kernel
theorem dX11_needState_14 : decode cX11_needState 14 = .ok (.athrow, 1) := by decide +kernel
theorem dX11_needState_15 : decode cX11_needState 15 = .ok (.return_, 1) := by decide +kernel
theorem dX11_within_0 : decode cX11_within 0 = .ok (.iload_n 0, 1) := by decide +kernel
theorem dX11_within_1 : decode cX11_within 1 = .ok (.iload_n 1, 1) := by decide +kernel
theorem dX11_within_2 : decode cX11_within 2 = .ok (.if_icmp .lt 12, 3) := by decide +kernel
theorem dX11_within_5 : decode cX11_within 5 = .ok (.iload_n 0, 1) := by decide +kernel
theorem dX11_within_6 : decode cX11_within 6 = .ok (.iload_n 2, 1) := by decide +kernel
theorem dX11_within_7 : decode cX11_within 7 = .ok (.if_icmp .gt 7, 3) := by decide +kernel
theorem dX11_within_10 : decode cX11_within 10 = .ok (.iconst 1, 1) := by decide +kernel
theorem dX11_within_11 : decode cX11_within 11 = .ok (.goto 4, 3) := by decide +kernel
theorem dX11_within_14 : decode cX11_within 14 = .ok (.iconst 0, 1) := by decide +kernel
theorem dX11_within_15 : decode cX11_within 15 = .ok (.ireturn, 1) := by decide +kernel
theorem dX11_isSpot_0 : decode cX11_isSpot 0 = .ok (.iload_n 0, 1) := by decide +kernel
theorem dX11_isSpot_1 : decode cX11_isSpot 1 = .ok (.bipush (-20), 2) := by decide +kernel
theorem dX11_isSpot_3 : decode cX11_isSpot 3 = .ok (.bipush 20, 2) := by decide +kernel
theorem dX11_isSpot_5 : decode cX11_isSpot 5 = .ok (.invokestatic 65, 3) := by decide +kernel
theorem dX11_isSpot_8 : decode cX11_isSpot 8 = .ok (.ifCond .eq 18, 3) := by decide +kernel
theorem dX11_isSpot_11 : decode cX11_isSpot 11 = .ok (.iload_n 1, 1) := by decide +kernel
theorem dX11_isSpot_12 : decode cX11_isSpot 12 = .ok (.bipush (-20), 2) := by decide +kernel
theorem dX11_isSpot_14 : decode cX11_isSpot 14 = .ok (.bipush 20, 2) := by decide +kernel
theorem dX11_isSpot_16 : decode cX11_isSpot 16 = .ok (.invokestatic 65, 3) := by decide +kernel
theorem dX11_isSpot_19 : decode cX11_isSpot 19 = .ok (.ifCond .eq 7, 3) := by decide +kernel
theorem dX11_isSpot_22 : decode cX11_isSpot 22 = .ok (.iconst 1, 1) := by decide +kernel
theorem dX11_isSpot_23 : decode cX11_isSpot 23 = .ok (.goto 4, 3) := by decide +kernel
theorem dX11_isSpot_26 : decode cX11_isSpot 26 = .ok (.iconst 0, 1) := by decide +kernel
theorem dX11_isSpot_27 : decode cX11_isSpot 27 = .ok (.ireturn, 1) := by decide +kernel
theorem dX11_isSlant_0 : decode cX11_isSlant 0 = .ok (.iload_n 0, 1) := by decide +kernel
theorem dX11_isSlant_1 : decode cX11_isSlant 1 = .ok (.bipush (-8), 2) := by decide +kernel
theorem dX11_isSlant_3 : decode cX11_isSlant 3 = .ok (.bipush 8, 2) := by decide +kernel
theorem dX11_isSlant_5 : decode cX11_isSlant 5 = .ok (.invokestatic 65, 3) := by decide +kernel
theorem dX11_isSlant_8 : decode cX11_isSlant 8 = .ok (.ireturn, 1) := by decide +kernel
theorem dX11_isCoat_0 : decode cX11_isCoat 0 = .ok (.iload_n 0, 1) := by decide +kernel
theorem dX11_isCoat_1 : decode cX11_isCoat 1 = .ok (.iconst 0, 1) := by decide +kernel
theorem dX11_isCoat_2 : decode cX11_isCoat 2 = .ok (.bipush 100, 2) := by decide +kernel
theorem dX11_isCoat_4 : decode cX11_isCoat 4 = .ok (.invokestatic 65, 3) := by decide +kernel
theorem dX11_isCoat_7 : decode cX11_isCoat 7 = .ok (.ifCond .eq 25, 3) := by decide +kernel
theorem dX11_isCoat_10 : decode cX11_isCoat 10 = .ok (.iload_n 1, 1) := by decide +kernel
theorem dX11_isCoat_11 : decode cX11_isCoat 11 = .ok (.iconst 0, 1) := by decide +kernel
theorem dX11_isCoat_12 : decode cX11_isCoat 12 = .ok (.bipush 100, 2) := by decide +kernel
theorem dX11_isCoat_14 : decode cX11_isCoat 14 = .ok (.invokestatic 65, 3) := by decide +kernel
theorem dX11_isCoat_17 : decode cX11_isCoat 17 = .ok (.ifCond .eq 15, 3) := by decide +kernel
theorem dX11_isCoat_20 : decode cX11_isCoat 20 = .ok (.iload_n 0, 1) := by decide +kernel
theorem dX11_isCoat_21 : decode cX11_isCoat 21 = .ok (.iload_n 1, 1) := by decide +kernel
theorem dX11_isCoat_22 : decode cX11_isCoat 22 = .ok (.iadd, 1) := by decide +kernel
theorem dX11_isCoat_23 : decode cX11_isCoat 23 = .ok (.bipush 100, 2) := by decide +kernel
theorem dX11_isCoat_25 : decode cX11_isCoat 25 = .ok (.if_icmp .gt 7, 3) := by decide +kernel
theorem dX11_isCoat_28 : decode cX11_isCoat 28 = .ok (.iconst 1, 1) := by decide +kernel
theorem dX11_isCoat_29 : decode cX11_isCoat 29 = .ok (.goto 4, 3) := by decide +kernel
theorem dX11_isCoat_32 : decode cX11_isCoat 32 = .ok (.iconst 0, 1) := by decide +kernel
theorem dX11_isCoat_33 : decode cX11_isCoat 33 = .ok (.ireturn, 1) := by decide +kernel
theorem dX11_isFitLength_0 : decode cX11_isFitLength 0 = .ok (.iload_n 1, 1) := by decide +kernel
theorem dX11_isFitLength_1 : decode cX11_isFitLength 1 = .ok (.iconst 1, 1) := by decide +kernel
theorem dX11_isFitLength_2 : decode cX11_isFitLength 2 = .ok (.iconst 4, 1) := by decide +kernel
theorem dX11_isFitLength_3 : decode cX11_isFitLength 3 = .ok (.invokestatic 65, 3) := by decide +kernel
theorem dX11_isFitLength_6 : decode cX11_isFitLength 6 = .ok (.ifCond .eq 18, 3) := by decide +kernel
theorem dX11_isFitLength_9 : decode cX11_isFitLength 9 = .ok (.iload_n 1, 1) := by decide +kernel
theorem dX11_isFitLength_10 : decode cX11_isFitLength 10 = .ok (.aload_n 0, 1) := by decide +kernel
theorem dX11_isFitLength_11 : decode cX11_isFitLength 11 = .ok (.getfield 19, 3) := by decide +kernel
theorem dX11_isFitLength_14 : decode cX11_isFitLength 14 = .ok (.getfield 350, 3) := by decide +kernel
theorem dX11_isFitLength_17 : decode cX11_isFitLength 17 = .ok (.if_icmp .gt 7, 3) := by decide +kernel
theorem dX11_isFitLength_20 : decode cX11_isFitLength 20 = .ok (.iconst 1, 1) := by decide +kernel
theorem dX11_isFitLength_21 : decode cX11_isFitLength 21 = .ok (.goto 4, 3) := by decide +kernel
theorem dX11_isFitLength_24 : decode cX11_isFitLength 24 = .ok (.iconst 0, 1) := by decide +kernel
theorem dX11_isFitLength_25 : decode cX11_isFitLength 25 = .ok (.ireturn, 1) := by decide +kernel
theorem dX11_stepsAt_0 : decode cX11_stepsAt 0 = .ok (.iload_n 0, 1) := by decide +kernel
theorem dX11_stepsAt_1 : decode cX11_stepsAt 1 = .ok (.ifCond .ge 7, 3) := by decide +kernel
theorem dX11_stepsAt_4 : decode cX11_stepsAt 4 = .ok (.iconst 1, 1) := by decide +kernel
theorem dX11_stepsAt_5 : decode cX11_stepsAt 5 = .ok (.goto 14, 3) := by decide +kernel
theorem dX11_stepsAt_8 : decode cX11_stepsAt 8 = .ok (.iconst 1, 1) := by decide +kernel
theorem dX11_stepsAt_9 : decode cX11_stepsAt 9 = .ok (.iload_n 1, 1) := by decide +kernel
theorem dX11_stepsAt_10 : decode cX11_stepsAt 10 = .ok (.bipush 32, 2) := by decide +kernel
theorem dX11_stepsAt_12 : decode cX11_stepsAt 12 = .ok (.imul, 1) := by decide +kernel
theorem dX11_stepsAt_13 : decode cX11_stepsAt 13 = .ok (.iload_n 0, 1) := by decide +kernel
theorem dX11_stepsAt_14 : decode cX11_stepsAt 14 = .ok (.bipush 32, 2) := by decide +kernel
theorem dX11_stepsAt_16 : decode cX11_stepsAt 16 = .ok (.iadd, 1) := by decide +kernel
theorem dX11_stepsAt_17 : decode cX11_stepsAt 17 = .ok (.idiv, 1) := by decide +kernel
theorem dX11_stepsAt_18 : decode cX11_stepsAt 18 = .ok (.iadd, 1) := by decide +kernel
theorem dX11_stepsAt_19 : decode cX11_stepsAt 19 = .ok (.ireturn, 1) := by decide +kernel
theorem dX11_turnOfDay_0 : decode cX11_turnOfDay 0 = .ok (.iload_n 0, 1) := by decide +kernel
theorem dX11_turnOfDay_1 : decode cX11_turnOfDay 1 = .ok (.ifCond .ge 7, 3) := by decide +kernel
theorem dX11_turnOfDay_4 : decode cX11_turnOfDay 4 = .ok (.iconst 1, 1) := by decide +kernel
theorem dX11_turnOfDay_5 : decode cX11_turnOfDay 5 = .ok (.goto 13, 3) := by decide +kernel
theorem dX11_turnOfDay_8 : decode cX11_turnOfDay 8 = .ok (.iconst 1, 1) := by decide +kernel
theorem dX11_turnOfDay_9 : decode cX11_turnOfDay 9 = .ok (.sipush 320, 3) := by decide +kernel
theorem dX11_turnOfDay_12 : decode cX11_turnOfDay 12 = .ok (.iload_n 0, 1) := by decide +kernel
theorem dX11_turnOfDay_13 : decode cX11_turnOfDay 13 = .ok (.bipush 32, 2) := by decide +kernel
theorem dX11_turnOfDay_15 : decode cX11_turnOfDay 15 = .ok (.iadd, 1) := by decide +kernel
theorem dX11_turnOfDay_16 : decode cX11_turnOfDay 16 = .ok (.idiv, 1) := by decide +kernel
theorem dX11_turnOfDay_17 : decode cX11_turnOfDay 17 = .ok (.iadd, 1) := by decide +kernel
theorem dX11_turnOfDay_18 : decode cX11_turnOfDay 18 = .ok (.ireturn, 1) := by decide +kernel
theorem dX11_rhoBehind_0 : decode cX11_rhoBehind 0 = .ok (.iload_n 0, 1) := by decide +kernel
theorem dX11_rhoBehind_1 : decode cX11_rhoBehind 1 = .ok (.iload_n 1, 1) := by decide +kernel
theorem dX11_rhoBehind_2 : decode cX11_rhoBehind 2 = .ok (.iconst 1, 1) := by decide +kernel
theorem dX11_rhoBehind_3 : decode cX11_rhoBehind 3 = .ok (.isub, 1) := by decide +kernel
theorem dX11_rhoBehind_4 : decode cX11_rhoBehind 4 = .ok (.iload_n 0, 1) := by decide +kernel
theorem dX11_rhoBehind_5 : decode cX11_rhoBehind 5 = .ok (.iload_n 2, 1) := by decide +kernel
theorem dX11_rhoBehind_6 : decode cX11_rhoBehind 6 = .ok (.invokestatic 356, 3) := by decide +kernel
theorem dX11_rhoBehind_9 : decode cX11_rhoBehind 9 = .ok (.imul, 1) := by decide +kernel
theorem dX11_rhoBehind_10 : decode cX11_rhoBehind 10 = .ok (.iadd, 1) := by decide +kernel
theorem dX11_rhoBehind_11 : decode cX11_rhoBehind 11 = .ok (.ireturn, 1) := by decide +kernel
theorem dX11_nextRow_0 : decode cX11_nextRow 0 = .ok (.iload_n 3, 1) := by decide +kernel
theorem dX11_nextRow_1 : decode cX11_nextRow 1 = .ok (.iconst 1, 1) := by decide +kernel
theorem dX11_nextRow_2 : decode cX11_nextRow 2 = .ok (.isub, 1) := by decide +kernel
theorem dX11_nextRow_3 : decode cX11_nextRow 3 = .ok (.istore 4, 2) := by decide +kernel
theorem dX11_nextRow_5 : decode cX11_nextRow 5 = .ok (.iload 4, 2) := by decide +kernel
theorem dX11_nextRow_7 : decode cX11_nextRow 7 = .ok (.ifCond .lt 38, 3) := by decide +kernel
theorem dX11_nextRow_10 : decode cX11_nextRow 10 = .ok (.aload_n 0, 1) := by decide +kernel
theorem dX11_nextRow_11 : decode cX11_nextRow 11 = .ok (.iload 4, 2) := by decide +kernel
theorem dX11_nextRow_13 : decode cX11_nextRow 13 = .ok (.iaload, 1) := by decide +kernel
theorem dX11_nextRow_14 : decode cX11_nextRow 14 = .ok (.aload_n 2, 1) := by decide +kernel
theorem dX11_nextRow_15 : decode cX11_nextRow 15 = .ok (.iload 4, 2) := by decide +kernel
theorem dX11_nextRow_17 : decode cX11_nextRow 17 = .ok (.iaload, 1) := by decide +kernel
theorem dX11_nextRow_18 : decode cX11_nextRow 18 = .ok (.if_icmp .ge 13, 3) := by decide +kernel
theorem dX11_nextRow_21 : decode cX11_nextRow 21 = .ok (.aload_n 0, 1) := by decide +kernel
theorem dX11_nextRow_22 : decode cX11_nextRow 22 = .ok (.iload 4, 2) := by decide +kernel
theorem dX11_nextRow_24 : decode cX11_nextRow 24 = .ok (.dup2, 1) := by decide +kernel
theorem dX11_nextRow_25 : decode cX11_nextRow 25 = .ok (.iaload, 1) := by decide +kernel
theorem dX11_nextRow_26 : decode cX11_nextRow 26 = .ok (.iconst 1, 1) := by decide +kernel
theorem dX11_nextRow_27 : decode cX11_nextRow 27 = .ok (.iadd, 1) := by decide +kernel
theorem dX11_nextRow_28 : decode cX11_nextRow 28 = .ok (.iastore, 1) := by decide +kernel
theorem dX11_nextRow_29 : decode cX11_nextRow 29 = .ok (.iconst 1, 1) := by decide +kernel
theorem dX11_nextRow_30 : decode cX11_nextRow 30 = .ok (.ireturn, 1) := by decide +kernel
theorem dX11_nextRow_31 : decode cX11_nextRow 31 = .ok (.aload_n 0, 1) := by decide +kernel
theorem dX11_nextRow_32 : decode cX11_nextRow 32 = .ok (.iload 4, 2) := by decide +kernel
theorem dX11_nextRow_34 : decode cX11_nextRow 34 = .ok (.aload_n 1, 1) := by decide +kernel
theorem dX11_nextRow_35 : decode cX11_nextRow 35 = .ok (.iload 4, 2) := by decide +kernel
theorem dX11_nextRow_37 : decode cX11_nextRow 37 = .ok (.iaload, 1) := by decide +kernel
theorem dX11_nextRow_38 : decode cX11_nextRow 38 = .ok (.iastore, 1) := by decide +kernel
theorem dX11_nextRow_39 : decode cX11_nextRow 39 = .ok (.iinc 4 (-1), 3) := by decide +kernel
theorem dX11_nextRow_42 : decode cX11_nextRow 42 = .ok (.goto (-37), 3) := by decide +kernel
theorem dX11_nextRow_45 : decode cX11_nextRow 45 = .ok (.iconst 0, 1) := by decide +kernel
theorem dX11_nextRow_46 : decode cX11_nextRow 46 = .ok (.ireturn, 1) := by decide +kernel
theorem dX12_init_0 : decode cX12_init 0 = .ok (.aload_n 0, 1) := by decide +kernel
theorem dX12_init_1 : decode cX12_init 1 = .ok (.invokespecial 1, 3) := by decide +kernel
theorem dX12_init_4 : decode cX12_init 4 = .ok (.aload_n 0, 1) := by decide +kernel
theorem dX12_init_5 : decode cX12_init 5 = .ok (.bipush 8, 2) := by decide +kernel
theorem dX12_init_7 : decode cX12_init 7 = .ok (.newarray .int, 2) := by decide +kernel
theorem dX12_init_9 : decode cX12_init 9 = .ok (.putfield 7, 3) := by decide +kernel
theorem dX12_init_12 : decode cX12_init 12 = .ok (.aload_n 0, 1) := by decide +kernel
theorem dX12_init_13 : decode cX12_init 13 = .ok (.bipush 8, 2) := by decide +kernel
theorem dX12_init_15 : decode cX12_init 15 = .ok (.newarray .int, 2) := by decide +kernel
theorem dX12_init_17 : decode cX12_init 17 = .ok (.putfield 13, 3) := by decide +kernel
theorem dX12_init_20 : decode cX12_init 20 = .ok (.aload_n 0, 1) := by decide +kernel
theorem dX12_init_21 : decode cX12_init 21 = .ok (.bipush 8, 2) := by decide +kernel
theorem dX12_init_23 : decode cX12_init 23 = .ok (.newarray .int, 2) := by decide +kernel
theorem dX12_init_25 : decode cX12_init 25 = .ok (.putfield 16, 3) := by decide +kernel
theorem dX12_init_28 : decode cX12_init 28 = .ok (.aload_n 0, 1) := by decide +kernel
theorem dX12_init_29 : decode cX12_init 29 = .ok (.bipush 8, 2) := by decide +kernel
theorem dX12_init_31 : decode cX12_init 31 = .ok (.newarray .int, 2) := by decide +kernel
theorem dX12_init_33 : decode cX12_init 33 = .ok (.putfield 19, 3) := by decide +kernel
theorem dX12_init_36 : decode cX12_init 36 = .ok (.aload_n 0, 1) := by decide +kernel
theorem dX12_init_37 : decode cX12_init 37 = .ok (.bipush 8, 2) := by decide +kernel
theorem dX12_init_39 : decode cX12_init 39 = .ok (.newarray .boolean, 2) := by decide +kernel
theorem dX12_init_41 : decode cX12_init 41 = .ok (.putfield 22, 3) := by decide +kernel
theorem dX12_init_44 : decode cX12_init 44 = .ok (.aload_n 0, 1) := by decide +kernel
theorem dX12_init_45 : decode cX12_init 45 = .ok (.bipush 16, 2) := by decide +kernel
theorem dX12_init_47 : decode cX12_init 47 = .ok (.newarray .int, 2) := by decide +kernel
theorem dX12_init_49 : decode cX12_init 49 = .ok (.putfield 26, 3) := by decide +kernel
theorem dX12_init_52 : decode cX12_init 52 = .ok (.aload_n 0, 1) := by decide +kernel
theorem dX12_init_53 : decode cX12_init 53 = .ok (.bipush 16, 2) := by decide +kernel
theorem dX12_init_55 : decode cX12_init 55 = .ok (.newarray .int, 2) := by decide +kernel
theorem dX12_init_57 : decode cX12_init 57 = .ok (.putfield 29, 3) := by decide +kernel
theorem dX12_init_60 : decode cX12_init 60 = .ok (.aload_n 0, 1) := by decide +kernel
theorem dX12_init_61 : decode cX12_init 61 = .ok (.bipush 16, 2) := by decide +kernel
theorem dX12_init_63 : decode cX12_init 63 = .ok (.newarray .int, 2) := by decide +kernel
theorem dX12_init_65 : decode cX12_init 65 = .ok (.putfield 32, 3) := by decide +kernel
theorem dX12_init_68 : decode cX12_init 68 = .ok (.aload_n 0, 1) := by decide +kernel
theorem dX12_init_69 : decode cX12_init 69 = .ok (.bipush 16, 2) := by decide +kernel
theorem dX12_init_71 : decode cX12_init 71 = .ok (.newarray .int, 2) := by decide +kernel
theorem dX12_init_73 : decode cX12_init 73 = .ok (.putfield 35, 3) := by decide +kernel
theorem dX12_init_76 : decode cX12_init 76 = .ok (.aload_n 0, 1) := by decide +kernel
theorem dX12_init_77 : decode cX12_init 77 = .ok (.bipush 16, 2) := by decide +kernel
theorem dX12_init_79 : decode cX12_init 79 = .ok (.newarray .int, 2) := by decide +kernel
theorem dX12_init_81 : decode cX12_init 81 = .ok (.putfield 38, 3) := by decide +kernel
theorem dX12_init_84 : decode cX12_init 84 = .ok (.aload_n 0, 1) := by decide +kernel
theorem dX12_init_85 : decode cX12_init 85 = .ok (.bipush 16, 2) := by decide +kernel
theorem dX12_init_87 : decode cX12_init 87 = .ok (.newarray .int, 2) := by decide +kernel
theorem dX12_init_89 : decode cX12_init 89 = .ok (.putfield 41, 3) := by decide +kernel
theorem dX12_init_92 : decode cX12_init 92 = .ok (.aload_n 0, 1) := by decide +kernel
theorem dX12_init_93 : decode cX12_init 93 = .ok (.bipush 16, 2) := by decide +kernel
theorem dX12_init_95 : decode cX12_init 95 = .ok (.newarray .int, 2) := by decide +kernel
theorem dX12_init_97 : decode cX12_init 97 = .ok (.putfield 44, 3) := by decide +kernel
theorem dX12_init_100 : decode cX12_init 100 = .ok (.aload_n 0, 1) := by decide +kernel
theorem dX12_init_101 : decode cX12_init 101 = .ok (.bipush 16, 2) := by decide +kernel
theorem dX12_init_103 : decode cX12_init 103 = .ok (.newarray .boolean, 2) := by decide +kernel
theorem dX12_init_105 : decode cX12_init 105 = .ok (.putfield 47, 3) := by decide +kernel
theorem dX12_init_108 : decode cX12_init 108 = .ok (.aload_n 0, 1) := by decide +kernel
theorem dX12_init_109 : decode cX12_init 109 = .ok (.iconst 4, 1) := by decide +kernel
theorem dX12_init_110 : decode cX12_init 110 = .ok (.newarray .int, 2) := by decide +kernel
theorem dX12_init_112 : decode cX12_init 112 = .ok (.putfield 50, 3) := by decide +kernel
theorem dX12_init_115 : decode cX12_init 115 = .ok (.aload_n 0, 1) := by decide +kernel
theorem dX12_init_116 : decode cX12_init 116 = .ok (.iconst 4, 1) := by decide +kernel
theorem dX12_init_117 : decode cX12_init 117 = .ok (.newarray .int, 2) := by decide +kernel
theorem dX12_init_119 : decode cX12_init 119 = .ok (.putfield 53, 3) := by decide +kernel
theorem dX12_init_122 : decode cX12_init 122 = .ok (.aload_n 0, 1) := by decide +kernel
theorem dX12_init_123 : decode cX12_init 123 = .ok (.iconst 4, 1) := by decide +kernel
theorem dX12_init_124 : decode cX12_init 124 = .ok (.newarray .boolean, 2) := by decide +kernel
theorem dX12_init_126 : decode cX12_init 126 = .ok (.putfield 56, 3) := by decide +kernel
theorem dX12_init_129 : decode cX12_init 129 = .ok (.aload_n 0, 1) := by decide +kernel
theorem dX12_init_130 : decode cX12_init 130 = .ok (.bipush 100, 2) := by decide +kernel
theorem dX12_init_132 : decode cX12_init 132 = .ok (.putfield 59, 3) := by decide +kernel
theorem dX12_init_135 : decode cX12_init 135 = .ok (.aload_n 0, 1) := by decide +kernel
theorem dX12_init_136 : decode cX12_init 136 = .ok (.iconst (-1), 1) := by decide +kernel
theorem dX12_init_137 : decode cX12_init 137 = .ok (.putfield 63, 3) := by decide +kernel
theorem dX12_init_140 : decode cX12_init 140 = .ok (.aload_n 0, 1) := by decide +kernel
theorem dX12_init_141 : decode cX12_init 141 = .ok (.iconst 4, 1) := by decide +kernel
theorem dX12_init_142 : decode cX12_init 142 = .ok (.newarray .int, 2) := by decide +kernel
theorem dX12_init_144 : decode cX12_init 144 = .ok (.putfield 66, 3) := by decide +kernel
theorem dX12_init_147 : decode cX12_init 147 = .ok (.aload_n 0, 1) := by decide +kernel
theorem dX12_init_148 : decode cX12_init 148 = .ok (.iconst 4, 1) := by decide +kernel
theorem dX12_init_149 : decode cX12_init 149 = .ok (.newarray .int, 2) := by decide +kernel
theorem dX12_init_151 : decode cX12_init 151 = .ok (.putfield 69, 3) := by decide +kernel
theorem dX12_init_154 : decode cX12_init 154 = .ok (.aload_n 0, 1) := by decide +kernel
theorem dX12_init_155 : decode cX12_init 155 = .ok (.iconst 4, 1) := by decide +kernel
theorem dX12_init_156 : decode cX12_init 156 = .ok (.newarray .int, 2) := by decide +kernel
theorem dX12_init_158 : decode cX12_init 158 = .ok (.putfield 72, 3) := by decide +kernel
theorem dX12_init_161 : decode cX12_init 161 = .ok (.aload_n 0, 1) := by decide +kernel
theorem dX12_init_162 : decode cX12_init 162 = .ok (.bipush 41, 2) := by decide +kernel
theorem dX12_init_164 : decode cX12_init 164 = .ok (.sipush 18432, 3) := by decide +kernel
theorem dX12_init_167 : decode cX12_init 167 = .ok (.multianewarray 75 2, 4) := by decide +kernel
theorem dX12_init_171 : decode cX12_init 171 = .ok (.putfield 77, 3) := by decide +kernel
theorem dX12_init_174 : decode cX12_init 174 = .ok (.aload_n 0, 1) := by decide +kernel
theorem dX12_init_175 : decode cX12_init 175 = .ok (.bipush 41, 2) := by decide +kernel
theorem dX12_init_177 : decode cX12_init 177 = .ok (.sipush 18432, 3) := by decide +kernel
theorem dX12_init_180 : decode cX12_init 180 = .ok (.multianewarray 75 2, 4) := by decide +kernel
theorem dX12_init_184 : decode cX12_init 184 = .ok (.putfield 80, 3) := by decide +kernel
theorem dX12_init_187 : decode cX12_init 187 = .ok (.aload_n 0, 1) := by decide +kernel
theorem dX12_init_188 : decode cX12_init 188 = .ok (.iconst (-1), 1) := by decide +kernel
theorem dX12_init_189 : decode cX12_init 189 = .ok (.putfield 83, 3) := by decide +kernel
theorem dX12_init_192 : decode cX12_init 192 = .ok (.aload_n 0, 1) := by decide +kernel
theorem dX12_init_193 : decode cX12_init 193 = .ok (.sipush 300, 3) := by decide +kernel
theorem dX12_init_196 : decode cX12_init 196 = .ok (.newarray .int, 2) := by decide +kernel
theorem dX12_init_198 : decode cX12_init 198 = .ok (.putfield 86, 3) := by decide +kernel
theorem dX12_init_201 : decode cX12_init 201 = .ok (.aload_n 0, 1) := by decide +kernel
theorem dX12_init_202 : decode cX12_init 202 = .ok (.sipush 300, 3) := by decide +kernel
theorem dX12_init_205 : decode cX12_init 205 = .ok (.newarray .int, 2) := by decide +kernel
theorem dX12_init_207 : decode cX12_init 207 = .ok (.putfield 89, 3) := by decide +kernel
theorem dX12_init_210 : decode cX12_init 210 = .ok (.aload_n 0, 1) := by decide +kernel
theorem dX12_init_211 : decode cX12_init 211 = .ok (.bipush 20, 2) := by decide +kernel
theorem dX12_init_213 : decode cX12_init 213 = .ok (.newarray .int, 2) := by decide +kernel
theorem dX12_init_215 : decode cX12_init 215 = .ok (.putfield 92, 3) := by decide +kernel
theorem dX12_init_218 : decode cX12_init 218 = .ok (.aload_n 0, 1) := by decide +kernel
theorem dX12_init_219 : decode cX12_init 219 = .ok (.bipush 20, 2) := by decide +kernel
theorem dX12_init_221 : decode cX12_init 221 = .ok (.newarray .int, 2) := by decide +kernel
theorem dX12_init_223 : decode cX12_init 223 = .ok (.putfield 95, 3) := by decide +kernel
theorem dX12_init_226 : decode cX12_init 226 = .ok (.aload_n 0, 1) := by decide +kernel
theorem dX12_init_227 : decode cX12_init 227 = .ok (.sipush 2000, 3) := by decide +kernel
theorem dX12_init_230 : decode cX12_init 230 = .ok (.newarray .int, 2) := by decide +kernel
theorem dX12_init_232 : decode cX12_init 232 = .ok (.putfield 98, 3) := by decide +kernel
theorem dX12_init_235 : decode cX12_init 235 = .ok (.aload_n 0, 1) := by decide +kernel
theorem dX12_init_236 : decode cX12_init 236 = .ok (.sipush 2000, 3) := by decide +kernel
theorem dX12_init_239 : decode cX12_init 239 = .ok (.newarray .int, 2) := by decide +kernel
theorem dX12_init_241 : decode cX12_init 241 = .ok (.putfield 101, 3) := by decide +kernel
theorem dX12_init_244 : decode cX12_init 244 = .ok (.aload_n 0, 1) := by decide +kernel
theorem dX12_init_245 : decode cX12_init 245 = .ok (.sipush 2000, 3) := by decide +kernel
theorem dX12_init_248 : decode cX12_init 248 = .ok (.newarray .int, 2) := by decide +kernel
theorem dX12_init_250 : decode cX12_init 250 = .ok (.putfield 104, 3) := by decide +kernel
theorem dX12_init_253 : decode cX12_init 253 = .ok (.aload_n 0, 1) := by decide +kernel
theorem dX12_init_254 : decode cX12_init 254 = .ok (.sipush 2000, 3) := by decide +kernel
theorem dX12_init_257 : decode cX12_init 257 = .ok (.newarray .int, 2) := by decide +kernel
theorem dX12_init_259 : decode cX12_init 259 = .ok (.putfield 107, 3) := by decide +kernel
theorem dX12_init_262 : decode cX12_init 262 = .ok (.aload_n 0, 1) := by decide +kernel
theorem dX12_init_263 : decode cX12_init 263 = .ok (.iconst 5, 1) := by decide +kernel
theorem dX12_init_264 : decode cX12_init 264 = .ok (.newarray .int, 2) := by decide +kernel
theorem dX12_init_266 : decode cX12_init 266 = .ok (.putfield 110, 3) := by decide +kernel
theorem dX12_init_269 : decode cX12_init 269 = .ok (.aload_n 0, 1) := by decide +kernel
theorem dX12_init_270 : decode cX12_init 270 = .ok (.iconst 5, 1) := by decide +kernel
theorem dX12_init_271 : decode cX12_init 271 = .ok (.newarray .int, 2) := by decide +kernel
theorem dX12_init_273 : decode cX12_init 273 = .ok (.putfield 113, 3) := by decide +kernel
theorem dX12_init_276 : decode cX12_init 276 = .ok (.aload_n 0, 1) := by decide +kernel
theorem dX12_init_277 : decode cX12_init 277 = .ok (.bipush 6, 2) := by decide +kernel
theorem dX12_init_279 : decode cX12_init 279 = .ok (.newarray .int, 2) := by decide +kernel
theorem dX12_init_281 : decode cX12_init 281 = .ok (.putfield 116, 3) := by decide +kernel
theorem dX12_init_284 : decode cX12_init 284 = .ok (.aload_n 0, 1) := by decide +kernel
theorem dX12_init_285 : decode cX12_init 285 = .ok (.bipush 6, 2) := by decide +kernel
theorem dX12_init_287 : decode cX12_init 287 = .ok (.newarray .int, 2) := by decide +kernel
theorem dX12_init_289 : decode cX12_init 289 = .ok (.putfield 119, 3) := by decide +kernel
theorem dX12_init_292 : decode cX12_init 292 = .ok (.aload_n 0, 1) := by decide +kernel
theorem dX12_init_293 : decode cX12_init 293 = .ok (.bipush 6, 2) := by decide +kernel
theorem dX12_init_295 : decode cX12_init 295 = .ok (.newarray .int, 2) := by decide +kernel
theorem dX12_init_297 : decode cX12_init 297 = .ok (.putfield 122, 3) := by decide +kernel
theorem dX12_init_300 : decode cX12_init 300 = .ok (.aload_n 0, 1) := by decide +kernel
theorem dX12_init_301 : decode cX12_init 301 = .ok (.iconst 4, 1) := by decide +kernel
theorem dX12_init_302 : decode cX12_init 302 = .ok (.newarray .int, 2) := by decide +kernel
theorem dX12_init_304 : decode cX12_init 304 = .ok (.putfield 125, 3) := by decide +kernel
theorem dX12_init_307 : decode cX12_init 307 = .ok (.aload_n 0, 1) := by decide +kernel
theorem dX12_init_308 : decode cX12_init 308 = .ok (.sipush 625, 3) := by decide +kernel
theorem dX12_init_311 : decode cX12_init 311 = .ok (.newarray .int, 2) := by decide +kernel
theorem dX12_init_313 : decode cX12_init 313 = .ok (.putfield 128, 3) := by decide +kernel
theorem dX12_init_316 : decode cX12_init 316 = .ok (.aload_n 0, 1) := by decide +kernel
theorem dX12_init_317 : decode cX12_init 317 = .ok (.bipush 6, 2) := by decide +kernel
theorem dX12_init_319 : decode cX12_init 319 = .ok (.newarray .int, 2) := by decide +kernel
theorem dX12_init_321 : decode cX12_init 321 = .ok (.putfield 131, 3) := by decide +kernel
theorem dX12_init_324 : decode cX12_init 324 = .ok (.aload_n 0, 1) := by decide +kernel
theorem dX12_init_325 : decode cX12_init 325 = .ok (.bipush 6, 2) := by decide +kernel
theorem dX12_init_327 : decode cX12_init 327 = .ok (.newarray .int, 2) := by decide +kernel
theorem dX12_init_329 : decode cX12_init 329 = .ok (.putfield 134, 3) := by decide +kernel
theorem dX12_init_332 : decode cX12_init 332 = .ok (.aload_n 0, 1) := by decide +kernel
theorem dX12_init_333 : decode cX12_init 333 = .ok (.bipush 6, 2) := by decide +kernel
theorem dX12_init_335 : decode cX12_init 335 = .ok (.newarray .int, 2) := by decide +kernel
theorem dX12_init_337 : decode cX12_init 337 = .ok (.putfield 137, 3) := by decide +kernel
theorem dX12_init_340 : decode cX12_init 340 = .ok (.aload_n 0, 1) := by decide +kernel
theorem dX12_init_341 : decode cX12_init 341 = .ok (.bipush 6, 2) := by decide +kernel
theorem dX12_init_343 : decode cX12_init 343 = .ok (.newarray .int, 2) := by decide +kernel
theorem dX12_init_345 : decode cX12_init 345 = .ok (.putfield 140, 3) := by decide +kernel
theorem dX12_init_348 : decode cX12_init 348 = .ok (.aload_n 0, 1) := by decide +kernel
theorem dX12_init_349 : decode cX12_init 349 = .ok (.bipush 6, 2) := by decide +kernel
theorem dX12_init_351 : decode cX12_init 351 = .ok (.newarray .int, 2) := by decide +kernel
theorem dX12_init_353 : decode cX12_init 353 = .ok (.putfield 143, 3) := by decide +kernel
theorem dX12_init_356 : decode cX12_init 356 = .ok (.aload_n 0, 1) := by decide +kernel
theorem dX12_init_357 : decode cX12_init 357 = .ok (.bipush 6, 2) := by decide +kernel
theorem dX12_init_359 : decode cX12_init 359 = .ok (.newarray .int, 2) := by decide +kernel
theorem dX12_init_361 : decode cX12_init 361 = .ok (.putfield 146, 3) := by decide +kernel
theorem dX12_init_364 : decode cX12_init 364 = .ok (.aload_n 0, 1) := by decide +kernel
theorem dX12_init_365 : decode cX12_init 365 = .ok (.bipush 6, 2) := by decide +kernel
theorem dX12_init_367 : decode cX12_init 367 = .ok (.newarray .boolean, 2) := by decide +kernel
theorem dX12_init_369 : decode cX12_init 369 = .ok (.putfield 149, 3) := by decide +kernel
theorem dX12_init_372 : decode cX12_init 372 = .ok (.aload_n 0, 1) := by decide +kernel
theorem dX12_init_373 : decode cX12_init 373 = .ok (.bipush 12, 2) := by decide +kernel
theorem dX12_init_375 : decode cX12_init 375 = .ok (.bipush 7, 2) := by decide +kernel
theorem dX12_init_377 : decode cX12_init 377 = .ok (.multianewarray 152 2, 4) := by decide +kernel
theorem dX12_init_381 : decode cX12_init 381 = .ok (.putfield 154, 3) := by decide +kernel
theorem dX12_init_384 : decode cX12_init 384 = .ok (.aload_n 0, 1) := by decide +kernel
theorem dX12_init_385 : decode cX12_init 385 = .ok (.bipush 6, 2) := by decide +kernel
theorem dX12_init_387 : decode cX12_init 387 = .ok (.newarray .int, 2) := by decide +kernel
theorem dX12_init_389 : decode cX12_init 389 = .ok (.putfield 157, 3) := by decide +kernel
theorem dX12_init_392 : decode cX12_init 392 = .ok (.aload_n 0, 1) := by decide +kernel
theorem dX12_init_393 : decode cX12_init 393 = .ok (.bipush 6, 2) := by decide +kernel
theorem dX12_init_395 : decode cX12_init 395 = .ok (.newarray .long, 2) := by decide +kernel
theorem dX12_init_397 : decode cX12_init 397 = .ok (.putfield 160, 3) := by decide +kernel
theorem dX12_init_400 : decode cX12_init 400 = .ok (.aload_n 0, 1) := by decide +kernel
theorem dX12_init_401 : decode cX12_init 401 = .ok (.bipush 6, 2) := by decide +kernel
theorem dX12_init_403 : decode cX12_init 403 = .ok (.newarray .long, 2) := by decide +kernel
theorem dX12_init_405 : decode cX12_init 405 = .ok (.putfield 164, 3) := by decide +kernel
theorem dX12_init_408 : decode cX12_init 408 = .ok (.aload_n 0, 1) := by decide +kernel
theorem dX12_init_409 : decode cX12_init 409 = .ok (.bipush 12, 2) := by decide +kernel
theorem dX12_init_411 : decode cX12_init 411 = .ok (.newarray .int, 2) := by decide +kernel
theorem dX12_init_413 : decode cX12_init 413 = .ok (.putfield 167, 3) := by decide +kernel
theorem dX12_init_416 : decode cX12_init 416 = .ok (.aload_n 0, 1) := by decide +kernel
theorem dX12_init_417 : decode cX12_init 417 = .ok (.bipush 12, 2) := by decide +kernel
theorem dX12_init_419 : decode cX12_init 419 = .ok (.newarray .int, 2) := by decide +kernel
theorem dX12_init_421 : decode cX12_init 421 = .ok (.putfield 170, 3) := by decide +kernel
theorem dX12_init_424 : decode cX12_init 424 = .ok (.aload_n 0, 1) := by decide +kernel
theorem dX12_init_425 : decode cX12_init 425 = .ok (.bipush 12, 2) := by decide +kernel
theorem dX12_init_427 : decode cX12_init 427 = .ok (.newarray .int, 2) := by decide +kernel
theorem dX12_init_429 : decode cX12_init 429 = .ok (.putfield 173, 3) := by decide +kernel
theorem dX12_init_432 : decode cX12_init 432 = .ok (.aload_n 0, 1) := by decide +kernel
theorem dX12_init_433 : decode cX12_init 433 = .ok (.bipush 12, 2) := by decide +kernel
theorem dX12_init_435 : decode cX12_init 435 = .ok (.newarray .int, 2) := by decide +kernel
theorem dX12_init_437 : decode cX12_init 437 = .ok (.putfield 176, 3) := by decide +kernel
theorem dX12_init_440 : decode cX12_init 440 = .ok (.return_, 1) := by decide +kernel
theorem dX12_thrown_0 : decode cX12_thrown 0 = .ok (.aload_n 0, 1) := by decide +kernel
theorem dX12_thrown_1 : decode cX12_thrown 1 = .ok (.getfield 179, 3) := by decide +kernel
theorem dX12_thrown_4 : decode cX12_thrown 4 = .ok (.ireturn, 1) := by decide +kernel
theorem dX12_bad_0 : decode cX12_bad 0 = .ok (.iload_n 1, 1) := by decide +kernel
theorem dX12_bad_1 : decode cX12_bad 1 = .ok (.ifCond .eq 15, 3) := by decide +kernel
theorem dX12_bad_4 : decode cX12_bad 4 = .ok (.aload_n 0, 1) := by decide +kernel
theorem dX12_bad_5 : decode cX12_bad 5 = .ok (.getfield 179, 3) := by decide +kernel
theorem dX12_bad_8 : decode cX12_bad 8 = .ok (.ifCond .ne 8, 3) := by decide +kernel
theorem dX12_bad_11 : decode cX12_bad 11 = .ok (.aload_n 0, 1) := by decide +kernel
theorem dX12_bad_12 : decode cX12_bad 12 = .ok (.iload_n 2, 1) := by decide +kernel
theorem dX12_bad_13 : decode cX12_bad 13 = .ok (.putfield 179, 3) := by decide +kernel
theorem dX12_bad_16 : decode cX12_bad 16 = .ok (.aload_n 0, 1) := by decide +kernel
theorem dX12_bad_17 : decode cX12_bad 17 = .ok (.getfield 179, 3) := by decide +kernel
theorem dX12_bad_20 : decode cX12_bad 20 = .ok (.ifCond .eq 7, 3) := by decide +kernel
theorem dX12_bad_23 : decode cX12_bad 23 = .ok (.iconst 1, 1) := by decide +kernel
theorem dX12_bad_24 : decode cX12_bad 24 = .ok (.goto 4, 3) := by decide +kernel
theorem dX12_bad_27 : decode cX12_bad 27 = .ok (.iconst 0, 1) := by decide +kernel
theorem dX12_bad_28 : decode cX12_bad 28 = .ok (.ireturn, 1) := by decide +kernel
theorem dX12_in_0 : decode cX12_in 0 = .ok (.iload_n 0, 1) := by decide +kernel
theorem dX12_in_1 : decode cX12_in 1 = .ok (.iload_n 1, 1) := by decide +kernel
theorem dX12_in_2 : decode cX12_in 2 = .ok (.if_icmp .lt 12, 3) := by decide +kernel
theorem dX12_in_5 : decode cX12_in 5 = .ok (.iload_n 0, 1) := by decide +kernel
theorem dX12_in_6 : decode cX12_in 6 = .ok (.iload_n 2, 1) := by decide +kernel
theorem dX12_in_7 : decode cX12_in 7 = .ok (.if_icmp .gt 7, 3) := by decide +kernel
theorem dX12_in_10 : decode cX12_in 10 = .ok (.iconst 1, 1) := by decide +kernel
theorem dX12_in_11 : decode cX12_in 11 = .ok (.goto 4, 3) := by decide +kernel
theorem dX12_in_14 : decode cX12_in 14 = .ok (.iconst 0, 1) := by decide +kernel
theorem dX12_in_15 : decode cX12_in 15 = .ok (.ireturn, 1) := by decide +kernel
theorem dX12_amount_0 : decode cX12_amount 0 = .ok (.iload_n 0, 1) := by decide +kernel
theorem dX12_amount_1 : decode cX12_amount 1 = .ok (.ifCond .ge 8, 3) := by decide +kernel
theorem dX12_amount_4 : decode cX12_amount 4 = .ok (.iload_n 0, 1) := by decide +kernel
theorem dX12_amount_5 : decode cX12_amount 5 = .ok (.ineg, 1) := by decide +kernel
theorem dX12_amount_6 : decode cX12_amount 6 = .ok (.goto 4, 3) := by decide +kernel
theorem dX12_amount_9 : decode cX12_amount 9 = .ok (.iload_n 0, 1) := by decide +kernel
theorem dX12_amount_10 : decode cX12_amount 10 = .ok (.ireturn, 1) := by decide +kernel
theorem dX12_stands_0 : decode cX12_stands 0 = .ok (.iconst 0, 1) := by decide +kernel
theorem dX12_stands_1 : decode cX12_stands 1 = .ok (.istore_n 2, 1) := by decide +kernel
theorem dX12_stands_2 : decode cX12_stands 2 = .ok (.iload_n 2, 1) := by decide +kernel
theorem dX12_stands_3 : decode cX12_stands 3 = .ok (.aload_n 0, 1) := by decide +kernel
theorem dX12_stands_4 : decode cX12_stands 4 = .ok (.getfield 182, 3) := by decide +kernel
theorem dX12_stands_7 : decode cX12_stands 7 = .ok (.if_icmp .ge 18, 3) := by decide +kernel
theorem dX12_stands_10 : decode cX12_stands 10 = .ok (.aload_n 0, 1) := by decide +kernel
theorem dX12_stands_11 : decode cX12_stands 11 = .ok (.getfield 13, 3) := by decide +kernel
theorem dX12_stands_14 : decode cX12_stands 14 = .ok (.aload_n 1, 1) := by decide +kernel
theorem dX12_stands_15 : decode cX12_stands 15 = .ok (.iload_n 2, 1) := by decide +kernel
theorem dX12_stands_16 : decode cX12_stands 16 = .ok (.iaload, 1) := by decide +kernel
theorem dX12_stands_17 : decode cX12_stands 17 = .ok (.iload_n 2, 1) := by decide +kernel
theorem dX12_stands_18 : decode cX12_stands 18 = .ok (.iastore, 1) := by decide +kernel
theorem dX12_stands_19 : decode cX12_stands 19 = .ok (.iinc 2 1, 3) := by decide +kernel
theorem dX12_stands_22 : decode cX12_stands 22 = .ok (.goto (-20), 3) := by decide +kernel
theorem dX12_stands_25 : decode cX12_stands 25 = .ok (.iconst 0, 1) := by decide +kernel
theorem dX12_stands_26 : decode cX12_stands 26 = .ok (.istore_n 2, 1) := by decide +kernel
theorem dX12_stands_27 : decode cX12_stands 27 = .ok (.iload_n 2, 1) := by decide +kernel
theorem dX12_stands_28 : decode cX12_stands 28 = .ok (.iconst 1, 1) := by decide +kernel
theorem dX12_stands_29 : decode cX12_stands 29 = .ok (.iadd, 1) := by decide +kernel
theorem dX12_stands_30 : decode cX12_stands 30 = .ok (.aload_n 0, 1) := by decide +kernel
theorem dX12_stands_31 : decode cX12_stands 31 = .ok (.getfield 182, 3) := by decide +kernel
theorem dX12_stands_34 : decode cX12_stands 34 = .ok (.if_icmp .ge 127, 3) := by decide +kernel
theorem dX12_stands_37 : decode cX12_stands 37 = .ok (.aload_n 0, 1) := by decide +kernel
theorem dX12_stands_38 : decode cX12_stands 38 = .ok (.getfield 185, 3) := by decide +kernel
theorem dX12_stands_41 : decode cX12_stands 41 = .ok (.iload_n 2, 1) := by decide +kernel
theorem dX12_stands_42 : decode cX12_stands 42 = .ok (.ishr, 1) := by decide +kernel
theorem dX12_stands_43 : decode cX12_stands 43 = .ok (.iconst 1, 1) := by decide +kernel
theorem dX12_stands_44 : decode cX12_stands 44 = .ok (.iand, 1) := by decide +kernel
theorem dX12_stands_45 : decode cX12_stands 45 = .ok (.iconst 1, 1) := by decide +kernel
theorem dX12_stands_46 : decode cX12_stands 46 = .ok (.if_icmp .ne 7, 3) := by decide +kernel
theorem dX12_stands_49 : decode cX12_stands 49 = .ok (.iconst 1, 1) := by decide +kernel
theorem dX12_stands_50 : decode cX12_stands 50 = .ok (.goto 4, 3) := by decide +kernel
theorem dX12_stands_53 : decode cX12_stands 53 = .ok (.iconst 0, 1) := by decide +kernel
theorem dX12_stands_54 : decode cX12_stands 54 = .ok (.iload_n 2, 1) := by decide +kernel
theorem dX12_stands_55 : decode cX12_stands 55 = .ok (.iconst 2, 1) := by decide +kernel
theorem dX12_stands_56 : decode cX12_stands 56 = .ok (.irem, 1) := by decide +kernel
theorem dX12_stands_57 : decode cX12_stands 57 = .ok (.ifCond .ne 7, 3) := by decide +kernel
theorem dX12_stands_60 : decode cX12_stands 60 = .ok (.iconst 1, 1) := by decide +kernel
theorem dX12_stands_61 : decode cX12_stands 61 = .ok (.goto 4, 3) := by decide +kernel
theorem dX12_stands_64 : decode cX12_stands 64 = .ok (.iconst 0, 1) := by decide +kernel
theorem dX12_stands_65 : decode cX12_stands 65 = .ok (.if_icmp .ne 7, 3) := by decide +kernel
theorem dX12_stands_68 : decode cX12_stands 68 = .ok (.iconst 1, 1) := by decide +kernel
theorem dX12_stands_69 : decode cX12_stands 69 = .ok (.goto 4, 3) := by decide +kernel
theorem dX12_stands_72 : decode cX12_stands 72 = .ok (.iconst 0, 1) := by decide +kernel
theorem dX12_stands_73 : decode cX12_stands 73 = .ok (.istore_n 3, 1) := by decide +kernel
theorem dX12_stands_74 : decode cX12_stands 74 = .ok (.aload_n 0, 1) := by decide +kernel
theorem dX12_stands_75 : decode cX12_stands 75 = .ok (.getfield 13, 3) := by decide +kernel
theorem dX12_stands_78 : decode cX12_stands 78 = .ok (.iload_n 2, 1) := by decide +kernel
theorem dX12_stands_79 : decode cX12_stands 79 = .ok (.iconst 1, 1) := by decide +kernel
theorem dX12_stands_80 : decode cX12_stands 80 = .ok (.iadd, 1) := by decide +kernel
theorem dX12_stands_81 : decode cX12_stands 81 = .ok (.iaload, 1) := by decide +kernel
theorem dX12_stands_82 : decode cX12_stands 82 = .ok (.aload_n 0, 1) := by decide +kernel
theorem dX12_stands_83 : decode cX12_stands 83 = .ok (.getfield 13, 3) := by decide +kernel
theorem dX12_stands_86 : decode cX12_stands 86 = .ok (.iload_n 2, 1) := by decide +kernel
theorem dX12_stands_87 : decode cX12_stands 87 = .ok (.iaload, 1) := by decide +kernel
theorem dX12_stands_88 : decode cX12_stands 88 = .ok (.if_icmp .le 7, 3) := by decide +kernel
theorem dX12_stands_91 : decode cX12_stands 91 = .ok (.iconst 1, 1) := by decide +kernel
theorem dX12_stands_92 : decode cX12_stands 92 = .ok (.goto 4, 3) := by decide +kernel
theorem dX12_stands_95 : decode cX12_stands 95 = .ok (.iconst 0, 1) := by decide +kernel
theorem dX12_stands_96 : decode cX12_stands 96 = .ok (.iload_n 3, 1) := by decide +kernel
theorem dX12_stands_97 : decode cX12_stands 97 = .ok (.if_icmp .eq 5, 3) := by decide +kernel
theorem dX12_stands_100 : decode cX12_stands 100 = .ok (.iconst 0, 1) := by decide +kernel
theorem dX12_stands_101 : decode cX12_stands 101 = .ok (.ireturn, 1) := by decide +kernel
theorem dX12_stands_102 : decode cX12_stands 102 = .ok (.iload_n 2, 1) := by decide +kernel
theorem dX12_stands_103 : decode cX12_stands 103 = .ok (.iconst 2, 1) := by decide +kernel
theorem dX12_stands_104 : decode cX12_stands 104 = .ok (.iadd, 1) := by decide +kernel
theorem dX12_stands_105 : decode cX12_stands 105 = .ok (.istore 4, 2) := by decide +kernel
theorem dX12_stands_107 : decode cX12_stands 107 = .ok (.iload 4, 2) := by decide +kernel
theorem dX12_stands_109 : decode cX12_stands 109 = .ok (.iconst 1, 1) := by decide +kernel
theorem dX12_stands_110 : decode cX12_stands 110 = .ok (.iadd, 1) := by decide +kernel
theorem dX12_stands_111 : decode cX12_stands 111 = .ok (.aload_n 0, 1) := by decide +kernel
theorem dX12_stands_112 : decode cX12_stands 112 = .ok (.getfield 182, 3) := by decide +kernel
theorem dX12_stands_115 : decode cX12_stands 115 = .ok (.if_icmp .ge 40, 3) := by decide +kernel
theorem dX12_stands_118 : decode cX12_stands 118 = .ok (.aload_n 0, 1) := by decide +kernel
theorem dX12_stands_119 : decode cX12_stands 119 = .ok (.iload_n 2, 1) := by decide +kernel
theorem dX12_stands_120 : decode cX12_stands 120 = .ok (.aload_n 0, 1) := by decide +kernel
theorem dX12_stands_121 : decode cX12_stands 121 = .ok (.getfield 13, 3) := by decide +kernel
theorem dX12_stands_124 : decode cX12_stands 124 = .ok (.iload 4, 2) := by decide +kernel
theorem dX12_stands_126 : decode cX12_stands 126 = .ok (.iaload, 1) := by decide +kernel
theorem dX12_stands_127 : decode cX12_stands 127 = .ok (.invokevirtual 188, 3) := by decide +kernel
theorem dX12_stands_130 : decode cX12_stands 130 = .ok (.aload_n 0, 1) := by decide +kernel
theorem dX12_stands_131 : decode cX12_stands 131 = .ok (.iload_n 2, 1) := by decide +kernel
theorem dX12_stands_132 : decode cX12_stands 132 = .ok (.aload_n 0, 1) := by decide +kernel
theorem dX12_stands_133 : decode cX12_stands 133 = .ok (.getfield 13, 3) := by decide +kernel
theorem dX12_stands_136 : decode cX12_stands 136 = .ok (.iload 4, 2) := by decide +kernel
theorem dX12_stands_138 : decode cX12_stands 138 = .ok (.iconst 1, 1) := by decide +kernel
theorem dX12_stands_139 : decode cX12_stands 139 = .ok (.iadd, 1) := by decide +kernel
theorem dX12_stands_140 : decode cX12_stands 140 = .ok (.iaload, 1) := by decide +kernel
theorem dX12_stands_141 : decode cX12_stands 141 = .ok (.invokevirtual 188, 3) := by decide +kernel
theorem dX12_stands_144 : decode cX12_stands 144 = .ok (.if_icmp .eq 5, 3) := by decide +kernel
theorem dX12_stands_147 : decode cX12_stands 147 = .ok (.iconst 0, 1) := by decide +kernel
theorem dX12_stands_148 : decode cX12_stands 148 = .ok (.ireturn, 1) := by decide +kernel
theorem dX12_stands_149 : decode cX12_stands 149 = .ok (.iinc 4 2, 3) := by decide +kernel
theorem dX12_stands_152 : decode cX12_stands 152 = .ok (.goto (-45), 3) := by decide +kernel
theorem dX12_stands_155 : decode cX12_stands 155 = .ok (.iinc 2 1, 3) := by decide +kernel
theorem dX12_stands_158 : decode cX12_stands 158 = .ok (.goto (-131), 3) := by decide +kernel
theorem dX12_stands_161 : decode cX12_stands 161 = .ok (.iconst 1, 1) := by decide +kernel
theorem dX12_stands_162 : decode cX12_stands 162 = .ok (.ireturn, 1) := by decide +kernel
theorem dX12_between_0 : decode cX12_between 0 = .ok (.aload_n 0, 1) := by decide +kernel
theorem dX12_between_1 : decode cX12_between 1 = .ok (.getfield 13, 3) := by decide +kernel
theorem dX12_between_4 : decode cX12_between 4 = .ok (.iload_n 1, 1) := by decide +kernel
theorem dX12_between_5 : decode cX12_between 5 = .ok (.iaload, 1) := by decide +kernel
theorem dX12_between_6 : decode cX12_between 6 = .ok (.istore_n 3, 1) := by decide +kernel
theorem dX12_between_7 : decode cX12_between 7 = .ok (.aload_n 0, 1) := by decide +kernel
theorem dX12_between_8 : decode cX12_between 8 = .ok (.getfield 13, 3) := by decide +kernel
theorem dX12_between_11 : decode cX12_between 11 = .ok (.iload_n 1, 1) := by decide +kernel
theorem dX12_between_12 : decode cX12_between 12 = .ok (.iconst 1, 1) := by decide +kernel
theorem dX12_between_13 : decode cX12_between 13 = .ok (.iadd, 1) := by decide +kernel
theorem dX12_between_14 : decode cX12_between 14 = .ok (.iaload, 1) := by decide +kernel
theorem dX12_between_15 : decode cX12_between 15 = .ok (.istore 4, 2) := by decide +kernel
theorem dX12_between_17 : decode cX12_between 17 = .ok (.iload_n 3, 1) := by decide +kernel
theorem dX12_between_18 : decode cX12_between 18 = .ok (.iload 4, 2) := by decide +kernel
theorem dX12_between_20 : decode cX12_between 20 = .ok (.if_icmp .ge 22, 3) := by decide +kernel
theorem dX12_between_23 : decode cX12_between 23 = .ok (.iload_n 2, 1) := by decide +kernel
theorem dX12_between_24 : decode cX12_between 24 = .ok (.iload_n 3, 1) := by decide +kernel
theorem dX12_between_25 : decode cX12_between 25 = .ok (.if_icmp .le 13, 3) := by decide +kernel
theorem dX12_between_28 : decode cX12_between 28 = .ok (.iload_n 2, 1) := by decide +kernel
theorem dX12_between_29 : decode cX12_between 29 = .ok (.iload 4, 2) := by decide +kernel
theorem dX12_between_31 : decode cX12_between 31 = .ok (.if_icmp .ge 7, 3) := by decide +kernel
theorem dX12_between_34 : decode cX12_between 34 = .ok (.iconst 1, 1) := by decide +kernel
theorem dX12_between_35 : decode cX12_between 35 = .ok (.goto 23, 3) := by decide +kernel
theorem dX12_between_38 : decode cX12_between 38 = .ok (.iconst 0, 1) := by decide +kernel
theorem dX12_between_39 : decode cX12_between 39 = .ok (.goto 19, 3) := by decide +kernel
theorem dX12_between_42 : decode cX12_between 42 = .ok (.iload_n 2, 1) := by decide +kernel
theorem dX12_between_43 : decode cX12_between 43 = .ok (.iload 4, 2) := by decide +kernel
theorem dX12_between_45 : decode cX12_between 45 = .ok (.if_icmp .le 12, 3) := by decide +kernel
theorem dX12_between_48 : decode cX12_between 48 = .ok (.iload_n 2, 1) := by decide +kernel
theorem dX12_between_49 : decode cX12_between 49 = .ok (.iload_n 3, 1) := by decide +kernel
theorem dX12_between_50 : decode cX12_between 50 = .ok (.if_icmp .ge 7, 3) := by decide +kernel
theorem dX12_between_53 : decode cX12_between 53 = .ok (.iconst 1, 1) := by decide +kernel
theorem dX12_between_54 : decode cX12_between 54 = .ok (.goto 4, 3) := by decide +kernel
theorem dX12_between_57 : decode cX12_between 57 = .ok (.iconst 0, 1) := by decide +kernel
theorem dX12_between_58 : decode cX12_between 58 = .ok (.ireturn, 1) := by decide +kernel
theorem dX12_goThrough_0 : decode cX12_goThrough 0 = .ok (.iload_n 1, 1) := by decide +kernel
theorem dX12_goThrough_1 : decode cX12_goThrough 1 = .ok (.aload_n 0, 1) := by decide +kernel
theorem dX12_goThrough_2 : decode cX12_goThrough 2 = .ok (.getfield 182, 3) := by decide +kernel
theorem dX12_goThrough_5 : decode cX12_goThrough 5 = .ok (.if_icmp .ne 61, 3) := by decide +kernel
theorem dX12_goThrough_8 : decode cX12_goThrough 8 = .ok (.aload_n 0, 1) := by decide +kernel
theorem dX12_goThrough_9 : decode cX12_goThrough 9 = .ok (.aload_n 0, 1) := by decide +kernel
theorem dX12_goThrough_10 : decode cX12_goThrough 10 = .ok (.getfield 16, 3) := by decide +kernel
theorem dX12_goThrough_13 : decode cX12_goThrough 13 = .ok (.invokevirtual 192, 3) := by decide +kernel
theorem dX12_goThrough_16 : decode cX12_goThrough 16 = .ok (.ifCond .ne 4, 3) := by decide +kernel
theorem dX12_goThrough_19 : decode cX12_goThrough 19 = .ok (.return_, 1) := by decide +kernel
theorem dX12_goThrough_20 : decode cX12_goThrough 20 = .ok (.aload_n 0, 1) := by decide +kernel
theorem dX12_goThrough_21 : decode cX12_goThrough 21 = .ok (.getfield 196, 3) := by decide +kernel
theorem dX12_goThrough_24 : decode cX12_goThrough 24 = .ok (.ifCond .ne 31, 3) := by decide +kernel
theorem dX12_goThrough_27 : decode cX12_goThrough 27 = .ok (.iconst 0, 1) := by decide +kernel
theorem dX12_goThrough_28 : decode cX12_goThrough 28 = .ok (.istore_n 3, 1) := by decide +kernel
theorem dX12_goThrough_29 : decode cX12_goThrough 29 = .ok (.iload_n 3, 1) := by decide +kernel
theorem dX12_goThrough_30 : decode cX12_goThrough 30 = .ok (.aload_n 0, 1) := by decide +kernel
theorem dX12_goThrough_31 : decode cX12_goThrough 31 = .ok (.getfield 182, 3) := by decide +kernel
theorem dX12_goThrough_34 : decode cX12_goThrough 34 = .ok (.if_icmp .ge 21, 3) := by decide +kernel
theorem dX12_goThrough_37 : decode cX12_goThrough 37 = .ok (.aload_n 0, 1) := by decide +kernel
theorem dX12_goThrough_38 : decode cX12_goThrough 38 = .ok (.getfield 7, 3) := by decide +kernel
theorem dX12_goThrough_41 : decode cX12_goThrough 41 = .ok (.iload_n 3, 1) := by decide +kernel
theorem dX12_goThrough_42 : decode cX12_goThrough 42 = .ok (.aload_n 0, 1) := by decide +kernel
theorem dX12_goThrough_43 : decode cX12_goThrough 43 = .ok (.getfield 16, 3) := by decide +kernel
theorem dX12_goThrough_46 : decode cX12_goThrough 46 = .ok (.iload_n 3, 1) := by decide +kernel
theorem dX12_goThrough_47 : decode cX12_goThrough 47 = .ok (.iaload, 1) := by decide +kernel
theorem dX12_goThrough_48 : decode cX12_goThrough 48 = .ok (.iastore, 1) := by decide +kernel
theorem dX12_goThrough_49 : decode cX12_goThrough 49 = .ok (.iinc 3 1, 3) := by decide +kernel
theorem dX12_goThrough_52 : decode cX12_goThrough 52 = .ok (.goto (-23), 3) := by decide +kernel
theorem dX12_goThrough_55 : decode cX12_goThrough 55 = .ok (.aload_n 0, 1) := by decide +kernel
theorem dX12_goThrough_56 : decode cX12_goThrough 56 = .ok (.dup, 1) := by decide +kernel
theorem dX12_goThrough_57 : decode cX12_goThrough 57 = .ok (.getfield 196, 3) := by decide +kernel
theorem dX12_goThrough_60 : decode cX12_goThrough 60 = .ok (.iconst 1, 1) := by decide +kernel
theorem dX12_goThrough_61 : decode cX12_goThrough 61 = .ok (.iadd, 1) := by decide +kernel
theorem dX12_goThrough_62 : decode cX12_goThrough 62 = .ok (.putfield 196, 3) := by decide +kernel
theorem dX12_goThrough_65 : decode cX12_goThrough 65 = .ok (.return_, 1) := by decide +kernel
theorem dX12_goThrough_66 : decode cX12_goThrough 66 = .ok (.iconst 0, 1) := by decide +kernel
theorem dX12_goThrough_67 : decode cX12_goThrough 67 = .ok (.istore_n 3, 1) := by decide +kernel
theorem dX12_goThrough_68 : decode cX12_goThrough 68 = .ok (.iload_n 3, 1) := by decide +kernel
theorem dX12_goThrough_69 : decode cX12_goThrough 69 = .ok (.aload_n 0, 1) := by decide +kernel
theorem dX12_goThrough_70 : decode cX12_goThrough 70 = .ok (.getfield 182, 3) := by decide +kernel
theorem dX12_goThrough_73 : decode cX12_goThrough 73 = .ok (.if_icmp .ge 40, 3) := by decide +kernel
theorem dX12_goThrough_76 : decode cX12_goThrough 76 = .ok (.iload_n 2, 1) := by decide +kernel
theorem dX12_goThrough_77 : decode cX12_goThrough 77 = .ok (.iload_n 3, 1) := by decide +kernel
theorem dX12_goThrough_78 : decode cX12_goThrough 78 = .ok (.ishr, 1) := by decide +kernel
theorem dX12_goThrough_79 : decode cX12_goThrough 79 = .ok (.iconst 1, 1) := by decide +kernel
theorem dX12_goThrough_80 : decode cX12_goThrough 80 = .ok (.iand, 1) := by decide +kernel
theorem dX12_goThrough_81 : decode cX12_goThrough 81 = .ok (.iconst 1, 1) := by decide +kernel
theorem dX12_goThrough_82 : decode cX12_goThrough 82 = .ok (.if_icmp .ne 6, 3) := by decide +kernel
theorem dX12_goThrough_85 : decode cX12_goThrough 85 = .ok (.goto 22, 3) := by decide +kernel
theorem dX12_goThrough_88 : decode cX12_goThrough 88 = .ok (.aload_n 0, 1) := by decide +kernel
theorem dX12_goThrough_89 : decode cX12_goThrough 89 = .ok (.getfield 16, 3) := by decide +kernel
theorem dX12_goThrough_92 : decode cX12_goThrough 92 = .ok (.iload_n 1, 1) := by decide +kernel
theorem dX12_goThrough_93 : decode cX12_goThrough 93 = .ok (.iload_n 3, 1) := by decide +kernel
theorem dX12_goThrough_94 : decode cX12_goThrough 94 = .ok (.iastore, 1) := by decide +kernel
theorem dX12_goThrough_95 : decode cX12_goThrough 95 = .ok (.aload_n 0, 1) := by decide +kernel
theorem dX12_goThrough_96 : decode cX12_goThrough 96 = .ok (.iload_n 1, 1) := by decide +kernel
theorem dX12_goThrough_97 : decode cX12_goThrough 97 = .ok (.iconst 1, 1) := by decide +kernel
theorem dX12_goThrough_98 : decode cX12_goThrough 98 = .ok (.iadd, 1) := by decide +kernel
theorem dX12_goThrough_99 : decode cX12_goThrough 99 = .ok (.iload_n 2, 1) := by decide +kernel
theorem dX12_goThrough_100 : decode cX12_goThrough 100 = .ok (.iconst 1, 1) := by decide +kernel
theorem dX12_goThrough_101 : decode cX12_goThrough 101 = .ok (.iload_n 3, 1) := by decide +kernel
theorem dX12_goThrough_102 : decode cX12_goThrough 102 = .ok (.ishl, 1) := by decide +kernel
theorem dX12_goThrough_103 : decode cX12_goThrough 103 = .ok (.ior, 1) := by decide +kernel
theorem dX12_goThrough_104 : decode cX12_goThrough 104 = .ok (.invokevirtual 199, 3) := by decide +kernel
theorem dX12_goThrough_107 : decode cX12_goThrough 107 = .ok (.iinc 3 1, 3) := by decide +kernel
theorem dX12_goThrough_110 : decode cX12_goThrough 110 = .ok (.goto (-42), 3) := by decide +kernel
theorem dX12_goThrough_113 : decode cX12_goThrough 113 = .ok (.return_, 1) := by decide +kernel
theorem dX12_strip_0 : decode cX12_strip 0 = .ok (.aload_n 0, 1) := by decide +kernel
theorem dX12_strip_1 : decode cX12_strip 1 = .ok (.iconst 0, 1) := by decide +kernel
theorem dX12_strip_2 : decode cX12_strip 2 = .ok (.putfield 179, 3) := by decide +kernel
theorem dX12_strip_5 : decode cX12_strip 5 = .ok (.aload_n 0, 1) := by decide +kernel
theorem dX12_strip_6 : decode cX12_strip 6 = .ok (.iload_n 1, 1) := by decide +kernel
theorem dX12_strip_7 : decode cX12_strip 7 = .ok (.iconst 2, 1) := by decide +kernel
theorem dX12_strip_8 : decode cX12_strip 8 = .ok (.bipush 8, 2) := by decide +kernel
theorem dX12_strip_10 : decode cX12_strip 10 = .ok (.invokestatic 203, 3) := by decide +kernel
theorem dX12_strip_13 : decode cX12_strip 13 = .ok (.ifCond .eq 30, 3) := by decide +kernel
theorem dX12_strip_16 : decode cX12_strip 16 = .ok (.iload_n 2, 1) := by decide +kernel
theorem dX12_strip_17 : decode cX12_strip 17 = .ok (.ifCond .lt 26, 3) := by decide +kernel
theorem dX12_strip_20 : decode cX12_strip 20 = .ok (.iload_n 2, 1) := by decide +kernel
theorem dX12_strip_21 : decode cX12_strip 21 = .ok (.iconst 1, 1) := by decide +kernel
theorem dX12_strip_22 : decode cX12_strip 22 = .ok (.iload_n 1, 1) := by decide +kernel
theorem dX12_strip_23 : decode cX12_strip 23 = .ok (.iconst 2, 1) := by decide +kernel
theorem dX12_strip_24 : decode cX12_strip 24 = .ok (.bipush 8, 2) := by decide +kernel
theorem dX12_strip_26 : decode cX12_strip 26 = .ok (.invokestatic 203, 3) := by decide +kernel
theorem dX12_strip_29 : decode cX12_strip 29 = .ok (.ifCond .eq 9, 3) := by decide +kernel
theorem dX12_strip_32 : decode cX12_strip 32 = .ok (.iload_n 1, 1) := by decide +kernel
theorem dX12_strip_33 : decode cX12_strip 33 = .ok (.iconst 1, 1) := by decide +kernel
theorem dX12_strip_34 : decode cX12_strip 34 = .ok (.isub, 1) := by decide +kernel
theorem dX12_strip_35 : decode cX12_strip 35 = .ok (.goto 4, 3) := by decide +kernel
theorem dX12_strip_38 : decode cX12_strip 38 = .ok (.iconst 0, 1) := by decide +kernel
theorem dX12_strip_39 : decode cX12_strip 39 = .ok (.ishl, 1) := by decide +kernel
theorem dX12_strip_40 : decode cX12_strip 40 = .ok (.if_icmp .lt 7, 3) := by decide +kernel
theorem dX12_strip_43 : decode cX12_strip 43 = .ok (.iconst 1, 1) := by decide +kernel
theorem dX12_strip_44 : decode cX12_strip 44 = .ok (.goto 4, 3) := by decide +kernel
theorem dX12_strip_47 : decode cX12_strip 47 = .ok (.iconst 0, 1) := by decide +kernel
theorem dX12_strip_48 : decode cX12_strip 48 = .ok (.iconst 1, 1) := by decide +kernel
theorem dX12_strip_49 : decode cX12_strip 49 = .ok (.invokevirtual 207, 3) := by decide +kernel
theorem dX12_strip_52 : decode cX12_strip 52 = .ok (.ifCond .eq 5, 3) := by decide +kernel
theorem dX12_strip_55 : decode cX12_strip 55 = .ok (.iconst 0, 1) := by decide +kernel
theorem dX12_strip_56 : decode cX12_strip 56 = .ok (.ireturn, 1) := by decide +kernel
theorem dX12_strip_57 : decode cX12_strip 57 = .ok (.aload_n 0, 1) := by decide +kernel
theorem dX12_strip_58 : decode cX12_strip 58 = .ok (.iload_n 1, 1) := by decide +kernel
theorem dX12_strip_59 : decode cX12_strip 59 = .ok (.putfield 182, 3) := by decide +kernel
theorem dX12_strip_62 : decode cX12_strip 62 = .ok (.aload_n 0, 1) := by decide +kernel
theorem dX12_strip_63 : decode cX12_strip 63 = .ok (.iload_n 2, 1) := by decide +kernel
theorem dX12_strip_64 : decode cX12_strip 64 = .ok (.putfield 185, 3) := by decide +kernel
theorem dX12_strip_67 : decode cX12_strip 67 = .ok (.aload_n 0, 1) := by decide +kernel
theorem dX12_strip_68 : decode cX12_strip 68 = .ok (.iconst 0, 1) := by decide +kernel
theorem dX12_strip_69 : decode cX12_strip 69 = .ok (.putfield 196, 3) := by decide +kernel
theorem dX12_strip_72 : decode cX12_strip 72 = .ok (.iconst 0, 1) := by decide +kernel
theorem dX12_strip_73 : decode cX12_strip 73 = .ok (.istore_n 3, 1) := by decide +kernel
theorem dX12_strip_74 : decode cX12_strip 74 = .ok (.iload_n 3, 1) := by decide +kernel
theorem dX12_strip_75 : decode cX12_strip 75 = .ok (.bipush 8, 2) := by decide +kernel
theorem dX12_strip_77 : decode cX12_strip 77 = .ok (.if_icmp .ge 16, 3) := by decide +kernel
theorem dX12_strip_80 : decode cX12_strip 80 = .ok (.aload_n 0, 1) := by decide +kernel
theorem dX12_strip_81 : decode cX12_strip 81 = .ok (.getfield 22, 3) := by decide +kernel
theorem dX12_strip_84 : decode cX12_strip 84 = .ok (.iload_n 3, 1) := by decide +kernel
theorem dX12_strip_85 : decode cX12_strip 85 = .ok (.iconst 0, 1) := by decide +kernel
theorem dX12_strip_86 : decode cX12_strip 86 = .ok (.bastore, 1) := by decide +kernel
theorem dX12_strip_87 : decode cX12_strip 87 = .ok (.iinc 3 1, 3) := by decide +kernel
theorem dX12_strip_90 : decode cX12_strip 90 = .ok (.goto (-16), 3) := by decide +kernel
theorem dX12_strip_93 : decode cX12_strip 93 = .ok (.aload_n 0, 1) := by decide +kernel
theorem dX12_strip_94 : decode cX12_strip 94 = .ok (.iconst 0, 1) := by decide +kernel
theorem dX12_strip_95 : decode cX12_strip 95 = .ok (.iconst 0, 1) := by decide +kernel
theorem dX12_strip_96 : decode cX12_strip 96 = .ok (.invokevirtual 199, 3) := by decide +kernel
theorem dX12_strip_99 : decode cX12_strip 99 = .ok (.aload_n 0, 1) := by decide +kernel
theorem dX12_strip_100 : decode cX12_strip 100 = .ok (.getfield 196, 3) := by decide +kernel
theorem dX12_strip_103 : decode cX12_strip 103 = .ok (.ireturn, 1) := by decide +kernel
theorem dX12_layer_0 : decode cX12_layer 0 = .ok (.aload_n 0, 1) := by decide +kernel
theorem dX12_layer_1 : decode cX12_layer 1 = .ok (.iconst 0, 1) := by decide +kernel
theorem dX12_layer_2 : decode cX12_layer 2 = .ok (.putfield 179, 3) := by decide +kernel
theorem dX12_layer_5 : decode cX12_layer 5 = .ok (.aload_n 0, 1) := by decide +kernel
theorem dX12_layer_6 : decode cX12_layer 6 = .ok (.getfield 196, 3) := by decide +kernel
theorem dX12_layer_9 : decode cX12_layer 9 = .ok (.ifCond .le 26, 3) := by decide +kernel
theorem dX12_layer_12 : decode cX12_layer 12 = .ok (.iload_n 1, 1) := by decide +kernel
theorem dX12_layer_13 : decode cX12_layer 13 = .ok (.iconst 0, 1) := by decide +kernel
theorem dX12_layer_14 : decode cX12_layer 14 = .ok (.aload_n 0, 1) := by decide +kernel
theorem dX12_layer_15 : decode cX12_layer 15 = .ok (.getfield 182, 3) := by decide +kernel
theorem dX12_layer_18 : decode cX12_layer 18 = .ok (.iconst 1, 1) := by decide +kernel
theorem dX12_layer_19 : decode cX12_layer 19 = .ok (.isub, 1) := by decide +kernel
theorem dX12_layer_20 : decode cX12_layer 20 = .ok (.invokestatic 203, 3) := by decide +kernel
theorem dX12_layer_23 : decode cX12_layer 23 = .ok (.ifCond .eq 12, 3) := by decide +kernel
theorem dX12_layer_26 : decode cX12_layer 26 = .ok (.aload_n 0, 1) := by decide +kernel
theorem dX12_layer_27 : decode cX12_layer 27 = .ok (.getfield 7, 3) := by decide +kernel
theorem dX12_layer_30 : decode cX12_layer 30 = .ok (.iload_n 1, 1) := by decide +kernel
theorem dX12_layer_31 : decode cX12_layer 31 = .ok (.iaload, 1) := by decide +kernel
theorem dX12_layer_32 : decode cX12_layer 32 = .ok (.goto 4, 3) := by decide +kernel
theorem dX12_layer_35 : decode cX12_layer 35 = .ok (.iconst (-1), 1) := by decide +kernel
theorem dX12_layer_36 : decode cX12_layer 36 = .ok (.ireturn, 1) := by decide +kernel
theorem dX12_lies_0 : decode cX12_lies 0 = .ok (.aload_n 0, 1) := by decide +kernel
theorem dX12_lies_1 : decode cX12_lies 1 = .ok (.iconst 0, 1) := by decide +kernel
theorem dX12_lies_2 : decode cX12_lies 2 = .ok (.putfield 179, 3) := by decide +kernel
theorem dX12_lies_5 : decode cX12_lies 5 = .ok (.aload_n 0, 1) := by decide +kernel
theorem dX12_lies_6 : decode cX12_lies 6 = .ok (.aload_n 0, 1) := by decide +kernel
theorem dX12_lies_7 : decode cX12_lies 7 = .ok (.getfield 182, 3) := by decide +kernel
theorem dX12_lies_10 : decode cX12_lies 10 = .ok (.ifCond .ne 7, 3) := by decide +kernel
theorem dX12_lies_13 : decode cX12_lies 13 = .ok (.iconst 1, 1) := by decide +kernel
theorem dX12_lies_14 : decode cX12_lies 14 = .ok (.goto 4, 3) := by decide +kernel
theorem dX12_lies_17 : decode cX12_lies 17 = .ok (.iconst 0, 1) := by decide +kernel
theorem dX12_lies_18 : decode cX12_lies 18 = .ok (.iconst 1, 1) := by decide +kernel
theorem dX12_lies_19 : decode cX12_lies 19 = .ok (.invokevirtual 207, 3) := by decide +kernel
theorem dX12_lies_22 : decode cX12_lies 22 = .ok (.ifCond .ne 32, 3) := by decide +kernel
theorem dX12_lies_25 : decode cX12_lies 25 = .ok (.aload_n 0, 1) := by decide +kernel
theorem dX12_lies_26 : decode cX12_lies 26 = .ok (.iload_n 1, 1) := by decide +kernel
theorem dX12_lies_27 : decode cX12_lies 27 = .ok (.ifCond .lt 15, 3) := by decide +kernel
theorem dX12_lies_30 : decode cX12_lies 30 = .ok (.iload_n 1, 1) := by decide +kernel
theorem dX12_lies_31 : decode cX12_lies 31 = .ok (.iconst 1, 1) := by decide +kernel
theorem dX12_lies_32 : decode cX12_lies 32 = .ok (.iconst 3, 1) := by decide +kernel
theorem dX12_lies_33 : decode cX12_lies 33 = .ok (.aload_n 0, 1) := by decide +kernel
theorem dX12_lies_34 : decode cX12_lies 34 = .ok (.getfield 182, 3) := by decide +kernel
theorem dX12_lies_37 : decode cX12_lies 37 = .ok (.imul, 1) := by decide +kernel
theorem dX12_lies_38 : decode cX12_lies 38 = .ok (.ishl, 1) := by decide +kernel
theorem dX12_lies_39 : decode cX12_lies 39 = .ok (.if_icmp .lt 7, 3) := by decide +kernel
theorem dX12_lies_42 : decode cX12_lies 42 = .ok (.iconst 1, 1) := by decide +kernel
theorem dX12_lies_43 : decode cX12_lies 43 = .ok (.goto 4, 3) := by decide +kernel
theorem dX12_lies_46 : decode cX12_lies 46 = .ok (.iconst 0, 1) := by decide +kernel
theorem dX12_lies_47 : decode cX12_lies 47 = .ok (.iconst 2, 1) := by decide +kernel
theorem dX12_lies_48 : decode cX12_lies 48 = .ok (.invokevirtual 207, 3) := by decide +kernel
theorem dX12_lies_51 : decode cX12_lies 51 = .ok (.ifCond .eq 5, 3) := by decide +kernel
theorem dX12_lies_54 : decode cX12_lies 54 = .ok (.iconst 0, 1) := by decide +kernel
theorem dX12_lies_55 : decode cX12_lies 55 = .ok (.ireturn, 1) := by decide +kernel
theorem dX12_lies_56 : decode cX12_lies 56 = .ok (.iconst 0, 1) := by decide +kernel
theorem dX12_lies_57 : decode cX12_lies 57 = .ok (.istore_n 2, 1) := by decide +kernel
theorem dX12_lies_58 : decode cX12_lies 58 = .ok (.iconst 0, 1) := by decide +kernel
theorem dX12_lies_59 : decode cX12_lies 59 = .ok (.istore_n 3, 1) := by decide +kernel
theorem dX12_lies_60 : decode cX12_lies 60 = .ok (.iload_n 3, 1) := by decide +kernel
theorem dX12_lies_61 : decode cX12_lies 61 = .ok (.aload_n 0, 1) := by decide +kernel
theorem dX12_lies_62 : decode cX12_lies 62 = .ok (.getfield 182, 3) := by decide +kernel
theorem dX12_lies_65 : decode cX12_lies 65 = .ok (.if_icmp .ge 34, 3) := by decide +kernel
theorem dX12_lies_68 : decode cX12_lies 68 = .ok (.aload_n 0, 1) := by decide +kernel
theorem dX12_lies_69 : decode cX12_lies 69 = .ok (.getfield 16, 3) := by decide +kernel
theorem dX12_lies_72 : decode cX12_lies 72 = .ok (.iload_n 3, 1) := by decide +kernel
theorem dX12_lies_73 : decode cX12_lies 73 = .ok (.iload_n 1, 1) := by decide +kernel
theorem dX12_lies_74 : decode cX12_lies 74 = .ok (.iconst 3, 1) := by decide +kernel
theorem dX12_lies_75 : decode cX12_lies 75 = .ok (.iload_n 3, 1) := by decide +kernel
theorem dX12_lies_76 : decode cX12_lies 76 = .ok (.imul, 1) := by decide +kernel
theorem dX12_lies_77 : decode cX12_lies 77 = .ok (.ishr, 1) := by decide +kernel
theorem dX12_lies_78 : decode cX12_lies 78 = .ok (.bipush 7, 2) := by decide +kernel
theorem dX12_lies_80 : decode cX12_lies 80 = .ok (.iand, 1) := by decide +kernel
theorem dX12_lies_81 : decode cX12_lies 81 = .ok (.iastore, 1) := by decide +kernel
theorem dX12_lies_82 : decode cX12_lies 82 = .ok (.iload_n 2, 1) := by decide +kernel
theorem dX12_lies_83 : decode cX12_lies 83 = .ok (.iconst 1, 1) := by decide +kernel
theorem dX12_lies_84 : decode cX12_lies 84 = .ok (.aload_n 0, 1) := by decide +kernel
theorem dX12_lies_85 : decode cX12_lies 85 = .ok (.getfield 16, 3) := by decide +kernel
theorem dX12_lies_88 : decode cX12_lies 88 = .ok (.iload_n 3, 1) := by decide +kernel
theorem dX12_lies_89 : decode cX12_lies 89 = .ok (.iaload, 1) := by decide +kernel
theorem dX12_lies_90 : decode cX12_lies 90 = .ok (.ishl, 1) := by decide +kernel
theorem dX12_lies_91 : decode cX12_lies 91 = .ok (.ior, 1) := by decide +kernel
theorem dX12_lies_92 : decode cX12_lies 92 = .ok (.istore_n 2, 1) := by decide +kernel
theorem dX12_lies_93 : decode cX12_lies 93 = .ok (.iinc 3 1, 3) := by decide +kernel
theorem dX12_lies_96 : decode cX12_lies 96 = .ok (.goto (-36), 3) := by decide +kernel
theorem dX12_lies_99 : decode cX12_lies 99 = .ok (.aload_n 0, 1) := by decide +kernel
theorem dX12_lies_100 : decode cX12_lies 100 = .ok (.iload_n 2, 1) := by decide +kernel
theorem dX12_lies_101 : decode cX12_lies 101 = .ok (.iconst 1, 1) := by decide +kernel
theorem dX12_lies_102 : decode cX12_lies 102 = .ok (.aload_n 0, 1) := by decide +kernel
theorem dX12_lies_103 : decode cX12_lies 103 = .ok (.getfield 182, 3) := by decide +kernel
theorem dX12_lies_106 : decode cX12_lies 106 = .ok (.ishl, 1) := by decide +kernel
theorem dX12_lies_107 : decode cX12_lies 107 = .ok (.iconst 1, 1) := by decide +kernel
theorem dX12_lies_108 : decode cX12_lies 108 = .ok (.isub, 1) := by decide +kernel
theorem dX12_lies_109 : decode cX12_lies 109 = .ok (.if_icmp .eq 7, 3) := by decide +kernel
theorem dX12_lies_112 : decode cX12_lies 112 = .ok (.iconst 1, 1) := by decide +kernel
theorem dX12_lies_113 : decode cX12_lies 113 = .ok (.goto 4, 3) := by decide +kernel
theorem dX12_lies_116 : decode cX12_lies 116 = .ok (.iconst 0, 1) := by decide +kernel
theorem dX12_lies_117 : decode cX12_lies 117 = .ok (.iconst 2, 1) := by decide +kernel
theorem dX12_lies_118 : decode cX12_lies 118 = .ok (.invokevirtual 207, 3) := by decide +kernel
theorem dX12_lies_121 : decode cX12_lies 121 = .ok (.ifCond .eq 5, 3) := by decide +kernel
theorem dX12_lies_124 : decode cX12_lies 124 = .ok (.iconst 0, 1) := by decide +kernel
theorem dX12_lies_125 : decode cX12_lies 125 = .ok (.ireturn, 1) := by decide +kernel
theorem dX12_lies_126 : decode cX12_lies 126 = .ok (.aload_n 0, 1) := by decide +kernel
theorem dX12_lies_127 : decode cX12_lies 127 = .ok (.aload_n 0, 1) := by decide +kernel
theorem dX12_lies_128 : decode cX12_lies 128 = .ok (.getfield 16, 3) := by decide +kernel
theorem dX12_lies_131 : decode cX12_lies 131 = .ok (.invokevirtual 192, 3) := by decide +kernel
theorem dX12_lies_134 : decode cX12_lies 134 = .ok (.ireturn, 1) := by decide +kernel
theorem dX12_isClear_0 : decode cX12_isClear 0 = .ok (.iconst 0, 1) := by decide +kernel
theorem dX12_isClear_1 : decode cX12_isClear 1 = .ok (.istore_n 2, 1) := by decide +kernel
theorem dX12_isClear_2 : decode cX12_isClear 2 = .ok (.iload_n 2, 1) := by decide +kernel
theorem dX12_isClear_3 : decode cX12_isClear 3 = .ok (.aload_n 0, 1) := by decide +kernel
theorem dX12_isClear_4 : decode cX12_isClear 4 = .ok (.getfield 182, 3) := by decide +kernel
theorem dX12_isClear_7 : decode cX12_isClear 7 = .ok (.if_icmp .ge 21, 3) := by decide +kernel
theorem dX12_isClear_10 : decode cX12_isClear 10 = .ok (.aload_n 0, 1) := by decide +kernel
theorem dX12_isClear_11 : decode cX12_isClear 11 = .ok (.getfield 13, 3) := by decide +kernel
theorem dX12_isClear_14 : decode cX12_isClear 14 = .ok (.aload_n 0, 1) := by decide +kernel
theorem dX12_isClear_15 : decode cX12_isClear 15 = .ok (.getfield 7, 3) := by decide +kernel
theorem dX12_isClear_18 : decode cX12_isClear 18 = .ok (.iload_n 2, 1) := by decide +kernel
theorem dX12_isClear_19 : decode cX12_isClear 19 = .ok (.iaload, 1) := by decide +kernel
theorem dX12_isClear_20 : decode cX12_isClear 20 = .ok (.iload_n 2, 1) := by decide +kernel
theorem dX12_isClear_21 : decode cX12_isClear 21 = .ok (.iastore, 1) := by decide +kernel
theorem dX12_isClear_22 : decode cX12_isClear 22 = .ok (.iinc 2 1, 3) := by decide +kernel
theorem dX12_isClear_25 : decode cX12_isClear 25 = .ok (.goto (-23), 3) := by decide +kernel
theorem dX12_isClear_28 : decode cX12_isClear 28 = .ok (.iload_n 1, 1) := by decide +kernel
theorem dX12_isClear_29 : decode cX12_isClear 29 = .ok (.istore_n 2, 1) := by decide +kernel
theorem dX12_isClear_30 : decode cX12_isClear 30 = .ok (.iload_n 1, 1) := by decide +kernel
theorem dX12_isClear_31 : decode cX12_isClear 31 = .ok (.iconst 1, 1) := by decide +kernel
theorem dX12_isClear_32 : decode cX12_isClear 32 = .ok (.iadd, 1) := by decide +kernel
theorem dX12_isClear_33 : decode cX12_isClear 33 = .ok (.istore_n 3, 1) := by decide +kernel
theorem dX12_isClear_34 : decode cX12_isClear 34 = .ok (.iload_n 2, 1) := by decide +kernel
theorem dX12_isClear_35 : decode cX12_isClear 35 = .ok (.ifCond .le 20, 3) := by decide +kernel
theorem dX12_isClear_38 : decode cX12_isClear 38 = .ok (.aload_n 0, 1) := by decide +kernel
theorem dX12_isClear_39 : decode cX12_isClear 39 = .ok (.getfield 22, 3) := by decide +kernel
theorem dX12_isClear_42 : decode cX12_isClear 42 = .ok (.iload_n 2, 1) := by decide +kernel
theorem dX12_isClear_43 : decode cX12_isClear 43 = .ok (.iconst 1, 1) := by decide +kernel
theorem dX12_isClear_44 : decode cX12_isClear 44 = .ok (.isub, 1) := by decide +kernel
theorem dX12_isClear_45 : decode cX12_isClear 45 = .ok (.baload, 1) := by decide +kernel
theorem dX12_isClear_46 : decode cX12_isClear 46 = .ok (.ifCond .ne 9, 3) := by decide +kernel
theorem dX12_isClear_49 : decode cX12_isClear 49 = .ok (.iinc 2 (-1), 3) := by decide +kernel
theorem dX12_isClear_52 : decode cX12_isClear 52 = .ok (.goto (-18), 3) := by decide +kernel
theorem dX12_isClear_55 : decode cX12_isClear 55 = .ok (.iload_n 3, 1) := by decide +kernel
theorem dX12_isClear_56 : decode cX12_isClear 56 = .ok (.aload_n 0, 1) := by decide +kernel
theorem dX12_isClear_57 : decode cX12_isClear 57 = .ok (.getfield 182, 3) := by decide +kernel
theorem dX12_isClear_60 : decode cX12_isClear 60 = .ok (.iconst 1, 1) := by decide +kernel
theorem dX12_isClear_61 : decode cX12_isClear 61 = .ok (.isub, 1) := by decide +kernel
theorem dX12_isClear_62 : decode cX12_isClear 62 = .ok (.if_icmp .ge 18, 3) := by decide +kernel
theorem dX12_isClear_65 : decode cX12_isClear 65 = .ok (.aload_n 0, 1) := by decide +kernel
theorem dX12_isClear_66 : decode cX12_isClear 66 = .ok (.getfield 22, 3) := by decide +kernel
theorem dX12_isClear_69 : decode cX12_isClear 69 = .ok (.iload_n 3, 1) := by decide +kernel
theorem dX12_isClear_70 : decode cX12_isClear 70 = .ok (.baload, 1) := by decide +kernel
theorem dX12_isClear_71 : decode cX12_isClear 71 = .ok (.ifCond .ne 9, 3) := by decide +kernel
theorem dX12_isClear_74 : decode cX12_isClear 74 = .ok (.iinc 3 1, 3) := by decide +kernel
theorem dX12_isClear_77 : decode cX12_isClear 77 = .ok (.goto (-22), 3) := by decide +kernel
theorem dX12_isClear_80 : decode cX12_isClear 80 = .ok (.bipush 9, 2) := by decide +kernel
theorem dX12_isClear_82 : decode cX12_isClear 82 = .ok (.istore 4, 2) := by decide +kernel
theorem dX12_isClear_84 : decode cX12_isClear 84 = .ok (.iconst (-1), 1) := by decide +kernel
theorem dX12_isClear_85 : decode cX12_isClear 85 = .ok (.istore 5, 2) := by decide +kernel
theorem dX12_isClear_87 : decode cX12_isClear 87 = .ok (.bipush 9, 2) := by decide +kernel
theorem dX12_isClear_89 : decode cX12_isClear 89 = .ok (.istore 6, 2) := by decide +kernel
theorem dX12_isClear_91 : decode cX12_isClear 91 = .ok (.iconst (-1), 1) := by decide +kernel
theorem dX12_isClear_92 : decode cX12_isClear 92 = .ok (.istore 7, 2) := by decide +kernel
theorem dX12_isClear_94 : decode cX12_isClear 94 = .ok (.iload_n 2, 1) := by decide +kernel
theorem dX12_isClear_95 : decode cX12_isClear 95 = .ok (.istore 8, 2) := by decide +kernel
theorem dX12_isClear_97 : decode cX12_isClear 97 = .ok (.iload 8, 2) := by decide +kernel
theorem dX12_isClear_99 : decode cX12_isClear 99 = .ok (.iload_n 3, 1) := by decide +kernel
theorem dX12_isClear_100 : decode cX12_isClear 100 = .ok (.if_icmp .gt 91, 3) := by decide +kernel
theorem dX12_isClear_103 : decode cX12_isClear 103 = .ok (.aload_n 0, 1) := by decide +kernel
theorem dX12_isClear_104 : decode cX12_isClear 104 = .ok (.getfield 13, 3) := by decide +kernel
theorem dX12_isClear_107 : decode cX12_isClear 107 = .ok (.iload 8, 2) := by decide +kernel
theorem dX12_isClear_109 : decode cX12_isClear 109 = .ok (.iaload, 1) := by decide +kernel
theorem dX12_isClear_110 : decode cX12_isClear 110 = .ok (.istore 9, 2) := by decide +kernel
theorem dX12_isClear_112 : decode cX12_isClear 112 = .ok (.iload 8, 2) := by decide +kernel
theorem dX12_isClear_114 : decode cX12_isClear 114 = .ok (.iload_n 1, 1) := by decide +kernel
theorem dX12_isClear_115 : decode cX12_isClear 115 = .ok (.if_icmp .gt 38, 3) := by decide +kernel
theorem dX12_isClear_118 : decode cX12_isClear 118 = .ok (.iload 9, 2) := by decide +kernel
theorem dX12_isClear_120 : decode cX12_isClear 120 = .ok (.iload 4, 2) := by decide +kernel
theorem dX12_isClear_122 : decode cX12_isClear 122 = .ok (.if_icmp .ge 8, 3) := by decide +kernel
theorem dX12_isClear_125 : decode cX12_isClear 125 = .ok (.iload 9, 2) := by decide +kernel
theorem dX12_isClear_127 : decode cX12_isClear 127 = .ok (.goto 5, 3) := by decide +kernel
theorem dX12_isClear_130 : decode cX12_isClear 130 = .ok (.iload 4, 2) := by decide +kernel
theorem dX12_isClear_132 : decode cX12_isClear 132 = .ok (.istore 4, 2) := by decide +kernel
theorem dX12_isClear_134 : decode cX12_isClear 134 = .ok (.iload 9, 2) := by decide +kernel
theorem dX12_isClear_136 : decode cX12_isClear 136 = .ok (.iload 5, 2) := by decide +kernel
theorem dX12_isClear_138 : decode cX12_isClear 138 = .ok (.if_icmp .le 8, 3) := by decide +kernel
theorem dX12_isClear_141 : decode cX12_isClear 141 = .ok (.iload 9, 2) := by decide +kernel
theorem dX12_isClear_143 : decode cX12_isClear 143 = .ok (.goto 5, 3) := by decide +kernel
theorem dX12_isClear_146 : decode cX12_isClear 146 = .ok (.iload 5, 2) := by decide +kernel
theorem dX12_isClear_148 : decode cX12_isClear 148 = .ok (.istore 5, 2) := by decide +kernel
theorem dX12_isClear_150 : decode cX12_isClear 150 = .ok (.goto 35, 3) := by decide +kernel
theorem dX12_isClear_153 : decode cX12_isClear 153 = .ok (.iload 9, 2) := by decide +kernel
theorem dX12_isClear_155 : decode cX12_isClear 155 = .ok (.iload 6, 2) := by decide +kernel
theorem dX12_isClear_157 : decode cX12_isClear 157 = .ok (.if_icmp .ge 8, 3) := by decide +kernel
theorem dX12_isClear_160 : decode cX12_isClear 160 = .ok (.iload 9, 2) := by decide +kernel
theorem dX12_isClear_162 : decode cX12_isClear 162 = .ok (.goto 5, 3) := by decide +kernel
theorem dX12_isClear_165 : decode cX12_isClear 165 = .ok (.iload 6, 2) := by decide +kernel
theorem dX12_isClear_167 : decode cX12_isClear 167 = .ok (.istore 6, 2) := by decide +kernel
theorem dX12_isClear_169 : decode cX12_isClear 169 = .ok (.iload 9, 2) := by decide +kernel
theorem dX12_isClear_171 : decode cX12_isClear 171 = .ok (.iload 7, 2) := by decide +kernel
theorem dX12_isClear_173 : decode cX12_isClear 173 = .ok (.if_icmp .le 8, 3) := by decide +kernel
theorem dX12_isClear_176 : decode cX12_isClear 176 = .ok (.iload 9, 2) := by decide +kernel
theorem dX12_isClear_178 : decode cX12_isClear 178 = .ok (.goto 5, 3) := by decide +kernel
theorem dX12_isClear_181 : decode cX12_isClear 181 = .ok (.iload 7, 2) := by decide +kernel
theorem dX12_isClear_183 : decode cX12_isClear 183 = .ok (.istore 7, 2) := by decide +kernel
theorem dX12_isClear_185 : decode cX12_isClear 185 = .ok (.iinc 8 1, 3) := by decide +kernel
theorem dX12_isClear_188 : decode cX12_isClear 188 = .ok (.goto (-91), 3) := by decide +kernel
theorem dX12_isClear_191 : decode cX12_isClear 191 = .ok (.iload 4, 2) := by decide +kernel
theorem dX12_isClear_193 : decode cX12_isClear 193 = .ok (.iload 7, 2) := by decide +kernel
theorem dX12_isClear_195 : decode cX12_isClear 195 = .ok (.if_icmp .gt 10, 3) := by decide +kernel
theorem dX12_isClear_198 : decode cX12_isClear 198 = .ok (.iload 5, 2) := by decide +kernel
theorem dX12_isClear_200 : decode cX12_isClear 200 = .ok (.iload 6, 2) := by decide +kernel
theorem dX12_isClear_202 : decode cX12_isClear 202 = .ok (.if_icmp .ge 7, 3) := by decide +kernel
theorem dX12_isClear_205 : decode cX12_isClear 205 = .ok (.iconst 1, 1) := by decide +kernel
theorem dX12_isClear_206 : decode cX12_isClear 206 = .ok (.goto 4, 3) := by decide +kernel
theorem dX12_isClear_209 : decode cX12_isClear 209 = .ok (.iconst 0, 1) := by decide +kernel
theorem dX12_isClear_210 : decode cX12_isClear 210 = .ok (.ireturn, 1) := by decide +kernel
theorem dX12_clear_0 : decode cX12_clear 0 = .ok (.aload_n 0, 1) := by decide +kernel
theorem dX12_clear_1 : decode cX12_clear 1 = .ok (.iconst 0, 1) := by decide +kernel
theorem dX12_clear_2 : decode cX12_clear 2 = .ok (.putfield 179, 3) := by decide +kernel
theorem dX12_clear_5 : decode cX12_clear 5 = .ok (.aload_n 0, 1) := by decide +kernel
theorem dX12_clear_6 : decode cX12_clear 6 = .ok (.aload_n 0, 1) := by decide +kernel
theorem dX12_clear_7 : decode cX12_clear 7 = .ok (.getfield 196, 3) := by decide +kernel
theorem dX12_clear_10 : decode cX12_clear 10 = .ok (.ifCond .ne 7, 3) := by decide +kernel
theorem dX12_clear_13 : decode cX12_clear 13 = .ok (.iconst 1, 1) := by decide +kernel
theorem dX12_clear_14 : decode cX12_clear 14 = .ok (.goto 4, 3) := by decide +kernel
theorem dX12_clear_17 : decode cX12_clear 17 = .ok (.iconst 0, 1) := by decide +kernel
theorem dX12_clear_18 : decode cX12_clear 18 = .ok (.iconst 1, 1) := by decide +kernel
theorem dX12_clear_19 : decode cX12_clear 19 = .ok (.invokevirtual 207, 3) := by decide +kernel
theorem dX12_clear_22 : decode cX12_clear 22 = .ok (.ifCond .ne 44, 3) := by decide +kernel
theorem dX12_clear_25 : decode cX12_clear 25 = .ok (.aload_n 0, 1) := by decide +kernel
theorem dX12_clear_26 : decode cX12_clear 26 = .ok (.iload_n 1, 1) := by decide +kernel
theorem dX12_clear_27 : decode cX12_clear 27 = .ok (.iconst 0, 1) := by decide +kernel
theorem dX12_clear_28 : decode cX12_clear 28 = .ok (.aload_n 0, 1) := by decide +kernel
theorem dX12_clear_29 : decode cX12_clear 29 = .ok (.getfield 182, 3) := by decide +kernel
theorem dX12_clear_32 : decode cX12_clear 32 = .ok (.iconst 2, 1) := by decide +kernel
theorem dX12_clear_33 : decode cX12_clear 33 = .ok (.isub, 1) := by decide +kernel
theorem dX12_clear_34 : decode cX12_clear 34 = .ok (.invokestatic 203, 3) := by decide +kernel
theorem dX12_clear_37 : decode cX12_clear 37 = .ok (.ifCond .ne 7, 3) := by decide +kernel
theorem dX12_clear_40 : decode cX12_clear 40 = .ok (.iconst 1, 1) := by decide +kernel
theorem dX12_clear_41 : decode cX12_clear 41 = .ok (.goto 4, 3) := by decide +kernel
theorem dX12_clear_44 : decode cX12_clear 44 = .ok (.iconst 0, 1) := by decide +kernel
theorem dX12_clear_45 : decode cX12_clear 45 = .ok (.iconst 2, 1) := by decide +kernel
theorem dX12_clear_46 : decode cX12_clear 46 = .ok (.invokevirtual 207, 3) := by decide +kernel
theorem dX12_clear_49 : decode cX12_clear 49 = .ok (.ifCond .ne 17, 3) := by decide +kernel
theorem dX12_clear_52 : decode cX12_clear 52 = .ok (.aload_n 0, 1) := by decide +kernel
theorem dX12_clear_53 : decode cX12_clear 53 = .ok (.aload_n 0, 1) := by decide +kernel
theorem dX12_clear_54 : decode cX12_clear 54 = .ok (.getfield 22, 3) := by decide +kernel
theorem dX12_clear_57 : decode cX12_clear 57 = .ok (.iload_n 1, 1) := by decide +kernel
theorem dX12_clear_58 : decode cX12_clear 58 = .ok (.baload, 1) := by decide +kernel
theorem dX12_clear_59 : decode cX12_clear 59 = .ok (.iconst 3, 1) := by decide +kernel
theorem dX12_clear_60 : decode cX12_clear 60 = .ok (.invokevirtual 207, 3) := by decide +kernel
theorem dX12_clear_63 : decode cX12_clear 63 = .ok (.ifCond .eq 5, 3) := by decide +kernel
theorem dX12_clear_66 : decode cX12_clear 66 = .ok (.iconst 0, 1) := by decide +kernel
theorem dX12_clear_67 : decode cX12_clear 67 = .ok (.ireturn, 1) := by decide +kernel
theorem dX12_clear_68 : decode cX12_clear 68 = .ok (.aload_n 0, 1) := by decide +kernel
theorem dX12_clear_69 : decode cX12_clear 69 = .ok (.iload_n 1, 1) := by decide +kernel
theorem dX12_clear_70 : decode cX12_clear 70 = .ok (.invokevirtual 211, 3) := by decide +kernel
theorem dX12_clear_73 : decode cX12_clear 73 = .ok (.ireturn, 1) := by decide +kernel
theorem dX12_open_0 : decode cX12_open 0 = .ok (.aload_n 0, 1) := by decide +kernel
theorem dX12_open_1 : decode cX12_open 1 = .ok (.iconst 0, 1) := by decide +kernel
theorem dX12_open_2 : decode cX12_open 2 = .ok (.putfield 179, 3) := by decide +kernel
theorem dX12_open_5 : decode cX12_open 5 = .ok (.aload_n 0, 1) := by decide +kernel
theorem dX12_open_6 : decode cX12_open 6 = .ok (.aload_n 0, 1) := by decide +kernel
theorem dX12_open_7 : decode cX12_open 7 = .ok (.getfield 196, 3) := by decide +kernel
theorem dX12_open_10 : decode cX12_open 10 = .ok (.ifCond .ne 7, 3) := by decide +kernel
theorem dX12_open_13 : decode cX12_open 13 = .ok (.iconst 1, 1) := by decide +kernel
theorem dX12_open_14 : decode cX12_open 14 = .ok (.goto 4, 3) := by decide +kernel
theorem dX12_open_17 : decode cX12_open 17 = .ok (.iconst 0, 1) := by decide +kernel
theorem dX12_open_18 : decode cX12_open 18 = .ok (.iconst 1, 1) := by decide +kernel
theorem dX12_open_19 : decode cX12_open 19 = .ok (.invokevirtual 207, 3) := by decide +kernel
theorem dX12_open_22 : decode cX12_open 22 = .ok (.ifCond .ne 30, 3) := by decide +kernel
theorem dX12_open_25 : decode cX12_open 25 = .ok (.aload_n 0, 1) := by decide +kernel
theorem dX12_open_26 : decode cX12_open 26 = .ok (.iload_n 1, 1) := by decide +kernel
theorem dX12_open_27 : decode cX12_open 27 = .ok (.iconst 0, 1) := by decide +kernel
theorem dX12_open_28 : decode cX12_open 28 = .ok (.aload_n 0, 1) := by decide +kernel
theorem dX12_open_29 : decode cX12_open 29 = .ok (.getfield 182, 3) := by decide +kernel
theorem dX12_open_32 : decode cX12_open 32 = .ok (.iconst 2, 1) := by decide +kernel
theorem dX12_open_33 : decode cX12_open 33 = .ok (.isub, 1) := by decide +kernel
theorem dX12_open_34 : decode cX12_open 34 = .ok (.invokestatic 203, 3) := by decide +kernel
theorem dX12_open_37 : decode cX12_open 37 = .ok (.ifCond .ne 7, 3) := by decide +kernel
theorem dX12_open_40 : decode cX12_open 40 = .ok (.iconst 1, 1) := by decide +kernel
theorem dX12_open_41 : decode cX12_open 41 = .ok (.goto 4, 3) := by decide +kernel
theorem dX12_open_44 : decode cX12_open 44 = .ok (.iconst 0, 1) := by decide +kernel
theorem dX12_open_45 : decode cX12_open 45 = .ok (.iconst 2, 1) := by decide +kernel
theorem dX12_open_46 : decode cX12_open 46 = .ok (.invokevirtual 207, 3) := by decide +kernel
theorem dX12_open_49 : decode cX12_open 49 = .ok (.ifCond .eq 5, 3) := by decide +kernel
theorem dX12_open_52 : decode cX12_open 52 = .ok (.iconst 0, 1) := by decide +kernel
theorem dX12_open_53 : decode cX12_open 53 = .ok (.ireturn, 1) := by decide +kernel
theorem dX12_open_54 : decode cX12_open 54 = .ok (.aload_n 0, 1) := by decide +kernel
theorem dX12_open_55 : decode cX12_open 55 = .ok (.getfield 22, 3) := by decide +kernel
theorem dX12_open_58 : decode cX12_open 58 = .ok (.iload_n 1, 1) := by decide +kernel
theorem dX12_open_59 : decode cX12_open 59 = .ok (.baload, 1) := by decide +kernel
theorem dX12_open_60 : decode cX12_open 60 = .ok (.ifCond .eq 5, 3) := by decide +kernel
theorem dX12_open_63 : decode cX12_open 63 = .ok (.iconst (-1), 1) := by decide +kernel
theorem dX12_open_64 : decode cX12_open 64 = .ok (.ireturn, 1) := by decide +kernel
theorem dX12_open_65 : decode cX12_open 65 = .ok (.aload_n 0, 1) := by decide +kernel
theorem dX12_open_66 : decode cX12_open 66 = .ok (.iload_n 1, 1) := by decide +kernel
theorem dX12_open_67 : decode cX12_open 67 = .ok (.invokevirtual 211, 3) := by decide +kernel
theorem dX12_open_70 : decode cX12_open 70 = .ok (.ifCond .ne 5, 3) := by decide +kernel
theorem dX12_open_73 : decode cX12_open 73 = .ok (.iconst 0, 1) := by decide +kernel
theorem dX12_open_74 : decode cX12_open 74 = .ok (.ireturn, 1) := by decide +kernel
theorem dX12_open_75 : decode cX12_open 75 = .ok (.aload_n 0, 1) := by decide +kernel
theorem dX12_open_76 : decode cX12_open 76 = .ok (.getfield 22, 3) := by decide +kernel
theorem dX12_open_79 : decode cX12_open 79 = .ok (.iload_n 1, 1) := by decide +kernel
theorem dX12_open_80 : decode cX12_open 80 = .ok (.iconst 1, 1) := by decide +kernel
theorem dX12_open_81 : decode cX12_open 81 = .ok (.bastore, 1) := by decide +kernel
theorem dX12_open_82 : decode cX12_open 82 = .ok (.iconst 1, 1) := by decide +kernel
theorem dX12_open_83 : decode cX12_open 83 = .ok (.ireturn, 1) := by decide +kernel
theorem dX12_countOrders_0 : decode cX12_countOrders 0 = .ok (.iconst 0, 1) := by decide +kernel
theorem dX12_countOrders_1 : decode cX12_countOrders 1 = .ok (.istore_n 2, 1) := by decide +kernel
theorem dX12_countOrders_2 : decode cX12_countOrders 2 = .ok (.iconst (-1), 1) := by decide +kernel
theorem dX12_countOrders_3 : decode cX12_countOrders 3 = .ok (.istore_n 3, 1) := by decide +kernel
theorem dX12_countOrders_4 : decode cX12_countOrders 4 = .ok (.iconst 0, 1) := by decide +kernel
theorem dX12_countOrders_5 : decode cX12_countOrders 5 = .ok (.istore 4, 2) := by decide +kernel
theorem dX12_countOrders_7 : decode cX12_countOrders 7 = .ok (.iconst 0, 1) := by decide +kernel
theorem dX12_countOrders_8 : decode cX12_countOrders 8 = .ok (.istore 5, 2) := by decide +kernel
theorem dX12_countOrders_10 : decode cX12_countOrders 10 = .ok (.iload 5, 2) := by decide +kernel
theorem dX12_countOrders_12 : decode cX12_countOrders 12 = .ok (.iconst 1, 1) := by decide +kernel
theorem dX12_countOrders_13 : decode cX12_countOrders 13 = .ok (.iadd, 1) := by decide +kernel
theorem dX12_countOrders_14 : decode cX12_countOrders 14 = .ok (.aload_n 0, 1) := by decide +kernel
theorem dX12_countOrders_15 : decode cX12_countOrders 15 = .ok (.getfield 182, 3) := by decide +kernel
theorem dX12_countOrders_18 : decode cX12_countOrders 18 = .ok (.if_icmp .ge 80, 3) := by decide +kernel
theorem dX12_countOrders_21 : decode cX12_countOrders 21 = .ok (.aload_n 0, 1) := by decide +kernel
theorem dX12_countOrders_22 : decode cX12_countOrders 22 = .ok (.getfield 22, 3) := by decide +kernel
theorem dX12_countOrders_25 : decode cX12_countOrders 25 = .ok (.iload 5, 2) := by decide +kernel
theorem dX12_countOrders_27 : decode cX12_countOrders 27 = .ok (.baload, 1) := by decide +kernel
theorem dX12_countOrders_28 : decode cX12_countOrders 28 = .ok (.ifCond .eq 6, 3) := by decide +kernel
theorem dX12_countOrders_31 : decode cX12_countOrders 31 = .ok (.goto 61, 3) := by decide +kernel
theorem dX12_countOrders_34 : decode cX12_countOrders 34 = .ok (.iinc 4 1, 3) := by decide +kernel
theorem dX12_countOrders_37 : decode cX12_countOrders 37 = .ok (.aload_n 0, 1) := by decide +kernel
theorem dX12_countOrders_38 : decode cX12_countOrders 38 = .ok (.iload 5, 2) := by decide +kernel
theorem dX12_countOrders_40 : decode cX12_countOrders 40 = .ok (.invokevirtual 211, 3) := by decide +kernel
theorem dX12_countOrders_43 : decode cX12_countOrders 43 = .ok (.ifCond .ne 6, 3) := by decide +kernel
theorem dX12_countOrders_46 : decode cX12_countOrders 46 = .ok (.goto 46, 3) := by decide +kernel
theorem dX12_countOrders_49 : decode cX12_countOrders 49 = .ok (.aload_n 0, 1) := by decide +kernel
theorem dX12_countOrders_50 : decode cX12_countOrders 50 = .ok (.getfield 22, 3) := by decide +kernel
theorem dX12_countOrders_53 : decode cX12_countOrders 53 = .ok (.iload 5, 2) := by decide +kernel
theorem dX12_countOrders_55 : decode cX12_countOrders 55 = .ok (.iconst 1, 1) := by decide +kernel
theorem dX12_countOrders_56 : decode cX12_countOrders 56 = .ok (.bastore, 1) := by decide +kernel
theorem dX12_countOrders_57 : decode cX12_countOrders 57 = .ok (.aload_n 0, 1) := by decide +kernel
theorem dX12_countOrders_58 : decode cX12_countOrders 58 = .ok (.iload_n 1, 1) := by decide +kernel
theorem dX12_countOrders_59 : decode cX12_countOrders 59 = .ok (.iconst 1, 1) := by decide +kernel
theorem dX12_countOrders_60 : decode cX12_countOrders 60 = .ok (.iadd, 1) := by decide +kernel
theorem dX12_countOrders_61 : decode cX12_countOrders 61 = .ok (.invokevirtual 215, 3) := by decide +kernel
theorem dX12_countOrders_64 : decode cX12_countOrders 64 = .ok (.istore 6, 2) := by decide +kernel
theorem dX12_countOrders_66 : decode cX12_countOrders 66 = .ok (.aload_n 0, 1) := by decide +kernel
theorem dX12_countOrders_67 : decode cX12_countOrders 67 = .ok (.getfield 22, 3) := by decide +kernel
theorem dX12_countOrders_70 : decode cX12_countOrders 70 = .ok (.iload 5, 2) := by decide +kernel
theorem dX12_countOrders_72 : decode cX12_countOrders 72 = .ok (.iconst 0, 1) := by decide +kernel
theorem dX12_countOrders_73 : decode cX12_countOrders 73 = .ok (.bastore, 1) := by decide +kernel
theorem dX12_countOrders_74 : decode cX12_countOrders 74 = .ok (.iload 6, 2) := by decide +kernel
theorem dX12_countOrders_76 : decode cX12_countOrders 76 = .ok (.ifCond .le 11, 3) := by decide +kernel
theorem dX12_countOrders_79 : decode cX12_countOrders 79 = .ok (.iload_n 3, 1) := by decide +kernel
theorem dX12_countOrders_80 : decode cX12_countOrders 80 = .ok (.iconst (-1), 1) := by decide +kernel
theorem dX12_countOrders_81 : decode cX12_countOrders 81 = .ok (.if_icmp .ne 6, 3) := by decide +kernel
theorem dX12_countOrders_84 : decode cX12_countOrders 84 = .ok (.iload 5, 2) := by decide +kernel
theorem dX12_countOrders_86 : decode cX12_countOrders 86 = .ok (.istore_n 3, 1) := by decide +kernel
theorem dX12_countOrders_87 : decode cX12_countOrders 87 = .ok (.iload_n 2, 1) := by decide +kernel
theorem dX12_countOrders_88 : decode cX12_countOrders 88 = .ok (.iload 6, 2) := by decide +kernel
theorem dX12_countOrders_90 : decode cX12_countOrders 90 = .ok (.iadd, 1) := by decide +kernel
theorem dX12_countOrders_91 : decode cX12_countOrders 91 = .ok (.istore_n 2, 1) := by decide +kernel
theorem dX12_countOrders_92 : decode cX12_countOrders 92 = .ok (.iinc 5 1, 3) := by decide +kernel
theorem dX12_countOrders_95 : decode cX12_countOrders 95 = .ok (.goto (-85), 3) := by decide +kernel
theorem dX12_countOrders_98 : decode cX12_countOrders 98 = .ok (.iload 4, 2) := by decide +kernel
theorem dX12_countOrders_100 : decode cX12_countOrders 100 = .ok (.ifCond .ne 5, 3) := by decide +kernel
theorem dX12_countOrders_103 : decode cX12_countOrders 103 = .ok (.iconst 1, 1) := by decide +kernel
theorem dX12_countOrders_104 : decode cX12_countOrders 104 = .ok (.ireturn, 1) := by decide +kernel
theorem dX12_countOrders_105 : decode cX12_countOrders 105 = .ok (.iload_n 2, 1) := by decide +kernel
theorem dX12_countOrders_106 : decode cX12_countOrders 106 = .ok (.ireturn, 1) := by decide +kernel
theorem dX12_orders_0 : decode cX12_orders 0 = .ok (.aload_n 0, 1) := by decide +kernel
theorem dX12_orders_1 : decode cX12_orders 1 = .ok (.iconst 0, 1) := by decide +kernel
theorem dX12_orders_2 : decode cX12_orders 2 = .ok (.putfield 179, 3) := by decide +kernel
theorem dX12_orders_5 : decode cX12_orders 5 = .ok (.aload_n 0, 1) := by decide +kernel
theorem dX12_orders_6 : decode cX12_orders 6 = .ok (.aload_n 0, 1) := by decide +kernel
theorem dX12_orders_7 : decode cX12_orders 7 = .ok (.getfield 196, 3) := by decide +kernel
theorem dX12_orders_10 : decode cX12_orders 10 = .ok (.ifCond .ne 7, 3) := by decide +kernel
theorem dX12_orders_13 : decode cX12_orders 13 = .ok (.iconst 1, 1) := by decide +kernel
theorem dX12_orders_14 : decode cX12_orders 14 = .ok (.goto 4, 3) := by decide +kernel
theorem dX12_orders_17 : decode cX12_orders 17 = .ok (.iconst 0, 1) := by decide +kernel
theorem dX12_orders_18 : decode cX12_orders 18 = .ok (.iconst 1, 1) := by decide +kernel
theorem dX12_orders_19 : decode cX12_orders 19 = .ok (.invokevirtual 207, 3) := by decide +kernel
theorem dX12_orders_22 : decode cX12_orders 22 = .ok (.ifCond .eq 5, 3) := by decide +kernel
theorem dX12_orders_25 : decode cX12_orders 25 = .ok (.iconst 0, 1) := by decide +kernel
theorem dX12_orders_26 : decode cX12_orders 26 = .ok (.ireturn, 1) := by decide +kernel
theorem dX12_orders_27 : decode cX12_orders 27 = .ok (.aload_n 0, 1) := by decide +kernel
theorem dX12_orders_28 : decode cX12_orders 28 = .ok (.iconst 0, 1) := by decide +kernel
theorem dX12_orders_29 : decode cX12_orders 29 = .ok (.invokevirtual 215, 3) := by decide +kernel
theorem dX12_orders_32 : decode cX12_orders 32 = .ok (.ireturn, 1) := by decide +kernel
theorem dX12_safe_0 : decode cX12_safe 0 = .ok (.aload_n 0, 1) := by decide +kernel
theorem dX12_safe_1 : decode cX12_safe 1 = .ok (.iconst 0, 1) := by decide +kernel
theorem dX12_safe_2 : decode cX12_safe 2 = .ok (.putfield 179, 3) := by decide +kernel
theorem dX12_safe_5 : decode cX12_safe 5 = .ok (.aload_n 0, 1) := by decide +kernel
theorem dX12_safe_6 : decode cX12_safe 6 = .ok (.aload_n 0, 1) := by decide +kernel
theorem dX12_safe_7 : decode cX12_safe 7 = .ok (.getfield 196, 3) := by decide +kernel
theorem dX12_safe_10 : decode cX12_safe 10 = .ok (.ifCond .ne 7, 3) := by decide +kernel
theorem dX12_safe_13 : decode cX12_safe 13 = .ok (.iconst 1, 1) := by decide +kernel
theorem dX12_safe_14 : decode cX12_safe 14 = .ok (.goto 4, 3) := by decide +kernel
theorem dX12_safe_17 : decode cX12_safe 17 = .ok (.iconst 0, 1) := by decide +kernel
theorem dX12_safe_18 : decode cX12_safe 18 = .ok (.iconst 1, 1) := by decide +kernel
theorem dX12_safe_19 : decode cX12_safe 19 = .ok (.invokevirtual 207, 3) := by decide +kernel
theorem dX12_safe_22 : decode cX12_safe 22 = .ok (.ifCond .eq 5, 3) := by decide +kernel
theorem dX12_safe_25 : decode cX12_safe 25 = .ok (.iconst 0, 1) := by decide +kernel
theorem dX12_safe_26 : decode cX12_safe 26 = .ok (.ireturn, 1) := by decide +kernel
theorem dX12_safe_27 : decode cX12_safe 27 = .ok (.iconst 0, 1) := by decide +kernel
theorem dX12_safe_28 : decode cX12_safe 28 = .ok (.istore_n 2, 1) := by decide +kernel
theorem dX12_safe_29 : decode cX12_safe 29 = .ok (.iconst (-1), 1) := by decide +kernel
theorem dX12_safe_30 : decode cX12_safe 30 = .ok (.istore_n 3, 1) := by decide +kernel
theorem dX12_safe_31 : decode cX12_safe 31 = .ok (.bipush 8, 2) := by decide +kernel
theorem dX12_safe_33 : decode cX12_safe 33 = .ok (.newarray .boolean, 2) := by decide +kernel
theorem dX12_safe_35 : decode cX12_safe 35 = .ok (.astore 4, 2) := by decide +kernel
theorem dX12_safe_37 : decode cX12_safe 37 = .ok (.iconst 0, 1) := by decide +kernel
theorem dX12_safe_38 : decode cX12_safe 38 = .ok (.istore 5, 2) := by decide +kernel
theorem dX12_safe_40 : decode cX12_safe 40 = .ok (.iload 5, 2) := by decide +kernel
theorem dX12_safe_42 : decode cX12_safe 42 = .ok (.bipush 8, 2) := by decide +kernel
theorem dX12_safe_44 : decode cX12_safe 44 = .ok (.if_icmp .ge 21, 3) := by decide +kernel
theorem dX12_safe_47 : decode cX12_safe 47 = .ok (.aload 4, 2) := by decide +kernel
theorem dX12_safe_49 : decode cX12_safe 49 = .ok (.iload 5, 2) := by decide +kernel
theorem dX12_safe_51 : decode cX12_safe 51 = .ok (.aload_n 0, 1) := by decide +kernel
theorem dX12_safe_52 : decode cX12_safe 52 = .ok (.getfield 22, 3) := by decide +kernel
theorem dX12_safe_55 : decode cX12_safe 55 = .ok (.iload 5, 2) := by decide +kernel
theorem dX12_safe_57 : decode cX12_safe 57 = .ok (.baload, 1) := by decide +kernel
theorem dX12_safe_58 : decode cX12_safe 58 = .ok (.bastore, 1) := by decide +kernel
theorem dX12_safe_59 : decode cX12_safe 59 = .ok (.iinc 5 1, 3) := by decide +kernel
theorem dX12_safe_62 : decode cX12_safe 62 = .ok (.goto (-22), 3) := by decide +kernel
theorem dX12_safe_65 : decode cX12_safe 65 = .ok (.aload_n 0, 1) := by decide +kernel
theorem dX12_safe_66 : decode cX12_safe 66 = .ok (.iconst 0, 1) := by decide +kernel
theorem dX12_safe_67 : decode cX12_safe 67 = .ok (.invokevirtual 215, 3) := by decide +kernel
theorem dX12_safe_70 : decode cX12_safe 70 = .ok (.ifCond .le 7, 3) := by decide +kernel
theorem dX12_safe_73 : decode cX12_safe 73 = .ok (.iconst 1, 1) := by decide +kernel
theorem dX12_safe_74 : decode cX12_safe 74 = .ok (.goto 4, 3) := by decide +kernel
theorem dX12_safe_77 : decode cX12_safe 77 = .ok (.iconst 0, 1) := by decide +kernel
theorem dX12_safe_78 : decode cX12_safe 78 = .ok (.istore 5, 2) := by decide +kernel
theorem dX12_safe_80 : decode cX12_safe 80 = .ok (.iload 5, 2) := by decide +kernel
theorem dX12_safe_82 : decode cX12_safe 82 = .ok (.ifCond .eq 81, 3) := by decide +kernel
theorem dX12_safe_85 : decode cX12_safe 85 = .ok (.iconst 0, 1) := by decide +kernel
theorem dX12_safe_86 : decode cX12_safe 86 = .ok (.istore 6, 2) := by decide +kernel
theorem dX12_safe_88 : decode cX12_safe 88 = .ok (.iload 6, 2) := by decide +kernel
theorem dX12_safe_90 : decode cX12_safe 90 = .ok (.iconst 1, 1) := by decide +kernel
theorem dX12_safe_91 : decode cX12_safe 91 = .ok (.iadd, 1) := by decide +kernel
theorem dX12_safe_92 : decode cX12_safe 92 = .ok (.aload_n 0, 1) := by decide +kernel
theorem dX12_safe_93 : decode cX12_safe 93 = .ok (.getfield 182, 3) := by decide +kernel
theorem dX12_safe_96 : decode cX12_safe 96 = .ok (.if_icmp .ge 18, 3) := by decide +kernel
theorem dX12_safe_99 : decode cX12_safe 99 = .ok (.aload_n 0, 1) := by decide +kernel
theorem dX12_safe_100 : decode cX12_safe 100 = .ok (.iload 6, 2) := by decide +kernel
theorem dX12_safe_102 : decode cX12_safe 102 = .ok (.invokevirtual 219, 3) := by decide +kernel
theorem dX12_safe_105 : decode cX12_safe 105 = .ok (.ifCond .ne 9, 3) := by decide +kernel
theorem dX12_safe_108 : decode cX12_safe 108 = .ok (.iinc 6 1, 3) := by decide +kernel
theorem dX12_safe_111 : decode cX12_safe 111 = .ok (.goto (-23), 3) := by decide +kernel
theorem dX12_safe_114 : decode cX12_safe 114 = .ok (.iload 6, 2) := by decide +kernel
theorem dX12_safe_116 : decode cX12_safe 116 = .ok (.iconst 1, 1) := by decide +kernel
theorem dX12_safe_117 : decode cX12_safe 117 = .ok (.iadd, 1) := by decide +kernel
theorem dX12_safe_118 : decode cX12_safe 118 = .ok (.aload_n 0, 1) := by decide +kernel
theorem dX12_safe_119 : decode cX12_safe 119 = .ok (.getfield 182, 3) := by decide +kernel
theorem dX12_safe_122 : decode cX12_safe 122 = .ok (.if_icmp .ge 7, 3) := by decide +kernel
theorem dX12_safe_125 : decode cX12_safe 125 = .ok (.iconst 1, 1) := by decide +kernel
theorem dX12_safe_126 : decode cX12_safe 126 = .ok (.goto 4, 3) := by decide +kernel
theorem dX12_safe_129 : decode cX12_safe 129 = .ok (.iconst 0, 1) := by decide +kernel
theorem dX12_safe_130 : decode cX12_safe 130 = .ok (.istore 5, 2) := by decide +kernel
theorem dX12_safe_132 : decode cX12_safe 132 = .ok (.iload 5, 2) := by decide +kernel
theorem dX12_safe_134 : decode cX12_safe 134 = .ok (.ifCond .eq 26, 3) := by decide +kernel
theorem dX12_safe_137 : decode cX12_safe 137 = .ok (.aload_n 0, 1) := by decide +kernel
theorem dX12_safe_138 : decode cX12_safe 138 = .ok (.getfield 22, 3) := by decide +kernel
theorem dX12_safe_141 : decode cX12_safe 141 = .ok (.iload 6, 2) := by decide +kernel
theorem dX12_safe_143 : decode cX12_safe 143 = .ok (.iconst 1, 1) := by decide +kernel
theorem dX12_safe_144 : decode cX12_safe 144 = .ok (.bastore, 1) := by decide +kernel
theorem dX12_safe_145 : decode cX12_safe 145 = .ok (.iload_n 2, 1) := by decide +kernel
theorem dX12_safe_146 : decode cX12_safe 146 = .ok (.iload_n 1, 1) := by decide +kernel
theorem dX12_safe_147 : decode cX12_safe 147 = .ok (.if_icmp .ne 8, 3) := by decide +kernel
theorem dX12_safe_150 : decode cX12_safe 150 = .ok (.iload 6, 2) := by decide +kernel
theorem dX12_safe_152 : decode cX12_safe 152 = .ok (.goto 4, 3) := by decide +kernel
theorem dX12_safe_155 : decode cX12_safe 155 = .ok (.iload_n 3, 1) := by decide +kernel
theorem dX12_safe_156 : decode cX12_safe 156 = .ok (.istore_n 3, 1) := by decide +kernel
theorem dX12_safe_157 : decode cX12_safe 157 = .ok (.iinc 2 1, 3) := by decide +kernel
theorem dX12_safe_160 : decode cX12_safe 160 = .ok (.goto (-80), 3) := by decide +kernel
theorem dX12_safe_163 : decode cX12_safe 163 = .ok (.iconst 0, 1) := by decide +kernel
theorem dX12_safe_164 : decode cX12_safe 164 = .ok (.istore 6, 2) := by decide +kernel
theorem dX12_safe_166 : decode cX12_safe 166 = .ok (.iload 6, 2) := by decide +kernel
theorem dX12_safe_168 : decode cX12_safe 168 = .ok (.bipush 8, 2) := by decide +kernel
theorem dX12_safe_170 : decode cX12_safe 170 = .ok (.if_icmp .ge 21, 3) := by decide +kernel
theorem dX12_safe_173 : decode cX12_safe 173 = .ok (.aload_n 0, 1) := by decide +kernel
theorem dX12_safe_174 : decode cX12_safe 174 = .ok (.getfield 22, 3) := by decide +kernel
theorem dX12_safe_177 : decode cX12_safe 177 = .ok (.iload 6, 2) := by decide +kernel
theorem dX12_safe_179 : decode cX12_safe 179 = .ok (.aload 4, 2) := by decide +kernel
theorem dX12_safe_181 : decode cX12_safe 181 = .ok (.iload 6, 2) := by decide +kernel
theorem dX12_safe_183 : decode cX12_safe 183 = .ok (.baload, 1) := by decide +kernel
theorem dX12_safe_184 : decode cX12_safe 184 = .ok (.bastore, 1) := by decide +kernel
theorem dX12_safe_185 : decode cX12_safe 185 = .ok (.iinc 6 1, 3) := by decide +kernel
theorem dX12_safe_188 : decode cX12_safe 188 = .ok (.goto (-22), 3) := by decide +kernel
theorem dX12_safe_191 : decode cX12_safe 191 = .ok (.iload_n 3, 1) := by decide +kernel
theorem dX12_safe_192 : decode cX12_safe 192 = .ok (.ireturn, 1) := by decide +kernel
theorem dX12_leads_0 : decode cX12_leads 0 = .ok (.aload_n 0, 1) := by decide +kernel
theorem dX12_leads_1 : decode cX12_leads 1 = .ok (.getfield 22, 3) := by decide +kernel
theorem dX12_leads_4 : decode cX12_leads 4 = .ok (.iload_n 1, 1) := by decide +kernel
theorem dX12_leads_5 : decode cX12_leads 5 = .ok (.baload, 1) := by decide +kernel
theorem dX12_leads_6 : decode cX12_leads 6 = .ok (.ifCond .ne 11, 3) := by decide +kernel
theorem dX12_leads_9 : decode cX12_leads 9 = .ok (.aload_n 0, 1) := by decide +kernel
theorem dX12_leads_10 : decode cX12_leads 10 = .ok (.iload_n 1, 1) := by decide +kernel
theorem dX12_leads_11 : decode cX12_leads 11 = .ok (.invokevirtual 211, 3) := by decide +kernel
theorem dX12_leads_14 : decode cX12_leads 14 = .ok (.ifCond .ne 5, 3) := by decide +kernel
theorem dX12_leads_17 : decode cX12_leads 17 = .ok (.iconst 0, 1) := by decide +kernel
theorem dX12_leads_18 : decode cX12_leads 18 = .ok (.ireturn, 1) := by decide +kernel
theorem dX12_leads_19 : decode cX12_leads 19 = .ok (.aload_n 0, 1) := by decide +kernel
theorem dX12_leads_20 : decode cX12_leads 20 = .ok (.getfield 22, 3) := by decide +kernel
theorem dX12_leads_23 : decode cX12_leads 23 = .ok (.iload_n 1, 1) := by decide +kernel
theorem dX12_leads_24 : decode cX12_leads 24 = .ok (.iconst 1, 1) := by decide +kernel
theorem dX12_leads_25 : decode cX12_leads 25 = .ok (.bastore, 1) := by decide +kernel
theorem dX12_leads_26 : decode cX12_leads 26 = .ok (.aload_n 0, 1) := by decide +kernel
theorem dX12_leads_27 : decode cX12_leads 27 = .ok (.iconst 0, 1) := by decide +kernel
theorem dX12_leads_28 : decode cX12_leads 28 = .ok (.invokevirtual 215, 3) := by decide +kernel
theorem dX12_leads_31 : decode cX12_leads 31 = .ok (.ifCond .le 7, 3) := by decide +kernel
theorem dX12_leads_34 : decode cX12_leads 34 = .ok (.iconst 1, 1) := by decide +kernel
theorem dX12_leads_35 : decode cX12_leads 35 = .ok (.goto 4, 3) := by decide +kernel
theorem dX12_leads_38 : decode cX12_leads 38 = .ok (.iconst 0, 1) := by decide +kernel
theorem dX12_leads_39 : decode cX12_leads 39 = .ok (.istore_n 2, 1) := by decide +kernel
theorem dX12_leads_40 : decode cX12_leads 40 = .ok (.aload_n 0, 1) := by decide +kernel
theorem dX12_leads_41 : decode cX12_leads 41 = .ok (.getfield 22, 3) := by decide +kernel
theorem dX12_leads_44 : decode cX12_leads 44 = .ok (.iload_n 1, 1) := by decide +kernel
theorem dX12_leads_45 : decode cX12_leads 45 = .ok (.iconst 0, 1) := by decide +kernel
theorem dX12_leads_46 : decode cX12_leads 46 = .ok (.bastore, 1) := by decide +kernel
theorem dX12_leads_47 : decode cX12_leads 47 = .ok (.iload_n 2, 1) := by decide +kernel
theorem dX12_leads_48 : decode cX12_leads 48 = .ok (.ireturn, 1) := by decide +kernel
theorem dX12_panel_0 : decode cX12_panel 0 = .ok (.aload_n 0, 1) := by decide +kernel
theorem dX12_panel_1 : decode cX12_panel 1 = .ok (.iconst 0, 1) := by decide +kernel
theorem dX12_panel_2 : decode cX12_panel 2 = .ok (.putfield 179, 3) := by decide +kernel
theorem dX12_panel_5 : decode cX12_panel 5 = .ok (.aload_n 0, 1) := by decide +kernel
theorem dX12_panel_6 : decode cX12_panel 6 = .ok (.iload_n 1, 1) := by decide +kernel
theorem dX12_panel_7 : decode cX12_panel 7 = .ok (.bipush (-20), 2) := by decide +kernel
theorem dX12_panel_9 : decode cX12_panel 9 = .ok (.bipush 20, 2) := by decide +kernel
theorem dX12_panel_11 : decode cX12_panel 11 = .ok (.invokestatic 203, 3) := by decide +kernel
theorem dX12_panel_14 : decode cX12_panel 14 = .ok (.ifCond .eq 57, 3) := by decide +kernel
theorem dX12_panel_17 : decode cX12_panel 17 = .ok (.iload_n 2, 1) := by decide +kernel
theorem dX12_panel_18 : decode cX12_panel 18 = .ok (.bipush (-20), 2) := by decide +kernel
theorem dX12_panel_20 : decode cX12_panel 20 = .ok (.bipush 20, 2) := by decide +kernel
theorem dX12_panel_22 : decode cX12_panel 22 = .ok (.invokestatic 203, 3) := by decide +kernel
theorem dX12_panel_25 : decode cX12_panel 25 = .ok (.ifCond .eq 46, 3) := by decide +kernel
theorem dX12_panel_28 : decode cX12_panel 28 = .ok (.iload_n 3, 1) := by decide +kernel
theorem dX12_panel_29 : decode cX12_panel 29 = .ok (.iconst 1, 1) := by decide +kernel
theorem dX12_panel_30 : decode cX12_panel 30 = .ok (.sipush 1000, 3) := by decide +kernel
theorem dX12_panel_33 : decode cX12_panel 33 = .ok (.invokestatic 203, 3) := by decide +kernel
theorem dX12_panel_36 : decode cX12_panel 36 = .ok (.ifCond .eq 35, 3) := by decide +kernel
theorem dX12_panel_39 : decode cX12_panel 39 = .ok (.iload 4, 2) := by decide +kernel
theorem dX12_panel_41 : decode cX12_panel 41 = .ok (.iconst 0, 1) := by decide +kernel
theorem dX12_panel_42 : decode cX12_panel 42 = .ok (.bipush 100, 2) := by decide +kernel
theorem dX12_panel_44 : decode cX12_panel 44 = .ok (.invokestatic 203, 3) := by decide +kernel
theorem dX12_panel_47 : decode cX12_panel 47 = .ok (.ifCond .eq 24, 3) := by decide +kernel
theorem dX12_panel_50 : decode cX12_panel 50 = .ok (.iload 5, 2) := by decide +kernel
theorem dX12_panel_52 : decode cX12_panel 52 = .ok (.iconst 0, 1) := by decide +kernel
theorem dX12_panel_53 : decode cX12_panel 53 = .ok (.bipush 100, 2) := by decide +kernel
theorem dX12_panel_55 : decode cX12_panel 55 = .ok (.invokestatic 203, 3) := by decide +kernel
theorem dX12_panel_58 : decode cX12_panel 58 = .ok (.ifCond .eq 13, 3) := by decide +kernel
theorem dX12_panel_61 : decode cX12_panel 61 = .ok (.iload 4, 2) := by decide +kernel
theorem dX12_panel_63 : decode cX12_panel 63 = .ok (.iload 5, 2) := by decide +kernel
theorem dX12_panel_65 : decode cX12_panel 65 = .ok (.iadd, 1) := by decide +kernel
theorem dX12_panel_66 : decode cX12_panel 66 = .ok (.bipush 100, 2) := by decide +kernel
theorem dX12_panel_68 : decode cX12_panel 68 = .ok (.if_icmp .le 7, 3) := by decide +kernel
theorem dX12_panel_71 : decode cX12_panel 71 = .ok (.iconst 1, 1) := by decide +kernel
theorem dX12_panel_72 : decode cX12_panel 72 = .ok (.goto 4, 3) := by decide +kernel
theorem dX12_panel_75 : decode cX12_panel 75 = .ok (.iconst 0, 1) := by decide +kernel
theorem dX12_panel_76 : decode cX12_panel 76 = .ok (.iconst 1, 1) := by decide +kernel
theorem dX12_panel_77 : decode cX12_panel 77 = .ok (.invokevirtual 207, 3) := by decide +kernel
theorem dX12_panel_80 : decode cX12_panel 80 = .ok (.ifCond .eq 5, 3) := by decide +kernel
theorem dX12_panel_83 : decode cX12_panel 83 = .ok (.iconst 0, 1) := by decide +kernel
theorem dX12_panel_84 : decode cX12_panel 84 = .ok (.ireturn, 1) := by decide +kernel
theorem dX12_panel_85 : decode cX12_panel 85 = .ok (.aload_n 0, 1) := by decide +kernel
theorem dX12_panel_86 : decode cX12_panel 86 = .ok (.getfield 222, 3) := by decide +kernel
theorem dX12_panel_89 : decode cX12_panel 89 = .ok (.bipush 16, 2) := by decide +kernel
theorem dX12_panel_91 : decode cX12_panel 91 = .ok (.if_icmp .ne 5, 3) := by decide +kernel
theorem dX12_panel_94 : decode cX12_panel 94 = .ok (.iconst (-1), 1) := by decide +kernel
theorem dX12_panel_95 : decode cX12_panel 95 = .ok (.ireturn, 1) := by decide +kernel
theorem dX12_panel_96 : decode cX12_panel 96 = .ok (.aload_n 0, 1) := by decide +kernel
theorem dX12_panel_97 : decode cX12_panel 97 = .ok (.getfield 26, 3) := by decide +kernel
theorem dX12_panel_100 : decode cX12_panel 100 = .ok (.aload_n 0, 1) := by decide +kernel
theorem dX12_panel_101 : decode cX12_panel 101 = .ok (.getfield 222, 3) := by decide +kernel
theorem dX12_panel_104 : decode cX12_panel 104 = .ok (.iload_n 1, 1) := by decide +kernel
theorem dX12_panel_105 : decode cX12_panel 105 = .ok (.iastore, 1) := by decide +kernel
theorem dX12_panel_106 : decode cX12_panel 106 = .ok (.aload_n 0, 1) := by decide +kernel
theorem dX12_panel_107 : decode cX12_panel 107 = .ok (.getfield 29, 3) := by decide +kernel
theorem dX12_panel_110 : decode cX12_panel 110 = .ok (.aload_n 0, 1) := by decide +kernel
theorem dX12_panel_111 : decode cX12_panel 111 = .ok (.getfield 222, 3) := by decide +kernel
theorem dX12_panel_114 : decode cX12_panel 114 = .ok (.iload_n 2, 1) := by decide +kernel
theorem dX12_panel_115 : decode cX12_panel 115 = .ok (.iastore, 1) := by decide +kernel
theorem dX12_panel_116 : decode cX12_panel 116 = .ok (.aload_n 0, 1) := by decide +kernel
theorem dX12_panel_117 : decode cX12_panel 117 = .ok (.getfield 32, 3) := by decide +kernel
theorem dX12_panel_120 : decode cX12_panel 120 = .ok (.aload_n 0, 1) := by decide +kernel
theorem dX12_panel_121 : decode cX12_panel 121 = .ok (.getfield 222, 3) := by decide +kernel
theorem dX12_panel_124 : decode cX12_panel 124 = .ok (.iload_n 3, 1) := by decide +kernel
theorem dX12_panel_125 : decode cX12_panel 125 = .ok (.iastore, 1) := by decide +kernel
theorem dX12_panel_126 : decode cX12_panel 126 = .ok (.aload_n 0, 1) := by decide +kernel
theorem dX12_panel_127 : decode cX12_panel 127 = .ok (.getfield 35, 3) := by decide +kernel
theorem dX12_panel_130 : decode cX12_panel 130 = .ok (.aload_n 0, 1) := by decide +kernel
theorem dX12_panel_131 : decode cX12_panel 131 = .ok (.getfield 222, 3) := by decide +kernel
theorem dX12_panel_134 : decode cX12_panel 134 = .ok (.iload 4, 2) := by decide +kernel
theorem dX12_panel_136 : decode cX12_panel 136 = .ok (.iastore, 1) := by decide +kernel
theorem dX12_panel_137 : decode cX12_panel 137 = .ok (.aload_n 0, 1) := by decide +kernel
theorem dX12_panel_138 : decode cX12_panel 138 = .ok (.getfield 38, 3) := by decide +kernel
theorem dX12_panel_141 : decode cX12_panel 141 = .ok (.aload_n 0, 1) := by decide +kernel
theorem dX12_panel_142 : decode cX12_panel 142 = .ok (.getfield 222, 3) := by decide +kernel
theorem dX12_panel_145 : decode cX12_panel 145 = .ok (.iload 5, 2) := by decide +kernel
theorem dX12_panel_147 : decode cX12_panel 147 = .ok (.iastore, 1) := by decide +kernel
theorem dX12_panel_148 : decode cX12_panel 148 = .ok (.aload_n 0, 1) := by decide +kernel
theorem dX12_panel_149 : decode cX12_panel 149 = .ok (.dup, 1) := by decide +kernel
theorem dX12_panel_150 : decode cX12_panel 150 = .ok (.getfield 222, 3) := by decide +kernel
theorem dX12_panel_153 : decode cX12_panel 153 = .ok (.iconst 1, 1) := by decide +kernel
theorem dX12_panel_154 : decode cX12_panel 154 = .ok (.iadd, 1) := by decide +kernel
theorem dX12_panel_155 : decode cX12_panel 155 = .ok (.putfield 222, 3) := by decide +kernel
theorem dX12_panel_158 : decode cX12_panel 158 = .ok (.aload_n 0, 1) := by decide +kernel
theorem dX12_panel_159 : decode cX12_panel 159 = .ok (.getfield 222, 3) := by decide +kernel
theorem dX12_panel_162 : decode cX12_panel 162 = .ok (.iconst 1, 1) := by decide +kernel
theorem dX12_panel_163 : decode cX12_panel 163 = .ok (.isub, 1) := by decide +kernel
theorem dX12_panel_164 : decode cX12_panel 164 = .ok (.ireturn, 1) := by decide +kernel
theorem dX12_of_0 : decode cX12_of 0 = .ok (.aload_n 0, 1) := by decide +kernel
theorem dX12_of_1 : decode cX12_of 1 = .ok (.iconst 0, 1) := by decide +kernel
theorem dX12_of_2 : decode cX12_of 2 = .ok (.putfield 179, 3) := by decide +kernel
theorem dX12_of_5 : decode cX12_of 5 = .ok (.aload_n 0, 1) := by decide +kernel
theorem dX12_of_6 : decode cX12_of 6 = .ok (.iload_n 1, 1) := by decide +kernel
theorem dX12_of_7 : decode cX12_of 7 = .ok (.iconst 0, 1) := by decide +kernel
theorem dX12_of_8 : decode cX12_of 8 = .ok (.aload_n 0, 1) := by decide +kernel
theorem dX12_of_9 : decode cX12_of 9 = .ok (.getfield 222, 3) := by decide +kernel
theorem dX12_of_12 : decode cX12_of 12 = .ok (.iconst 1, 1) := by decide +kernel
theorem dX12_of_13 : decode cX12_of 13 = .ok (.isub, 1) := by decide +kernel
theorem dX12_of_14 : decode cX12_of 14 = .ok (.invokestatic 203, 3) := by decide +kernel
theorem dX12_of_17 : decode cX12_of 17 = .ok (.ifCond .ne 7, 3) := by decide +kernel
theorem dX12_of_20 : decode cX12_of 20 = .ok (.iconst 1, 1) := by decide +kernel
theorem dX12_of_21 : decode cX12_of 21 = .ok (.goto 4, 3) := by decide +kernel
theorem dX12_of_24 : decode cX12_of 24 = .ok (.iconst 0, 1) := by decide +kernel
theorem dX12_of_25 : decode cX12_of 25 = .ok (.iconst 1, 1) := by decide +kernel
theorem dX12_of_26 : decode cX12_of 26 = .ok (.invokevirtual 207, 3) := by decide +kernel
theorem dX12_of_29 : decode cX12_of 29 = .ok (.ifCond .ne 25, 3) := by decide +kernel
theorem dX12_of_32 : decode cX12_of 32 = .ok (.aload_n 0, 1) := by decide +kernel
theorem dX12_of_33 : decode cX12_of 33 = .ok (.iload_n 2, 1) := by decide +kernel
theorem dX12_of_34 : decode cX12_of 34 = .ok (.iconst 0, 1) := by decide +kernel
theorem dX12_of_35 : decode cX12_of 35 = .ok (.iconst 4, 1) := by decide +kernel
theorem dX12_of_36 : decode cX12_of 36 = .ok (.invokestatic 203, 3) := by decide +kernel
theorem dX12_of_39 : decode cX12_of 39 = .ok (.ifCond .ne 7, 3) := by decide +kernel
theorem dX12_of_42 : decode cX12_of 42 = .ok (.iconst 1, 1) := by decide +kernel
theorem dX12_of_43 : decode cX12_of 43 = .ok (.goto 4, 3) := by decide +kernel
theorem dX12_of_46 : decode cX12_of 46 = .ok (.iconst 0, 1) := by decide +kernel
theorem dX12_of_47 : decode cX12_of 47 = .ok (.iconst 2, 1) := by decide +kernel
theorem dX12_of_48 : decode cX12_of 48 = .ok (.invokevirtual 207, 3) := by decide +kernel
theorem dX12_of_51 : decode cX12_of 51 = .ok (.ifCond .eq 5, 3) := by decide +kernel
theorem dX12_of_54 : decode cX12_of 54 = .ok (.iconst 0, 1) := by decide +kernel
theorem dX12_of_55 : decode cX12_of 55 = .ok (.ireturn, 1) := by decide +kernel
theorem dX12_of_56 : decode cX12_of 56 = .ok (.iload_n 2, 1) := by decide +kernel
theorem dX12_of_57 : decode cX12_of 57 = .ok (.ifCond .ne 12, 3) := by decide +kernel
theorem dX12_of_60 : decode cX12_of 60 = .ok (.aload_n 0, 1) := by decide +kernel
theorem dX12_of_61 : decode cX12_of 61 = .ok (.getfield 35, 3) := by decide +kernel
theorem dX12_of_64 : decode cX12_of 64 = .ok (.iload_n 1, 1) := by decide +kernel
theorem dX12_of_65 : decode cX12_of 65 = .ok (.iaload, 1) := by decide +kernel
theorem dX12_of_66 : decode cX12_of 66 = .ok (.goto 59, 3) := by decide +kernel
theorem dX12_of_69 : decode cX12_of 69 = .ok (.iload_n 2, 1) := by decide +kernel
theorem dX12_of_70 : decode cX12_of 70 = .ok (.iconst 1, 1) := by decide +kernel
theorem dX12_of_71 : decode cX12_of 71 = .ok (.if_icmp .ne 12, 3) := by decide +kernel
theorem dX12_of_74 : decode cX12_of 74 = .ok (.aload_n 0, 1) := by decide +kernel
theorem dX12_of_75 : decode cX12_of 75 = .ok (.getfield 38, 3) := by decide +kernel
theorem dX12_of_78 : decode cX12_of 78 = .ok (.iload_n 1, 1) := by decide +kernel
theorem dX12_of_79 : decode cX12_of 79 = .ok (.iaload, 1) := by decide +kernel
theorem dX12_of_80 : decode cX12_of 80 = .ok (.goto 45, 3) := by decide +kernel
theorem dX12_of_83 : decode cX12_of 83 = .ok (.iload_n 2, 1) := by decide +kernel
theorem dX12_of_84 : decode cX12_of 84 = .ok (.iconst 2, 1) := by decide +kernel
theorem dX12_of_85 : decode cX12_of 85 = .ok (.if_icmp .ne 20, 3) := by decide +kernel
theorem dX12_of_88 : decode cX12_of 88 = .ok (.aload_n 0, 1) := by decide +kernel
theorem dX12_of_89 : decode cX12_of 89 = .ok (.getfield 47, 3) := by decide +kernel
theorem dX12_of_92 : decode cX12_of 92 = .ok (.iload_n 1, 1) := by decide +kernel
theorem dX12_of_93 : decode cX12_of 93 = .ok (.baload, 1) := by decide +kernel
theorem dX12_of_94 : decode cX12_of 94 = .ok (.ifCond .eq 7, 3) := by decide +kernel
theorem dX12_of_97 : decode cX12_of 97 = .ok (.iconst 1, 1) := by decide +kernel
theorem dX12_of_98 : decode cX12_of 98 = .ok (.goto 27, 3) := by decide +kernel
theorem dX12_of_101 : decode cX12_of 101 = .ok (.iconst 0, 1) := by decide +kernel
theorem dX12_of_102 : decode cX12_of 102 = .ok (.goto 23, 3) := by decide +kernel
theorem dX12_of_105 : decode cX12_of 105 = .ok (.iload_n 2, 1) := by decide +kernel
theorem dX12_of_106 : decode cX12_of 106 = .ok (.iconst 3, 1) := by decide +kernel
theorem dX12_of_107 : decode cX12_of 107 = .ok (.if_icmp .ne 12, 3) := by decide +kernel
theorem dX12_of_110 : decode cX12_of 110 = .ok (.aload_n 0, 1) := by decide +kernel
theorem dX12_of_111 : decode cX12_of 111 = .ok (.getfield 41, 3) := by decide +kernel
theorem dX12_of_114 : decode cX12_of 114 = .ok (.iload_n 1, 1) := by decide +kernel
theorem dX12_of_115 : decode cX12_of 115 = .ok (.iaload, 1) := by decide +kernel
theorem dX12_of_116 : decode cX12_of 116 = .ok (.goto 9, 3) := by decide +kernel
theorem dX12_of_119 : decode cX12_of 119 = .ok (.aload_n 0, 1) := by decide +kernel
theorem dX12_of_120 : decode cX12_of 120 = .ok (.getfield 44, 3) := by decide +kernel
theorem dX12_of_123 : decode cX12_of 123 = .ok (.iload_n 1, 1) := by decide +kernel
theorem dX12_of_124 : decode cX12_of 124 = .ok (.iaload, 1) := by decide +kernel
theorem dX12_of_125 : decode cX12_of 125 = .ok (.ireturn, 1) := by decide +kernel
theorem dX12_tear_0 : decode cX12_tear 0 = .ok (.aload_n 0, 1) := by decide +kernel
theorem dX12_tear_1 : decode cX12_tear 1 = .ok (.iconst 0, 1) := by decide +kernel
theorem dX12_tear_2 : decode cX12_tear 2 = .ok (.putfield 179, 3) := by decide +kernel
theorem dX12_tear_5 : decode cX12_tear 5 = .ok (.aload_n 0, 1) := by decide +kernel
theorem dX12_tear_6 : decode cX12_tear 6 = .ok (.iload_n 1, 1) := by decide +kernel
theorem dX12_tear_7 : decode cX12_tear 7 = .ok (.iconst 0, 1) := by decide +kernel
theorem dX12_tear_8 : decode cX12_tear 8 = .ok (.aload_n 0, 1) := by decide +kernel
theorem dX12_tear_9 : decode cX12_tear 9 = .ok (.getfield 222, 3) := by decide +kernel
theorem dX12_tear_12 : decode cX12_tear 12 = .ok (.iconst 1, 1) := by decide +kernel
theorem dX12_tear_13 : decode cX12_tear 13 = .ok (.isub, 1) := by decide +kernel
theorem dX12_tear_14 : decode cX12_tear 14 = .ok (.invokestatic 203, 3) := by decide +kernel
theorem dX12_tear_17 : decode cX12_tear 17 = .ok (.ifCond .ne 7, 3) := by decide +kernel
theorem dX12_tear_20 : decode cX12_tear 20 = .ok (.iconst 1, 1) := by decide +kernel
theorem dX12_tear_21 : decode cX12_tear 21 = .ok (.goto 4, 3) := by decide +kernel
theorem dX12_tear_24 : decode cX12_tear 24 = .ok (.iconst 0, 1) := by decide +kernel
theorem dX12_tear_25 : decode cX12_tear 25 = .ok (.iconst 1, 1) := by decide +kernel
theorem dX12_tear_26 : decode cX12_tear 26 = .ok (.invokevirtual 207, 3) := by decide +kernel
theorem dX12_tear_29 : decode cX12_tear 29 = .ok (.ifCond .eq 5, 3) := by decide +kernel
theorem dX12_tear_32 : decode cX12_tear 32 = .ok (.iconst 0, 1) := by decide +kernel
theorem dX12_tear_33 : decode cX12_tear 33 = .ok (.ireturn, 1) := by decide +kernel
theorem dX12_tear_34 : decode cX12_tear 34 = .ok (.aload_n 0, 1) := by decide +kernel
theorem dX12_tear_35 : decode cX12_tear 35 = .ok (.getfield 47, 3) := by decide +kernel
theorem dX12_tear_38 : decode cX12_tear 38 = .ok (.iload_n 1, 1) := by decide +kernel
theorem dX12_tear_39 : decode cX12_tear 39 = .ok (.baload, 1) := by decide +kernel
theorem dX12_tear_40 : decode cX12_tear 40 = .ok (.istore_n 2, 1) := by decide +kernel
theorem dX12_tear_41 : decode cX12_tear 41 = .ok (.aload_n 0, 1) := by decide +kernel
theorem dX12_tear_42 : decode cX12_tear 42 = .ok (.getfield 47, 3) := by decide +kernel
theorem dX12_tear_45 : decode cX12_tear 45 = .ok (.iload_n 1, 1) := by decide +kernel
theorem dX12_tear_46 : decode cX12_tear 46 = .ok (.iconst 1, 1) := by decide +kernel
theorem dX12_tear_47 : decode cX12_tear 47 = .ok (.bastore, 1) := by decide +kernel
theorem dX12_tear_48 : decode cX12_tear 48 = .ok (.iload_n 2, 1) := by decide +kernel
theorem dX12_tear_49 : decode cX12_tear 49 = .ok (.ireturn, 1) := by decide +kernel
theorem dX12_flap_0 : decode cX12_flap 0 = .ok (.aload_n 0, 1) := by decide +kernel
theorem dX12_flap_1 : decode cX12_flap 1 = .ok (.iconst 0, 1) := by decide +kernel
theorem dX12_flap_2 : decode cX12_flap 2 = .ok (.putfield 179, 3) := by decide +kernel
theorem dX12_flap_5 : decode cX12_flap 5 = .ok (.aload_n 0, 1) := by decide +kernel
theorem dX12_flap_6 : decode cX12_flap 6 = .ok (.iload_n 1, 1) := by decide +kernel
theorem dX12_flap_7 : decode cX12_flap 7 = .ok (.iconst 0, 1) := by decide +kernel
theorem dX12_flap_8 : decode cX12_flap 8 = .ok (.aload_n 0, 1) := by decide +kernel
theorem dX12_flap_9 : decode cX12_flap 9 = .ok (.getfield 222, 3) := by decide +kernel
theorem dX12_flap_12 : decode cX12_flap 12 = .ok (.iconst 1, 1) := by decide +kernel
theorem dX12_flap_13 : decode cX12_flap 13 = .ok (.isub, 1) := by decide +kernel
theorem dX12_flap_14 : decode cX12_flap 14 = .ok (.invokestatic 203, 3) := by decide +kernel
theorem dX12_flap_17 : decode cX12_flap 17 = .ok (.ifCond .ne 7, 3) := by decide +kernel
theorem dX12_flap_20 : decode cX12_flap 20 = .ok (.iconst 1, 1) := by decide +kernel
theorem dX12_flap_21 : decode cX12_flap 21 = .ok (.goto 4, 3) := by decide +kernel
theorem dX12_flap_24 : decode cX12_flap 24 = .ok (.iconst 0, 1) := by decide +kernel
theorem dX12_flap_25 : decode cX12_flap 25 = .ok (.iconst 1, 1) := by decide +kernel
theorem dX12_flap_26 : decode cX12_flap 26 = .ok (.invokevirtual 207, 3) := by decide +kernel
theorem dX12_flap_29 : decode cX12_flap 29 = .ok (.ifCond .eq 5, 3) := by decide +kernel
theorem dX12_flap_32 : decode cX12_flap 32 = .ok (.iconst 0, 1) := by decide +kernel
theorem dX12_flap_33 : decode cX12_flap 33 = .ok (.ireturn, 1) := by decide +kernel
theorem dX12_flap_34 : decode cX12_flap 34 = .ok (.aload_n 0, 1) := by decide +kernel
theorem dX12_flap_35 : decode cX12_flap 35 = .ok (.getfield 225, 3) := by decide +kernel
theorem dX12_flap_38 : decode cX12_flap 38 = .ok (.iconst 4, 1) := by decide +kernel
theorem dX12_flap_39 : decode cX12_flap 39 = .ok (.if_icmp .ne 5, 3) := by decide +kernel
theorem dX12_flap_42 : decode cX12_flap 42 = .ok (.iconst (-1), 1) := by decide +kernel
theorem dX12_flap_43 : decode cX12_flap 43 = .ok (.ireturn, 1) := by decide +kernel
theorem dX12_flap_44 : decode cX12_flap 44 = .ok (.aload_n 0, 1) := by decide +kernel
theorem dX12_flap_45 : decode cX12_flap 45 = .ok (.iload_n 1, 1) := by decide +kernel
theorem dX12_flap_46 : decode cX12_flap 46 = .ok (.invokevirtual 228, 3) := by decide +kernel
theorem dX12_flap_49 : decode cX12_flap 49 = .ok (.iconst (-1), 1) := by decide +kernel
theorem dX12_flap_50 : decode cX12_flap 50 = .ok (.if_icmp .eq 6, 3) := by decide +kernel
theorem dX12_flap_53 : decode cX12_flap 53 = .ok (.bipush (-2), 2) := by decide +kernel
theorem dX12_flap_55 : decode cX12_flap 55 = .ok (.ireturn, 1) := by decide +kernel
theorem dX12_flap_56 : decode cX12_flap 56 = .ok (.aload_n 0, 1) := by decide +kernel
theorem dX12_flap_57 : decode cX12_flap 57 = .ok (.getfield 50, 3) := by decide +kernel
theorem dX12_flap_60 : decode cX12_flap 60 = .ok (.aload_n 0, 1) := by decide +kernel
theorem dX12_flap_61 : decode cX12_flap 61 = .ok (.getfield 225, 3) := by decide +kernel
theorem dX12_flap_64 : decode cX12_flap 64 = .ok (.iload_n 1, 1) := by decide +kernel
theorem dX12_flap_65 : decode cX12_flap 65 = .ok (.iastore, 1) := by decide +kernel
theorem dX12_flap_66 : decode cX12_flap 66 = .ok (.aload_n 0, 1) := by decide +kernel
theorem dX12_flap_67 : decode cX12_flap 67 = .ok (.dup, 1) := by decide +kernel
theorem dX12_flap_68 : decode cX12_flap 68 = .ok (.getfield 225, 3) := by decide +kernel
theorem dX12_flap_71 : decode cX12_flap 71 = .ok (.iconst 1, 1) := by decide +kernel
theorem dX12_flap_72 : decode cX12_flap 72 = .ok (.iadd, 1) := by decide +kernel
theorem dX12_flap_73 : decode cX12_flap 73 = .ok (.putfield 225, 3) := by decide +kernel
theorem dX12_flap_76 : decode cX12_flap 76 = .ok (.aload_n 0, 1) := by decide +kernel
theorem dX12_flap_77 : decode cX12_flap 77 = .ok (.getfield 225, 3) := by decide +kernel
theorem dX12_flap_80 : decode cX12_flap 80 = .ok (.iconst 1, 1) := by decide +kernel
theorem dX12_flap_81 : decode cX12_flap 81 = .ok (.isub, 1) := by decide +kernel
theorem dX12_flap_82 : decode cX12_flap 82 = .ok (.ireturn, 1) := by decide +kernel
theorem dX12_flapOf_0 : decode cX12_flapOf 0 = .ok (.iconst 0, 1) := by decide +kernel
theorem dX12_flapOf_1 : decode cX12_flapOf 1 = .ok (.istore_n 2, 1) := by decide +kernel
theorem dX12_flapOf_2 : decode cX12_flapOf 2 = .ok (.iload_n 2, 1) := by decide +kernel
theorem dX12_flapOf_3 : decode cX12_flapOf 3 = .ok (.aload_n 0, 1) := by decide +kernel
theorem dX12_flapOf_4 : decode cX12_flapOf 4 = .ok (.getfield 225, 3) := by decide +kernel
theorem dX12_flapOf_7 : decode cX12_flapOf 7 = .ok (.if_icmp .ge 21, 3) := by decide +kernel
theorem dX12_flapOf_10 : decode cX12_flapOf 10 = .ok (.aload_n 0, 1) := by decide +kernel
theorem dX12_flapOf_11 : decode cX12_flapOf 11 = .ok (.getfield 50, 3) := by decide +kernel
theorem dX12_flapOf_14 : decode cX12_flapOf 14 = .ok (.iload_n 2, 1) := by decide +kernel
theorem dX12_flapOf_15 : decode cX12_flapOf 15 = .ok (.iaload, 1) := by decide +kernel
theorem dX12_flapOf_16 : decode cX12_flapOf 16 = .ok (.iload_n 1, 1) := by decide +kernel
theorem dX12_flapOf_17 : decode cX12_flapOf 17 = .ok (.if_icmp .ne 5, 3) := by decide +kernel
theorem dX12_flapOf_20 : decode cX12_flapOf 20 = .ok (.iload_n 2, 1) := by decide +kernel
theorem dX12_flapOf_21 : decode cX12_flapOf 21 = .ok (.ireturn, 1) := by decide +kernel
theorem dX12_flapOf_22 : decode cX12_flapOf 22 = .ok (.iinc 2 1, 3) := by decide +kernel
theorem dX12_flapOf_25 : decode cX12_flapOf 25 = .ok (.goto (-23), 3) := by decide +kernel
theorem dX12_flapOf_28 : decode cX12_flapOf 28 = .ok (.iconst (-1), 1) := by decide +kernel
theorem dX12_flapOf_29 : decode cX12_flapOf 29 = .ok (.ireturn, 1) := by decide +kernel
theorem dX12_bend_0 : decode cX12_bend 0 = .ok (.aload_n 0, 1) := by decide +kernel
theorem dX12_bend_1 : decode cX12_bend 1 = .ok (.iconst 0, 1) := by decide +kernel
theorem dX12_bend_2 : decode cX12_bend 2 = .ok (.putfield 179, 3) := by decide +kernel
theorem dX12_bend_5 : decode cX12_bend 5 = .ok (.aload_n 0, 1) := by decide +kernel
theorem dX12_bend_6 : decode cX12_bend 6 = .ok (.iload_n 1, 1) := by decide +kernel
theorem dX12_bend_7 : decode cX12_bend 7 = .ok (.iconst 0, 1) := by decide +kernel
theorem dX12_bend_8 : decode cX12_bend 8 = .ok (.aload_n 0, 1) := by decide +kernel
theorem dX12_bend_9 : decode cX12_bend 9 = .ok (.getfield 225, 3) := by decide +kernel
theorem dX12_bend_12 : decode cX12_bend 12 = .ok (.iconst 1, 1) := by decide +kernel
theorem dX12_bend_13 : decode cX12_bend 13 = .ok (.isub, 1) := by decide +kernel
theorem dX12_bend_14 : decode cX12_bend 14 = .ok (.invokestatic 203, 3) := by decide +kernel
theorem dX12_bend_17 : decode cX12_bend 17 = .ok (.ifCond .ne 7, 3) := by decide +kernel
theorem dX12_bend_20 : decode cX12_bend 20 = .ok (.iconst 1, 1) := by decide +kernel
theorem dX12_bend_21 : decode cX12_bend 21 = .ok (.goto 4, 3) := by decide +kernel
theorem dX12_bend_24 : decode cX12_bend 24 = .ok (.iconst 0, 1) := by decide +kernel
theorem dX12_bend_25 : decode cX12_bend 25 = .ok (.iconst 1, 1) := by decide +kernel
theorem dX12_bend_26 : decode cX12_bend 26 = .ok (.invokevirtual 207, 3) := by decide +kernel
theorem dX12_bend_29 : decode cX12_bend 29 = .ok (.ifCond .ne 26, 3) := by decide +kernel
theorem dX12_bend_32 : decode cX12_bend 32 = .ok (.aload_n 0, 1) := by decide +kernel
theorem dX12_bend_33 : decode cX12_bend 33 = .ok (.iload_n 2, 1) := by decide +kernel
theorem dX12_bend_34 : decode cX12_bend 34 = .ok (.bipush (-2), 2) := by decide +kernel
theorem dX12_bend_36 : decode cX12_bend 36 = .ok (.iconst 2, 1) := by decide +kernel
theorem dX12_bend_37 : decode cX12_bend 37 = .ok (.invokestatic 203, 3) := by decide +kernel
theorem dX12_bend_40 : decode cX12_bend 40 = .ok (.ifCond .ne 7, 3) := by decide +kernel
theorem dX12_bend_43 : decode cX12_bend 43 = .ok (.iconst 1, 1) := by decide +kernel
theorem dX12_bend_44 : decode cX12_bend 44 = .ok (.goto 4, 3) := by decide +kernel
theorem dX12_bend_47 : decode cX12_bend 47 = .ok (.iconst 0, 1) := by decide +kernel
theorem dX12_bend_48 : decode cX12_bend 48 = .ok (.iconst 2, 1) := by decide +kernel
theorem dX12_bend_49 : decode cX12_bend 49 = .ok (.invokevirtual 207, 3) := by decide +kernel
theorem dX12_bend_52 : decode cX12_bend 52 = .ok (.ifCond .eq 5, 3) := by decide +kernel
theorem dX12_bend_55 : decode cX12_bend 55 = .ok (.iconst 0, 1) := by decide +kernel
theorem dX12_bend_56 : decode cX12_bend 56 = .ok (.ireturn, 1) := by decide +kernel
theorem dX12_bend_57 : decode cX12_bend 57 = .ok (.aload_n 0, 1) := by decide +kernel
theorem dX12_bend_58 : decode cX12_bend 58 = .ok (.getfield 56, 3) := by decide +kernel
theorem dX12_bend_61 : decode cX12_bend 61 = .ok (.iload_n 1, 1) := by decide +kernel
theorem dX12_bend_62 : decode cX12_bend 62 = .ok (.baload, 1) := by decide +kernel
theorem dX12_bend_63 : decode cX12_bend 63 = .ok (.ifCond .eq 6, 3) := by decide +kernel
theorem dX12_bend_66 : decode cX12_bend 66 = .ok (.bipush (-3), 2) := by decide +kernel
theorem dX12_bend_68 : decode cX12_bend 68 = .ok (.ireturn, 1) := by decide +kernel
theorem dX12_bend_69 : decode cX12_bend 69 = .ok (.aload_n 0, 1) := by decide +kernel
theorem dX12_bend_70 : decode cX12_bend 70 = .ok (.getfield 53, 3) := by decide +kernel
theorem dX12_bend_73 : decode cX12_bend 73 = .ok (.iload_n 1, 1) := by decide +kernel
theorem dX12_bend_74 : decode cX12_bend 74 = .ok (.iaload, 1) := by decide +kernel
