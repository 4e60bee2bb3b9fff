theorem dX3_findFits_24 : decode cX3_findFits 24 = .ok (.iastore, 1) := by decide +kernel
theorem dX3_findFits_25 : decode cX3_findFits 25 = .ok (.aload_n 0, 1) := by decide +kernel
theorem dX3_findFits_26 : decode cX3_findFits 26 = .ok (.getfield 41, 3) := by decide +kernel
theorem dX3_findFits_29 : decode cX3_findFits 29 = .ok (.iload_n 3, 1) := by decide +kernel
theorem dX3_findFits_30 : decode cX3_findFits 30 = .ok (.aload_n 0, 1) := by decide +kernel
theorem dX3_findFits_31 : decode cX3_findFits 31 = .ok (.getfield 51, 3) := by decide +kernel
theorem dX3_findFits_34 : decode cX3_findFits 34 = .ok (.iconst 1, 1) := by decide +kernel
theorem dX3_findFits_35 : decode cX3_findFits 35 = .ok (.isub, 1) := by decide +kernel
theorem dX3_findFits_36 : decode cX3_findFits 36 = .ok (.iastore, 1) := by decide +kernel
theorem dX3_findFits_37 : decode cX3_findFits 37 = .ok (.iinc 3 1, 3) := by decide +kernel
theorem dX3_findFits_40 : decode cX3_findFits 40 = .ok (.goto (-27), 3) := by decide +kernel
theorem dX3_findFits_43 : decode cX3_findFits 43 = .ok (.aload_n 0, 1) := by decide +kernel
theorem dX3_findFits_44 : decode cX3_findFits 44 = .ok (.getfield 51, 3) := by decide +kernel
theorem dX3_findFits_47 : decode cX3_findFits 47 = .ok (.ifCond .le 7, 3) := by decide +kernel
theorem dX3_findFits_50 : decode cX3_findFits 50 = .ok (.iconst 1, 1) := by decide +kernel
theorem dX3_findFits_51 : decode cX3_findFits 51 = .ok (.goto 4, 3) := by decide +kernel
theorem dX3_findFits_54 : decode cX3_findFits 54 = .ok (.iconst 0, 1) := by decide +kernel
theorem dX3_findFits_55 : decode cX3_findFits 55 = .ok (.istore_n 3, 1) := by decide +kernel
theorem dX3_findFits_56 : decode cX3_findFits 56 = .ok (.iconst 0, 1) := by decide +kernel
theorem dX3_findFits_57 : decode cX3_findFits 57 = .ok (.istore 4, 2) := by decide +kernel
theorem dX3_findFits_59 : decode cX3_findFits 59 = .ok (.iload 4, 2) := by decide +kernel
theorem dX3_findFits_61 : decode cX3_findFits 61 = .ok (.sipush 625, 3) := by decide +kernel
theorem dX3_findFits_64 : decode cX3_findFits 64 = .ok (.if_icmp .ge 68, 3) := by decide +kernel
theorem dX3_findFits_67 : decode cX3_findFits 67 = .ok (.iload_n 3, 1) := by decide +kernel
theorem dX3_findFits_68 : decode cX3_findFits 68 = .ok (.ifCond .eq 64, 3) := by decide +kernel
theorem dX3_findFits_71 : decode cX3_findFits 71 = .ok (.aload_n 0, 1) := by decide +kernel
theorem dX3_findFits_72 : decode cX3_findFits 72 = .ok (.iload_n 2, 1) := by decide +kernel
theorem dX3_findFits_73 : decode cX3_findFits 73 = .ok (.invokevirtual 65, 3) := by decide +kernel
theorem dX3_findFits_76 : decode cX3_findFits 76 = .ok (.istore 5, 2) := by decide +kernel
theorem dX3_findFits_78 : decode cX3_findFits 78 = .ok (.aload_n 0, 1) := by decide +kernel
theorem dX3_findFits_79 : decode cX3_findFits 79 = .ok (.iload 5, 2) := by decide +kernel
theorem dX3_findFits_81 : decode cX3_findFits 81 = .ok (.iload_n 2, 1) := by decide +kernel
theorem dX3_findFits_82 : decode cX3_findFits 82 = .ok (.invokevirtual 69, 3) := by decide +kernel
theorem dX3_findFits_85 : decode cX3_findFits 85 = .ok (.ifCond .eq 24, 3) := by decide +kernel
theorem dX3_findFits_88 : decode cX3_findFits 88 = .ok (.aload_n 0, 1) := by decide +kernel
theorem dX3_findFits_89 : decode cX3_findFits 89 = .ok (.getfield 44, 3) := by decide +kernel
theorem dX3_findFits_92 : decode cX3_findFits 92 = .ok (.aload_n 0, 1) := by decide +kernel
theorem dX3_findFits_93 : decode cX3_findFits 93 = .ok (.getfield 58, 3) := by decide +kernel
theorem dX3_findFits_96 : decode cX3_findFits 96 = .ok (.iload 5, 2) := by decide +kernel
theorem dX3_findFits_98 : decode cX3_findFits 98 = .ok (.iastore, 1) := by decide +kernel
theorem dX3_findFits_99 : decode cX3_findFits 99 = .ok (.aload_n 0, 1) := by decide +kernel
theorem dX3_findFits_100 : decode cX3_findFits 100 = .ok (.dup, 1) := by decide +kernel
theorem dX3_findFits_101 : decode cX3_findFits 101 = .ok (.getfield 58, 3) := by decide +kernel
theorem dX3_findFits_104 : decode cX3_findFits 104 = .ok (.iconst 1, 1) := by decide +kernel
theorem dX3_findFits_105 : decode cX3_findFits 105 = .ok (.iadd, 1) := by decide +kernel
theorem dX3_findFits_106 : decode cX3_findFits 106 = .ok (.putfield 58, 3) := by decide +kernel
theorem dX3_findFits_109 : decode cX3_findFits 109 = .ok (.aload_n 0, 1) := by decide +kernel
theorem dX3_findFits_110 : decode cX3_findFits 110 = .ok (.getfield 35, 3) := by decide +kernel
theorem dX3_findFits_113 : decode cX3_findFits 113 = .ok (.aload_n 0, 1) := by decide +kernel
theorem dX3_findFits_114 : decode cX3_findFits 114 = .ok (.getfield 38, 3) := by decide +kernel
theorem dX3_findFits_117 : decode cX3_findFits 117 = .ok (.aload_n 0, 1) := by decide +kernel
theorem dX3_findFits_118 : decode cX3_findFits 118 = .ok (.getfield 41, 3) := by decide +kernel
theorem dX3_findFits_121 : decode cX3_findFits 121 = .ok (.iload_n 2, 1) := by decide +kernel
theorem dX3_findFits_122 : decode cX3_findFits 122 = .ok (.invokestatic 73, 3) := by decide +kernel
theorem dX3_findFits_125 : decode cX3_findFits 125 = .ok (.istore_n 3, 1) := by decide +kernel
theorem dX3_findFits_126 : decode cX3_findFits 126 = .ok (.iinc 4 1, 3) := by decide +kernel
theorem dX3_findFits_129 : decode cX3_findFits 129 = .ok (.goto (-70), 3) := by decide +kernel
theorem dX3_findFits_132 : decode cX3_findFits 132 = .ok (.aload_n 0, 1) := by decide +kernel
theorem dX3_findFits_133 : decode cX3_findFits 133 = .ok (.getfield 58, 3) := by decide +kernel
theorem dX3_findFits_136 : decode cX3_findFits 136 = .ok (.ireturn, 1) := by decide +kernel
theorem dX3_tableShares_0 : decode cX3_tableShares 0 = .ok (.bipush (-8), 2) := by decide +kernel
theorem dX3_tableShares_2 : decode cX3_tableShares 2 = .ok (.istore_n 3, 1) := by decide +kernel
theorem dX3_tableShares_3 : decode cX3_tableShares 3 = .ok (.iload_n 3, 1) := by decide +kernel
theorem dX3_tableShares_4 : decode cX3_tableShares 4 = .ok (.bipush 8, 2) := by decide +kernel
theorem dX3_tableShares_6 : decode cX3_tableShares 6 = .ok (.if_icmp .gt 95, 3) := by decide +kernel
theorem dX3_tableShares_9 : decode cX3_tableShares 9 = .ok (.aload_n 0, 1) := by decide +kernel
theorem dX3_tableShares_10 : decode cX3_tableShares 10 = .ok (.getfield 29, 3) := by decide +kernel
theorem dX3_tableShares_13 : decode cX3_tableShares 13 = .ok (.iload_n 3, 1) := by decide +kernel
theorem dX3_tableShares_14 : decode cX3_tableShares 14 = .ok (.bipush 8, 2) := by decide +kernel
theorem dX3_tableShares_16 : decode cX3_tableShares 16 = .ok (.iadd, 1) := by decide +kernel
theorem dX3_tableShares_17 : decode cX3_tableShares 17 = .ok (.aload_n 1, 1) := by decide +kernel
theorem dX3_tableShares_18 : decode cX3_tableShares 18 = .ok (.iload_n 2, 1) := by decide +kernel
theorem dX3_tableShares_19 : decode cX3_tableShares 19 = .ok (.iload_n 3, 1) := by decide +kernel
theorem dX3_tableShares_20 : decode cX3_tableShares 20 = .ok (.invokevirtual 77, 3) := by decide +kernel
theorem dX3_tableShares_23 : decode cX3_tableShares 23 = .ok (.iastore, 1) := by decide +kernel
theorem dX3_tableShares_24 : decode cX3_tableShares 24 = .ok (.iconst 0, 1) := by decide +kernel
theorem dX3_tableShares_25 : decode cX3_tableShares 25 = .ok (.istore 4, 2) := by decide +kernel
theorem dX3_tableShares_27 : decode cX3_tableShares 27 = .ok (.iload 4, 2) := by decide +kernel
theorem dX3_tableShares_29 : decode cX3_tableShares 29 = .ok (.iload_n 2, 1) := by decide +kernel
theorem dX3_tableShares_30 : decode cX3_tableShares 30 = .ok (.if_icmp .ge 65, 3) := by decide +kernel
theorem dX3_tableShares_33 : decode cX3_tableShares 33 = .ok (.iconst 0, 1) := by decide +kernel
theorem dX3_tableShares_34 : decode cX3_tableShares 34 = .ok (.istore 5, 2) := by decide +kernel
theorem dX3_tableShares_36 : decode cX3_tableShares 36 = .ok (.iload 5, 2) := by decide +kernel
theorem dX3_tableShares_38 : decode cX3_tableShares 38 = .ok (.aload_n 0, 1) := by decide +kernel
theorem dX3_tableShares_39 : decode cX3_tableShares 39 = .ok (.getfield 51, 3) := by decide +kernel
theorem dX3_tableShares_42 : decode cX3_tableShares 42 = .ok (.if_icmp .ge 47, 3) := by decide +kernel
theorem dX3_tableShares_45 : decode cX3_tableShares 45 = .ok (.aload_n 0, 1) := by decide +kernel
theorem dX3_tableShares_46 : decode cX3_tableShares 46 = .ok (.getfield 32, 3) := by decide +kernel
theorem dX3_tableShares_49 : decode cX3_tableShares 49 = .ok (.iload_n 3, 1) := by decide +kernel
theorem dX3_tableShares_50 : decode cX3_tableShares 50 = .ok (.iload 4, 2) := by decide +kernel
theorem dX3_tableShares_52 : decode cX3_tableShares 52 = .ok (.iload 5, 2) := by decide +kernel
theorem dX3_tableShares_54 : decode cX3_tableShares 54 = .ok (.invokestatic 83, 3) := by decide +kernel
theorem dX3_tableShares_57 : decode cX3_tableShares 57 = .ok (.aload_n 1, 1) := by decide +kernel
theorem dX3_tableShares_58 : decode cX3_tableShares 58 = .ok (.getfield 87, 3) := by decide +kernel
theorem dX3_tableShares_61 : decode cX3_tableShares 61 = .ok (.iload 4, 2) := by decide +kernel
theorem dX3_tableShares_63 : decode cX3_tableShares 63 = .ok (.aaload, 1) := by decide +kernel
theorem dX3_tableShares_64 : decode cX3_tableShares 64 = .ok (.iload_n 3, 1) := by decide +kernel
theorem dX3_tableShares_65 : decode cX3_tableShares 65 = .ok (.aload_n 0, 1) := by decide +kernel
theorem dX3_tableShares_66 : decode cX3_tableShares 66 = .ok (.getfield 13, 3) := by decide +kernel
theorem dX3_tableShares_69 : decode cX3_tableShares 69 = .ok (.iload 5, 2) := by decide +kernel
theorem dX3_tableShares_71 : decode cX3_tableShares 71 = .ok (.iaload, 1) := by decide +kernel
theorem dX3_tableShares_72 : decode cX3_tableShares 72 = .ok (.aload_n 0, 1) := by decide +kernel
theorem dX3_tableShares_73 : decode cX3_tableShares 73 = .ok (.getfield 17, 3) := by decide +kernel
theorem dX3_tableShares_76 : decode cX3_tableShares 76 = .ok (.iload 5, 2) := by decide +kernel
theorem dX3_tableShares_78 : decode cX3_tableShares 78 = .ok (.iaload, 1) := by decide +kernel
theorem dX3_tableShares_79 : decode cX3_tableShares 79 = .ok (.invokevirtual 91, 3) := by decide +kernel
theorem dX3_tableShares_82 : decode cX3_tableShares 82 = .ok (.iastore, 1) := by decide +kernel
theorem dX3_tableShares_83 : decode cX3_tableShares 83 = .ok (.iinc 5 1, 3) := by decide +kernel
theorem dX3_tableShares_86 : decode cX3_tableShares 86 = .ok (.goto (-50), 3) := by decide +kernel
theorem dX3_tableShares_89 : decode cX3_tableShares 89 = .ok (.iinc 4 1, 3) := by decide +kernel
theorem dX3_tableShares_92 : decode cX3_tableShares 92 = .ok (.goto (-65), 3) := by decide +kernel
theorem dX3_tableShares_95 : decode cX3_tableShares 95 = .ok (.iinc 3 1, 3) := by decide +kernel
theorem dX3_tableShares_98 : decode cX3_tableShares 98 = .ok (.goto (-95), 3) := by decide +kernel
theorem dX3_tableShares_101 : decode cX3_tableShares 101 = .ok (.return_, 1) := by decide +kernel
theorem dX3_shareAt_0 : decode cX3_shareAt 0 = .ok (.iload_n 0, 1) := by decide +kernel
theorem dX3_shareAt_1 : decode cX3_shareAt 1 = .ok (.bipush 8, 2) := by decide +kernel
theorem dX3_shareAt_3 : decode cX3_shareAt 3 = .ok (.iadd, 1) := by decide +kernel
theorem dX3_shareAt_4 : decode cX3_shareAt 4 = .ok (.iconst 4, 1) := by decide +kernel
theorem dX3_shareAt_5 : decode cX3_shareAt 5 = .ok (.imul, 1) := by decide +kernel
theorem dX3_shareAt_6 : decode cX3_shareAt 6 = .ok (.iload_n 1, 1) := by decide +kernel
theorem dX3_shareAt_7 : decode cX3_shareAt 7 = .ok (.iadd, 1) := by decide +kernel
theorem dX3_shareAt_8 : decode cX3_shareAt 8 = .ok (.iconst 5, 1) := by decide +kernel
theorem dX3_shareAt_9 : decode cX3_shareAt 9 = .ok (.imul, 1) := by decide +kernel
theorem dX3_shareAt_10 : decode cX3_shareAt 10 = .ok (.iload_n 2, 1) := by decide +kernel
theorem dX3_shareAt_11 : decode cX3_shareAt 11 = .ok (.iadd, 1) := by decide +kernel
theorem dX3_shareAt_12 : decode cX3_shareAt 12 = .ok (.ireturn, 1) := by decide +kernel
theorem dX3_packedRow_0 : decode cX3_packedRow 0 = .ok (.iconst 0, 1) := by decide +kernel
theorem dX3_packedRow_1 : decode cX3_packedRow 1 = .ok (.istore_n 2, 1) := by decide +kernel
theorem dX3_packedRow_2 : decode cX3_packedRow 2 = .ok (.iconst 0, 1) := by decide +kernel
theorem dX3_packedRow_3 : decode cX3_packedRow 3 = .ok (.istore_n 3, 1) := by decide +kernel
theorem dX3_packedRow_4 : decode cX3_packedRow 4 = .ok (.iload_n 3, 1) := by decide +kernel
theorem dX3_packedRow_5 : decode cX3_packedRow 5 = .ok (.iload_n 1, 1) := by decide +kernel
theorem dX3_packedRow_6 : decode cX3_packedRow 6 = .ok (.if_icmp .ge 22, 3) := by decide +kernel
theorem dX3_packedRow_9 : decode cX3_packedRow 9 = .ok (.iload_n 2, 1) := by decide +kernel
theorem dX3_packedRow_10 : decode cX3_packedRow 10 = .ok (.aload_n 0, 1) := by decide +kernel
theorem dX3_packedRow_11 : decode cX3_packedRow 11 = .ok (.getfield 35, 3) := by decide +kernel
theorem dX3_packedRow_14 : decode cX3_packedRow 14 = .ok (.iload_n 3, 1) := by decide +kernel
theorem dX3_packedRow_15 : decode cX3_packedRow 15 = .ok (.iaload, 1) := by decide +kernel
theorem dX3_packedRow_16 : decode cX3_packedRow 16 = .ok (.iconst 3, 1) := by decide +kernel
theorem dX3_packedRow_17 : decode cX3_packedRow 17 = .ok (.iload_n 3, 1) := by decide +kernel
theorem dX3_packedRow_18 : decode cX3_packedRow 18 = .ok (.imul, 1) := by decide +kernel
theorem dX3_packedRow_19 : decode cX3_packedRow 19 = .ok (.ishl, 1) := by decide +kernel
theorem dX3_packedRow_20 : decode cX3_packedRow 20 = .ok (.ior, 1) := by decide +kernel
theorem dX3_packedRow_21 : decode cX3_packedRow 21 = .ok (.istore_n 2, 1) := by decide +kernel
theorem dX3_packedRow_22 : decode cX3_packedRow 22 = .ok (.iinc 3 1, 3) := by decide +kernel
theorem dX3_packedRow_25 : decode cX3_packedRow 25 = .ok (.goto (-21), 3) := by decide +kernel
theorem dX3_packedRow_28 : decode cX3_packedRow 28 = .ok (.iload_n 2, 1) := by decide +kernel
theorem dX3_packedRow_29 : decode cX3_packedRow 29 = .ok (.ireturn, 1) := by decide +kernel
theorem dX3_coatIn_0 : decode cX3_coatIn 0 = .ok (.iload_n 0, 1) := by decide +kernel
theorem dX3_coatIn_1 : decode cX3_coatIn 1 = .ok (.iconst 3, 1) := by decide +kernel
theorem dX3_coatIn_2 : decode cX3_coatIn 2 = .ok (.iload_n 1, 1) := by decide +kernel
theorem dX3_coatIn_3 : decode cX3_coatIn 3 = .ok (.imul, 1) := by decide +kernel
theorem dX3_coatIn_4 : decode cX3_coatIn 4 = .ok (.ishr, 1) := by decide +kernel
theorem dX3_coatIn_5 : decode cX3_coatIn 5 = .ok (.bipush 7, 2) := by decide +kernel
theorem dX3_coatIn_7 : decode cX3_coatIn 7 = .ok (.iand, 1) := by decide +kernel
theorem dX3_coatIn_8 : decode cX3_coatIn 8 = .ok (.ireturn, 1) := by decide +kernel
theorem dX3_coatOf_0 : decode cX3_coatOf 0 = .ok (.iload_n 1, 1) := by decide +kernel
theorem dX3_coatOf_1 : decode cX3_coatOf 1 = .ok (.iconst 0, 1) := by decide +kernel
theorem dX3_coatOf_2 : decode cX3_coatOf 2 = .ok (.aload_n 0, 1) := by decide +kernel
theorem dX3_coatOf_3 : decode cX3_coatOf 3 = .ok (.getfield 58, 3) := by decide +kernel
theorem dX3_coatOf_6 : decode cX3_coatOf 6 = .ok (.iconst 1, 1) := by decide +kernel
theorem dX3_coatOf_7 : decode cX3_coatOf 7 = .ok (.isub, 1) := by decide +kernel
theorem dX3_coatOf_8 : decode cX3_coatOf 8 = .ok (.invokestatic 94, 3) := by decide +kernel
theorem dX3_coatOf_11 : decode cX3_coatOf 11 = .ok (.ifCond .eq 16, 3) := by decide +kernel
theorem dX3_coatOf_14 : decode cX3_coatOf 14 = .ok (.aload_n 0, 1) := by decide +kernel
theorem dX3_coatOf_15 : decode cX3_coatOf 15 = .ok (.getfield 44, 3) := by decide +kernel
theorem dX3_coatOf_18 : decode cX3_coatOf 18 = .ok (.iload_n 1, 1) := by decide +kernel
theorem dX3_coatOf_19 : decode cX3_coatOf 19 = .ok (.iaload, 1) := by decide +kernel
theorem dX3_coatOf_20 : decode cX3_coatOf 20 = .ok (.iload_n 2, 1) := by decide +kernel
theorem dX3_coatOf_21 : decode cX3_coatOf 21 = .ok (.invokestatic 98, 3) := by decide +kernel
theorem dX3_coatOf_24 : decode cX3_coatOf 24 = .ok (.goto 4, 3) := by decide +kernel
theorem dX3_coatOf_27 : decode cX3_coatOf 27 = .ok (.iconst (-1), 1) := by decide +kernel
theorem dX3_coatOf_28 : decode cX3_coatOf 28 = .ok (.ireturn, 1) := by decide +kernel
theorem dX3_holdsAll_0 : decode cX3_holdsAll 0 = .ok (.iconst 0, 1) := by decide +kernel
theorem dX3_holdsAll_1 : decode cX3_holdsAll 1 = .ok (.istore_n 3, 1) := by decide +kernel
theorem dX3_holdsAll_2 : decode cX3_holdsAll 2 = .ok (.iload_n 3, 1) := by decide +kernel
theorem dX3_holdsAll_3 : decode cX3_holdsAll 3 = .ok (.aload_n 0, 1) := by decide +kernel
theorem dX3_holdsAll_4 : decode cX3_holdsAll 4 = .ok (.getfield 55, 3) := by decide +kernel
theorem dX3_holdsAll_7 : decode cX3_holdsAll 7 = .ok (.if_icmp .ge 61, 3) := by decide +kernel
theorem dX3_holdsAll_10 : decode cX3_holdsAll 10 = .ok (.aload_n 0, 1) := by decide +kernel
theorem dX3_holdsAll_11 : decode cX3_holdsAll 11 = .ok (.getfield 29, 3) := by decide +kernel
theorem dX3_holdsAll_14 : decode cX3_holdsAll 14 = .ok (.aload_n 0, 1) := by decide +kernel
theorem dX3_holdsAll_15 : decode cX3_holdsAll 15 = .ok (.getfield 20, 3) := by decide +kernel
theorem dX3_holdsAll_18 : decode cX3_holdsAll 18 = .ok (.iload_n 3, 1) := by decide +kernel
theorem dX3_holdsAll_19 : decode cX3_holdsAll 19 = .ok (.iaload, 1) := by decide +kernel
theorem dX3_holdsAll_20 : decode cX3_holdsAll 20 = .ok (.bipush 8, 2) := by decide +kernel
theorem dX3_holdsAll_22 : decode cX3_holdsAll 22 = .ok (.iadd, 1) := by decide +kernel
theorem dX3_holdsAll_23 : decode cX3_holdsAll 23 = .ok (.iaload, 1) := by decide +kernel
theorem dX3_holdsAll_24 : decode cX3_holdsAll 24 = .ok (.aload_n 0, 1) := by decide +kernel
theorem dX3_holdsAll_25 : decode cX3_holdsAll 25 = .ok (.iload_n 1, 1) := by decide +kernel
theorem dX3_holdsAll_26 : decode cX3_holdsAll 26 = .ok (.iload_n 2, 1) := by decide +kernel
theorem dX3_holdsAll_27 : decode cX3_holdsAll 27 = .ok (.aload_n 0, 1) := by decide +kernel
theorem dX3_holdsAll_28 : decode cX3_holdsAll 28 = .ok (.getfield 20, 3) := by decide +kernel
theorem dX3_holdsAll_31 : decode cX3_holdsAll 31 = .ok (.iload_n 3, 1) := by decide +kernel
theorem dX3_holdsAll_32 : decode cX3_holdsAll 32 = .ok (.iaload, 1) := by decide +kernel
theorem dX3_holdsAll_33 : decode cX3_holdsAll 33 = .ok (.invokevirtual 101, 3) := by decide +kernel
theorem dX3_holdsAll_36 : decode cX3_holdsAll 36 = .ok (.iadd, 1) := by decide +kernel
theorem dX3_holdsAll_37 : decode cX3_holdsAll 37 = .ok (.istore 4, 2) := by decide +kernel
theorem dX3_holdsAll_39 : decode cX3_holdsAll 39 = .ok (.iload 4, 2) := by decide +kernel
theorem dX3_holdsAll_41 : decode cX3_holdsAll 41 = .ok (.aload_n 0, 1) := by decide +kernel
theorem dX3_holdsAll_42 : decode cX3_holdsAll 42 = .ok (.getfield 23, 3) := by decide +kernel
theorem dX3_holdsAll_45 : decode cX3_holdsAll 45 = .ok (.iload_n 3, 1) := by decide +kernel
theorem dX3_holdsAll_46 : decode cX3_holdsAll 46 = .ok (.iaload, 1) := by decide +kernel
theorem dX3_holdsAll_47 : decode cX3_holdsAll 47 = .ok (.isub, 1) := by decide +kernel
theorem dX3_holdsAll_48 : decode cX3_holdsAll 48 = .ok (.invokestatic 104, 3) := by decide +kernel
theorem dX3_holdsAll_51 : decode cX3_holdsAll 51 = .ok (.aload_n 0, 1) := by decide +kernel
theorem dX3_holdsAll_52 : decode cX3_holdsAll 52 = .ok (.getfield 26, 3) := by decide +kernel
theorem dX3_holdsAll_55 : decode cX3_holdsAll 55 = .ok (.iload_n 3, 1) := by decide +kernel
theorem dX3_holdsAll_56 : decode cX3_holdsAll 56 = .ok (.iaload, 1) := by decide +kernel
theorem dX3_holdsAll_57 : decode cX3_holdsAll 57 = .ok (.if_icmp .le 5, 3) := by decide +kernel
theorem dX3_holdsAll_60 : decode cX3_holdsAll 60 = .ok (.iconst 0, 1) := by decide +kernel
theorem dX3_holdsAll_61 : decode cX3_holdsAll 61 = .ok (.ireturn, 1) := by decide +kernel
theorem dX3_holdsAll_62 : decode cX3_holdsAll 62 = .ok (.iinc 3 1, 3) := by decide +kernel
theorem dX3_holdsAll_65 : decode cX3_holdsAll 65 = .ok (.goto (-63), 3) := by decide +kernel
theorem dX3_holdsAll_68 : decode cX3_holdsAll 68 = .ok (.iconst 1, 1) := by decide +kernel
theorem dX3_holdsAll_69 : decode cX3_holdsAll 69 = .ok (.ireturn, 1) := by decide +kernel
theorem dX3_hiddenPush_0 : decode cX3_hiddenPush 0 = .ok (.iconst 0, 1) := by decide +kernel
theorem dX3_hiddenPush_1 : decode cX3_hiddenPush 1 = .ok (.istore 4, 2) := by decide +kernel
theorem dX3_hiddenPush_3 : decode cX3_hiddenPush 3 = .ok (.iconst 0, 1) := by decide +kernel
theorem dX3_hiddenPush_4 : decode cX3_hiddenPush 4 = .ok (.istore 5, 2) := by decide +kernel
theorem dX3_hiddenPush_6 : decode cX3_hiddenPush 6 = .ok (.iload 5, 2) := by decide +kernel
theorem dX3_hiddenPush_8 : decode cX3_hiddenPush 8 = .ok (.iload_n 2, 1) := by decide +kernel
theorem dX3_hiddenPush_9 : decode cX3_hiddenPush 9 = .ok (.if_icmp .ge 31, 3) := by decide +kernel
theorem dX3_hiddenPush_12 : decode cX3_hiddenPush 12 = .ok (.iload 4, 2) := by decide +kernel
theorem dX3_hiddenPush_14 : decode cX3_hiddenPush 14 = .ok (.aload_n 0, 1) := by decide +kernel
theorem dX3_hiddenPush_15 : decode cX3_hiddenPush 15 = .ok (.getfield 32, 3) := by decide +kernel
theorem dX3_hiddenPush_18 : decode cX3_hiddenPush 18 = .ok (.iload_n 3, 1) := by decide +kernel
theorem dX3_hiddenPush_19 : decode cX3_hiddenPush 19 = .ok (.iload 5, 2) := by decide +kernel
theorem dX3_hiddenPush_21 : decode cX3_hiddenPush 21 = .ok (.iload_n 1, 1) := by decide +kernel
theorem dX3_hiddenPush_22 : decode cX3_hiddenPush 22 = .ok (.iload 5, 2) := by decide +kernel
theorem dX3_hiddenPush_24 : decode cX3_hiddenPush 24 = .ok (.invokestatic 98, 3) := by decide +kernel
theorem dX3_hiddenPush_27 : decode cX3_hiddenPush 27 = .ok (.invokestatic 83, 3) := by decide +kernel
theorem dX3_hiddenPush_30 : decode cX3_hiddenPush 30 = .ok (.iaload, 1) := by decide +kernel
theorem dX3_hiddenPush_31 : decode cX3_hiddenPush 31 = .ok (.iadd, 1) := by decide +kernel
theorem dX3_hiddenPush_32 : decode cX3_hiddenPush 32 = .ok (.istore 4, 2) := by decide +kernel
theorem dX3_hiddenPush_34 : decode cX3_hiddenPush 34 = .ok (.iinc 5 1, 3) := by decide +kernel
theorem dX3_hiddenPush_37 : decode cX3_hiddenPush 37 = .ok (.goto (-31), 3) := by decide +kernel
theorem dX3_hiddenPush_40 : decode cX3_hiddenPush 40 = .ok (.iload 4, 2) := by decide +kernel
theorem dX3_hiddenPush_42 : decode cX3_hiddenPush 42 = .ok (.ireturn, 1) := by decide +kernel
theorem dX3_bestSlant_0 : decode cX3_bestSlant 0 = .ok (.iconst 0, 1) := by decide +kernel
theorem dX3_bestSlant_1 : decode cX3_bestSlant 1 = .ok (.istore_n 2, 1) := by decide +kernel
theorem dX3_bestSlant_2 : decode cX3_bestSlant 2 = .ok (.iconst 0, 1) := by decide +kernel
theorem dX3_bestSlant_3 : decode cX3_bestSlant 3 = .ok (.istore_n 3, 1) := by decide +kernel
theorem dX3_bestSlant_4 : decode cX3_bestSlant 4 = .ok (.bipush (-8), 2) := by decide +kernel
theorem dX3_bestSlant_6 : decode cX3_bestSlant 6 = .ok (.istore 4, 2) := by decide +kernel
theorem dX3_bestSlant_8 : decode cX3_bestSlant 8 = .ok (.iload 4, 2) := by decide +kernel
theorem dX3_bestSlant_10 : decode cX3_bestSlant 10 = .ok (.bipush 8, 2) := by decide +kernel
theorem dX3_bestSlant_12 : decode cX3_bestSlant 12 = .ok (.if_icmp .gt 30, 3) := by decide +kernel
theorem dX3_bestSlant_15 : decode cX3_bestSlant 15 = .ok (.aload_n 0, 1) := by decide +kernel
theorem dX3_bestSlant_16 : decode cX3_bestSlant 16 = .ok (.iload_n 1, 1) := by decide +kernel
theorem dX3_bestSlant_17 : decode cX3_bestSlant 17 = .ok (.iload 4, 2) := by decide +kernel
theorem dX3_bestSlant_19 : decode cX3_bestSlant 19 = .ok (.invokevirtual 109, 3) := by decide +kernel
theorem dX3_bestSlant_22 : decode cX3_bestSlant 22 = .ok (.istore 5, 2) := by decide +kernel
theorem dX3_bestSlant_24 : decode cX3_bestSlant 24 = .ok (.iload 5, 2) := by decide +kernel
theorem dX3_bestSlant_26 : decode cX3_bestSlant 26 = .ok (.iload_n 3, 1) := by decide +kernel
theorem dX3_bestSlant_27 : decode cX3_bestSlant 27 = .ok (.if_icmp .le 9, 3) := by decide +kernel
theorem dX3_bestSlant_30 : decode cX3_bestSlant 30 = .ok (.iload 5, 2) := by decide +kernel
theorem dX3_bestSlant_32 : decode cX3_bestSlant 32 = .ok (.istore_n 3, 1) := by decide +kernel
theorem dX3_bestSlant_33 : decode cX3_bestSlant 33 = .ok (.iload 4, 2) := by decide +kernel
theorem dX3_bestSlant_35 : decode cX3_bestSlant 35 = .ok (.istore_n 2, 1) := by decide +kernel
theorem dX3_bestSlant_36 : decode cX3_bestSlant 36 = .ok (.iinc 4 1, 3) := by decide +kernel
theorem dX3_bestSlant_39 : decode cX3_bestSlant 39 = .ok (.goto (-31), 3) := by decide +kernel
theorem dX3_bestSlant_42 : decode cX3_bestSlant 42 = .ok (.iload_n 2, 1) := by decide +kernel
theorem dX3_bestSlant_43 : decode cX3_bestSlant 43 = .ok (.ireturn, 1) := by decide +kernel
theorem dX3_unlikePushes_0 : decode cX3_unlikePushes 0 = .ok (.iconst 0, 1) := by decide +kernel
theorem dX3_unlikePushes_1 : decode cX3_unlikePushes 1 = .ok (.istore_n 3, 1) := by decide +kernel
theorem dX3_unlikePushes_2 : decode cX3_unlikePushes 2 = .ok (.iload_n 3, 1) := by decide +kernel
theorem dX3_unlikePushes_3 : decode cX3_unlikePushes 3 = .ok (.bipush 126, 2) := by decide +kernel
theorem dX3_unlikePushes_5 : decode cX3_unlikePushes 5 = .ok (.if_icmp .ge 16, 3) := by decide +kernel
theorem dX3_unlikePushes_8 : decode cX3_unlikePushes 8 = .ok (.aload_n 0, 1) := by decide +kernel
theorem dX3_unlikePushes_9 : decode cX3_unlikePushes 9 = .ok (.getfield 47, 3) := by decide +kernel
theorem dX3_unlikePushes_12 : decode cX3_unlikePushes 12 = .ok (.iload_n 3, 1) := by decide +kernel
theorem dX3_unlikePushes_13 : decode cX3_unlikePushes 13 = .ok (.lconst 0, 1) := by decide +kernel
theorem dX3_unlikePushes_14 : decode cX3_unlikePushes 14 = .ok (.lastore, 1) := by decide +kernel
theorem dX3_unlikePushes_15 : decode cX3_unlikePushes 15 = .ok (.iinc 3 1, 3) := by decide +kernel
theorem dX3_unlikePushes_18 : decode cX3_unlikePushes 18 = .ok (.goto (-16), 3) := by decide +kernel
theorem dX3_unlikePushes_21 : decode cX3_unlikePushes 21 = .ok (.iconst 0, 1) := by decide +kernel
theorem dX3_unlikePushes_22 : decode cX3_unlikePushes 22 = .ok (.istore_n 3, 1) := by decide +kernel
theorem dX3_unlikePushes_23 : decode cX3_unlikePushes 23 = .ok (.iconst 0, 1) := by decide +kernel
theorem dX3_unlikePushes_24 : decode cX3_unlikePushes 24 = .ok (.istore 4, 2) := by decide +kernel
theorem dX3_unlikePushes_26 : decode cX3_unlikePushes 26 = .ok (.iload 4, 2) := by decide +kernel
theorem dX3_unlikePushes_28 : decode cX3_unlikePushes 28 = .ok (.aload_n 0, 1) := by decide +kernel
theorem dX3_unlikePushes_29 : decode cX3_unlikePushes 29 = .ok (.getfield 58, 3) := by decide +kernel
theorem dX3_unlikePushes_32 : decode cX3_unlikePushes 32 = .ok (.if_icmp .ge 83, 3) := by decide +kernel
theorem dX3_unlikePushes_35 : decode cX3_unlikePushes 35 = .ok (.aload_n 0, 1) := by decide +kernel
theorem dX3_unlikePushes_36 : decode cX3_unlikePushes 36 = .ok (.aload_n 0, 1) := by decide +kernel
theorem dX3_unlikePushes_37 : decode cX3_unlikePushes 37 = .ok (.getfield 44, 3) := by decide +kernel
theorem dX3_unlikePushes_40 : decode cX3_unlikePushes 40 = .ok (.iload 4, 2) := by decide +kernel
theorem dX3_unlikePushes_42 : decode cX3_unlikePushes 42 = .ok (.iaload, 1) := by decide +kernel
theorem dX3_unlikePushes_43 : decode cX3_unlikePushes 43 = .ok (.iload_n 1, 1) := by decide +kernel
theorem dX3_unlikePushes_44 : decode cX3_unlikePushes 44 = .ok (.iload_n 2, 1) := by decide +kernel
theorem dX3_unlikePushes_45 : decode cX3_unlikePushes 45 = .ok (.invokevirtual 101, 3) := by decide +kernel
theorem dX3_unlikePushes_48 : decode cX3_unlikePushes 48 = .ok (.istore 5, 2) := by decide +kernel
theorem dX3_unlikePushes_50 : decode cX3_unlikePushes 50 = .ok (.lconst 1, 1) := by decide +kernel
theorem dX3_unlikePushes_51 : decode cX3_unlikePushes 51 = .ok (.iload 5, 2) := by decide +kernel
theorem dX3_unlikePushes_53 : decode cX3_unlikePushes 53 = .ok (.bipush 63, 2) := by decide +kernel
theorem dX3_unlikePushes_55 : decode cX3_unlikePushes 55 = .ok (.iand, 1) := by decide +kernel
theorem dX3_unlikePushes_56 : decode cX3_unlikePushes 56 = .ok (.lshl, 1) := by decide +kernel
theorem dX3_unlikePushes_57 : decode cX3_unlikePushes 57 = .ok (.lstore 6, 2) := by decide +kernel
theorem dX3_unlikePushes_59 : decode cX3_unlikePushes 59 = .ok (.iload 5, 2) := by decide +kernel
theorem dX3_unlikePushes_61 : decode cX3_unlikePushes 61 = .ok (.bipush 6, 2) := by decide +kernel
theorem dX3_unlikePushes_63 : decode cX3_unlikePushes 63 = .ok (.ishr, 1) := by decide +kernel
theorem dX3_unlikePushes_64 : decode cX3_unlikePushes 64 = .ok (.iconst 0, 1) := by decide +kernel
theorem dX3_unlikePushes_65 : decode cX3_unlikePushes 65 = .ok (.bipush 125, 2) := by decide +kernel
theorem dX3_unlikePushes_67 : decode cX3_unlikePushes 67 = .ok (.invokestatic 94, 3) := by decide +kernel
theorem dX3_unlikePushes_70 : decode cX3_unlikePushes 70 = .ok (.ifCond .eq 39, 3) := by decide +kernel
theorem dX3_unlikePushes_73 : decode cX3_unlikePushes 73 = .ok (.aload_n 0, 1) := by decide +kernel
theorem dX3_unlikePushes_74 : decode cX3_unlikePushes 74 = .ok (.getfield 47, 3) := by decide +kernel
theorem dX3_unlikePushes_77 : decode cX3_unlikePushes 77 = .ok (.iload 5, 2) := by decide +kernel
theorem dX3_unlikePushes_79 : decode cX3_unlikePushes 79 = .ok (.bipush 6, 2) := by decide +kernel
theorem dX3_unlikePushes_81 : decode cX3_unlikePushes 81 = .ok (.ishr, 1) := by decide +kernel
theorem dX3_unlikePushes_82 : decode cX3_unlikePushes 82 = .ok (.laload, 1) := by decide +kernel
theorem dX3_unlikePushes_83 : decode cX3_unlikePushes 83 = .ok (.lload 6, 2) := by decide +kernel
theorem dX3_unlikePushes_85 : decode cX3_unlikePushes 85 = .ok (.land, 1) := by decide +kernel
theorem dX3_unlikePushes_86 : decode cX3_unlikePushes 86 = .ok (.lconst 0, 1) := by decide +kernel
theorem dX3_unlikePushes_87 : decode cX3_unlikePushes 87 = .ok (.lcmp, 1) := by decide +kernel
theorem dX3_unlikePushes_88 : decode cX3_unlikePushes 88 = .ok (.ifCond .ne 21, 3) := by decide +kernel
theorem dX3_unlikePushes_91 : decode cX3_unlikePushes 91 = .ok (.aload_n 0, 1) := by decide +kernel
theorem dX3_unlikePushes_92 : decode cX3_unlikePushes 92 = .ok (.getfield 47, 3) := by decide +kernel
theorem dX3_unlikePushes_95 : decode cX3_unlikePushes 95 = .ok (.iload 5, 2) := by decide +kernel
theorem dX3_unlikePushes_97 : decode cX3_unlikePushes 97 = .ok (.bipush 6, 2) := by decide +kernel
theorem dX3_unlikePushes_99 : decode cX3_unlikePushes 99 = .ok (.ishr, 1) := by decide +kernel
theorem dX3_unlikePushes_100 : decode cX3_unlikePushes 100 = .ok (.dup2, 1) := by decide +kernel
theorem dX3_unlikePushes_101 : decode cX3_unlikePushes 101 = .ok (.laload, 1) := by decide +kernel
theorem dX3_unlikePushes_102 : decode cX3_unlikePushes 102 = .ok (.lload 6, 2) := by decide +kernel
theorem dX3_unlikePushes_104 : decode cX3_unlikePushes 104 = .ok (.lor, 1) := by decide +kernel
theorem dX3_unlikePushes_105 : decode cX3_unlikePushes 105 = .ok (.lastore, 1) := by decide +kernel
theorem dX3_unlikePushes_106 : decode cX3_unlikePushes 106 = .ok (.iinc 3 1, 3) := by decide +kernel
theorem dX3_unlikePushes_109 : decode cX3_unlikePushes 109 = .ok (.iinc 4 1, 3) := by decide +kernel
theorem dX3_unlikePushes_112 : decode cX3_unlikePushes 112 = .ok (.goto (-86), 3) := by decide +kernel
theorem dX3_unlikePushes_115 : decode cX3_unlikePushes 115 = .ok (.iload_n 3, 1) := by decide +kernel
theorem dX3_unlikePushes_116 : decode cX3_unlikePushes 116 = .ok (.ireturn, 1) := by decide +kernel
theorem dX4_init_0 : decode cX4_init 0 = .ok (.aload_n 0, 1) := by decide +kernel
theorem dX4_init_1 : decode cX4_init 1 = .ok (.invokespecial 3, 3) := by decide +kernel
theorem dX4_init_4 : decode cX4_init 4 = .ok (.aload_n 0, 1) := by decide +kernel
theorem dX4_init_5 : decode cX4_init 5 = .ok (.bipush 6, 2) := by decide +kernel
theorem dX4_init_7 : decode cX4_init 7 = .ok (.newarray .int, 2) := by decide +kernel
theorem dX4_init_9 : decode cX4_init 9 = .ok (.putfield 11, 3) := by decide +kernel
theorem dX4_init_12 : decode cX4_init 12 = .ok (.aload_n 0, 1) := by decide +kernel
theorem dX4_init_13 : decode cX4_init 13 = .ok (.bipush 6, 2) := by decide +kernel
theorem dX4_init_15 : decode cX4_init 15 = .ok (.newarray .int, 2) := by decide +kernel
theorem dX4_init_17 : decode cX4_init 17 = .ok (.putfield 15, 3) := by decide +kernel
theorem dX4_init_20 : decode cX4_init 20 = .ok (.aload_n 0, 1) := by decide +kernel
theorem dX4_init_21 : decode cX4_init 21 = .ok (.bipush 6, 2) := by decide +kernel
theorem dX4_init_23 : decode cX4_init 23 = .ok (.newarray .int, 2) := by decide +kernel
theorem dX4_init_25 : decode cX4_init 25 = .ok (.putfield 18, 3) := by decide +kernel
theorem dX4_init_28 : decode cX4_init 28 = .ok (.aload_n 0, 1) := by decide +kernel
theorem dX4_init_29 : decode cX4_init 29 = .ok (.bipush 6, 2) := by decide +kernel
theorem dX4_init_31 : decode cX4_init 31 = .ok (.newarray .int, 2) := by decide +kernel
theorem dX4_init_33 : decode cX4_init 33 = .ok (.putfield 21, 3) := by decide +kernel
theorem dX4_init_36 : decode cX4_init 36 = .ok (.aload_n 0, 1) := by decide +kernel
theorem dX4_init_37 : decode cX4_init 37 = .ok (.bipush 6, 2) := by decide +kernel
theorem dX4_init_39 : decode cX4_init 39 = .ok (.newarray .boolean, 2) := by decide +kernel
theorem dX4_init_41 : decode cX4_init 41 = .ok (.putfield 24, 3) := by decide +kernel
theorem dX4_init_44 : decode cX4_init 44 = .ok (.aload_n 0, 1) := by decide +kernel
theorem dX4_init_45 : decode cX4_init 45 = .ok (.bipush 6, 2) := by decide +kernel
theorem dX4_init_47 : decode cX4_init 47 = .ok (.newarray .int, 2) := by decide +kernel
theorem dX4_init_49 : decode cX4_init 49 = .ok (.putfield 28, 3) := by decide +kernel
theorem dX4_init_52 : decode cX4_init 52 = .ok (.aload_n 0, 1) := by decide +kernel
theorem dX4_init_53 : decode cX4_init 53 = .ok (.bipush 6, 2) := by decide +kernel
theorem dX4_init_55 : decode cX4_init 55 = .ok (.newarray .int, 2) := by decide +kernel
theorem dX4_init_57 : decode cX4_init 57 = .ok (.putfield 31, 3) := by decide +kernel
theorem dX4_init_60 : decode cX4_init 60 = .ok (.aload_n 0, 1) := by decide +kernel
theorem dX4_init_61 : decode cX4_init 61 = .ok (.bipush 12, 2) := by decide +kernel
theorem dX4_init_63 : decode cX4_init 63 = .ok (.bipush 7, 2) := by decide +kernel
theorem dX4_init_65 : decode cX4_init 65 = .ok (.multianewarray 34 2, 4) := by decide +kernel
theorem dX4_init_69 : decode cX4_init 69 = .ok (.putfield 36, 3) := by decide +kernel
theorem dX4_init_72 : decode cX4_init 72 = .ok (.return_, 1) := by decide +kernel
theorem dX4_hasKnot_0 : decode cX4_hasKnot 0 = .ok (.iload_n 1, 1) := by decide +kernel
theorem dX4_hasKnot_1 : decode cX4_hasKnot 1 = .ok (.iconst 0, 1) := by decide +kernel
theorem dX4_hasKnot_2 : decode cX4_hasKnot 2 = .ok (.aload_n 0, 1) := by decide +kernel
theorem dX4_hasKnot_3 : decode cX4_hasKnot 3 = .ok (.getfield 39, 3) := by decide +kernel
theorem dX4_hasKnot_6 : decode cX4_hasKnot 6 = .ok (.iconst 1, 1) := by decide +kernel
theorem dX4_hasKnot_7 : decode cX4_hasKnot 7 = .ok (.isub, 1) := by decide +kernel
theorem dX4_hasKnot_8 : decode cX4_hasKnot 8 = .ok (.invokestatic 43, 3) := by decide +kernel
theorem dX4_hasKnot_11 : decode cX4_hasKnot 11 = .ok (.ireturn, 1) := by decide +kernel
theorem dX4_hasString_0 : decode cX4_hasString 0 = .ok (.iload_n 1, 1) := by decide +kernel
theorem dX4_hasString_1 : decode cX4_hasString 1 = .ok (.iconst 0, 1) := by decide +kernel
theorem dX4_hasString_2 : decode cX4_hasString 2 = .ok (.aload_n 0, 1) := by decide +kernel
theorem dX4_hasString_3 : decode cX4_hasString 3 = .ok (.getfield 47, 3) := by decide +kernel
theorem dX4_hasString_6 : decode cX4_hasString 6 = .ok (.iconst 1, 1) := by decide +kernel
theorem dX4_hasString_7 : decode cX4_hasString 7 = .ok (.isub, 1) := by decide +kernel
theorem dX4_hasString_8 : decode cX4_hasString 8 = .ok (.invokestatic 43, 3) := by decide +kernel
theorem dX4_hasString_11 : decode cX4_hasString 11 = .ok (.ireturn, 1) := by decide +kernel
theorem dX4_addKnot_0 : decode cX4_addKnot 0 = .ok (.aload_n 0, 1) := by decide +kernel
theorem dX4_addKnot_1 : decode cX4_addKnot 1 = .ok (.getfield 39, 3) := by decide +kernel
theorem dX4_addKnot_4 : decode cX4_addKnot 4 = .ok (.bipush 6, 2) := by decide +kernel
theorem dX4_addKnot_6 : decode cX4_addKnot 6 = .ok (.if_icmp .ne 5, 3) := by decide +kernel
theorem dX4_addKnot_9 : decode cX4_addKnot 9 = .ok (.iconst (-1), 1) := by decide +kernel
theorem dX4_addKnot_10 : decode cX4_addKnot 10 = .ok (.ireturn, 1) := by decide +kernel
theorem dX4_addKnot_11 : decode cX4_addKnot 11 = .ok (.aload_n 0, 1) := by decide +kernel
theorem dX4_addKnot_12 : decode cX4_addKnot 12 = .ok (.iconst 0, 1) := by decide +kernel
theorem dX4_addKnot_13 : decode cX4_addKnot 13 = .ok (.putfield 50, 3) := by decide +kernel
theorem dX4_addKnot_16 : decode cX4_addKnot 16 = .ok (.aload_n 0, 1) := by decide +kernel
theorem dX4_addKnot_17 : decode cX4_addKnot 17 = .ok (.getfield 11, 3) := by decide +kernel
theorem dX4_addKnot_20 : decode cX4_addKnot 20 = .ok (.aload_n 0, 1) := by decide +kernel
theorem dX4_addKnot_21 : decode cX4_addKnot 21 = .ok (.getfield 39, 3) := by decide +kernel
theorem dX4_addKnot_24 : decode cX4_addKnot 24 = .ok (.iload_n 1, 1) := by decide +kernel
theorem dX4_addKnot_25 : decode cX4_addKnot 25 = .ok (.iastore, 1) := by decide +kernel
theorem dX4_addKnot_26 : decode cX4_addKnot 26 = .ok (.aload_n 0, 1) := by decide +kernel
theorem dX4_addKnot_27 : decode cX4_addKnot 27 = .ok (.getfield 15, 3) := by decide +kernel
theorem dX4_addKnot_30 : decode cX4_addKnot 30 = .ok (.aload_n 0, 1) := by decide +kernel
theorem dX4_addKnot_31 : decode cX4_addKnot 31 = .ok (.getfield 39, 3) := by decide +kernel
theorem dX4_addKnot_34 : decode cX4_addKnot 34 = .ok (.iload_n 2, 1) := by decide +kernel
theorem dX4_addKnot_35 : decode cX4_addKnot 35 = .ok (.iastore, 1) := by decide +kernel
theorem dX4_addKnot_36 : decode cX4_addKnot 36 = .ok (.aload_n 0, 1) := by decide +kernel
theorem dX4_addKnot_37 : decode cX4_addKnot 37 = .ok (.getfield 24, 3) := by decide +kernel
theorem dX4_addKnot_40 : decode cX4_addKnot 40 = .ok (.aload_n 0, 1) := by decide +kernel
theorem dX4_addKnot_41 : decode cX4_addKnot 41 = .ok (.getfield 39, 3) := by decide +kernel
theorem dX4_addKnot_44 : decode cX4_addKnot 44 = .ok (.iload_n 3, 1) := by decide +kernel
theorem dX4_addKnot_45 : decode cX4_addKnot 45 = .ok (.bastore, 1) := by decide +kernel
theorem dX4_addKnot_46 : decode cX4_addKnot 46 = .ok (.aload_n 0, 1) := by decide +kernel
theorem dX4_addKnot_47 : decode cX4_addKnot 47 = .ok (.getfield 18, 3) := by decide +kernel
theorem dX4_addKnot_50 : decode cX4_addKnot 50 = .ok (.aload_n 0, 1) := by decide +kernel
theorem dX4_addKnot_51 : decode cX4_addKnot 51 = .ok (.getfield 39, 3) := by decide +kernel
theorem dX4_addKnot_54 : decode cX4_addKnot 54 = .ok (.iconst 0, 1) := by decide +kernel
theorem dX4_addKnot_55 : decode cX4_addKnot 55 = .ok (.iastore, 1) := by decide +kernel
theorem dX4_addKnot_56 : decode cX4_addKnot 56 = .ok (.aload_n 0, 1) := by decide +kernel
theorem dX4_addKnot_57 : decode cX4_addKnot 57 = .ok (.getfield 21, 3) := by decide +kernel
theorem dX4_addKnot_60 : decode cX4_addKnot 60 = .ok (.aload_n 0, 1) := by decide +kernel
theorem dX4_addKnot_61 : decode cX4_addKnot 61 = .ok (.getfield 39, 3) := by decide +kernel
theorem dX4_addKnot_64 : decode cX4_addKnot 64 = .ok (.iconst 0, 1) := by decide +kernel
theorem dX4_addKnot_65 : decode cX4_addKnot 65 = .ok (.iastore, 1) := by decide +kernel
theorem dX4_addKnot_66 : decode cX4_addKnot 66 = .ok (.aload_n 0, 1) := by decide +kernel
theorem dX4_addKnot_67 : decode cX4_addKnot 67 = .ok (.dup, 1) := by decide +kernel
theorem dX4_addKnot_68 : decode cX4_addKnot 68 = .ok (.getfield 39, 3) := by decide +kernel
theorem dX4_addKnot_71 : decode cX4_addKnot 71 = .ok (.dup_x1, 1) := by decide +kernel
theorem dX4_addKnot_72 : decode cX4_addKnot 72 = .ok (.iconst 1, 1) := by decide +kernel
theorem dX4_addKnot_73 : decode cX4_addKnot 73 = .ok (.iadd, 1) := by decide +kernel
theorem dX4_addKnot_74 : decode cX4_addKnot 74 = .ok (.putfield 39, 3) := by decide +kernel
theorem dX4_addKnot_77 : decode cX4_addKnot 77 = .ok (.ireturn, 1) := by decide +kernel
theorem dX4_setPull_0 : decode cX4_setPull 0 = .ok (.aload_n 0, 1) := by decide +kernel
theorem dX4_setPull_1 : decode cX4_setPull 1 = .ok (.iconst 0, 1) := by decide +kernel
theorem dX4_setPull_2 : decode cX4_setPull 2 = .ok (.putfield 50, 3) := by decide +kernel
theorem dX4_setPull_5 : decode cX4_setPull 5 = .ok (.aload_n 0, 1) := by decide +kernel
theorem dX4_setPull_6 : decode cX4_setPull 6 = .ok (.getfield 18, 3) := by decide +kernel
theorem dX4_setPull_9 : decode cX4_setPull 9 = .ok (.iload_n 1, 1) := by decide +kernel
theorem dX4_setPull_10 : decode cX4_setPull 10 = .ok (.iload_n 2, 1) := by decide +kernel
theorem dX4_setPull_11 : decode cX4_setPull 11 = .ok (.iastore, 1) := by decide +kernel
theorem dX4_setPull_12 : decode cX4_setPull 12 = .ok (.aload_n 0, 1) := by decide +kernel
theorem dX4_setPull_13 : decode cX4_setPull 13 = .ok (.getfield 21, 3) := by decide +kernel
theorem dX4_setPull_16 : decode cX4_setPull 16 = .ok (.iload_n 1, 1) := by decide +kernel
theorem dX4_setPull_17 : decode cX4_setPull 17 = .ok (.iload_n 3, 1) := by decide +kernel
theorem dX4_setPull_18 : decode cX4_setPull 18 = .ok (.iastore, 1) := by decide +kernel
theorem dX4_setPull_19 : decode cX4_setPull 19 = .ok (.return_, 1) := by decide +kernel
theorem dX4_addString_0 : decode cX4_addString 0 = .ok (.aload_n 0, 1) := by decide +kernel
theorem dX4_addString_1 : decode cX4_addString 1 = .ok (.getfield 47, 3) := by decide +kernel
theorem dX4_addString_4 : decode cX4_addString 4 = .ok (.bipush 6, 2) := by decide +kernel
theorem dX4_addString_6 : decode cX4_addString 6 = .ok (.if_icmp .ne 5, 3) := by decide +kernel
theorem dX4_addString_9 : decode cX4_addString 9 = .ok (.iconst (-1), 1) := by decide +kernel
theorem dX4_addString_10 : decode cX4_addString 10 = .ok (.ireturn, 1) := by decide +kernel
theorem dX4_addString_11 : decode cX4_addString 11 = .ok (.aload_n 0, 1) := by decide +kernel
theorem dX4_addString_12 : decode cX4_addString 12 = .ok (.getfield 11, 3) := by decide +kernel
theorem dX4_addString_15 : decode cX4_addString 15 = .ok (.iload_n 1, 1) := by decide +kernel
theorem dX4_addString_16 : decode cX4_addString 16 = .ok (.iaload, 1) := by decide +kernel
theorem dX4_addString_17 : decode cX4_addString 17 = .ok (.aload_n 0, 1) := by decide +kernel
theorem dX4_addString_18 : decode cX4_addString 18 = .ok (.getfield 11, 3) := by decide +kernel
theorem dX4_addString_21 : decode cX4_addString 21 = .ok (.iload_n 2, 1) := by decide +kernel
theorem dX4_addString_22 : decode cX4_addString 22 = .ok (.iaload, 1) := by decide +kernel
theorem dX4_addString_23 : decode cX4_addString 23 = .ok (.if_icmp .ne 21, 3) := by decide +kernel
theorem dX4_addString_26 : decode cX4_addString 26 = .ok (.aload_n 0, 1) := by decide +kernel
theorem dX4_addString_27 : decode cX4_addString 27 = .ok (.getfield 15, 3) := by decide +kernel
theorem dX4_addString_30 : decode cX4_addString 30 = .ok (.iload_n 1, 1) := by decide +kernel
theorem dX4_addString_31 : decode cX4_addString 31 = .ok (.iaload, 1) := by decide +kernel
theorem dX4_addString_32 : decode cX4_addString 32 = .ok (.aload_n 0, 1) := by decide +kernel
theorem dX4_addString_33 : decode cX4_addString 33 = .ok (.getfield 15, 3) := by decide +kernel
theorem dX4_addString_36 : decode cX4_addString 36 = .ok (.iload_n 2, 1) := by decide +kernel
theorem dX4_addString_37 : decode cX4_addString 37 = .ok (.iaload, 1) := by decide +kernel
theorem dX4_addString_38 : decode cX4_addString 38 = .ok (.if_icmp .ne 6, 3) := by decide +kernel
theorem dX4_addString_41 : decode cX4_addString 41 = .ok (.bipush (-2), 2) := by decide +kernel
theorem dX4_addString_43 : decode cX4_addString 43 = .ok (.ireturn, 1) := by decide +kernel
theorem dX4_addString_44 : decode cX4_addString 44 = .ok (.aload_n 0, 1) := by decide +kernel
theorem dX4_addString_45 : decode cX4_addString 45 = .ok (.iload_n 1, 1) := by decide +kernel
theorem dX4_addString_46 : decode cX4_addString 46 = .ok (.iload_n 2, 1) := by decide +kernel
theorem dX4_addString_47 : decode cX4_addString 47 = .ok (.invokevirtual 54, 3) := by decide +kernel
theorem dX4_addString_50 : decode cX4_addString 50 = .ok (.ifCond .eq 6, 3) := by decide +kernel
theorem dX4_addString_53 : decode cX4_addString 53 = .ok (.bipush (-3), 2) := by decide +kernel
theorem dX4_addString_55 : decode cX4_addString 55 = .ok (.ireturn, 1) := by decide +kernel
theorem dX4_addString_56 : decode cX4_addString 56 = .ok (.aload_n 0, 1) := by decide +kernel
theorem dX4_addString_57 : decode cX4_addString 57 = .ok (.iconst 0, 1) := by decide +kernel
theorem dX4_addString_58 : decode cX4_addString 58 = .ok (.putfield 50, 3) := by decide +kernel
theorem dX4_addString_61 : decode cX4_addString 61 = .ok (.aload_n 0, 1) := by decide +kernel
theorem dX4_addString_62 : decode cX4_addString 62 = .ok (.getfield 28, 3) := by decide +kernel
theorem dX4_addString_65 : decode cX4_addString 65 = .ok (.aload_n 0, 1) := by decide +kernel
theorem dX4_addString_66 : decode cX4_addString 66 = .ok (.getfield 47, 3) := by decide +kernel
theorem dX4_addString_69 : decode cX4_addString 69 = .ok (.iload_n 1, 1) := by decide +kernel
theorem dX4_addString_70 : decode cX4_addString 70 = .ok (.iastore, 1) := by decide +kernel
theorem dX4_addString_71 : decode cX4_addString 71 = .ok (.aload_n 0, 1) := by decide +kernel
theorem dX4_addString_72 : decode cX4_addString 72 = .ok (.getfield 31, 3) := by decide +kernel
theorem dX4_addString_75 : decode cX4_addString 75 = .ok (.aload_n 0, 1) := by decide +kernel
theorem dX4_addString_76 : decode cX4_addString 76 = .ok (.getfield 47, 3) := by decide +kernel
theorem dX4_addString_79 : decode cX4_addString 79 = .ok (.iload_n 2, 1) := by decide +kernel
theorem dX4_addString_80 : decode cX4_addString 80 = .ok (.iastore, 1) := by decide +kernel
theorem dX4_addString_81 : decode cX4_addString 81 = .ok (.aload_n 0, 1) := by decide +kernel
theorem dX4_addString_82 : decode cX4_addString 82 = .ok (.dup, 1) := by decide +kernel
theorem dX4_addString_83 : decode cX4_addString 83 = .ok (.getfield 47, 3) := by decide +kernel
theorem dX4_addString_86 : decode cX4_addString 86 = .ok (.dup_x1, 1) := by decide +kernel
theorem dX4_addString_87 : decode cX4_addString 87 = .ok (.iconst 1, 1) := by decide +kernel
theorem dX4_addString_88 : decode cX4_addString 88 = .ok (.iadd, 1) := by decide +kernel
theorem dX4_addString_89 : decode cX4_addString 89 = .ok (.putfield 47, 3) := by decide +kernel
theorem dX4_addString_92 : decode cX4_addString 92 = .ok (.ireturn, 1) := by decide +kernel
theorem dX4_isTied_0 : decode cX4_isTied 0 = .ok (.iconst 0, 1) := by decide +kernel
theorem dX4_isTied_1 : decode cX4_isTied 1 = .ok (.istore_n 3, 1) := by decide +kernel
theorem dX4_isTied_2 : decode cX4_isTied 2 = .ok (.iload_n 3, 1) := by decide +kernel
theorem dX4_isTied_3 : decode cX4_isTied 3 = .ok (.aload_n 0, 1) := by decide +kernel
theorem dX4_isTied_4 : decode cX4_isTied 4 = .ok (.getfield 47, 3) := by decide +kernel
theorem dX4_isTied_7 : decode cX4_isTied 7 = .ok (.if_icmp .ge 63, 3) := by decide +kernel
theorem dX4_isTied_10 : decode cX4_isTied 10 = .ok (.aload_n 0, 1) := by decide +kernel
theorem dX4_isTied_11 : decode cX4_isTied 11 = .ok (.getfield 28, 3) := by decide +kernel
theorem dX4_isTied_14 : decode cX4_isTied 14 = .ok (.iload_n 3, 1) := by decide +kernel
theorem dX4_isTied_15 : decode cX4_isTied 15 = .ok (.iaload, 1) := by decide +kernel
theorem dX4_isTied_16 : decode cX4_isTied 16 = .ok (.iload_n 1, 1) := by decide +kernel
theorem dX4_isTied_17 : decode cX4_isTied 17 = .ok (.if_icmp .ne 17, 3) := by decide +kernel
theorem dX4_isTied_20 : decode cX4_isTied 20 = .ok (.aload_n 0, 1) := by decide +kernel
theorem dX4_isTied_21 : decode cX4_isTied 21 = .ok (.getfield 31, 3) := by decide +kernel
theorem dX4_isTied_24 : decode cX4_isTied 24 = .ok (.iload_n 3, 1) := by decide +kernel
theorem dX4_isTied_25 : decode cX4_isTied 25 = .ok (.iaload, 1) := by decide +kernel
theorem dX4_isTied_26 : decode cX4_isTied 26 = .ok (.iload_n 2, 1) := by decide +kernel
theorem dX4_isTied_27 : decode cX4_isTied 27 = .ok (.if_icmp .ne 7, 3) := by decide +kernel
theorem dX4_isTied_30 : decode cX4_isTied 30 = .ok (.iconst 1, 1) := by decide +kernel
theorem dX4_isTied_31 : decode cX4_isTied 31 = .ok (.goto 4, 3) := by decide +kernel
theorem dX4_isTied_34 : decode cX4_isTied 34 = .ok (.iconst 0, 1) := by decide +kernel
theorem dX4_isTied_35 : decode cX4_isTied 35 = .ok (.istore 4, 2) := by decide +kernel
theorem dX4_isTied_37 : decode cX4_isTied 37 = .ok (.iload 4, 2) := by decide +kernel
theorem dX4_isTied_39 : decode cX4_isTied 39 = .ok (.ifCond .ne 23, 3) := by decide +kernel
theorem dX4_isTied_42 : decode cX4_isTied 42 = .ok (.aload_n 0, 1) := by decide +kernel
theorem dX4_isTied_43 : decode cX4_isTied 43 = .ok (.getfield 28, 3) := by decide +kernel
theorem dX4_isTied_46 : decode cX4_isTied 46 = .ok (.iload_n 3, 1) := by decide +kernel
theorem dX4_isTied_47 : decode cX4_isTied 47 = .ok (.iaload, 1) := by decide +kernel
theorem dX4_isTied_48 : decode cX4_isTied 48 = .ok (.iload_n 2, 1) := by decide +kernel
theorem dX4_isTied_49 : decode cX4_isTied 49 = .ok (.if_icmp .ne 15, 3) := by decide +kernel
theorem dX4_isTied_52 : decode cX4_isTied 52 = .ok (.aload_n 0, 1) := by decide +kernel
theorem dX4_isTied_53 : decode cX4_isTied 53 = .ok (.getfield 31, 3) := by decide +kernel
theorem dX4_isTied_56 : decode cX4_isTied 56 = .ok (.iload_n 3, 1) := by decide +kernel
theorem dX4_isTied_57 : decode cX4_isTied 57 = .ok (.iaload, 1) := by decide +kernel
theorem dX4_isTied_58 : decode cX4_isTied 58 = .ok (.iload_n 1, 1) := by decide +kernel
theorem dX4_isTied_59 : decode cX4_isTied 59 = .ok (.if_icmp .ne 5, 3) := by decide +kernel
theorem dX4_isTied_62 : decode cX4_isTied 62 = .ok (.iconst 1, 1) := by decide +kernel
theorem dX4_isTied_63 : decode cX4_isTied 63 = .ok (.ireturn, 1) := by decide +kernel
theorem dX4_isTied_64 : decode cX4_isTied 64 = .ok (.iinc 3 1, 3) := by decide +kernel
theorem dX4_isTied_67 : decode cX4_isTied 67 = .ok (.goto (-65), 3) := by decide +kernel
theorem dX4_isTied_70 : decode cX4_isTied 70 = .ok (.iconst 0, 1) := by decide +kernel
theorem dX4_isTied_71 : decode cX4_isTied 71 = .ok (.ireturn, 1) := by decide +kernel
theorem dX4_cutAll_0 : decode cX4_cutAll 0 = .ok (.aload_n 0, 1) := by decide +kernel
theorem dX4_cutAll_1 : decode cX4_cutAll 1 = .ok (.getfield 47, 3) := by decide +kernel
theorem dX4_cutAll_4 : decode cX4_cutAll 4 = .ok (.istore_n 1, 1) := by decide +kernel
theorem dX4_cutAll_5 : decode cX4_cutAll 5 = .ok (.aload_n 0, 1) := by decide +kernel
theorem dX4_cutAll_6 : decode cX4_cutAll 6 = .ok (.iconst 0, 1) := by decide +kernel
theorem dX4_cutAll_7 : decode cX4_cutAll 7 = .ok (.putfield 50, 3) := by decide +kernel
theorem dX4_cutAll_10 : decode cX4_cutAll 10 = .ok (.aload_n 0, 1) := by decide +kernel
theorem dX4_cutAll_11 : decode cX4_cutAll 11 = .ok (.iconst 0, 1) := by decide +kernel
theorem dX4_cutAll_12 : decode cX4_cutAll 12 = .ok (.putfield 39, 3) := by decide +kernel
theorem dX4_cutAll_15 : decode cX4_cutAll 15 = .ok (.aload_n 0, 1) := by decide +kernel
theorem dX4_cutAll_16 : decode cX4_cutAll 16 = .ok (.iconst 0, 1) := by decide +kernel
theorem dX4_cutAll_17 : decode cX4_cutAll 17 = .ok (.putfield 47, 3) := by decide +kernel
theorem dX4_cutAll_20 : decode cX4_cutAll 20 = .ok (.iload_n 1, 1) := by decide +kernel
theorem dX4_cutAll_21 : decode cX4_cutAll 21 = .ok (.ireturn, 1) := by decide +kernel
theorem dX4_settle_0 : decode cX4_settle 0 = .ok (.aload_n 0, 1) := by decide +kernel
theorem dX4_settle_1 : decode cX4_settle 1 = .ok (.getfield 50, 3) := by decide +kernel
theorem dX4_settle_4 : decode cX4_settle 4 = .ok (.ifCond .eq 4, 3) := by decide +kernel
theorem dX4_settle_7 : decode cX4_settle 7 = .ok (.return_, 1) := by decide +kernel
theorem dX4_settle_8 : decode cX4_settle 8 = .ok (.aload_n 0, 1) := by decide +kernel
theorem dX4_settle_9 : decode cX4_settle 9 = .ok (.iconst 1, 1) := by decide +kernel
theorem dX4_settle_10 : decode cX4_settle 10 = .ok (.putfield 50, 3) := by decide +kernel
theorem dX4_settle_13 : decode cX4_settle 13 = .ok (.aload_n 0, 1) := by decide +kernel
theorem dX4_settle_14 : decode cX4_settle 14 = .ok (.iconst 0, 1) := by decide +kernel
theorem dX4_settle_15 : decode cX4_settle 15 = .ok (.putfield 58, 3) := by decide +kernel
theorem dX4_settle_18 : decode cX4_settle 18 = .ok (.aload_n 0, 1) := by decide +kernel
theorem dX4_settle_19 : decode cX4_settle 19 = .ok (.iconst 0, 1) := by decide +kernel
theorem dX4_settle_20 : decode cX4_settle 20 = .ok (.putfield 61, 3) := by decide +kernel
theorem dX4_settle_23 : decode cX4_settle 23 = .ok (.aload_n 0, 1) := by decide +kernel
theorem dX4_settle_24 : decode cX4_settle 24 = .ok (.iconst 0, 1) := by decide +kernel
theorem dX4_settle_25 : decode cX4_settle 25 = .ok (.putfield 64, 3) := by decide +kernel
theorem dX4_settle_28 : decode cX4_settle 28 = .ok (.iconst 0, 1) := by decide +kernel
theorem dX4_settle_29 : decode cX4_settle 29 = .ok (.istore_n 1, 1) := by decide +kernel
theorem dX4_settle_30 : decode cX4_settle 30 = .ok (.iload_n 1, 1) := by decide +kernel
theorem dX4_settle_31 : decode cX4_settle 31 = .ok (.iconst 1, 1) := by decide +kernel
theorem dX4_settle_32 : decode cX4_settle 32 = .ok (.aload_n 0, 1) := by decide +kernel
theorem dX4_settle_33 : decode cX4_settle 33 = .ok (.getfield 47, 3) := by decide +kernel
theorem dX4_settle_36 : decode cX4_settle 36 = .ok (.ishl, 1) := by decide +kernel
theorem dX4_settle_37 : decode cX4_settle 37 = .ok (.if_icmp .ge 23, 3) := by decide +kernel
theorem dX4_settle_40 : decode cX4_settle 40 = .ok (.aload_n 0, 1) := by decide +kernel
theorem dX4_settle_41 : decode cX4_settle 41 = .ok (.iload_n 1, 1) := by decide +kernel
theorem dX4_settle_42 : decode cX4_settle 42 = .ok (.iconst (-1), 1) := by decide +kernel
theorem dX4_settle_43 : decode cX4_settle 43 = .ok (.invokevirtual 67, 3) := by decide +kernel
theorem dX4_settle_46 : decode cX4_settle 46 = .ok (.ifCond .eq 8, 3) := by decide +kernel
theorem dX4_settle_49 : decode cX4_settle 49 = .ok (.aload_n 0, 1) := by decide +kernel
theorem dX4_settle_50 : decode cX4_settle 50 = .ok (.iload_n 1, 1) := by decide +kernel
theorem dX4_settle_51 : decode cX4_settle 51 = .ok (.invokevirtual 70, 3) := by decide +kernel
theorem dX4_settle_54 : decode cX4_settle 54 = .ok (.iinc 1 1, 3) := by decide +kernel
theorem dX4_settle_57 : decode cX4_settle 57 = .ok (.goto (-27), 3) := by decide +kernel
theorem dX4_settle_60 : decode cX4_settle 60 = .ok (.iconst 0, 1) := by decide +kernel
theorem dX4_settle_61 : decode cX4_settle 61 = .ok (.istore_n 1, 1) := by decide +kernel
theorem dX4_settle_62 : decode cX4_settle 62 = .ok (.aload_n 0, 1) := by decide +kernel
theorem dX4_settle_63 : decode cX4_settle 63 = .ok (.getfield 58, 3) := by decide +kernel
theorem dX4_settle_66 : decode cX4_settle 66 = .ok (.ifCond .eq 48, 3) := by decide +kernel
theorem dX4_settle_69 : decode cX4_settle 69 = .ok (.iload_n 1, 1) := by decide +kernel
theorem dX4_settle_70 : decode cX4_settle 70 = .ok (.aload_n 0, 1) := by decide +kernel
theorem dX4_settle_71 : decode cX4_settle 71 = .ok (.getfield 47, 3) := by decide +kernel
theorem dX4_settle_74 : decode cX4_settle 74 = .ok (.if_icmp .ge 40, 3) := by decide +kernel
theorem dX4_settle_77 : decode cX4_settle 77 = .ok (.aload_n 0, 1) := by decide +kernel
theorem dX4_settle_78 : decode cX4_settle 78 = .ok (.getfield 64, 3) := by decide +kernel
theorem dX4_settle_81 : decode cX4_settle 81 = .ok (.iload_n 1, 1) := by decide +kernel
theorem dX4_settle_82 : decode cX4_settle 82 = .ok (.ishr, 1) := by decide +kernel
theorem dX4_settle_83 : decode cX4_settle 83 = .ok (.iconst 1, 1) := by decide +kernel
theorem dX4_settle_84 : decode cX4_settle 84 = .ok (.iand, 1) := by decide +kernel
theorem dX4_settle_85 : decode cX4_settle 85 = .ok (.ifCond .ne 23, 3) := by decide +kernel
theorem dX4_settle_88 : decode cX4_settle 88 = .ok (.aload_n 0, 1) := by decide +kernel
theorem dX4_settle_89 : decode cX4_settle 89 = .ok (.iload_n 1, 1) := by decide +kernel
theorem dX4_settle_90 : decode cX4_settle 90 = .ok (.invokevirtual 74, 3) := by decide +kernel
theorem dX4_settle_93 : decode cX4_settle 93 = .ok (.ifCond .eq 15, 3) := by decide +kernel
theorem dX4_settle_96 : decode cX4_settle 96 = .ok (.aload_n 0, 1) := by decide +kernel
theorem dX4_settle_97 : decode cX4_settle 97 = .ok (.dup, 1) := by decide +kernel
theorem dX4_settle_98 : decode cX4_settle 98 = .ok (.getfield 64, 3) := by decide +kernel
theorem dX4_settle_101 : decode cX4_settle 101 = .ok (.iconst 1, 1) := by decide +kernel
theorem dX4_settle_102 : decode cX4_settle 102 = .ok (.iload_n 1, 1) := by decide +kernel
theorem dX4_settle_103 : decode cX4_settle 103 = .ok (.ishl, 1) := by decide +kernel
theorem dX4_settle_104 : decode cX4_settle 104 = .ok (.ior, 1) := by decide +kernel
theorem dX4_settle_105 : decode cX4_settle 105 = .ok (.putfield 64, 3) := by decide +kernel
theorem dX4_settle_108 : decode cX4_settle 108 = .ok (.iinc 1 1, 3) := by decide +kernel
theorem dX4_settle_111 : decode cX4_settle 111 = .ok (.goto (-49), 3) := by decide +kernel
theorem dX4_settle_114 : decode cX4_settle 114 = .ok (.aload_n 0, 1) := by decide +kernel
theorem dX4_settle_115 : decode cX4_settle 115 = .ok (.invokevirtual 78, 3) := by decide +kernel
theorem dX4_settle_118 : decode cX4_settle 118 = .ok (.return_, 1) := by decide +kernel
theorem dX4_balances_0 : decode cX4_balances 0 = .ok (.aload_n 0, 1) := by decide +kernel
theorem dX4_balances_1 : decode cX4_balances 1 = .ok (.iload_n 1, 1) := by decide +kernel
theorem dX4_balances_2 : decode cX4_balances 2 = .ok (.iload_n 2, 1) := by decide +kernel
theorem dX4_balances_3 : decode cX4_balances 3 = .ok (.invokevirtual 81, 3) := by decide +kernel
theorem dX4_balances_6 : decode cX4_balances 6 = .ok (.aload_n 0, 1) := by decide +kernel
theorem dX4_balances_7 : decode cX4_balances 7 = .ok (.invokevirtual 85, 3) := by decide +kernel
theorem dX4_balances_10 : decode cX4_balances 10 = .ok (.ifCond .eq 14, 3) := by decide +kernel
theorem dX4_balances_13 : decode cX4_balances 13 = .ok (.aload_n 0, 1) := by decide +kernel
theorem dX4_balances_14 : decode cX4_balances 14 = .ok (.invokevirtual 89, 3) := by decide +kernel
theorem dX4_balances_17 : decode cX4_balances 17 = .ok (.ifCond .eq 7, 3) := by decide +kernel
theorem dX4_balances_20 : decode cX4_balances 20 = .ok (.iconst 1, 1) := by decide +kernel
theorem dX4_balances_21 : decode cX4_balances 21 = .ok (.goto 4, 3) := by decide +kernel
theorem dX4_balances_24 : decode cX4_balances 24 = .ok (.iconst 0, 1) := by decide +kernel
theorem dX4_balances_25 : decode cX4_balances 25 = .ok (.ireturn, 1) := by decide +kernel
theorem dX4_fillTable_0 : decode cX4_fillTable 0 = .ok (.aload_n 0, 1) := by decide +kernel
theorem dX4_fillTable_1 : decode cX4_fillTable 1 = .ok (.iconst 0, 1) := by decide +kernel
theorem dX4_fillTable_2 : decode cX4_fillTable 2 = .ok (.putfield 92, 3) := by decide +kernel
theorem dX4_fillTable_5 : decode cX4_fillTable 5 = .ok (.aload_n 0, 1) := by decide +kernel
theorem dX4_fillTable_6 : decode cX4_fillTable 6 = .ok (.iload_n 1, 1) := by decide +kernel
theorem dX4_fillTable_7 : decode cX4_fillTable 7 = .ok (.invokestatic 95, 3) := by decide +kernel
theorem dX4_fillTable_10 : decode cX4_fillTable 10 = .ok (.putfield 101, 3) := by decide +kernel
theorem dX4_fillTable_13 : decode cX4_fillTable 13 = .ok (.iconst 0, 1) := by decide +kernel
theorem dX4_fillTable_14 : decode cX4_fillTable 14 = .ok (.istore_n 3, 1) := by decide +kernel
theorem dX4_fillTable_15 : decode cX4_fillTable 15 = .ok (.iload_n 3, 1) := by decide +kernel
theorem dX4_fillTable_16 : decode cX4_fillTable 16 = .ok (.aload_n 0, 1) := by decide +kernel
theorem dX4_fillTable_17 : decode cX4_fillTable 17 = .ok (.getfield 39, 3) := by decide +kernel
theorem dX4_fillTable_20 : decode cX4_fillTable 20 = .ok (.if_icmp .ge 34, 3) := by decide +kernel
theorem dX4_fillTable_23 : decode cX4_fillTable 23 = .ok (.aload_n 0, 1) := by decide +kernel
theorem dX4_fillTable_24 : decode cX4_fillTable 24 = .ok (.getfield 24, 3) := by decide +kernel
theorem dX4_fillTable_27 : decode cX4_fillTable 27 = .ok (.iload_n 3, 1) := by decide +kernel
theorem dX4_fillTable_28 : decode cX4_fillTable 28 = .ok (.baload, 1) := by decide +kernel
theorem dX4_fillTable_29 : decode cX4_fillTable 29 = .ok (.ifCond .ne 19, 3) := by decide +kernel
theorem dX4_fillTable_32 : decode cX4_fillTable 32 = .ok (.aload_n 0, 1) := by decide +kernel
theorem dX4_fillTable_33 : decode cX4_fillTable 33 = .ok (.iload_n 1, 1) := by decide +kernel
theorem dX4_fillTable_34 : decode cX4_fillTable 34 = .ok (.iload_n 2, 1) := by decide +kernel
theorem dX4_fillTable_35 : decode cX4_fillTable 35 = .ok (.iload_n 3, 1) := by decide +kernel
theorem dX4_fillTable_36 : decode cX4_fillTable 36 = .ok (.iconst 0, 1) := by decide +kernel
theorem dX4_fillTable_37 : decode cX4_fillTable 37 = .ok (.invokevirtual 104, 3) := by decide +kernel
theorem dX4_fillTable_40 : decode cX4_fillTable 40 = .ok (.aload_n 0, 1) := by decide +kernel
theorem dX4_fillTable_41 : decode cX4_fillTable 41 = .ok (.iload_n 1, 1) := by decide +kernel
theorem dX4_fillTable_42 : decode cX4_fillTable 42 = .ok (.iload_n 2, 1) := by decide +kernel
theorem dX4_fillTable_43 : decode cX4_fillTable 43 = .ok (.iload_n 3, 1) := by decide +kernel
theorem dX4_fillTable_44 : decode cX4_fillTable 44 = .ok (.iconst 1, 1) := by decide +kernel
theorem dX4_fillTable_45 : decode cX4_fillTable 45 = .ok (.invokevirtual 104, 3) := by decide +kernel
theorem dX4_fillTable_48 : decode cX4_fillTable 48 = .ok (.iinc 3 1, 3) := by decide +kernel
theorem dX4_fillTable_51 : decode cX4_fillTable 51 = .ok (.goto (-36), 3) := by decide +kernel
theorem dX4_fillTable_54 : decode cX4_fillTable 54 = .ok (.return_, 1) := by decide +kernel
theorem dX4_fillRow_0 : decode cX4_fillRow 0 = .ok (.iconst 0, 1) := by decide +kernel
theorem dX4_fillRow_1 : decode cX4_fillRow 1 = .ok (.istore 5, 2) := by decide +kernel
theorem dX4_fillRow_3 : decode cX4_fillRow 3 = .ok (.iconst 0, 1) := by decide +kernel
theorem dX4_fillRow_4 : decode cX4_fillRow 4 = .ok (.istore 6, 2) := by decide +kernel
theorem dX4_fillRow_6 : decode cX4_fillRow 6 = .ok (.iload 6, 2) := by decide +kernel
theorem dX4_fillRow_8 : decode cX4_fillRow 8 = .ok (.aload_n 0, 1) := by decide +kernel
theorem dX4_fillRow_9 : decode cX4_fillRow 9 = .ok (.getfield 47, 3) := by decide +kernel
theorem dX4_fillRow_12 : decode cX4_fillRow 12 = .ok (.if_icmp .ge 44, 3) := by decide +kernel
theorem dX4_fillRow_15 : decode cX4_fillRow 15 = .ok (.iload_n 1, 1) := by decide +kernel
theorem dX4_fillRow_16 : decode cX4_fillRow 16 = .ok (.iload 6, 2) := by decide +kernel
theorem dX4_fillRow_18 : decode cX4_fillRow 18 = .ok (.ishr, 1) := by decide +kernel
theorem dX4_fillRow_19 : decode cX4_fillRow 19 = .ok (.iconst 1, 1) := by decide +kernel
theorem dX4_fillRow_20 : decode cX4_fillRow 20 = .ok (.iand, 1) := by decide +kernel
theorem dX4_fillRow_21 : decode cX4_fillRow 21 = .ok (.iconst 1, 1) := by decide +kernel
theorem dX4_fillRow_22 : decode cX4_fillRow 22 = .ok (.if_icmp .ne 28, 3) := by decide +kernel
theorem dX4_fillRow_25 : decode cX4_fillRow 25 = .ok (.aload_n 0, 1) := by decide +kernel
theorem dX4_fillRow_26 : decode cX4_fillRow 26 = .ok (.getfield 36, 3) := by decide +kernel
theorem dX4_fillRow_29 : decode cX4_fillRow 29 = .ok (.aload_n 0, 1) := by decide +kernel
theorem dX4_fillRow_30 : decode cX4_fillRow 30 = .ok (.getfield 92, 3) := by decide +kernel
theorem dX4_fillRow_33 : decode cX4_fillRow 33 = .ok (.aaload, 1) := by decide +kernel
theorem dX4_fillRow_34 : decode cX4_fillRow 34 = .ok (.iload 5, 2) := by decide +kernel
theorem dX4_fillRow_36 : decode cX4_fillRow 36 = .ok (.aload_n 0, 1) := by decide +kernel
theorem dX4_fillRow_37 : decode cX4_fillRow 37 = .ok (.iload 6, 2) := by decide +kernel
theorem dX4_fillRow_39 : decode cX4_fillRow 39 = .ok (.iload_n 3, 1) := by decide +kernel
theorem dX4_fillRow_40 : decode cX4_fillRow 40 = .ok (.iload 4, 2) := by decide +kernel
theorem dX4_fillRow_42 : decode cX4_fillRow 42 = .ok (.invokevirtual 108, 3) := by decide +kernel
theorem dX4_fillRow_45 : decode cX4_fillRow 45 = .ok (.i2l, 1) := by decide +kernel
theorem dX4_fillRow_46 : decode cX4_fillRow 46 = .ok (.lastore, 1) := by decide +kernel
theorem dX4_fillRow_47 : decode cX4_fillRow 47 = .ok (.iinc 5 1, 3) := by decide +kernel
theorem dX4_fillRow_50 : decode cX4_fillRow 50 = .ok (.iinc 6 1, 3) := by decide +kernel
theorem dX4_fillRow_53 : decode cX4_fillRow 53 = .ok (.goto (-47), 3) := by decide +kernel
theorem dX4_fillRow_56 : decode cX4_fillRow 56 = .ok (.iload 4, 2) := by decide +kernel
theorem dX4_fillRow_58 : decode cX4_fillRow 58 = .ok (.ifCond .ne 12, 3) := by decide +kernel
theorem dX4_fillRow_61 : decode cX4_fillRow 61 = .ok (.aload_n 0, 1) := by decide +kernel
theorem dX4_fillRow_62 : decode cX4_fillRow 62 = .ok (.getfield 18, 3) := by decide +kernel
theorem dX4_fillRow_65 : decode cX4_fillRow 65 = .ok (.iload_n 3, 1) := by decide +kernel
theorem dX4_fillRow_66 : decode cX4_fillRow 66 = .ok (.iaload, 1) := by decide +kernel
theorem dX4_fillRow_67 : decode cX4_fillRow 67 = .ok (.goto 9, 3) := by decide +kernel
theorem dX4_fillRow_70 : decode cX4_fillRow 70 = .ok (.aload_n 0, 1) := by decide +kernel
theorem dX4_fillRow_71 : decode cX4_fillRow 71 = .ok (.getfield 21, 3) := by decide +kernel
theorem dX4_fillRow_74 : decode cX4_fillRow 74 = .ok (.iload_n 3, 1) := by decide +kernel
theorem dX4_fillRow_75 : decode cX4_fillRow 75 = .ok (.iaload, 1) := by decide +kernel
theorem dX4_fillRow_76 : decode cX4_fillRow 76 = .ok (.istore 6, 2) := by decide +kernel
theorem dX4_fillRow_78 : decode cX4_fillRow 78 = .ok (.aload_n 0, 1) := by decide +kernel
theorem dX4_fillRow_79 : decode cX4_fillRow 79 = .ok (.getfield 36, 3) := by decide +kernel
theorem dX4_fillRow_82 : decode cX4_fillRow 82 = .ok (.aload_n 0, 1) := by decide +kernel
theorem dX4_fillRow_83 : decode cX4_fillRow 83 = .ok (.getfield 92, 3) := by decide +kernel
theorem dX4_fillRow_86 : decode cX4_fillRow 86 = .ok (.aaload, 1) := by decide +kernel
theorem dX4_fillRow_87 : decode cX4_fillRow 87 = .ok (.aload_n 0, 1) := by decide +kernel
theorem dX4_fillRow_88 : decode cX4_fillRow 88 = .ok (.getfield 101, 3) := by decide +kernel
theorem dX4_fillRow_91 : decode cX4_fillRow 91 = .ok (.iload_n 2, 1) := by decide +kernel
theorem dX4_fillRow_92 : decode cX4_fillRow 92 = .ok (.iconst (-1), 1) := by decide +kernel
theorem dX4_fillRow_93 : decode cX4_fillRow 93 = .ok (.if_icmp .ne 10, 3) := by decide +kernel
theorem dX4_fillRow_96 : decode cX4_fillRow 96 = .ok (.iload 6, 2) := by decide +kernel
theorem dX4_fillRow_98 : decode cX4_fillRow 98 = .ok (.ineg, 1) := by decide +kernel
theorem dX4_fillRow_99 : decode cX4_fillRow 99 = .ok (.i2l, 1) := by decide +kernel
theorem dX4_fillRow_100 : decode cX4_fillRow 100 = .ok (.goto 13, 3) := by decide +kernel
theorem dX4_fillRow_103 : decode cX4_fillRow 103 = .ok (.aload_n 0, 1) := by decide +kernel
theorem dX4_fillRow_104 : decode cX4_fillRow 104 = .ok (.iload_n 2, 1) := by decide +kernel
theorem dX4_fillRow_105 : decode cX4_fillRow 105 = .ok (.iload_n 3, 1) := by decide +kernel
theorem dX4_fillRow_106 : decode cX4_fillRow 106 = .ok (.iload 4, 2) := by decide +kernel
theorem dX4_fillRow_108 : decode cX4_fillRow 108 = .ok (.invokevirtual 108, 3) := by decide +kernel
theorem dX4_fillRow_111 : decode cX4_fillRow 111 = .ok (.ineg, 1) := by decide +kernel
theorem dX4_fillRow_112 : decode cX4_fillRow 112 = .ok (.i2l, 1) := by decide +kernel
theorem dX4_fillRow_113 : decode cX4_fillRow 113 = .ok (.lastore, 1) := by decide +kernel
theorem dX4_fillRow_114 : decode cX4_fillRow 114 = .ok (.aload_n 0, 1) := by decide +kernel
theorem dX4_fillRow_115 : decode cX4_fillRow 115 = .ok (.dup, 1) := by decide +kernel
theorem dX4_fillRow_116 : decode cX4_fillRow 116 = .ok (.getfield 92, 3) := by decide +kernel
theorem dX4_fillRow_119 : decode cX4_fillRow 119 = .ok (.iconst 1, 1) := by decide +kernel
theorem dX4_fillRow_120 : decode cX4_fillRow 120 = .ok (.iadd, 1) := by decide +kernel
theorem dX4_fillRow_121 : decode cX4_fillRow 121 = .ok (.putfield 92, 3) := by decide +kernel
theorem dX4_fillRow_124 : decode cX4_fillRow 124 = .ok (.return_, 1) := by decide +kernel
theorem dX4_wayOf_0 : decode cX4_wayOf 0 = .ok (.iload_n 3, 1) := by decide +kernel
theorem dX4_wayOf_1 : decode cX4_wayOf 1 = .ok (.ifCond .ne 10, 3) := by decide +kernel
theorem dX4_wayOf_4 : decode cX4_wayOf 4 = .ok (.aload_n 0, 1) := by decide +kernel
theorem dX4_wayOf_5 : decode cX4_wayOf 5 = .ok (.getfield 11, 3) := by decide +kernel
theorem dX4_wayOf_8 : decode cX4_wayOf 8 = .ok (.goto 7, 3) := by decide +kernel
theorem dX4_wayOf_11 : decode cX4_wayOf 11 = .ok (.aload_n 0, 1) := by decide +kernel
theorem dX4_wayOf_12 : decode cX4_wayOf 12 = .ok (.getfield 15, 3) := by decide +kernel
theorem dX4_wayOf_15 : decode cX4_wayOf 15 = .ok (.astore 4, 2) := by decide +kernel
theorem dX4_wayOf_17 : decode cX4_wayOf 17 = .ok (.aload 4, 2) := by decide +kernel
theorem dX4_wayOf_19 : decode cX4_wayOf 19 = .ok (.aload_n 0, 1) := by decide +kernel
theorem dX4_wayOf_20 : decode cX4_wayOf 20 = .ok (.getfield 31, 3) := by decide +kernel
theorem dX4_wayOf_23 : decode cX4_wayOf 23 = .ok (.iload_n 1, 1) := by decide +kernel
theorem dX4_wayOf_24 : decode cX4_wayOf 24 = .ok (.iaload, 1) := by decide +kernel
theorem dX4_wayOf_25 : decode cX4_wayOf 25 = .ok (.iaload, 1) := by decide +kernel
theorem dX4_wayOf_26 : decode cX4_wayOf 26 = .ok (.aload 4, 2) := by decide +kernel
theorem dX4_wayOf_28 : decode cX4_wayOf 28 = .ok (.aload_n 0, 1) := by decide +kernel
theorem dX4_wayOf_29 : decode cX4_wayOf 29 = .ok (.getfield 28, 3) := by decide +kernel
theorem dX4_wayOf_32 : decode cX4_wayOf 32 = .ok (.iload_n 1, 1) := by decide +kernel
theorem dX4_wayOf_33 : decode cX4_wayOf 33 = .ok (.iaload, 1) := by decide +kernel
theorem dX4_wayOf_34 : decode cX4_wayOf 34 = .ok (.iaload, 1) := by decide +kernel
theorem dX4_wayOf_35 : decode cX4_wayOf 35 = .ok (.isub, 1) := by decide +kernel
theorem dX4_wayOf_36 : decode cX4_wayOf 36 = .ok (.istore 5, 2) := by decide +kernel
theorem dX4_wayOf_38 : decode cX4_wayOf 38 = .ok (.aload_n 0, 1) := by decide +kernel
theorem dX4_wayOf_39 : decode cX4_wayOf 39 = .ok (.getfield 28, 3) := by decide +kernel
theorem dX4_wayOf_42 : decode cX4_wayOf 42 = .ok (.iload_n 1, 1) := by decide +kernel
theorem dX4_wayOf_43 : decode cX4_wayOf 43 = .ok (.iaload, 1) := by decide +kernel
theorem dX4_wayOf_44 : decode cX4_wayOf 44 = .ok (.iload_n 2, 1) := by decide +kernel
theorem dX4_wayOf_45 : decode cX4_wayOf 45 = .ok (.if_icmp .ne 6, 3) := by decide +kernel
theorem dX4_wayOf_48 : decode cX4_wayOf 48 = .ok (.iload 5, 2) := by decide +kernel
theorem dX4_wayOf_50 : decode cX4_wayOf 50 = .ok (.ireturn, 1) := by decide +kernel
theorem dX4_wayOf_51 : decode cX4_wayOf 51 = .ok (.aload_n 0, 1) := by decide +kernel
theorem dX4_wayOf_52 : decode cX4_wayOf 52 = .ok (.getfield 31, 3) := by decide +kernel
theorem dX4_wayOf_55 : decode cX4_wayOf 55 = .ok (.iload_n 1, 1) := by decide +kernel
theorem dX4_wayOf_56 : decode cX4_wayOf 56 = .ok (.iaload, 1) := by decide +kernel
theorem dX4_wayOf_57 : decode cX4_wayOf 57 = .ok (.iload_n 2, 1) := by decide +kernel
theorem dX4_wayOf_58 : decode cX4_wayOf 58 = .ok (.if_icmp .ne 9, 3) := by decide +kernel
theorem dX4_wayOf_61 : decode cX4_wayOf 61 = .ok (.iload 5, 2) := by decide +kernel
theorem dX4_wayOf_63 : decode cX4_wayOf 63 = .ok (.ineg, 1) := by decide +kernel
theorem dX4_wayOf_64 : decode cX4_wayOf 64 = .ok (.goto 4, 3) := by decide +kernel
theorem dX4_wayOf_67 : decode cX4_wayOf 67 = .ok (.iconst 0, 1) := by decide +kernel
theorem dX4_wayOf_68 : decode cX4_wayOf 68 = .ok (.ireturn, 1) := by decide +kernel
theorem dX4_eliminate_0 : decode cX4_eliminate 0 = .ok (.aload_n 0, 1) := by decide +kernel
theorem dX4_eliminate_1 : decode cX4_eliminate 1 = .ok (.lconst 1, 1) := by decide +kernel
theorem dX4_eliminate_2 : decode cX4_eliminate 2 = .ok (.putfield 112, 3) := by decide +kernel
theorem dX4_eliminate_5 : decode cX4_eliminate 5 = .ok (.iconst 0, 1) := by decide +kernel
theorem dX4_eliminate_6 : decode cX4_eliminate 6 = .ok (.istore_n 1, 1) := by decide +kernel
theorem dX4_eliminate_7 : decode cX4_eliminate 7 = .ok (.iload_n 1, 1) := by decide +kernel
theorem dX4_eliminate_8 : decode cX4_eliminate 8 = .ok (.aload_n 0, 1) := by decide +kernel
theorem dX4_eliminate_9 : decode cX4_eliminate 9 = .ok (.getfield 101, 3) := by decide +kernel
theorem dX4_eliminate_12 : decode cX4_eliminate 12 = .ok (.if_icmp .ge 117, 3) := by decide +kernel
theorem dX4_eliminate_15 : decode cX4_eliminate 15 = .ok (.iload_n 1, 1) := by decide +kernel
theorem dX4_eliminate_16 : decode cX4_eliminate 16 = .ok (.istore_n 2, 1) := by decide +kernel
theorem dX4_eliminate_17 : decode cX4_eliminate 17 = .ok (.iload_n 2, 1) := by decide +kernel
theorem dX4_eliminate_18 : decode cX4_eliminate 18 = .ok (.aload_n 0, 1) := by decide +kernel
theorem dX4_eliminate_19 : decode cX4_eliminate 19 = .ok (.getfield 92, 3) := by decide +kernel
theorem dX4_eliminate_22 : decode cX4_eliminate 22 = .ok (.if_icmp .ge 22, 3) := by decide +kernel
theorem dX4_eliminate_25 : decode cX4_eliminate 25 = .ok (.aload_n 0, 1) := by decide +kernel
theorem dX4_eliminate_26 : decode cX4_eliminate 26 = .ok (.getfield 36, 3) := by decide +kernel
theorem dX4_eliminate_29 : decode cX4_eliminate 29 = .ok (.iload_n 2, 1) := by decide +kernel
theorem dX4_eliminate_30 : decode cX4_eliminate 30 = .ok (.aaload, 1) := by decide +kernel
theorem dX4_eliminate_31 : decode cX4_eliminate 31 = .ok (.iload_n 1, 1) := by decide +kernel
theorem dX4_eliminate_32 : decode cX4_eliminate 32 = .ok (.laload, 1) := by decide +kernel
theorem dX4_eliminate_33 : decode cX4_eliminate 33 = .ok (.lconst 0, 1) := by decide +kernel
theorem dX4_eliminate_34 : decode cX4_eliminate 34 = .ok (.lcmp, 1) := by decide +kernel
theorem dX4_eliminate_35 : decode cX4_eliminate 35 = .ok (.ifCond .ne 9, 3) := by decide +kernel
theorem dX4_eliminate_38 : decode cX4_eliminate 38 = .ok (.iinc 2 1, 3) := by decide +kernel
theorem dX4_eliminate_41 : decode cX4_eliminate 41 = .ok (.goto (-24), 3) := by decide +kernel
theorem dX4_eliminate_44 : decode cX4_eliminate 44 = .ok (.iload_n 2, 1) := by decide +kernel
theorem dX4_eliminate_45 : decode cX4_eliminate 45 = .ok (.aload_n 0, 1) := by decide +kernel
theorem dX4_eliminate_46 : decode cX4_eliminate 46 = .ok (.getfield 92, 3) := by decide +kernel
theorem dX4_eliminate_49 : decode cX4_eliminate 49 = .ok (.if_icmp .lt 5, 3) := by decide +kernel
theorem dX4_eliminate_52 : decode cX4_eliminate 52 = .ok (.iconst 0, 1) := by decide +kernel
theorem dX4_eliminate_53 : decode cX4_eliminate 53 = .ok (.ireturn, 1) := by decide +kernel
theorem dX4_eliminate_54 : decode cX4_eliminate 54 = .ok (.aload_n 0, 1) := by decide +kernel
theorem dX4_eliminate_55 : decode cX4_eliminate 55 = .ok (.getfield 36, 3) := by decide +kernel
theorem dX4_eliminate_58 : decode cX4_eliminate 58 = .ok (.iload_n 2, 1) := by decide +kernel
theorem dX4_eliminate_59 : decode cX4_eliminate 59 = .ok (.aaload, 1) := by decide +kernel
theorem dX4_eliminate_60 : decode cX4_eliminate 60 = .ok (.astore_n 3, 1) := by decide +kernel
theorem dX4_eliminate_61 : decode cX4_eliminate 61 = .ok (.aload_n 0, 1) := by decide +kernel
theorem dX4_eliminate_62 : decode cX4_eliminate 62 = .ok (.getfield 36, 3) := by decide +kernel
theorem dX4_eliminate_65 : decode cX4_eliminate 65 = .ok (.iload_n 2, 1) := by decide +kernel
theorem dX4_eliminate_66 : decode cX4_eliminate 66 = .ok (.aload_n 0, 1) := by decide +kernel
theorem dX4_eliminate_67 : decode cX4_eliminate 67 = .ok (.getfield 36, 3) := by decide +kernel
theorem dX4_eliminate_70 : decode cX4_eliminate 70 = .ok (.iload_n 1, 1) := by decide +kernel
theorem dX4_eliminate_71 : decode cX4_eliminate 71 = .ok (.aaload, 1) := by decide +kernel
theorem dX4_eliminate_72 : decode cX4_eliminate 72 = .ok (.aastore, 1) := by decide +kernel
theorem dX4_eliminate_73 : decode cX4_eliminate 73 = .ok (.aload_n 0, 1) := by decide +kernel
theorem dX4_eliminate_74 : decode cX4_eliminate 74 = .ok (.getfield 36, 3) := by decide +kernel
theorem dX4_eliminate_77 : decode cX4_eliminate 77 = .ok (.iload_n 1, 1) := by decide +kernel
theorem dX4_eliminate_78 : decode cX4_eliminate 78 = .ok (.aload_n 3, 1) := by decide +kernel
theorem dX4_eliminate_79 : decode cX4_eliminate 79 = .ok (.aastore, 1) := by decide +kernel
theorem dX4_eliminate_80 : decode cX4_eliminate 80 = .ok (.iconst 0, 1) := by decide +kernel
theorem dX4_eliminate_81 : decode cX4_eliminate 81 = .ok (.istore 4, 2) := by decide +kernel
theorem dX4_eliminate_83 : decode cX4_eliminate 83 = .ok (.iload 4, 2) := by decide +kernel
theorem dX4_eliminate_85 : decode cX4_eliminate 85 = .ok (.aload_n 0, 1) := by decide +kernel
theorem dX4_eliminate_86 : decode cX4_eliminate 86 = .ok (.getfield 92, 3) := by decide +kernel
theorem dX4_eliminate_89 : decode cX4_eliminate 89 = .ok (.if_icmp .ge 22, 3) := by decide +kernel
theorem dX4_eliminate_92 : decode cX4_eliminate 92 = .ok (.iload 4, 2) := by decide +kernel
theorem dX4_eliminate_94 : decode cX4_eliminate 94 = .ok (.iload_n 1, 1) := by decide +kernel
theorem dX4_eliminate_95 : decode cX4_eliminate 95 = .ok (.if_icmp .eq 10, 3) := by decide +kernel
theorem dX4_eliminate_98 : decode cX4_eliminate 98 = .ok (.aload_n 0, 1) := by decide +kernel
theorem dX4_eliminate_99 : decode cX4_eliminate 99 = .ok (.iload 4, 2) := by decide +kernel
theorem dX4_eliminate_101 : decode cX4_eliminate 101 = .ok (.iload_n 1, 1) := by decide +kernel
theorem dX4_eliminate_102 : decode cX4_eliminate 102 = .ok (.invokevirtual 116, 3) := by decide +kernel
theorem dX4_eliminate_105 : decode cX4_eliminate 105 = .ok (.iinc 4 1, 3) := by decide +kernel
theorem dX4_eliminate_108 : decode cX4_eliminate 108 = .ok (.goto (-25), 3) := by decide +kernel
theorem dX4_eliminate_111 : decode cX4_eliminate 111 = .ok (.aload_n 0, 1) := by decide +kernel
theorem dX4_eliminate_112 : decode cX4_eliminate 112 = .ok (.aload_n 0, 1) := by decide +kernel
theorem dX4_eliminate_113 : decode cX4_eliminate 113 = .ok (.getfield 36, 3) := by decide +kernel
theorem dX4_eliminate_116 : decode cX4_eliminate 116 = .ok (.iload_n 1, 1) := by decide +kernel
theorem dX4_eliminate_117 : decode cX4_eliminate 117 = .ok (.aaload, 1) := by decide +kernel
theorem dX4_eliminate_118 : decode cX4_eliminate 118 = .ok (.iload_n 1, 1) := by decide +kernel
theorem dX4_eliminate_119 : decode cX4_eliminate 119 = .ok (.laload, 1) := by decide +kernel
theorem dX4_eliminate_120 : decode cX4_eliminate 120 = .ok (.putfield 112, 3) := by decide +kernel
theorem dX4_eliminate_123 : decode cX4_eliminate 123 = .ok (.iinc 1 1, 3) := by decide +kernel
theorem dX4_eliminate_126 : decode cX4_eliminate 126 = .ok (.goto (-119), 3) := by decide +kernel
theorem dX4_eliminate_129 : decode cX4_eliminate 129 = .ok (.iconst 1, 1) := by decide +kernel
theorem dX4_eliminate_130 : decode cX4_eliminate 130 = .ok (.ireturn, 1) := by decide +kernel
theorem dX4_clearEntry_0 : decode cX4_clearEntry 0 = .ok (.aload_n 0, 1) := by decide +kernel
theorem dX4_clearEntry_1 : decode cX4_clearEntry 1 = .ok (.getfield 36, 3) := by decide +kernel
theorem dX4_clearEntry_4 : decode cX4_clearEntry 4 = .ok (.iload_n 2, 1) := by decide +kernel
theorem dX4_clearEntry_5 : decode cX4_clearEntry 5 = .ok (.aaload, 1) := by decide +kernel
theorem dX4_clearEntry_6 : decode cX4_clearEntry 6 = .ok (.iload_n 2, 1) := by decide +kernel
theorem dX4_clearEntry_7 : decode cX4_clearEntry 7 = .ok (.laload, 1) := by decide +kernel
theorem dX4_clearEntry_8 : decode cX4_clearEntry 8 = .ok (.lstore_n 3, 1) := by decide +kernel
theorem dX4_clearEntry_9 : decode cX4_clearEntry 9 = .ok (.aload_n 0, 1) := by decide +kernel
theorem dX4_clearEntry_10 : decode cX4_clearEntry 10 = .ok (.getfield 36, 3) := by decide +kernel
theorem dX4_clearEntry_13 : decode cX4_clearEntry 13 = .ok (.iload_n 1, 1) := by decide +kernel
theorem dX4_clearEntry_14 : decode cX4_clearEntry 14 = .ok (.aaload, 1) := by decide +kernel
theorem dX4_clearEntry_15 : decode cX4_clearEntry 15 = .ok (.iload_n 2, 1) := by decide +kernel
theorem dX4_clearEntry_16 : decode cX4_clearEntry 16 = .ok (.laload, 1) := by decide +kernel
theorem dX4_clearEntry_17 : decode cX4_clearEntry 17 = .ok (.lstore 5, 2) := by decide +kernel
theorem dX4_clearEntry_19 : decode cX4_clearEntry 19 = .ok (.iconst 0, 1) := by decide +kernel
theorem dX4_clearEntry_20 : decode cX4_clearEntry 20 = .ok (.istore 7, 2) := by decide +kernel
theorem dX4_clearEntry_22 : decode cX4_clearEntry 22 = .ok (.iload 7, 2) := by decide +kernel
theorem dX4_clearEntry_24 : decode cX4_clearEntry 24 = .ok (.aload_n 0, 1) := by decide +kernel
theorem dX4_clearEntry_25 : decode cX4_clearEntry 25 = .ok (.getfield 101, 3) := by decide +kernel
theorem dX4_clearEntry_28 : decode cX4_clearEntry 28 = .ok (.if_icmp .gt 56, 3) := by decide +kernel
theorem dX4_clearEntry_31 : decode cX4_clearEntry 31 = .ok (.aload_n 0, 1) := by decide +kernel
theorem dX4_clearEntry_32 : decode cX4_clearEntry 32 = .ok (.getfield 112, 3) := by decide +kernel
theorem dX4_clearEntry_35 : decode cX4_clearEntry 35 = .ok (.lconst 0, 1) := by decide +kernel
theorem dX4_clearEntry_36 : decode cX4_clearEntry 36 = .ok (.lcmp, 1) := by decide +kernel
theorem dX4_clearEntry_37 : decode cX4_clearEntry 37 = .ok (.ifCond .eq 47, 3) := by decide +kernel
theorem dX4_clearEntry_40 : decode cX4_clearEntry 40 = .ok (.aload_n 0, 1) := by decide +kernel
theorem dX4_clearEntry_41 : decode cX4_clearEntry 41 = .ok (.getfield 36, 3) := by decide +kernel
theorem dX4_clearEntry_44 : decode cX4_clearEntry 44 = .ok (.iload_n 1, 1) := by decide +kernel
theorem dX4_clearEntry_45 : decode cX4_clearEntry 45 = .ok (.aaload, 1) := by decide +kernel
theorem dX4_clearEntry_46 : decode cX4_clearEntry 46 = .ok (.iload 7, 2) := by decide +kernel
theorem dX4_clearEntry_48 : decode cX4_clearEntry 48 = .ok (.lload_n 3, 1) := by decide +kernel
theorem dX4_clearEntry_49 : decode cX4_clearEntry 49 = .ok (.aload_n 0, 1) := by decide +kernel
theorem dX4_clearEntry_50 : decode cX4_clearEntry 50 = .ok (.getfield 36, 3) := by decide +kernel
theorem dX4_clearEntry_53 : decode cX4_clearEntry 53 = .ok (.iload_n 1, 1) := by decide +kernel
theorem dX4_clearEntry_54 : decode cX4_clearEntry 54 = .ok (.aaload, 1) := by decide +kernel
theorem dX4_clearEntry_55 : decode cX4_clearEntry 55 = .ok (.iload 7, 2) := by decide +kernel
theorem dX4_clearEntry_57 : decode cX4_clearEntry 57 = .ok (.laload, 1) := by decide +kernel
theorem dX4_clearEntry_58 : decode cX4_clearEntry 58 = .ok (.lmul, 1) := by decide +kernel
theorem dX4_clearEntry_59 : decode cX4_clearEntry 59 = .ok (.lload 5, 2) := by decide +kernel
theorem dX4_clearEntry_61 : decode cX4_clearEntry 61 = .ok (.aload_n 0, 1) := by decide +kernel
theorem dX4_clearEntry_62 : decode cX4_clearEntry 62 = .ok (.getfield 36, 3) := by decide +kernel
theorem dX4_clearEntry_65 : decode cX4_clearEntry 65 = .ok (.iload_n 2, 1) := by decide +kernel
theorem dX4_clearEntry_66 : decode cX4_clearEntry 66 = .ok (.aaload, 1) := by decide +kernel
theorem dX4_clearEntry_67 : decode cX4_clearEntry 67 = .ok (.iload 7, 2) := by decide +kernel
theorem dX4_clearEntry_69 : decode cX4_clearEntry 69 = .ok (.laload, 1) := by decide +kernel
theorem dX4_clearEntry_70 : decode cX4_clearEntry 70 = .ok (.lmul, 1) := by decide +kernel
theorem dX4_clearEntry_71 : decode cX4_clearEntry 71 = .ok (.lsub, 1) := by decide +kernel
theorem dX4_clearEntry_72 : decode cX4_clearEntry 72 = .ok (.aload_n 0, 1) := by decide +kernel
theorem dX4_clearEntry_73 : decode cX4_clearEntry 73 = .ok (.getfield 112, 3) := by decide +kernel
theorem dX4_clearEntry_76 : decode cX4_clearEntry 76 = .ok (.ldiv, 1) := by decide +kernel
theorem dX4_clearEntry_77 : decode cX4_clearEntry 77 = .ok (.lastore, 1) := by decide +kernel
theorem dX4_clearEntry_78 : decode cX4_clearEntry 78 = .ok (.iinc 7 1, 3) := by decide +kernel
theorem dX4_clearEntry_81 : decode cX4_clearEntry 81 = .ok (.goto (-59), 3) := by decide +kernel
theorem dX4_clearEntry_84 : decode cX4_clearEntry 84 = .ok (.return_, 1) := by decide +kernel
theorem dX4_pullsOnly_0 : decode cX4_pullsOnly 0 = .ok (.iconst 0, 1) := by decide +kernel
theorem dX4_pullsOnly_1 : decode cX4_pullsOnly 1 = .ok (.istore_n 1, 1) := by decide +kernel
theorem dX4_pullsOnly_2 : decode cX4_pullsOnly 2 = .ok (.iload_n 1, 1) := by decide +kernel
theorem dX4_pullsOnly_3 : decode cX4_pullsOnly 3 = .ok (.aload_n 0, 1) := by decide +kernel
theorem dX4_pullsOnly_4 : decode cX4_pullsOnly 4 = .ok (.getfield 92, 3) := by decide +kernel
theorem dX4_pullsOnly_7 : decode cX4_pullsOnly 7 = .ok (.if_icmp .ge 91, 3) := by decide +kernel
theorem dX4_pullsOnly_10 : decode cX4_pullsOnly 10 = .ok (.aload_n 0, 1) := by decide +kernel
theorem dX4_pullsOnly_11 : decode cX4_pullsOnly 11 = .ok (.getfield 36, 3) := by decide +kernel
theorem dX4_pullsOnly_14 : decode cX4_pullsOnly 14 = .ok (.iload_n 1, 1) := by decide +kernel
theorem dX4_pullsOnly_15 : decode cX4_pullsOnly 15 = .ok (.aaload, 1) := by decide +kernel
theorem dX4_pullsOnly_16 : decode cX4_pullsOnly 16 = .ok (.aload_n 0, 1) := by decide +kernel
theorem dX4_pullsOnly_17 : decode cX4_pullsOnly 17 = .ok (.getfield 101, 3) := by decide +kernel
theorem dX4_pullsOnly_20 : decode cX4_pullsOnly 20 = .ok (.laload, 1) := by decide +kernel
theorem dX4_pullsOnly_21 : decode cX4_pullsOnly 21 = .ok (.lstore_n 2, 1) := by decide +kernel
theorem dX4_pullsOnly_22 : decode cX4_pullsOnly 22 = .ok (.iload_n 1, 1) := by decide +kernel
theorem dX4_pullsOnly_23 : decode cX4_pullsOnly 23 = .ok (.aload_n 0, 1) := by decide +kernel
theorem dX4_pullsOnly_24 : decode cX4_pullsOnly 24 = .ok (.getfield 101, 3) := by decide +kernel
theorem dX4_pullsOnly_27 : decode cX4_pullsOnly 27 = .ok (.if_icmp .lt 17, 3) := by decide +kernel
theorem dX4_pullsOnly_30 : decode cX4_pullsOnly 30 = .ok (.lload_n 2, 1) := by decide +kernel
theorem dX4_pullsOnly_31 : decode cX4_pullsOnly 31 = .ok (.lconst 0, 1) := by decide +kernel
theorem dX4_pullsOnly_32 : decode cX4_pullsOnly 32 = .ok (.lcmp, 1) := by decide +kernel
theorem dX4_pullsOnly_33 : decode cX4_pullsOnly 33 = .ok (.ifCond .ne 7, 3) := by decide +kernel
theorem dX4_pullsOnly_36 : decode cX4_pullsOnly 36 = .ok (.iconst 1, 1) := by decide +kernel
theorem dX4_pullsOnly_37 : decode cX4_pullsOnly 37 = .ok (.goto 46, 3) := by decide +kernel
theorem dX4_pullsOnly_40 : decode cX4_pullsOnly 40 = .ok (.iconst 0, 1) := by decide +kernel
theorem dX4_pullsOnly_41 : decode cX4_pullsOnly 41 = .ok (.goto 42, 3) := by decide +kernel
theorem dX4_pullsOnly_44 : decode cX4_pullsOnly 44 = .ok (.lload_n 2, 1) := by decide +kernel
theorem dX4_pullsOnly_45 : decode cX4_pullsOnly 45 = .ok (.lconst 0, 1) := by decide +kernel
theorem dX4_pullsOnly_46 : decode cX4_pullsOnly 46 = .ok (.lcmp, 1) := by decide +kernel
theorem dX4_pullsOnly_47 : decode cX4_pullsOnly 47 = .ok (.ifCond .eq 31, 3) := by decide +kernel
theorem dX4_pullsOnly_50 : decode cX4_pullsOnly 50 = .ok (.lload_n 2, 1) := by decide +kernel
theorem dX4_pullsOnly_51 : decode cX4_pullsOnly 51 = .ok (.lconst 0, 1) := by decide +kernel
theorem dX4_pullsOnly_52 : decode cX4_pullsOnly 52 = .ok (.lcmp, 1) := by decide +kernel
theorem dX4_pullsOnly_53 : decode cX4_pullsOnly 53 = .ok (.ifCond .le 7, 3) := by decide +kernel
theorem dX4_pullsOnly_56 : decode cX4_pullsOnly 56 = .ok (.iconst 1, 1) := by decide +kernel
theorem dX4_pullsOnly_57 : decode cX4_pullsOnly 57 = .ok (.goto 4, 3) := by decide +kernel
theorem dX4_pullsOnly_60 : decode cX4_pullsOnly 60 = .ok (.iconst 0, 1) := by decide +kernel
theorem dX4_pullsOnly_61 : decode cX4_pullsOnly 61 = .ok (.aload_n 0, 1) := by decide +kernel
theorem dX4_pullsOnly_62 : decode cX4_pullsOnly 62 = .ok (.getfield 112, 3) := by decide +kernel
theorem dX4_pullsOnly_65 : decode cX4_pullsOnly 65 = .ok (.lconst 0, 1) := by decide +kernel
theorem dX4_pullsOnly_66 : decode cX4_pullsOnly 66 = .ok (.lcmp, 1) := by decide +kernel
theorem dX4_pullsOnly_67 : decode cX4_pullsOnly 67 = .ok (.ifCond .le 7, 3) := by decide +kernel
theorem dX4_pullsOnly_70 : decode cX4_pullsOnly 70 = .ok (.iconst 1, 1) := by decide +kernel
theorem dX4_pullsOnly_71 : decode cX4_pullsOnly 71 = .ok (.goto 4, 3) := by decide +kernel
theorem dX4_pullsOnly_74 : decode cX4_pullsOnly 74 = .ok (.iconst 0, 1) := by decide +kernel
theorem dX4_pullsOnly_75 : decode cX4_pullsOnly 75 = .ok (.if_icmp .ne 7, 3) := by decide +kernel
theorem dX4_pullsOnly_78 : decode cX4_pullsOnly 78 = .ok (.iconst 1, 1) := by decide +kernel
theorem dX4_pullsOnly_79 : decode cX4_pullsOnly 79 = .ok (.goto 4, 3) := by decide +kernel
theorem dX4_pullsOnly_82 : decode cX4_pullsOnly 82 = .ok (.iconst 0, 1) := by decide +kernel
theorem dX4_pullsOnly_83 : decode cX4_pullsOnly 83 = .ok (.istore 4, 2) := by decide +kernel
theorem dX4_pullsOnly_85 : decode cX4_pullsOnly 85 = .ok (.iload 4, 2) := by decide +kernel
theorem dX4_pullsOnly_87 : decode cX4_pullsOnly 87 = .ok (.ifCond .ne 5, 3) := by decide +kernel
theorem dX4_pullsOnly_90 : decode cX4_pullsOnly 90 = .ok (.iconst 0, 1) := by decide +kernel
theorem dX4_pullsOnly_91 : decode cX4_pullsOnly 91 = .ok (.ireturn, 1) := by decide +kernel
theorem dX4_pullsOnly_92 : decode cX4_pullsOnly 92 = .ok (.iinc 1 1, 3) := by decide +kernel
theorem dX4_pullsOnly_95 : decode cX4_pullsOnly 95 = .ok (.goto (-93), 3) := by decide +kernel
theorem dX4_pullsOnly_98 : decode cX4_pullsOnly 98 = .ok (.iconst 1, 1) := by decide +kernel
theorem dX4_pullsOnly_99 : decode cX4_pullsOnly 99 = .ok (.ireturn, 1) := by decide +kernel
theorem dX4_takeStand_0 : decode cX4_takeStand 0 = .ok (.lconst 0, 1) := by decide +kernel
theorem dX4_takeStand_1 : decode cX4_takeStand 1 = .ok (.lstore_n 2, 1) := by decide +kernel
theorem dX4_takeStand_2 : decode cX4_takeStand 2 = .ok (.iconst 0, 1) := by decide +kernel
theorem dX4_takeStand_3 : decode cX4_takeStand 3 = .ok (.istore 4, 2) := by decide +kernel
theorem dX4_takeStand_5 : decode cX4_takeStand 5 = .ok (.iconst 0, 1) := by decide +kernel
theorem dX4_takeStand_6 : decode cX4_takeStand 6 = .ok (.istore 5, 2) := by decide +kernel
theorem dX4_takeStand_8 : decode cX4_takeStand 8 = .ok (.iconst 0, 1) := by decide +kernel
theorem dX4_takeStand_9 : decode cX4_takeStand 9 = .ok (.istore 6, 2) := by decide +kernel
theorem dX4_takeStand_11 : decode cX4_takeStand 11 = .ok (.iload 6, 2) := by decide +kernel
theorem dX4_takeStand_13 : decode cX4_takeStand 13 = .ok (.aload_n 0, 1) := by decide +kernel
theorem dX4_takeStand_14 : decode cX4_takeStand 14 = .ok (.getfield 47, 3) := by decide +kernel
theorem dX4_takeStand_17 : decode cX4_takeStand 17 = .ok (.if_icmp .ge 64, 3) := by decide +kernel
theorem dX4_takeStand_20 : decode cX4_takeStand 20 = .ok (.iload_n 1, 1) := by decide +kernel
theorem dX4_takeStand_21 : decode cX4_takeStand 21 = .ok (.iload 6, 2) := by decide +kernel
theorem dX4_takeStand_23 : decode cX4_takeStand 23 = .ok (.ishr, 1) := by decide +kernel
theorem dX4_takeStand_24 : decode cX4_takeStand 24 = .ok (.iconst 1, 1) := by decide +kernel
theorem dX4_takeStand_25 : decode cX4_takeStand 25 = .ok (.iand, 1) := by decide +kernel
theorem dX4_takeStand_26 : decode cX4_takeStand 26 = .ok (.iconst 1, 1) := by decide +kernel
theorem dX4_takeStand_27 : decode cX4_takeStand 27 = .ok (.if_icmp .ne 48, 3) := by decide +kernel
theorem dX4_takeStand_30 : decode cX4_takeStand 30 = .ok (.aload_n 0, 1) := by decide +kernel
theorem dX4_takeStand_31 : decode cX4_takeStand 31 = .ok (.getfield 36, 3) := by decide +kernel
theorem dX4_takeStand_34 : decode cX4_takeStand 34 = .ok (.iload 4, 2) := by decide +kernel
theorem dX4_takeStand_36 : decode cX4_takeStand 36 = .ok (.aaload, 1) := by decide +kernel
theorem dX4_takeStand_37 : decode cX4_takeStand 37 = .ok (.aload_n 0, 1) := by decide +kernel
theorem dX4_takeStand_38 : decode cX4_takeStand 38 = .ok (.getfield 101, 3) := by decide +kernel
theorem dX4_takeStand_41 : decode cX4_takeStand 41 = .ok (.laload, 1) := by decide +kernel
theorem dX4_takeStand_42 : decode cX4_takeStand 42 = .ok (.invokestatic 119, 3) := by decide +kernel
theorem dX4_takeStand_45 : decode cX4_takeStand 45 = .ok (.lstore 7, 2) := by decide +kernel
theorem dX4_takeStand_47 : decode cX4_takeStand 47 = .ok (.lload_n 2, 1) := by decide +kernel
theorem dX4_takeStand_48 : decode cX4_takeStand 48 = .ok (.lload 7, 2) := by decide +kernel
theorem dX4_takeStand_50 : decode cX4_takeStand 50 = .ok (.ladd, 1) := by decide +kernel
theorem dX4_takeStand_51 : decode cX4_takeStand 51 = .ok (.lstore_n 2, 1) := by decide +kernel
theorem dX4_takeStand_52 : decode cX4_takeStand 52 = .ok (.iload 5, 2) := by decide +kernel
theorem dX4_takeStand_54 : decode cX4_takeStand 54 = .ok (.lload 7, 2) := by decide +kernel
theorem dX4_takeStand_56 : decode cX4_takeStand 56 = .ok (.lconst 0, 1) := by decide +kernel
theorem dX4_takeStand_57 : decode cX4_takeStand 57 = .ok (.lcmp, 1) := by decide +kernel
theorem dX4_takeStand_58 : decode cX4_takeStand 58 = .ok (.ifCond .le 10, 3) := by decide +kernel
theorem dX4_takeStand_61 : decode cX4_takeStand 61 = .ok (.iconst 1, 1) := by decide +kernel
theorem dX4_takeStand_62 : decode cX4_takeStand 62 = .ok (.iload 6, 2) := by decide +kernel
theorem dX4_takeStand_64 : decode cX4_takeStand 64 = .ok (.ishl, 1) := by decide +kernel
theorem dX4_takeStand_65 : decode cX4_takeStand 65 = .ok (.goto 4, 3) := by decide +kernel
theorem dX4_takeStand_68 : decode cX4_takeStand 68 = .ok (.iconst 0, 1) := by decide +kernel
theorem dX4_takeStand_69 : decode cX4_takeStand 69 = .ok (.ior, 1) := by decide +kernel
theorem dX4_takeStand_70 : decode cX4_takeStand 70 = .ok (.istore 5, 2) := by decide +kernel
theorem dX4_takeStand_72 : decode cX4_takeStand 72 = .ok (.iinc 4 1, 3) := by decide +kernel
theorem dX4_takeStand_75 : decode cX4_takeStand 75 = .ok (.iinc 6 1, 3) := by decide +kernel
theorem dX4_takeStand_78 : decode cX4_takeStand 78 = .ok (.goto (-67), 3) := by decide +kernel
theorem dX4_takeStand_81 : decode cX4_takeStand 81 = .ok (.aload_n 0, 1) := by decide +kernel
theorem dX4_takeStand_82 : decode cX4_takeStand 82 = .ok (.dup, 1) := by decide +kernel
theorem dX4_takeStand_83 : decode cX4_takeStand 83 = .ok (.getfield 64, 3) := by decide +kernel
theorem dX4_takeStand_86 : decode cX4_takeStand 86 = .ok (.iload 5, 2) := by decide +kernel
theorem dX4_takeStand_88 : decode cX4_takeStand 88 = .ok (.ior, 1) := by decide +kernel
theorem dX4_takeStand_89 : decode cX4_takeStand 89 = .ok (.putfield 64, 3) := by decide +kernel
theorem dX4_takeStand_92 : decode cX4_takeStand 92 = .ok (.aload_n 0, 1) := by decide +kernel
theorem dX4_takeStand_93 : decode cX4_takeStand 93 = .ok (.dup, 1) := by decide +kernel
theorem dX4_takeStand_94 : decode cX4_takeStand 94 = .ok (.getfield 61, 3) := by decide +kernel
theorem dX4_takeStand_97 : decode cX4_takeStand 97 = .ok (.iload 5, 2) := by decide +kernel
theorem dX4_takeStand_99 : decode cX4_takeStand 99 = .ok (.iconst (-1), 1) := by decide +kernel
theorem dX4_takeStand_100 : decode cX4_takeStand 100 = .ok (.ixor, 1) := by decide +kernel
theorem dX4_takeStand_101 : decode cX4_takeStand 101 = .ok (.ior, 1) := by decide +kernel
theorem dX4_takeStand_102 : decode cX4_takeStand 102 = .ok (.putfield 61, 3) := by decide +kernel
theorem dX4_takeStand_105 : decode cX4_takeStand 105 = .ok (.aload_n 0, 1) := by decide +kernel
theorem dX4_takeStand_106 : decode cX4_takeStand 106 = .ok (.getfield 112, 3) := by decide +kernel
theorem dX4_takeStand_109 : decode cX4_takeStand 109 = .ok (.invokestatic 119, 3) := by decide +kernel
theorem dX4_takeStand_112 : decode cX4_takeStand 112 = .ok (.lstore 6, 2) := by decide +kernel
theorem dX4_takeStand_114 : decode cX4_takeStand 114 = .ok (.aload_n 0, 1) := by decide +kernel
theorem dX4_takeStand_115 : decode cX4_takeStand 115 = .ok (.getfield 58, 3) := by decide +kernel
theorem dX4_takeStand_118 : decode cX4_takeStand 118 = .ok (.ifCond .eq 20, 3) := by decide +kernel
theorem dX4_takeStand_121 : decode cX4_takeStand 121 = .ok (.lload_n 2, 1) := by decide +kernel
theorem dX4_takeStand_122 : decode cX4_takeStand 122 = .ok (.aload_n 0, 1) := by decide +kernel
theorem dX4_takeStand_123 : decode cX4_takeStand 123 = .ok (.getfield 125, 3) := by decide +kernel
theorem dX4_takeStand_126 : decode cX4_takeStand 126 = .ok (.lmul, 1) := by decide +kernel
theorem dX4_takeStand_127 : decode cX4_takeStand 127 = .ok (.aload_n 0, 1) := by decide +kernel
theorem dX4_takeStand_128 : decode cX4_takeStand 128 = .ok (.getfield 128, 3) := by decide +kernel
theorem dX4_takeStand_131 : decode cX4_takeStand 131 = .ok (.lload 6, 2) := by decide +kernel
theorem dX4_takeStand_133 : decode cX4_takeStand 133 = .ok (.lmul, 1) := by decide +kernel
theorem dX4_takeStand_134 : decode cX4_takeStand 134 = .ok (.lcmp, 1) := by decide +kernel
theorem dX4_takeStand_135 : decode cX4_takeStand 135 = .ok (.ifCond .ge 14, 3) := by decide +kernel
theorem dX4_takeStand_138 : decode cX4_takeStand 138 = .ok (.aload_n 0, 1) := by decide +kernel
theorem dX4_takeStand_139 : decode cX4_takeStand 139 = .ok (.lload_n 2, 1) := by decide +kernel
theorem dX4_takeStand_140 : decode cX4_takeStand 140 = .ok (.putfield 128, 3) := by decide +kernel
theorem dX4_takeStand_143 : decode cX4_takeStand 143 = .ok (.aload_n 0, 1) := by decide +kernel
theorem dX4_takeStand_144 : decode cX4_takeStand 144 = .ok (.lload 6, 2) := by decide +kernel
theorem dX4_takeStand_146 : decode cX4_takeStand 146 = .ok (.putfield 125, 3) := by decide +kernel
theorem dX4_takeStand_149 : decode cX4_takeStand 149 = .ok (.aload_n 0, 1) := by decide +kernel
theorem dX4_takeStand_150 : decode cX4_takeStand 150 = .ok (.iconst 1, 1) := by decide +kernel
theorem dX4_takeStand_151 : decode cX4_takeStand 151 = .ok (.putfield 58, 3) := by decide +kernel
theorem dX4_takeStand_154 : decode cX4_takeStand 154 = .ok (.return_, 1) := by decide +kernel
theorem dX4_canGrow_0 : decode cX4_canGrow 0 = .ok (.iconst 0, 1) := by decide +kernel
theorem dX4_canGrow_1 : decode cX4_canGrow 1 = .ok (.istore_n 2, 1) := by decide +kernel
theorem dX4_canGrow_2 : decode cX4_canGrow 2 = .ok (.iload_n 2, 1) := by decide +kernel
theorem dX4_canGrow_3 : decode cX4_canGrow 3 = .ok (.iconst 1, 1) := by decide +kernel
theorem dX4_canGrow_4 : decode cX4_canGrow 4 = .ok (.aload_n 0, 1) := by decide +kernel
theorem dX4_canGrow_5 : decode cX4_canGrow 5 = .ok (.getfield 47, 3) := by decide +kernel
theorem dX4_canGrow_8 : decode cX4_canGrow 8 = .ok (.ishl, 1) := by decide +kernel
theorem dX4_canGrow_9 : decode cX4_canGrow 9 = .ok (.if_icmp .ge 28, 3) := by decide +kernel
theorem dX4_canGrow_12 : decode cX4_canGrow 12 = .ok (.iload_n 2, 1) := by decide +kernel
theorem dX4_canGrow_13 : decode cX4_canGrow 13 = .ok (.iload_n 1, 1) := by decide +kernel
theorem dX4_canGrow_14 : decode cX4_canGrow 14 = .ok (.ishr, 1) := by decide +kernel
theorem dX4_canGrow_15 : decode cX4_canGrow 15 = .ok (.iconst 1, 1) := by decide +kernel
theorem dX4_canGrow_16 : decode cX4_canGrow 16 = .ok (.iand, 1) := by decide +kernel
theorem dX4_canGrow_17 : decode cX4_canGrow 17 = .ok (.ifCond .ne 14, 3) := by decide +kernel
theorem dX4_canGrow_20 : decode cX4_canGrow 20 = .ok (.aload_n 0, 1) := by decide +kernel
theorem dX4_canGrow_21 : decode cX4_canGrow 21 = .ok (.iload_n 2, 1) := by decide +kernel
theorem dX4_canGrow_22 : decode cX4_canGrow 22 = .ok (.iload_n 1, 1) := by decide +kernel
theorem dX4_canGrow_23 : decode cX4_canGrow 23 = .ok (.invokevirtual 67, 3) := by decide +kernel
theorem dX4_canGrow_26 : decode cX4_canGrow 26 = .ok (.ifCond .eq 5, 3) := by decide +kernel
theorem dX4_canGrow_29 : decode cX4_canGrow 29 = .ok (.iconst 1, 1) := by decide +kernel
theorem dX4_canGrow_30 : decode cX4_canGrow 30 = .ok (.ireturn, 1) := by decide +kernel
theorem dX4_canGrow_31 : decode cX4_canGrow 31 = .ok (.iinc 2 1, 3) := by decide +kernel
theorem dX4_canGrow_34 : decode cX4_canGrow 34 = .ok (.goto (-32), 3) := by decide +kernel
theorem dX4_canGrow_37 : decode cX4_canGrow 37 = .ok (.iconst 0, 1) := by decide +kernel
theorem dX4_canGrow_38 : decode cX4_canGrow 38 = .ok (.ireturn, 1) := by decide +kernel
theorem dX4_reduceEase_0 : decode cX4_reduceEase 0 = .ok (.aload_n 0, 1) := by decide +kernel
theorem dX4_reduceEase_1 : decode cX4_reduceEase 1 = .ok (.getfield 128, 3) := by decide +kernel
theorem dX4_reduceEase_4 : decode cX4_reduceEase 4 = .ok (.lstore_n 1, 1) := by decide +kernel
theorem dX4_reduceEase_5 : decode cX4_reduceEase 5 = .ok (.aload_n 0, 1) := by decide +kernel
theorem dX4_reduceEase_6 : decode cX4_reduceEase 6 = .ok (.getfield 125, 3) := by decide +kernel
theorem dX4_reduceEase_9 : decode cX4_reduceEase 9 = .ok (.lstore_n 3, 1) := by decide +kernel
theorem dX4_reduceEase_10 : decode cX4_reduceEase 10 = .ok (.iconst 0, 1) := by decide +kernel
theorem dX4_reduceEase_11 : decode cX4_reduceEase 11 = .ok (.istore 5, 2) := by decide +kernel
theorem dX4_reduceEase_13 : decode cX4_reduceEase 13 = .ok (.iload 5, 2) := by decide +kernel
theorem dX4_reduceEase_15 : decode cX4_reduceEase 15 = .ok (.bipush 100, 2) := by decide +kernel
theorem dX4_reduceEase_17 : decode cX4_reduceEase 17 = .ok (.if_icmp .ge 25, 3) := by decide +kernel
theorem dX4_reduceEase_20 : decode cX4_reduceEase 20 = .ok (.lload_n 3, 1) := by decide +kernel
theorem dX4_reduceEase_21 : decode cX4_reduceEase 21 = .ok (.lconst 0, 1) := by decide +kernel
theorem dX4_reduceEase_22 : decode cX4_reduceEase 22 = .ok (.lcmp, 1) := by decide +kernel
theorem dX4_reduceEase_23 : decode cX4_reduceEase 23 = .ok (.ifCond .eq 19, 3) := by decide +kernel
theorem dX4_reduceEase_26 : decode cX4_reduceEase 26 = .ok (.lload_n 1, 1) := by decide +kernel
theorem dX4_reduceEase_27 : decode cX4_reduceEase 27 = .ok (.lload_n 3, 1) := by decide +kernel
theorem dX4_reduceEase_28 : decode cX4_reduceEase 28 = .ok (.lrem, 1) := by decide +kernel
theorem dX4_reduceEase_29 : decode cX4_reduceEase 29 = .ok (.lstore 6, 2) := by decide +kernel
theorem dX4_reduceEase_31 : decode cX4_reduceEase 31 = .ok (.lload_n 3, 1) := by decide +kernel
theorem dX4_reduceEase_32 : decode cX4_reduceEase 32 = .ok (.lstore_n 1, 1) := by decide +kernel
theorem dX4_reduceEase_33 : decode cX4_reduceEase 33 = .ok (.lload 6, 2) := by decide +kernel
theorem dX4_reduceEase_35 : decode cX4_reduceEase 35 = .ok (.lstore_n 3, 1) := by decide +kernel
theorem dX4_reduceEase_36 : decode cX4_reduceEase 36 = .ok (.iinc 5 1, 3) := by decide +kernel
theorem dX4_reduceEase_39 : decode cX4_reduceEase 39 = .ok (.goto (-26), 3) := by decide +kernel
theorem dX4_reduceEase_42 : decode cX4_reduceEase 42 = .ok (.aload_n 0, 1) := by decide +kernel
theorem dX4_reduceEase_43 : decode cX4_reduceEase 43 = .ok (.getfield 58, 3) := by decide +kernel
theorem dX4_reduceEase_46 : decode cX4_reduceEase 46 = .ok (.ifCond .eq 29, 3) := by decide +kernel
theorem dX4_reduceEase_49 : decode cX4_reduceEase 49 = .ok (.lload_n 1, 1) := by decide +kernel
theorem dX4_reduceEase_50 : decode cX4_reduceEase 50 = .ok (.lconst 0, 1) := by decide +kernel
theorem dX4_reduceEase_51 : decode cX4_reduceEase 51 = .ok (.lcmp, 1) := by decide +kernel
theorem dX4_reduceEase_52 : decode cX4_reduceEase 52 = .ok (.ifCond .eq 23, 3) := by decide +kernel
theorem dX4_reduceEase_55 : decode cX4_reduceEase 55 = .ok (.aload_n 0, 1) := by decide +kernel
theorem dX4_reduceEase_56 : decode cX4_reduceEase 56 = .ok (.dup, 1) := by decide +kernel
theorem dX4_reduceEase_57 : decode cX4_reduceEase 57 = .ok (.getfield 128, 3) := by decide +kernel
theorem dX4_reduceEase_60 : decode cX4_reduceEase 60 = .ok (.lload_n 1, 1) := by decide +kernel
theorem dX4_reduceEase_61 : decode cX4_reduceEase 61 = .ok (.ldiv, 1) := by decide +kernel
theorem dX4_reduceEase_62 : decode cX4_reduceEase 62 = .ok (.putfield 128, 3) := by decide +kernel
theorem dX4_reduceEase_65 : decode cX4_reduceEase 65 = .ok (.aload_n 0, 1) := by decide +kernel
theorem dX4_reduceEase_66 : decode cX4_reduceEase 66 = .ok (.dup, 1) := by decide +kernel
theorem dX4_reduceEase_67 : decode cX4_reduceEase 67 = .ok (.getfield 125, 3) := by decide +kernel
theorem dX4_reduceEase_70 : decode cX4_reduceEase 70 = .ok (.lload_n 1, 1) := by decide +kernel
theorem dX4_reduceEase_71 : decode cX4_reduceEase 71 = .ok (.ldiv, 1) := by decide +kernel
theorem dX4_reduceEase_72 : decode cX4_reduceEase 72 = .ok (.putfield 125, 3) := by decide +kernel
theorem dX4_reduceEase_75 : decode cX4_reduceEase 75 = .ok (.return_, 1) := by decide +kernel
theorem dX5_init_0 : decode cX5_init 0 = .ok (.aload_n 0, 1) := by decide +kernel
theorem dX5_init_1 : decode cX5_init 1 = .ok (.invokespecial 1, 3) := by decide +kernel
theorem dX5_init_4 : decode cX5_init 4 = .ok (.aload_n 0, 1) := by decide +kernel
theorem dX5_init_5 : decode cX5_init 5 = .ok (.iload_n 1, 1) := by decide +kernel
theorem dX5_init_6 : decode cX5_init 6 = .ok (.putfield 7, 3) := by decide +kernel
theorem dX5_init_9 : decode cX5_init 9 = .ok (.aload_n 0, 1) := by decide +kernel
theorem dX5_init_10 : decode cX5_init 10 = .ok (.iload_n 2, 1) := by decide +kernel
theorem dX5_init_11 : decode cX5_init 11 = .ok (.putfield 13, 3) := by decide +kernel
theorem dX5_init_14 : decode cX5_init 14 = .ok (.aload_n 0, 1) := by decide +kernel
theorem dX5_init_15 : decode cX5_init 15 = .ok (.iload_n 3, 1) := by decide +kernel
theorem dX5_init_16 : decode cX5_init 16 = .ok (.putfield 16, 3) := by decide +kernel
theorem dX5_init_19 : decode cX5_init 19 = .ok (.aload_n 0, 1) := by decide +kernel
theorem dX5_init_20 : decode cX5_init 20 = .ok (.iload 4, 2) := by decide +kernel
theorem dX5_init_22 : decode cX5_init 22 = .ok (.putfield 19, 3) := by decide +kernel
theorem dX5_init_25 : decode cX5_init 25 = .ok (.aload_n 0, 1) := by decide +kernel
theorem dX5_init_26 : decode cX5_init 26 = .ok (.iload 5, 2) := by decide +kernel
theorem dX5_init_28 : decode cX5_init 28 = .ok (.putfield 22, 3) := by decide +kernel
theorem dX5_init_31 : decode cX5_init 31 = .ok (.return_, 1) := by decide +kernel
theorem dX5_fact_0 : decode cX5_fact 0 = .ok (.iload_n 1, 1) := by decide +kernel
theorem dX5_fact_1 : decode cX5_fact 1 = .ok (.tableswitch 59 0 3 #[31, 36, 41, 54], 31) := by decide +kernel
theorem dX5_fact_32 : decode cX5_fact 32 = .ok (.aload_n 0, 1) := by decide +kernel
theorem dX5_fact_33 : decode cX5_fact 33 = .ok (.getfield 19, 3) := by decide +kernel
theorem dX5_fact_36 : decode cX5_fact 36 = .ok (.ireturn, 1) := by decide +kernel
theorem dX5_fact_37 : decode cX5_fact 37 = .ok (.aload_n 0, 1) := by decide +kernel
theorem dX5_fact_38 : decode cX5_fact 38 = .ok (.getfield 22, 3) := by decide +kernel
theorem dX5_fact_41 : decode cX5_fact 41 = .ok (.ireturn, 1) := by decide +kernel
theorem dX5_fact_42 : decode cX5_fact 42 = .ok (.aload_n 0, 1) := by decide +kernel
theorem dX5_fact_43 : decode cX5_fact 43 = .ok (.getfield 25, 3) := by decide +kernel
theorem dX5_fact_46 : decode cX5_fact 46 = .ok (.ifCond .eq 7, 3) := by decide +kernel
theorem dX5_fact_49 : decode cX5_fact 49 = .ok (.iconst 1, 1) := by decide +kernel
theorem dX5_fact_50 : decode cX5_fact 50 = .ok (.goto 4, 3) := by decide +kernel
theorem dX5_fact_53 : decode cX5_fact 53 = .ok (.iconst 0, 1) := by decide +kernel
theorem dX5_fact_54 : decode cX5_fact 54 = .ok (.ireturn, 1) := by decide +kernel
theorem dX5_fact_55 : decode cX5_fact 55 = .ok (.aload_n 0, 1) := by decide +kernel
theorem dX5_fact_56 : decode cX5_fact 56 = .ok (.getfield 29, 3) := by decide +kernel
theorem dX5_fact_59 : decode cX5_fact 59 = .ok (.ireturn, 1) := by decide +kernel
theorem dX5_fact_60 : decode cX5_fact 60 = .ok (.aload_n 0, 1) := by decide +kernel
theorem dX5_fact_61 : decode cX5_fact 61 = .ok (.getfield 32, 3) := by decide +kernel
theorem dX5_fact_64 : decode cX5_fact 64 = .ok (.ireturn, 1) := by decide +kernel
theorem dX5_slantFor_0 : decode cX5_slantFor 0 = .ok (.bipush (-8), 2) := by decide +kernel
theorem dX5_slantFor_2 : decode cX5_slantFor 2 = .ok (.bipush 8, 2) := by decide +kernel
theorem dX5_slantFor_4 : decode cX5_slantFor 4 = .ok (.iload_n 1, 1) := by decide +kernel
theorem dX5_slantFor_5 : decode cX5_slantFor 5 = .ok (.aload_n 0, 1) := by decide +kernel
theorem dX5_slantFor_6 : decode cX5_slantFor 6 = .ok (.getfield 29, 3) := by decide +kernel
theorem dX5_slantFor_9 : decode cX5_slantFor 9 = .ok (.iadd, 1) := by decide +kernel
theorem dX5_slantFor_10 : decode cX5_slantFor 10 = .ok (.iload_n 2, 1) := by decide +kernel
theorem dX5_slantFor_11 : decode cX5_slantFor 11 = .ok (.iadd, 1) := by decide +kernel
theorem dX5_slantFor_12 : decode cX5_slantFor 12 = .ok (.invokestatic 35, 3) := by decide +kernel
theorem dX5_slantFor_15 : decode cX5_slantFor 15 = .ok (.invokestatic 41, 3) := by decide +kernel
theorem dX5_slantFor_18 : decode cX5_slantFor 18 = .ok (.ireturn, 1) := by decide +kernel
theorem dX5_pushX_0 : decode cX5_pushX 0 = .ok (.aload_n 0, 1) := by decide +kernel
theorem dX5_pushX_1 : decode cX5_pushX 1 = .ok (.getfield 25, 3) := by decide +kernel
theorem dX5_pushX_4 : decode cX5_pushX 4 = .ok (.ifCond .eq 5, 3) := by decide +kernel
theorem dX5_pushX_7 : decode cX5_pushX 7 = .ok (.iconst 0, 1) := by decide +kernel
theorem dX5_pushX_8 : decode cX5_pushX 8 = .ok (.ireturn, 1) := by decide +kernel
theorem dX5_pushX_9 : decode cX5_pushX 9 = .ok (.getstatic 44, 3) := by decide +kernel
theorem dX5_pushX_12 : decode cX5_pushX 12 = .ok (.aload_n 0, 1) := by decide +kernel
theorem dX5_pushX_13 : decode cX5_pushX 13 = .ok (.iload_n 1, 1) := by decide +kernel
theorem dX5_pushX_14 : decode cX5_pushX 14 = .ok (.aload_n 0, 1) := by decide +kernel
theorem dX5_pushX_15 : decode cX5_pushX 15 = .ok (.getfield 48, 3) := by decide +kernel
theorem dX5_pushX_18 : decode cX5_pushX 18 = .ok (.invokevirtual 51, 3) := by decide +kernel
theorem dX5_pushX_21 : decode cX5_pushX 21 = .ok (.invokestatic 54, 3) := by decide +kernel
theorem dX5_pushX_24 : decode cX5_pushX 24 = .ok (.iaload, 1) := by decide +kernel
theorem dX5_pushX_25 : decode cX5_pushX 25 = .ok (.i2l, 1) := by decide +kernel
theorem dX5_pushX_26 : decode cX5_pushX 26 = .ok (.lstore 4, 2) := by decide +kernel
theorem dX5_pushX_28 : decode cX5_pushX 28 = .ok (.aload_n 0, 1) := by decide +kernel
theorem dX5_pushX_29 : decode cX5_pushX 29 = .ok (.getfield 16, 3) := by decide +kernel
theorem dX5_pushX_32 : decode cX5_pushX 32 = .ok (.i2l, 1) := by decide +kernel
theorem dX5_pushX_33 : decode cX5_pushX 33 = .ok (.lload 4, 2) := by decide +kernel
theorem dX5_pushX_35 : decode cX5_pushX 35 = .ok (.lmul, 1) := by decide +kernel
theorem dX5_pushX_36 : decode cX5_pushX 36 = .ok (.ldc2_w 58, 3) := by decide +kernel
theorem dX5_pushX_39 : decode cX5_pushX 39 = .ok (.iload_n 3, 1) := by decide +kernel
theorem dX5_pushX_40 : decode cX5_pushX 40 = .ok (.i2l, 1) := by decide +kernel
theorem dX5_pushX_41 : decode cX5_pushX 41 = .ok (.lmul, 1) := by decide +kernel
theorem dX5_pushX_42 : decode cX5_pushX 42 = .ok (.ldc2_w 60, 3) := by decide +kernel
theorem dX5_pushX_45 : decode cX5_pushX 45 = .ok (.iload_n 2, 1) := by decide +kernel
theorem dX5_pushX_46 : decode cX5_pushX 46 = .ok (.i2l, 1) := by decide +kernel
theorem dX5_pushX_47 : decode cX5_pushX 47 = .ok (.lmul, 1) := by decide +kernel
theorem dX5_pushX_48 : decode cX5_pushX 48 = .ok (.lload 4, 2) := by decide +kernel
theorem dX5_pushX_50 : decode cX5_pushX 50 = .ok (.lmul, 1) := by decide +kernel
theorem dX5_pushX_51 : decode cX5_pushX 51 = .ok (.ladd, 1) := by decide +kernel
theorem dX5_pushX_52 : decode cX5_pushX 52 = .ok (.lmul, 1) := by decide +kernel
theorem dX5_pushX_53 : decode cX5_pushX 53 = .ok (.ldc2_w 62, 3) := by decide +kernel
theorem dX5_pushX_56 : decode cX5_pushX 56 = .ok (.ldiv, 1) := by decide +kernel
theorem dX5_pushX_57 : decode cX5_pushX 57 = .ok (.l2i, 1) := by decide +kernel
theorem dX5_pushX_58 : decode cX5_pushX 58 = .ok (.ireturn, 1) := by decide +kernel
theorem dX5_pushY_0 : decode cX5_pushY 0 = .ok (.aload_n 0, 1) := by decide +kernel
theorem dX5_pushY_1 : decode cX5_pushY 1 = .ok (.getfield 25, 3) := by decide +kernel
theorem dX5_pushY_4 : decode cX5_pushY 4 = .ok (.ifCond .eq 5, 3) := by decide +kernel
theorem dX5_pushY_7 : decode cX5_pushY 7 = .ok (.iconst 0, 1) := by decide +kernel
theorem dX5_pushY_8 : decode cX5_pushY 8 = .ok (.ireturn, 1) := by decide +kernel
theorem dX5_pushY_9 : decode cX5_pushY 9 = .ok (.aload_n 0, 1) := by decide +kernel
theorem dX5_pushY_10 : decode cX5_pushY 10 = .ok (.iload_n 1, 1) := by decide +kernel
theorem dX5_pushY_11 : decode cX5_pushY 11 = .ok (.aload_n 0, 1) := by decide +kernel
theorem dX5_pushY_12 : decode cX5_pushY 12 = .ok (.getfield 48, 3) := by decide +kernel
theorem dX5_pushY_15 : decode cX5_pushY 15 = .ok (.invokevirtual 51, 3) := by decide +kernel
theorem dX5_pushY_18 : decode cX5_pushY 18 = .ok (.istore_n 2, 1) := by decide +kernel
theorem dX5_pushY_19 : decode cX5_pushY 19 = .ok (.getstatic 44, 3) := by decide +kernel
theorem dX5_pushY_22 : decode cX5_pushY 22 = .ok (.iload_n 2, 1) := by decide +kernel
theorem dX5_pushY_23 : decode cX5_pushY 23 = .ok (.invokestatic 54, 3) := by decide +kernel
theorem dX5_pushY_26 : decode cX5_pushY 26 = .ok (.iaload, 1) := by decide +kernel
theorem dX5_pushY_27 : decode cX5_pushY 27 = .ok (.i2l, 1) := by decide +kernel
theorem dX5_pushY_28 : decode cX5_pushY 28 = .ok (.lstore_n 3, 1) := by decide +kernel
theorem dX5_pushY_29 : decode cX5_pushY 29 = .ok (.iload_n 2, 1) := by decide +kernel
theorem dX5_pushY_30 : decode cX5_pushY 30 = .ok (.ifCond .ge 14, 3) := by decide +kernel
theorem dX5_pushY_33 : decode cX5_pushY 33 = .ok (.getstatic 64, 3) := by decide +kernel
theorem dX5_pushY_36 : decode cX5_pushY 36 = .ok (.iload_n 2, 1) := by decide +kernel
theorem dX5_pushY_37 : decode cX5_pushY 37 = .ok (.ineg, 1) := by decide +kernel
theorem dX5_pushY_38 : decode cX5_pushY 38 = .ok (.iaload, 1) := by decide +kernel
theorem dX5_pushY_39 : decode cX5_pushY 39 = .ok (.ineg, 1) := by decide +kernel
theorem dX5_pushY_40 : decode cX5_pushY 40 = .ok (.i2l, 1) := by decide +kernel
theorem dX5_pushY_41 : decode cX5_pushY 41 = .ok (.goto 9, 3) := by decide +kernel
theorem dX5_pushY_44 : decode cX5_pushY 44 = .ok (.getstatic 64, 3) := by decide +kernel
theorem dX5_pushY_47 : decode cX5_pushY 47 = .ok (.iload_n 2, 1) := by decide +kernel
theorem dX5_pushY_48 : decode cX5_pushY 48 = .ok (.iaload, 1) := by decide +kernel
theorem dX5_pushY_49 : decode cX5_pushY 49 = .ok (.i2l, 1) := by decide +kernel
theorem dX5_pushY_50 : decode cX5_pushY 50 = .ok (.lstore 5, 2) := by decide +kernel
theorem dX5_pushY_52 : decode cX5_pushY 52 = .ok (.aload_n 0, 1) := by decide +kernel
theorem dX5_pushY_53 : decode cX5_pushY 53 = .ok (.getfield 16, 3) := by decide +kernel
theorem dX5_pushY_56 : decode cX5_pushY 56 = .ok (.i2l, 1) := by decide +kernel
theorem dX5_pushY_57 : decode cX5_pushY 57 = .ok (.lload_n 3, 1) := by decide +kernel
theorem dX5_pushY_58 : decode cX5_pushY 58 = .ok (.lmul, 1) := by decide +kernel
theorem dX5_pushY_59 : decode cX5_pushY 59 = .ok (.ldc2_w 60, 3) := by decide +kernel
theorem dX5_pushY_62 : decode cX5_pushY 62 = .ok (.aload_n 0, 1) := by decide +kernel
theorem dX5_pushY_63 : decode cX5_pushY 63 = .ok (.getfield 19, 3) := by decide +kernel
theorem dX5_pushY_66 : decode cX5_pushY 66 = .ok (.i2l, 1) := by decide +kernel
theorem dX5_pushY_67 : decode cX5_pushY 67 = .ok (.lmul, 1) := by decide +kernel
theorem dX5_pushY_68 : decode cX5_pushY 68 = .ok (.lload 5, 2) := by decide +kernel
theorem dX5_pushY_70 : decode cX5_pushY 70 = .ok (.lmul, 1) := by decide +kernel
theorem dX5_pushY_71 : decode cX5_pushY 71 = .ok (.lmul, 1) := by decide +kernel
theorem dX5_pushY_72 : decode cX5_pushY 72 = .ok (.ldc2_w 62, 3) := by decide +kernel
theorem dX5_pushY_75 : decode cX5_pushY 75 = .ok (.ldiv, 1) := by decide +kernel
theorem dX5_pushY_76 : decode cX5_pushY 76 = .ok (.l2i, 1) := by decide +kernel
theorem dX5_pushY_77 : decode cX5_pushY 77 = .ok (.ireturn, 1) := by decide +kernel
theorem dX5_press_0 : decode cX5_press 0 = .ok (.aload_n 0, 1) := by decide +kernel
theorem dX5_press_1 : decode cX5_press 1 = .ok (.getfield 25, 3) := by decide +kernel
theorem dX5_press_4 : decode cX5_press 4 = .ok (.ifCond .eq 5, 3) := by decide +kernel
theorem dX5_press_7 : decode cX5_press 7 = .ok (.iconst 0, 1) := by decide +kernel
theorem dX5_press_8 : decode cX5_press 8 = .ok (.ireturn, 1) := by decide +kernel
theorem dX5_press_9 : decode cX5_press 9 = .ok (.getstatic 44, 3) := by decide +kernel
theorem dX5_press_12 : decode cX5_press 12 = .ok (.aload_n 0, 1) := by decide +kernel
theorem dX5_press_13 : decode cX5_press 13 = .ok (.iload_n 1, 1) := by decide +kernel
theorem dX5_press_14 : decode cX5_press 14 = .ok (.iload_n 2, 1) := by decide +kernel
theorem dX5_press_15 : decode cX5_press 15 = .ok (.invokevirtual 51, 3) := by decide +kernel
theorem dX5_press_18 : decode cX5_press 18 = .ok (.invokestatic 54, 3) := by decide +kernel
theorem dX5_press_21 : decode cX5_press 21 = .ok (.iaload, 1) := by decide +kernel
theorem dX5_press_22 : decode cX5_press 22 = .ok (.i2l, 1) := by decide +kernel
theorem dX5_press_23 : decode cX5_press 23 = .ok (.lstore_n 3, 1) := by decide +kernel
theorem dX5_press_24 : decode cX5_press 24 = .ok (.aload_n 0, 1) := by decide +kernel
theorem dX5_press_25 : decode cX5_press 25 = .ok (.getfield 16, 3) := by decide +kernel
theorem dX5_press_28 : decode cX5_press 28 = .ok (.i2l, 1) := by decide +kernel
theorem dX5_press_29 : decode cX5_press 29 = .ok (.lload_n 3, 1) := by decide +kernel
theorem dX5_press_30 : decode cX5_press 30 = .ok (.lmul, 1) := by decide +kernel
theorem dX5_press_31 : decode cX5_press 31 = .ok (.lload_n 3, 1) := by decide +kernel
theorem dX5_press_32 : decode cX5_press 32 = .ok (.lmul, 1) := by decide +kernel
theorem dX5_press_33 : decode cX5_press 33 = .ok (.ldc2_w 60, 3) := by decide +kernel
theorem dX5_press_36 : decode cX5_press 36 = .ok (.aload_n 0, 1) := by decide +kernel
theorem dX5_press_37 : decode cX5_press 37 = .ok (.getfield 19, 3) := by decide +kernel
theorem dX5_press_40 : decode cX5_press 40 = .ok (.i2l, 1) := by decide +kernel
theorem dX5_press_41 : decode cX5_press 41 = .ok (.lmul, 1) := by decide +kernel
theorem dX5_press_42 : decode cX5_press 42 = .ok (.aload_n 0, 1) := by decide +kernel
theorem dX5_press_43 : decode cX5_press 43 = .ok (.getfield 22, 3) := by decide +kernel
theorem dX5_press_46 : decode cX5_press 46 = .ok (.i2l, 1) := by decide +kernel
theorem dX5_press_47 : decode cX5_press 47 = .ok (.ladd, 1) := by decide +kernel
theorem dX5_press_48 : decode cX5_press 48 = .ok (.lmul, 1) := by decide +kernel
theorem dX5_press_49 : decode cX5_press 49 = .ok (.ldc2_w 62, 3) := by decide +kernel
theorem dX5_press_52 : decode cX5_press 52 = .ok (.ldiv, 1) := by decide +kernel
theorem dX5_press_53 : decode cX5_press 53 = .ok (.l2i, 1) := by decide +kernel
theorem dX5_press_54 : decode cX5_press 54 = .ok (.ireturn, 1) := by decide +kernel
theorem dX5_live_0 : decode cX5_live 0 = .ok (.iload_n 1, 1) := by decide +kernel
theorem dX5_live_1 : decode cX5_live 1 = .ok (.ifCond .lt 30, 3) := by decide +kernel
theorem dX5_live_4 : decode cX5_live 4 = .ok (.aload_n 0, 1) := by decide +kernel
theorem dX5_live_5 : decode cX5_live 5 = .ok (.getfield 22, 3) := by decide +kernel
theorem dX5_live_8 : decode cX5_live 8 = .ok (.bipush 100, 2) := by decide +kernel
theorem dX5_live_10 : decode cX5_live 10 = .ok (.imul, 1) := by decide +kernel
theorem dX5_live_11 : decode cX5_live 11 = .ok (.bipush 32, 2) := by decide +kernel
theorem dX5_live_13 : decode cX5_live 13 = .ok (.imul, 1) := by decide +kernel
theorem dX5_live_14 : decode cX5_live 14 = .ok (.iload_n 1, 1) := by decide +kernel
theorem dX5_live_15 : decode cX5_live 15 = .ok (.bipush 32, 2) := by decide +kernel
theorem dX5_live_17 : decode cX5_live 17 = .ok (.iadd, 1) := by decide +kernel
theorem dX5_live_18 : decode cX5_live 18 = .ok (.idiv, 1) := by decide +kernel
theorem dX5_live_19 : decode cX5_live 19 = .ok (.bipush 100, 2) := by decide +kernel
theorem dX5_live_21 : decode cX5_live 21 = .ok (.idiv, 1) := by decide +kernel
theorem dX5_live_22 : decode cX5_live 22 = .ok (.bipush 20, 2) := by decide +kernel
theorem dX5_live_24 : decode cX5_live 24 = .ok (.if_icmp .le 7, 3) := by decide +kernel
theorem dX5_live_27 : decode cX5_live 27 = .ok (.iconst 1, 1) := by decide +kernel
theorem dX5_live_28 : decode cX5_live 28 = .ok (.goto 4, 3) := by decide +kernel
theorem dX5_live_31 : decode cX5_live 31 = .ok (.iconst 0, 1) := by decide +kernel
theorem dX5_live_32 : decode cX5_live 32 = .ok (.istore_n 3, 1) := by decide +kernel
theorem dX5_live_33 : decode cX5_live 33 = .ok (.aload_n 0, 1) := by decide +kernel
theorem dX5_live_34 : decode cX5_live 34 = .ok (.iload_n 3, 1) := by decide +kernel
theorem dX5_live_35 : decode cX5_live 35 = .ok (.ifCond .eq 12, 3) := by decide +kernel
theorem dX5_live_38 : decode cX5_live 38 = .ok (.aload_n 0, 1) := by decide +kernel
theorem dX5_live_39 : decode cX5_live 39 = .ok (.getfield 32, 3) := by decide +kernel
theorem dX5_live_42 : decode cX5_live 42 = .ok (.iconst 1, 1) := by decide +kernel
theorem dX5_live_43 : decode cX5_live 43 = .ok (.iadd, 1) := by decide +kernel
theorem dX5_live_44 : decode cX5_live 44 = .ok (.goto 4, 3) := by decide +kernel
theorem dX5_live_47 : decode cX5_live 47 = .ok (.iconst 0, 1) := by decide +kernel
theorem dX5_live_48 : decode cX5_live 48 = .ok (.putfield 32, 3) := by decide +kernel
theorem dX5_live_51 : decode cX5_live 51 = .ok (.aload_n 0, 1) := by decide +kernel
theorem dX5_live_52 : decode cX5_live 52 = .ok (.getfield 32, 3) := by decide +kernel
theorem dX5_live_55 : decode cX5_live 55 = .ok (.iconst 5, 1) := by decide +kernel
theorem dX5_live_56 : decode cX5_live 56 = .ok (.if_icmp .ne 22, 3) := by decide +kernel
theorem dX5_live_59 : decode cX5_live 59 = .ok (.aload_n 0, 1) := by decide +kernel
theorem dX5_live_60 : decode cX5_live 60 = .ok (.iconst 0, 1) := by decide +kernel
theorem dX5_live_61 : decode cX5_live 61 = .ok (.putfield 32, 3) := by decide +kernel
theorem dX5_live_64 : decode cX5_live 64 = .ok (.aload_n 0, 1) := by decide +kernel
theorem dX5_live_65 : decode cX5_live 65 = .ok (.iconst 2, 1) := by decide +kernel
theorem dX5_live_66 : decode cX5_live 66 = .ok (.aload_n 0, 1) := by decide +kernel
theorem dX5_live_67 : decode cX5_live 67 = .ok (.getfield 29, 3) := by decide +kernel
theorem dX5_live_70 : decode cX5_live 70 = .ok (.iconst 1, 1) := by decide +kernel
theorem dX5_live_71 : decode cX5_live 71 = .ok (.iadd, 1) := by decide +kernel
theorem dX5_live_72 : decode cX5_live 72 = .ok (.invokestatic 35, 3) := by decide +kernel
theorem dX5_live_75 : decode cX5_live 75 = .ok (.putfield 29, 3) := by decide +kernel
theorem dX5_live_78 : decode cX5_live 78 = .ok (.iload_n 2, 1) := by decide +kernel
theorem dX5_live_79 : decode cX5_live 79 = .ok (.ifCond .eq 30, 3) := by decide +kernel
theorem dX5_live_82 : decode cX5_live 82 = .ok (.aload_n 0, 1) := by decide +kernel
theorem dX5_live_83 : decode cX5_live 83 = .ok (.getfield 19, 3) := by decide +kernel
theorem dX5_live_86 : decode cX5_live 86 = .ok (.ifCond .le 23, 3) := by decide +kernel
theorem dX5_live_89 : decode cX5_live 89 = .ok (.aload_n 0, 1) := by decide +kernel
theorem dX5_live_90 : decode cX5_live 90 = .ok (.dup, 1) := by decide +kernel
theorem dX5_live_91 : decode cX5_live 91 = .ok (.getfield 19, 3) := by decide +kernel
theorem dX5_live_94 : decode cX5_live 94 = .ok (.iconst 1, 1) := by decide +kernel
theorem dX5_live_95 : decode cX5_live 95 = .ok (.isub, 1) := by decide +kernel
theorem dX5_live_96 : decode cX5_live 96 = .ok (.putfield 19, 3) := by decide +kernel
theorem dX5_live_99 : decode cX5_live 99 = .ok (.aload_n 0, 1) := by decide +kernel
theorem dX5_live_100 : decode cX5_live 100 = .ok (.dup, 1) := by decide +kernel
theorem dX5_live_101 : decode cX5_live 101 = .ok (.getfield 22, 3) := by decide +kernel
theorem dX5_live_104 : decode cX5_live 104 = .ok (.iconst 1, 1) := by decide +kernel
theorem dX5_live_105 : decode cX5_live 105 = .ok (.iadd, 1) := by decide +kernel
theorem dX5_live_106 : decode cX5_live 106 = .ok (.putfield 22, 3) := by decide +kernel
theorem dX5_live_109 : decode cX5_live 109 = .ok (.return_, 1) := by decide +kernel
theorem dX6_init_0 : decode cX6_init 0 = .ok (.aload_n 0, 1) := by decide +kernel
theorem dX6_init_1 : decode cX6_init 1 = .ok (.invokespecial 3, 3) := by decide +kernel
theorem dX6_init_4 : decode cX6_init 4 = .ok (.aload_n 0, 1) := by decide +kernel
theorem dX6_init_5 : decode cX6_init 5 = .ok (.sipush 300, 3) := by decide +kernel
theorem dX6_init_8 : decode cX6_init 8 = .ok (.newarray .int, 2) := by decide +kernel
theorem dX6_init_10 : decode cX6_init 10 = .ok (.putfield 11, 3) := by decide +kernel
theorem dX6_init_13 : decode cX6_init 13 = .ok (.aload_n 0, 1) := by decide +kernel
theorem dX6_init_14 : decode cX6_init 14 = .ok (.iconst (-1), 1) := by decide +kernel
theorem dX6_init_15 : decode cX6_init 15 = .ok (.putfield 15, 3) := by decide +kernel
theorem dX6_init_18 : decode cX6_init 18 = .ok (.aload_n 0, 1) := by decide +kernel
theorem dX6_init_19 : decode cX6_init 19 = .ok (.new 19, 3) := by decide +kernel
theorem dX6_init_22 : decode cX6_init 22 = .ok (.dup, 1) := by decide +kernel
theorem dX6_init_23 : decode cX6_init 23 = .ok (.invokespecial 21, 3) := by decide +kernel
theorem dX6_init_26 : decode cX6_init 26 = .ok (.putfield 22, 3) := by decide +kernel
theorem dX6_init_29 : decode cX6_init 29 = .ok (.return_, 1) := by decide +kernel
theorem dX6_hasRoom_0 : decode cX6_hasRoom 0 = .ok (.aload_n 0, 1) := by decide +kernel
theorem dX6_hasRoom_1 : decode cX6_hasRoom 1 = .ok (.getfield 26, 3) := by decide +kernel
theorem dX6_hasRoom_4 : decode cX6_hasRoom 4 = .ok (.bipush 20, 2) := by decide +kernel
theorem dX6_hasRoom_6 : decode cX6_hasRoom 6 = .ok (.iadd, 1) := by decide +kernel
theorem dX6_hasRoom_7 : decode cX6_hasRoom 7 = .ok (.sipush 300, 3) := by decide +kernel
theorem dX6_hasRoom_10 : decode cX6_hasRoom 10 = .ok (.if_icmp .gt 7, 3) := by decide +kernel
theorem dX6_hasRoom_13 : decode cX6_hasRoom 13 = .ok (.iconst 1, 1) := by decide +kernel
theorem dX6_hasRoom_14 : decode cX6_hasRoom 14 = .ok (.goto 4, 3) := by decide +kernel
theorem dX6_hasRoom_17 : decode cX6_hasRoom 17 = .ok (.iconst 0, 1) := by decide +kernel
theorem dX6_hasRoom_18 : decode cX6_hasRoom 18 = .ok (.ireturn, 1) := by decide +kernel
theorem dX6_addNumber_0 : decode cX6_addNumber 0 = .ok (.bipush 24, 2) := by decide +kernel
theorem dX6_addNumber_2 : decode cX6_addNumber 2 = .ok (.istore_n 2, 1) := by decide +kernel
theorem dX6_addNumber_3 : decode cX6_addNumber 3 = .ok (.iload_n 2, 1) := by decide +kernel
theorem dX6_addNumber_4 : decode cX6_addNumber 4 = .ok (.ifCond .lt 45, 3) := by decide +kernel
theorem dX6_addNumber_7 : decode cX6_addNumber 7 = .ok (.aload_n 0, 1) := by decide +kernel
theorem dX6_addNumber_8 : decode cX6_addNumber 8 = .ok (.getfield 26, 3) := by decide +kernel
theorem dX6_addNumber_11 : decode cX6_addNumber 11 = .ok (.sipush 300, 3) := by decide +kernel
theorem dX6_addNumber_14 : decode cX6_addNumber 14 = .ok (.if_icmp .ge 35, 3) := by decide +kernel
theorem dX6_addNumber_17 : decode cX6_addNumber 17 = .ok (.aload_n 0, 1) := by decide +kernel
theorem dX6_addNumber_18 : decode cX6_addNumber 18 = .ok (.getfield 11, 3) := by decide +kernel
theorem dX6_addNumber_21 : decode cX6_addNumber 21 = .ok (.aload_n 0, 1) := by decide +kernel
theorem dX6_addNumber_22 : decode cX6_addNumber 22 = .ok (.getfield 26, 3) := by decide +kernel
theorem dX6_addNumber_25 : decode cX6_addNumber 25 = .ok (.iload_n 1, 1) := by decide +kernel
theorem dX6_addNumber_26 : decode cX6_addNumber 26 = .ok (.iload_n 2, 1) := by decide +kernel
theorem dX6_addNumber_27 : decode cX6_addNumber 27 = .ok (.ishr, 1) := by decide +kernel
theorem dX6_addNumber_28 : decode cX6_addNumber 28 = .ok (.sipush 255, 3) := by decide +kernel
theorem dX6_addNumber_31 : decode cX6_addNumber 31 = .ok (.iand, 1) := by decide +kernel
theorem dX6_addNumber_32 : decode cX6_addNumber 32 = .ok (.iastore, 1) := by decide +kernel
theorem dX6_addNumber_33 : decode cX6_addNumber 33 = .ok (.aload_n 0, 1) := by decide +kernel
theorem dX6_addNumber_34 : decode cX6_addNumber 34 = .ok (.dup, 1) := by decide +kernel
theorem dX6_addNumber_35 : decode cX6_addNumber 35 = .ok (.getfield 26, 3) := by decide +kernel
theorem dX6_addNumber_38 : decode cX6_addNumber 38 = .ok (.iconst 1, 1) := by decide +kernel
theorem dX6_addNumber_39 : decode cX6_addNumber 39 = .ok (.iadd, 1) := by decide +kernel
theorem dX6_addNumber_40 : decode cX6_addNumber 40 = .ok (.putfield 26, 3) := by decide +kernel
theorem dX6_addNumber_43 : decode cX6_addNumber 43 = .ok (.iinc 2 (-8), 3) := by decide +kernel
theorem dX6_addNumber_46 : decode cX6_addNumber 46 = .ok (.goto (-43), 3) := by decide +kernel
theorem dX6_addNumber_49 : decode cX6_addNumber 49 = .ok (.return_, 1) := by decide +kernel
theorem dX6_readTape_0 : decode cX6_readTape 0 = .ok (.aload_n 0, 1) := by decide +kernel
theorem dX6_readTape_1 : decode cX6_readTape 1 = .ok (.iload_n 1, 1) := by decide +kernel
theorem dX6_readTape_2 : decode cX6_readTape 2 = .ok (.aload_n 0, 1) := by decide +kernel
theorem dX6_readTape_3 : decode cX6_readTape 3 = .ok (.getfield 26, 3) := by decide +kernel
theorem dX6_readTape_6 : decode cX6_readTape 6 = .ok (.invokestatic 29, 3) := by decide +kernel
theorem dX6_readTape_9 : decode cX6_readTape 9 = .ok (.putfield 35, 3) := by decide +kernel
theorem dX6_readTape_12 : decode cX6_readTape 12 = .ok (.aload_n 0, 1) := by decide +kernel
theorem dX6_readTape_13 : decode cX6_readTape 13 = .ok (.iconst 0, 1) := by decide +kernel
theorem dX6_readTape_14 : decode cX6_readTape 14 = .ok (.putfield 26, 3) := by decide +kernel
theorem dX6_readTape_17 : decode cX6_readTape 17 = .ok (.aload_n 0, 1) := by decide +kernel
theorem dX6_readTape_18 : decode cX6_readTape 18 = .ok (.getfield 22, 3) := by decide +kernel
theorem dX6_readTape_21 : decode cX6_readTape 21 = .ok (.invokevirtual 38, 3) := by decide +kernel
theorem dX6_readTape_24 : decode cX6_readTape 24 = .ok (.aload_n 0, 1) := by decide +kernel
theorem dX6_readTape_25 : decode cX6_readTape 25 = .ok (.iconst 0, 1) := by decide +kernel
theorem dX6_readTape_26 : decode cX6_readTape 26 = .ok (.putfield 41, 3) := by decide +kernel
theorem dX6_readTape_29 : decode cX6_readTape 29 = .ok (.aload_n 0, 1) := by decide +kernel
theorem dX6_readTape_30 : decode cX6_readTape 30 = .ok (.iconst 0, 1) := by decide +kernel
theorem dX6_readTape_31 : decode cX6_readTape 31 = .ok (.putfield 44, 3) := by decide +kernel
theorem dX6_readTape_34 : decode cX6_readTape 34 = .ok (.aload_n 0, 1) := by decide +kernel
theorem dX6_readTape_35 : decode cX6_readTape 35 = .ok (.iconst 0, 1) := by decide +kernel
theorem dX6_readTape_36 : decode cX6_readTape 36 = .ok (.putfield 47, 3) := by decide +kernel
theorem dX6_readTape_39 : decode cX6_readTape 39 = .ok (.aload_n 0, 1) := by decide +kernel
theorem dX6_readTape_40 : decode cX6_readTape 40 = .ok (.iconst (-1), 1) := by decide +kernel
theorem dX6_readTape_41 : decode cX6_readTape 41 = .ok (.putfield 15, 3) := by decide +kernel
theorem dX6_readTape_44 : decode cX6_readTape 44 = .ok (.aload_n 0, 1) := by decide +kernel
theorem dX6_readTape_45 : decode cX6_readTape 45 = .ok (.invokevirtual 50, 3) := by decide +kernel
theorem dX6_readTape_48 : decode cX6_readTape 48 = .ok (.iconst 0, 1) := by decide +kernel
theorem dX6_readTape_49 : decode cX6_readTape 49 = .ok (.istore_n 2, 1) := by decide +kernel
theorem dX6_readTape_50 : decode cX6_readTape 50 = .ok (.iload_n 2, 1) := by decide +kernel
theorem dX6_readTape_51 : decode cX6_readTape 51 = .ok (.bipush 16, 2) := by decide +kernel
theorem dX6_readTape_53 : decode cX6_readTape 53 = .ok (.if_icmp .gt 30, 3) := by decide +kernel
theorem dX6_readTape_56 : decode cX6_readTape 56 = .ok (.aload_n 0, 1) := by decide +kernel
theorem dX6_readTape_57 : decode cX6_readTape 57 = .ok (.invokevirtual 53, 3) := by decide +kernel
theorem dX6_readTape_60 : decode cX6_readTape 60 = .ok (.ifCond .eq 23, 3) := by decide +kernel
theorem dX6_readTape_63 : decode cX6_readTape 63 = .ok (.aload_n 0, 1) := by decide +kernel
theorem dX6_readTape_64 : decode cX6_readTape 64 = .ok (.getfield 57, 3) := by decide +kernel
theorem dX6_readTape_67 : decode cX6_readTape 67 = .ok (.sipush 318, 3) := by decide +kernel
theorem dX6_readTape_70 : decode cX6_readTape 70 = .ok (.if_icmp .eq 13, 3) := by decide +kernel
theorem dX6_readTape_73 : decode cX6_readTape 73 = .ok (.aload_n 0, 1) := by decide +kernel
theorem dX6_readTape_74 : decode cX6_readTape 74 = .ok (.invokevirtual 60, 3) := by decide +kernel
theorem dX6_readTape_77 : decode cX6_readTape 77 = .ok (.iinc 2 1, 3) := by decide +kernel
theorem dX6_readTape_80 : decode cX6_readTape 80 = .ok (.goto (-30), 3) := by decide +kernel
theorem dX6_readTape_83 : decode cX6_readTape 83 = .ok (.return_, 1) := by decide +kernel
theorem dX6_goesOn_0 : decode cX6_goesOn 0 = .ok (.aload_n 0, 1) := by decide +kernel
theorem dX6_goesOn_1 : decode cX6_goesOn 1 = .ok (.getfield 47, 3) := by decide +kernel
theorem dX6_goesOn_4 : decode cX6_goesOn 4 = .ok (.ifCond .ne 7, 3) := by decide +kernel
theorem dX6_goesOn_7 : decode cX6_goesOn 7 = .ok (.iconst 1, 1) := by decide +kernel
theorem dX6_goesOn_8 : decode cX6_goesOn 8 = .ok (.goto 4, 3) := by decide +kernel
theorem dX6_goesOn_11 : decode cX6_goesOn 11 = .ok (.iconst 0, 1) := by decide +kernel
theorem dX6_goesOn_12 : decode cX6_goesOn 12 = .ok (.ireturn, 1) := by decide +kernel
theorem dX6_refuse_0 : decode cX6_refuse 0 = .ok (.aload_n 0, 1) := by decide +kernel
theorem dX6_refuse_1 : decode cX6_refuse 1 = .ok (.invokevirtual 53, 3) := by decide +kernel
theorem dX6_refuse_4 : decode cX6_refuse 4 = .ok (.ifCond .eq 16, 3) := by decide +kernel
theorem dX6_refuse_7 : decode cX6_refuse 7 = .ok (.aload_n 0, 1) := by decide +kernel
theorem dX6_refuse_8 : decode cX6_refuse 8 = .ok (.iload_n 1, 1) := by decide +kernel
theorem dX6_refuse_9 : decode cX6_refuse 9 = .ok (.putfield 47, 3) := by decide +kernel
theorem dX6_refuse_12 : decode cX6_refuse 12 = .ok (.aload_n 0, 1) := by decide +kernel
theorem dX6_refuse_13 : decode cX6_refuse 13 = .ok (.aload_n 0, 1) := by decide +kernel
theorem dX6_refuse_14 : decode cX6_refuse 14 = .ok (.getfield 63, 3) := by decide +kernel
theorem dX6_refuse_17 : decode cX6_refuse 17 = .ok (.putfield 15, 3) := by decide +kernel
theorem dX6_refuse_20 : decode cX6_refuse 20 = .ok (.return_, 1) := by decide +kernel
theorem dX6_readRule_0 : decode cX6_readRule 0 = .ok (.aload_n 0, 1) := by decide +kernel
theorem dX6_readRule_1 : decode cX6_readRule 1 = .ok (.getfield 57, 3) := by decide +kernel
theorem dX6_readRule_4 : decode cX6_readRule 4 = .ok (.sipush 300, 3) := by decide +kernel
theorem dX6_readRule_7 : decode cX6_readRule 7 = .ok (.isub, 1) := by decide +kernel
theorem dX6_readRule_8 : decode cX6_readRule 8 = .ok (.istore_n 1, 1) := by decide +kernel
theorem dX6_readRule_9 : decode cX6_readRule 9 = .ok (.iload_n 1, 1) := by decide +kernel
theorem dX6_readRule_10 : decode cX6_readRule 10 = .ok (.ifCond .lt 13, 3) := by decide +kernel
theorem dX6_readRule_13 : decode cX6_readRule 13 = .ok (.aload_n 0, 1) := by decide +kernel
theorem dX6_readRule_14 : decode cX6_readRule 14 = .ok (.getfield 57, 3) := by decide +kernel
theorem dX6_readRule_17 : decode cX6_readRule 17 = .ok (.sipush 302, 3) := by decide +kernel
theorem dX6_readRule_20 : decode cX6_readRule 20 = .ok (.if_icmp .le 11, 3) := by decide +kernel
theorem dX6_readRule_23 : decode cX6_readRule 23 = .ok (.aload_n 0, 1) := by decide +kernel
theorem dX6_readRule_24 : decode cX6_readRule 24 = .ok (.iconst 1, 1) := by decide +kernel
theorem dX6_readRule_25 : decode cX6_readRule 25 = .ok (.invokevirtual 66, 3) := by decide +kernel
theorem dX6_readRule_28 : decode cX6_readRule 28 = .ok (.goto 52, 3) := by decide +kernel
theorem dX6_readRule_31 : decode cX6_readRule 31 = .ok (.aload_n 0, 1) := by decide +kernel
theorem dX6_readRule_32 : decode cX6_readRule 32 = .ok (.getfield 22, 3) := by decide +kernel
theorem dX6_readRule_35 : decode cX6_readRule 35 = .ok (.getfield 70, 3) := by decide +kernel
theorem dX6_readRule_38 : decode cX6_readRule 38 = .ok (.bipush 16, 2) := by decide +kernel
theorem dX6_readRule_40 : decode cX6_readRule 40 = .ok (.if_icmp .ne 11, 3) := by decide +kernel
theorem dX6_readRule_43 : decode cX6_readRule 43 = .ok (.aload_n 0, 1) := by decide +kernel
theorem dX6_readRule_44 : decode cX6_readRule 44 = .ok (.iconst 3, 1) := by decide +kernel
theorem dX6_readRule_45 : decode cX6_readRule 45 = .ok (.invokevirtual 66, 3) := by decide +kernel
theorem dX6_readRule_48 : decode cX6_readRule 48 = .ok (.goto 32, 3) := by decide +kernel
