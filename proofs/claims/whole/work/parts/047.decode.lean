theorem dX12_shows_20 : decode cX12_shows 20 = .ok (.if_icmp .le 7, 3) := by decide +kernel
theorem dX12_shows_23 : decode cX12_shows 23 = .ok (.iconst 1, 1) := by decide +kernel
theorem dX12_shows_24 : decode cX12_shows 24 = .ok (.goto 4, 3) := by decide +kernel
theorem dX12_shows_27 : decode cX12_shows 27 = .ok (.iconst 0, 1) := by decide +kernel
theorem dX12_shows_28 : decode cX12_shows 28 = .ok (.iconst 1, 1) := by decide +kernel
theorem dX12_shows_29 : decode cX12_shows 29 = .ok (.invokevirtual 207, 3) := by decide +kernel
theorem dX12_shows_32 : decode cX12_shows 32 = .ok (.ifCond .eq 5, 3) := by decide +kernel
theorem dX12_shows_35 : decode cX12_shows 35 = .ok (.iconst 0, 1) := by decide +kernel
theorem dX12_shows_36 : decode cX12_shows 36 = .ok (.ireturn, 1) := by decide +kernel
theorem dX12_shows_37 : decode cX12_shows 37 = .ok (.bipush (-9), 2) := by decide +kernel
theorem dX12_shows_39 : decode cX12_shows 39 = .ok (.istore_n 2, 1) := by decide +kernel
theorem dX12_shows_40 : decode cX12_shows 40 = .ok (.iconst 0, 1) := by decide +kernel
theorem dX12_shows_41 : decode cX12_shows 41 = .ok (.istore_n 3, 1) := by decide +kernel
theorem dX12_shows_42 : decode cX12_shows 42 = .ok (.bipush (-8), 2) := by decide +kernel
theorem dX12_shows_44 : decode cX12_shows 44 = .ok (.istore 4, 2) := by decide +kernel
theorem dX12_shows_46 : decode cX12_shows 46 = .ok (.iload 4, 2) := by decide +kernel
theorem dX12_shows_48 : decode cX12_shows 48 = .ok (.bipush 8, 2) := by decide +kernel
theorem dX12_shows_50 : decode cX12_shows 50 = .ok (.if_icmp .gt 125, 3) := by decide +kernel
theorem dX12_shows_53 : decode cX12_shows 53 = .ok (.iconst 0, 1) := by decide +kernel
theorem dX12_shows_54 : decode cX12_shows 54 = .ok (.istore 5, 2) := by decide +kernel
theorem dX12_shows_56 : decode cX12_shows 56 = .ok (.iconst 0, 1) := by decide +kernel
theorem dX12_shows_57 : decode cX12_shows 57 = .ok (.istore 6, 2) := by decide +kernel
theorem dX12_shows_59 : decode cX12_shows 59 = .ok (.iload 6, 2) := by decide +kernel
theorem dX12_shows_61 : decode cX12_shows 61 = .ok (.aload_n 0, 1) := by decide +kernel
theorem dX12_shows_62 : decode cX12_shows 62 = .ok (.iload_n 1, 1) := by decide +kernel
theorem dX12_shows_63 : decode cX12_shows 63 = .ok (.invokevirtual 443, 3) := by decide +kernel
theorem dX12_shows_66 : decode cX12_shows 66 = .ok (.if_icmp .ge 91, 3) := by decide +kernel
theorem dX12_shows_69 : decode cX12_shows 69 = .ok (.aload_n 0, 1) := by decide +kernel
theorem dX12_shows_70 : decode cX12_shows 70 = .ok (.iload_n 1, 1) := by decide +kernel
theorem dX12_shows_71 : decode cX12_shows 71 = .ok (.iload 6, 2) := by decide +kernel
theorem dX12_shows_73 : decode cX12_shows 73 = .ok (.invokevirtual 446, 3) := by decide +kernel
theorem dX12_shows_76 : decode cX12_shows 76 = .ok (.ifCond .ne 6, 3) := by decide +kernel
theorem dX12_shows_79 : decode cX12_shows 79 = .ok (.goto 72, 3) := by decide +kernel
theorem dX12_shows_82 : decode cX12_shows 82 = .ok (.aload_n 0, 1) := by decide +kernel
theorem dX12_shows_83 : decode cX12_shows 83 = .ok (.iload_n 1, 1) := by decide +kernel
theorem dX12_shows_84 : decode cX12_shows 84 = .ok (.iload 4, 2) := by decide +kernel
theorem dX12_shows_86 : decode cX12_shows 86 = .ok (.invokevirtual 440, 3) := by decide +kernel
theorem dX12_shows_89 : decode cX12_shows 89 = .ok (.istore 7, 2) := by decide +kernel
theorem dX12_shows_91 : decode cX12_shows 91 = .ok (.iconst 1, 1) := by decide +kernel
theorem dX12_shows_92 : decode cX12_shows 92 = .ok (.istore 8, 2) := by decide +kernel
theorem dX12_shows_94 : decode cX12_shows 94 = .ok (.iconst 0, 1) := by decide +kernel
theorem dX12_shows_95 : decode cX12_shows 95 = .ok (.istore 9, 2) := by decide +kernel
theorem dX12_shows_97 : decode cX12_shows 97 = .ok (.iload 9, 2) := by decide +kernel
theorem dX12_shows_99 : decode cX12_shows 99 = .ok (.iload 5, 2) := by decide +kernel
theorem dX12_shows_101 : decode cX12_shows 101 = .ok (.if_icmp .ge 33, 3) := by decide +kernel
theorem dX12_shows_104 : decode cX12_shows 104 = .ok (.iload 8, 2) := by decide +kernel
theorem dX12_shows_106 : decode cX12_shows 106 = .ok (.ifCond .eq 19, 3) := by decide +kernel
theorem dX12_shows_109 : decode cX12_shows 109 = .ok (.aload_n 0, 1) := by decide +kernel
theorem dX12_shows_110 : decode cX12_shows 110 = .ok (.getfield 128, 3) := by decide +kernel
theorem dX12_shows_113 : decode cX12_shows 113 = .ok (.iload 9, 2) := by decide +kernel
theorem dX12_shows_115 : decode cX12_shows 115 = .ok (.iaload, 1) := by decide +kernel
theorem dX12_shows_116 : decode cX12_shows 116 = .ok (.iload 7, 2) := by decide +kernel
theorem dX12_shows_118 : decode cX12_shows 118 = .ok (.if_icmp .eq 7, 3) := by decide +kernel
theorem dX12_shows_121 : decode cX12_shows 121 = .ok (.iconst 1, 1) := by decide +kernel
theorem dX12_shows_122 : decode cX12_shows 122 = .ok (.goto 4, 3) := by decide +kernel
theorem dX12_shows_125 : decode cX12_shows 125 = .ok (.iconst 0, 1) := by decide +kernel
theorem dX12_shows_126 : decode cX12_shows 126 = .ok (.istore 8, 2) := by decide +kernel
theorem dX12_shows_128 : decode cX12_shows 128 = .ok (.iinc 9 1, 3) := by decide +kernel
theorem dX12_shows_131 : decode cX12_shows 131 = .ok (.goto (-34), 3) := by decide +kernel
theorem dX12_shows_134 : decode cX12_shows 134 = .ok (.iload 8, 2) := by decide +kernel
theorem dX12_shows_136 : decode cX12_shows 136 = .ok (.ifCond .eq 15, 3) := by decide +kernel
theorem dX12_shows_139 : decode cX12_shows 139 = .ok (.aload_n 0, 1) := by decide +kernel
theorem dX12_shows_140 : decode cX12_shows 140 = .ok (.getfield 128, 3) := by decide +kernel
theorem dX12_shows_143 : decode cX12_shows 143 = .ok (.iload 5, 2) := by decide +kernel
theorem dX12_shows_145 : decode cX12_shows 145 = .ok (.iload 7, 2) := by decide +kernel
theorem dX12_shows_147 : decode cX12_shows 147 = .ok (.iastore, 1) := by decide +kernel
theorem dX12_shows_148 : decode cX12_shows 148 = .ok (.iinc 5 1, 3) := by decide +kernel
theorem dX12_shows_151 : decode cX12_shows 151 = .ok (.iinc 6 1, 3) := by decide +kernel
theorem dX12_shows_154 : decode cX12_shows 154 = .ok (.goto (-95), 3) := by decide +kernel
theorem dX12_shows_157 : decode cX12_shows 157 = .ok (.iload 5, 2) := by decide +kernel
theorem dX12_shows_159 : decode cX12_shows 159 = .ok (.iload_n 3, 1) := by decide +kernel
theorem dX12_shows_160 : decode cX12_shows 160 = .ok (.if_icmp .le 9, 3) := by decide +kernel
theorem dX12_shows_163 : decode cX12_shows 163 = .ok (.iload 5, 2) := by decide +kernel
theorem dX12_shows_165 : decode cX12_shows 165 = .ok (.istore_n 3, 1) := by decide +kernel
theorem dX12_shows_166 : decode cX12_shows 166 = .ok (.iload 4, 2) := by decide +kernel
theorem dX12_shows_168 : decode cX12_shows 168 = .ok (.istore_n 2, 1) := by decide +kernel
theorem dX12_shows_169 : decode cX12_shows 169 = .ok (.iinc 4 1, 3) := by decide +kernel
theorem dX12_shows_172 : decode cX12_shows 172 = .ok (.goto (-126), 3) := by decide +kernel
theorem dX12_shows_175 : decode cX12_shows 175 = .ok (.iload_n 2, 1) := by decide +kernel
theorem dX12_shows_176 : decode cX12_shows 176 = .ok (.ireturn, 1) := by decide +kernel
theorem dX12_knot_0 : decode cX12_knot 0 = .ok (.aload_n 0, 1) := by decide +kernel
theorem dX12_knot_1 : decode cX12_knot 1 = .ok (.iconst 0, 1) := by decide +kernel
theorem dX12_knot_2 : decode cX12_knot 2 = .ok (.putfield 179, 3) := by decide +kernel
theorem dX12_knot_5 : decode cX12_knot 5 = .ok (.aload_n 0, 1) := by decide +kernel
theorem dX12_knot_6 : decode cX12_knot 6 = .ok (.iload_n 1, 1) := by decide +kernel
theorem dX12_knot_7 : decode cX12_knot 7 = .ok (.bipush (-5), 2) := by decide +kernel
theorem dX12_knot_9 : decode cX12_knot 9 = .ok (.iconst 5, 1) := by decide +kernel
theorem dX12_knot_10 : decode cX12_knot 10 = .ok (.invokestatic 203, 3) := by decide +kernel
theorem dX12_knot_13 : decode cX12_knot 13 = .ok (.ifCond .eq 13, 3) := by decide +kernel
theorem dX12_knot_16 : decode cX12_knot 16 = .ok (.iload_n 2, 1) := by decide +kernel
theorem dX12_knot_17 : decode cX12_knot 17 = .ok (.bipush (-5), 2) := by decide +kernel
theorem dX12_knot_19 : decode cX12_knot 19 = .ok (.iconst 5, 1) := by decide +kernel
theorem dX12_knot_20 : decode cX12_knot 20 = .ok (.invokestatic 203, 3) := by decide +kernel
theorem dX12_knot_23 : decode cX12_knot 23 = .ok (.ifCond .ne 7, 3) := by decide +kernel
theorem dX12_knot_26 : decode cX12_knot 26 = .ok (.iconst 1, 1) := by decide +kernel
theorem dX12_knot_27 : decode cX12_knot 27 = .ok (.goto 4, 3) := by decide +kernel
theorem dX12_knot_30 : decode cX12_knot 30 = .ok (.iconst 0, 1) := by decide +kernel
theorem dX12_knot_31 : decode cX12_knot 31 = .ok (.iconst 1, 1) := by decide +kernel
theorem dX12_knot_32 : decode cX12_knot 32 = .ok (.invokevirtual 207, 3) := by decide +kernel
theorem dX12_knot_35 : decode cX12_knot 35 = .ok (.ifCond .eq 5, 3) := by decide +kernel
theorem dX12_knot_38 : decode cX12_knot 38 = .ok (.iconst 0, 1) := by decide +kernel
theorem dX12_knot_39 : decode cX12_knot 39 = .ok (.ireturn, 1) := by decide +kernel
theorem dX12_knot_40 : decode cX12_knot 40 = .ok (.aload_n 0, 1) := by decide +kernel
theorem dX12_knot_41 : decode cX12_knot 41 = .ok (.getfield 449, 3) := by decide +kernel
theorem dX12_knot_44 : decode cX12_knot 44 = .ok (.bipush 6, 2) := by decide +kernel
theorem dX12_knot_46 : decode cX12_knot 46 = .ok (.if_icmp .ne 5, 3) := by decide +kernel
theorem dX12_knot_49 : decode cX12_knot 49 = .ok (.iconst (-1), 1) := by decide +kernel
theorem dX12_knot_50 : decode cX12_knot 50 = .ok (.ireturn, 1) := by decide +kernel
theorem dX12_knot_51 : decode cX12_knot 51 = .ok (.aload_n 0, 1) := by decide +kernel
theorem dX12_knot_52 : decode cX12_knot 52 = .ok (.getfield 131, 3) := by decide +kernel
theorem dX12_knot_55 : decode cX12_knot 55 = .ok (.aload_n 0, 1) := by decide +kernel
theorem dX12_knot_56 : decode cX12_knot 56 = .ok (.getfield 449, 3) := by decide +kernel
theorem dX12_knot_59 : decode cX12_knot 59 = .ok (.iload_n 1, 1) := by decide +kernel
theorem dX12_knot_60 : decode cX12_knot 60 = .ok (.iastore, 1) := by decide +kernel
theorem dX12_knot_61 : decode cX12_knot 61 = .ok (.aload_n 0, 1) := by decide +kernel
theorem dX12_knot_62 : decode cX12_knot 62 = .ok (.getfield 134, 3) := by decide +kernel
theorem dX12_knot_65 : decode cX12_knot 65 = .ok (.aload_n 0, 1) := by decide +kernel
theorem dX12_knot_66 : decode cX12_knot 66 = .ok (.getfield 449, 3) := by decide +kernel
theorem dX12_knot_69 : decode cX12_knot 69 = .ok (.iload_n 2, 1) := by decide +kernel
theorem dX12_knot_70 : decode cX12_knot 70 = .ok (.iastore, 1) := by decide +kernel
theorem dX12_knot_71 : decode cX12_knot 71 = .ok (.aload_n 0, 1) := by decide +kernel
theorem dX12_knot_72 : decode cX12_knot 72 = .ok (.getfield 137, 3) := by decide +kernel
theorem dX12_knot_75 : decode cX12_knot 75 = .ok (.aload_n 0, 1) := by decide +kernel
theorem dX12_knot_76 : decode cX12_knot 76 = .ok (.getfield 449, 3) := by decide +kernel
theorem dX12_knot_79 : decode cX12_knot 79 = .ok (.iconst 0, 1) := by decide +kernel
theorem dX12_knot_80 : decode cX12_knot 80 = .ok (.iastore, 1) := by decide +kernel
theorem dX12_knot_81 : decode cX12_knot 81 = .ok (.aload_n 0, 1) := by decide +kernel
theorem dX12_knot_82 : decode cX12_knot 82 = .ok (.getfield 140, 3) := by decide +kernel
theorem dX12_knot_85 : decode cX12_knot 85 = .ok (.aload_n 0, 1) := by decide +kernel
theorem dX12_knot_86 : decode cX12_knot 86 = .ok (.getfield 449, 3) := by decide +kernel
theorem dX12_knot_89 : decode cX12_knot 89 = .ok (.iconst 0, 1) := by decide +kernel
theorem dX12_knot_90 : decode cX12_knot 90 = .ok (.iastore, 1) := by decide +kernel
theorem dX12_knot_91 : decode cX12_knot 91 = .ok (.aload_n 0, 1) := by decide +kernel
theorem dX12_knot_92 : decode cX12_knot 92 = .ok (.getfield 149, 3) := by decide +kernel
theorem dX12_knot_95 : decode cX12_knot 95 = .ok (.aload_n 0, 1) := by decide +kernel
theorem dX12_knot_96 : decode cX12_knot 96 = .ok (.getfield 449, 3) := by decide +kernel
theorem dX12_knot_99 : decode cX12_knot 99 = .ok (.iload_n 3, 1) := by decide +kernel
theorem dX12_knot_100 : decode cX12_knot 100 = .ok (.bastore, 1) := by decide +kernel
theorem dX12_knot_101 : decode cX12_knot 101 = .ok (.aload_n 0, 1) := by decide +kernel
theorem dX12_knot_102 : decode cX12_knot 102 = .ok (.dup, 1) := by decide +kernel
theorem dX12_knot_103 : decode cX12_knot 103 = .ok (.getfield 449, 3) := by decide +kernel
theorem dX12_knot_106 : decode cX12_knot 106 = .ok (.iconst 1, 1) := by decide +kernel
theorem dX12_knot_107 : decode cX12_knot 107 = .ok (.iadd, 1) := by decide +kernel
theorem dX12_knot_108 : decode cX12_knot 108 = .ok (.putfield 449, 3) := by decide +kernel
theorem dX12_knot_111 : decode cX12_knot 111 = .ok (.aload_n 0, 1) := by decide +kernel
theorem dX12_knot_112 : decode cX12_knot 112 = .ok (.getfield 449, 3) := by decide +kernel
theorem dX12_knot_115 : decode cX12_knot 115 = .ok (.iconst 1, 1) := by decide +kernel
theorem dX12_knot_116 : decode cX12_knot 116 = .ok (.isub, 1) := by decide +kernel
theorem dX12_knot_117 : decode cX12_knot 117 = .ok (.ireturn, 1) := by decide +kernel
theorem dX12_pull_0 : decode cX12_pull 0 = .ok (.aload_n 0, 1) := by decide +kernel
theorem dX12_pull_1 : decode cX12_pull 1 = .ok (.iconst 0, 1) := by decide +kernel
theorem dX12_pull_2 : decode cX12_pull 2 = .ok (.putfield 179, 3) := by decide +kernel
theorem dX12_pull_5 : decode cX12_pull 5 = .ok (.aload_n 0, 1) := by decide +kernel
theorem dX12_pull_6 : decode cX12_pull 6 = .ok (.iload_n 1, 1) := by decide +kernel
theorem dX12_pull_7 : decode cX12_pull 7 = .ok (.iconst 0, 1) := by decide +kernel
theorem dX12_pull_8 : decode cX12_pull 8 = .ok (.aload_n 0, 1) := by decide +kernel
theorem dX12_pull_9 : decode cX12_pull 9 = .ok (.getfield 449, 3) := by decide +kernel
theorem dX12_pull_12 : decode cX12_pull 12 = .ok (.iconst 1, 1) := by decide +kernel
theorem dX12_pull_13 : decode cX12_pull 13 = .ok (.isub, 1) := by decide +kernel
theorem dX12_pull_14 : decode cX12_pull 14 = .ok (.invokestatic 203, 3) := by decide +kernel
theorem dX12_pull_17 : decode cX12_pull 17 = .ok (.ifCond .ne 7, 3) := by decide +kernel
theorem dX12_pull_20 : decode cX12_pull 20 = .ok (.iconst 1, 1) := by decide +kernel
theorem dX12_pull_21 : decode cX12_pull 21 = .ok (.goto 4, 3) := by decide +kernel
theorem dX12_pull_24 : decode cX12_pull 24 = .ok (.iconst 0, 1) := by decide +kernel
theorem dX12_pull_25 : decode cX12_pull 25 = .ok (.iconst 1, 1) := by decide +kernel
theorem dX12_pull_26 : decode cX12_pull 26 = .ok (.invokevirtual 207, 3) := by decide +kernel
theorem dX12_pull_29 : decode cX12_pull 29 = .ok (.ifCond .ne 38, 3) := by decide +kernel
theorem dX12_pull_32 : decode cX12_pull 32 = .ok (.aload_n 0, 1) := by decide +kernel
theorem dX12_pull_33 : decode cX12_pull 33 = .ok (.iload_n 2, 1) := by decide +kernel
theorem dX12_pull_34 : decode cX12_pull 34 = .ok (.bipush (-100), 2) := by decide +kernel
theorem dX12_pull_36 : decode cX12_pull 36 = .ok (.bipush 100, 2) := by decide +kernel
theorem dX12_pull_38 : decode cX12_pull 38 = .ok (.invokestatic 203, 3) := by decide +kernel
theorem dX12_pull_41 : decode cX12_pull 41 = .ok (.ifCond .eq 14, 3) := by decide +kernel
theorem dX12_pull_44 : decode cX12_pull 44 = .ok (.iload_n 3, 1) := by decide +kernel
theorem dX12_pull_45 : decode cX12_pull 45 = .ok (.bipush (-100), 2) := by decide +kernel
theorem dX12_pull_47 : decode cX12_pull 47 = .ok (.bipush 100, 2) := by decide +kernel
theorem dX12_pull_49 : decode cX12_pull 49 = .ok (.invokestatic 203, 3) := by decide +kernel
theorem dX12_pull_52 : decode cX12_pull 52 = .ok (.ifCond .ne 7, 3) := by decide +kernel
theorem dX12_pull_55 : decode cX12_pull 55 = .ok (.iconst 1, 1) := by decide +kernel
theorem dX12_pull_56 : decode cX12_pull 56 = .ok (.goto 4, 3) := by decide +kernel
theorem dX12_pull_59 : decode cX12_pull 59 = .ok (.iconst 0, 1) := by decide +kernel
theorem dX12_pull_60 : decode cX12_pull 60 = .ok (.iconst 2, 1) := by decide +kernel
theorem dX12_pull_61 : decode cX12_pull 61 = .ok (.invokevirtual 207, 3) := by decide +kernel
theorem dX12_pull_64 : decode cX12_pull 64 = .ok (.ifCond .eq 4, 3) := by decide +kernel
theorem dX12_pull_67 : decode cX12_pull 67 = .ok (.return_, 1) := by decide +kernel
theorem dX12_pull_68 : decode cX12_pull 68 = .ok (.aload_n 0, 1) := by decide +kernel
theorem dX12_pull_69 : decode cX12_pull 69 = .ok (.getfield 137, 3) := by decide +kernel
theorem dX12_pull_72 : decode cX12_pull 72 = .ok (.iload_n 1, 1) := by decide +kernel
theorem dX12_pull_73 : decode cX12_pull 73 = .ok (.iload_n 2, 1) := by decide +kernel
theorem dX12_pull_74 : decode cX12_pull 74 = .ok (.iastore, 1) := by decide +kernel
theorem dX12_pull_75 : decode cX12_pull 75 = .ok (.aload_n 0, 1) := by decide +kernel
theorem dX12_pull_76 : decode cX12_pull 76 = .ok (.getfield 140, 3) := by decide +kernel
theorem dX12_pull_79 : decode cX12_pull 79 = .ok (.iload_n 1, 1) := by decide +kernel
theorem dX12_pull_80 : decode cX12_pull 80 = .ok (.iload_n 3, 1) := by decide +kernel
theorem dX12_pull_81 : decode cX12_pull 81 = .ok (.iastore, 1) := by decide +kernel
theorem dX12_pull_82 : decode cX12_pull 82 = .ok (.return_, 1) := by decide +kernel
theorem dX12_string_0 : decode cX12_string 0 = .ok (.aload_n 0, 1) := by decide +kernel
theorem dX12_string_1 : decode cX12_string 1 = .ok (.iconst 0, 1) := by decide +kernel
theorem dX12_string_2 : decode cX12_string 2 = .ok (.putfield 179, 3) := by decide +kernel
theorem dX12_string_5 : decode cX12_string 5 = .ok (.aload_n 0, 1) := by decide +kernel
theorem dX12_string_6 : decode cX12_string 6 = .ok (.iload_n 1, 1) := by decide +kernel
theorem dX12_string_7 : decode cX12_string 7 = .ok (.iconst 0, 1) := by decide +kernel
theorem dX12_string_8 : decode cX12_string 8 = .ok (.aload_n 0, 1) := by decide +kernel
theorem dX12_string_9 : decode cX12_string 9 = .ok (.getfield 449, 3) := by decide +kernel
theorem dX12_string_12 : decode cX12_string 12 = .ok (.iconst 1, 1) := by decide +kernel
theorem dX12_string_13 : decode cX12_string 13 = .ok (.isub, 1) := by decide +kernel
theorem dX12_string_14 : decode cX12_string 14 = .ok (.invokestatic 203, 3) := by decide +kernel
theorem dX12_string_17 : decode cX12_string 17 = .ok (.ifCond .eq 17, 3) := by decide +kernel
theorem dX12_string_20 : decode cX12_string 20 = .ok (.iload_n 2, 1) := by decide +kernel
theorem dX12_string_21 : decode cX12_string 21 = .ok (.iconst 0, 1) := by decide +kernel
theorem dX12_string_22 : decode cX12_string 22 = .ok (.aload_n 0, 1) := by decide +kernel
theorem dX12_string_23 : decode cX12_string 23 = .ok (.getfield 449, 3) := by decide +kernel
theorem dX12_string_26 : decode cX12_string 26 = .ok (.iconst 1, 1) := by decide +kernel
theorem dX12_string_27 : decode cX12_string 27 = .ok (.isub, 1) := by decide +kernel
theorem dX12_string_28 : decode cX12_string 28 = .ok (.invokestatic 203, 3) := by decide +kernel
theorem dX12_string_31 : decode cX12_string 31 = .ok (.ifCond .ne 7, 3) := by decide +kernel
theorem dX12_string_34 : decode cX12_string 34 = .ok (.iconst 1, 1) := by decide +kernel
theorem dX12_string_35 : decode cX12_string 35 = .ok (.goto 4, 3) := by decide +kernel
theorem dX12_string_38 : decode cX12_string 38 = .ok (.iconst 0, 1) := by decide +kernel
theorem dX12_string_39 : decode cX12_string 39 = .ok (.iconst 1, 1) := by decide +kernel
theorem dX12_string_40 : decode cX12_string 40 = .ok (.invokevirtual 207, 3) := by decide +kernel
theorem dX12_string_43 : decode cX12_string 43 = .ok (.ifCond .ne 21, 3) := by decide +kernel
theorem dX12_string_46 : decode cX12_string 46 = .ok (.aload_n 0, 1) := by decide +kernel
theorem dX12_string_47 : decode cX12_string 47 = .ok (.iload_n 1, 1) := by decide +kernel
theorem dX12_string_48 : decode cX12_string 48 = .ok (.iload_n 2, 1) := by decide +kernel
theorem dX12_string_49 : decode cX12_string 49 = .ok (.if_icmp .ne 7, 3) := by decide +kernel
theorem dX12_string_52 : decode cX12_string 52 = .ok (.iconst 1, 1) := by decide +kernel
theorem dX12_string_53 : decode cX12_string 53 = .ok (.goto 4, 3) := by decide +kernel
theorem dX12_string_56 : decode cX12_string 56 = .ok (.iconst 0, 1) := by decide +kernel
theorem dX12_string_57 : decode cX12_string 57 = .ok (.iconst 2, 1) := by decide +kernel
theorem dX12_string_58 : decode cX12_string 58 = .ok (.invokevirtual 207, 3) := by decide +kernel
theorem dX12_string_61 : decode cX12_string 61 = .ok (.ifCond .eq 5, 3) := by decide +kernel
theorem dX12_string_64 : decode cX12_string 64 = .ok (.iconst 0, 1) := by decide +kernel
theorem dX12_string_65 : decode cX12_string 65 = .ok (.ireturn, 1) := by decide +kernel
theorem dX12_string_66 : decode cX12_string 66 = .ok (.aload_n 0, 1) := by decide +kernel
theorem dX12_string_67 : decode cX12_string 67 = .ok (.getfield 452, 3) := by decide +kernel
theorem dX12_string_70 : decode cX12_string 70 = .ok (.bipush 6, 2) := by decide +kernel
theorem dX12_string_72 : decode cX12_string 72 = .ok (.if_icmp .ne 5, 3) := by decide +kernel
theorem dX12_string_75 : decode cX12_string 75 = .ok (.iconst (-1), 1) := by decide +kernel
theorem dX12_string_76 : decode cX12_string 76 = .ok (.ireturn, 1) := by decide +kernel
theorem dX12_string_77 : decode cX12_string 77 = .ok (.aload_n 0, 1) := by decide +kernel
theorem dX12_string_78 : decode cX12_string 78 = .ok (.getfield 131, 3) := by decide +kernel
theorem dX12_string_81 : decode cX12_string 81 = .ok (.iload_n 1, 1) := by decide +kernel
theorem dX12_string_82 : decode cX12_string 82 = .ok (.iaload, 1) := by decide +kernel
theorem dX12_string_83 : decode cX12_string 83 = .ok (.aload_n 0, 1) := by decide +kernel
theorem dX12_string_84 : decode cX12_string 84 = .ok (.getfield 131, 3) := by decide +kernel
theorem dX12_string_87 : decode cX12_string 87 = .ok (.iload_n 2, 1) := by decide +kernel
theorem dX12_string_88 : decode cX12_string 88 = .ok (.iaload, 1) := by decide +kernel
theorem dX12_string_89 : decode cX12_string 89 = .ok (.if_icmp .ne 21, 3) := by decide +kernel
theorem dX12_string_92 : decode cX12_string 92 = .ok (.aload_n 0, 1) := by decide +kernel
theorem dX12_string_93 : decode cX12_string 93 = .ok (.getfield 134, 3) := by decide +kernel
theorem dX12_string_96 : decode cX12_string 96 = .ok (.iload_n 1, 1) := by decide +kernel
theorem dX12_string_97 : decode cX12_string 97 = .ok (.iaload, 1) := by decide +kernel
theorem dX12_string_98 : decode cX12_string 98 = .ok (.aload_n 0, 1) := by decide +kernel
theorem dX12_string_99 : decode cX12_string 99 = .ok (.getfield 134, 3) := by decide +kernel
theorem dX12_string_102 : decode cX12_string 102 = .ok (.iload_n 2, 1) := by decide +kernel
theorem dX12_string_103 : decode cX12_string 103 = .ok (.iaload, 1) := by decide +kernel
theorem dX12_string_104 : decode cX12_string 104 = .ok (.if_icmp .ne 6, 3) := by decide +kernel
theorem dX12_string_107 : decode cX12_string 107 = .ok (.bipush (-2), 2) := by decide +kernel
theorem dX12_string_109 : decode cX12_string 109 = .ok (.ireturn, 1) := by decide +kernel
theorem dX12_string_110 : decode cX12_string 110 = .ok (.iconst 0, 1) := by decide +kernel
theorem dX12_string_111 : decode cX12_string 111 = .ok (.istore_n 3, 1) := by decide +kernel
theorem dX12_string_112 : decode cX12_string 112 = .ok (.iload_n 3, 1) := by decide +kernel
theorem dX12_string_113 : decode cX12_string 113 = .ok (.aload_n 0, 1) := by decide +kernel
theorem dX12_string_114 : decode cX12_string 114 = .ok (.getfield 452, 3) := by decide +kernel
theorem dX12_string_117 : decode cX12_string 117 = .ok (.if_icmp .ge 52, 3) := by decide +kernel
theorem dX12_string_120 : decode cX12_string 120 = .ok (.aload_n 0, 1) := by decide +kernel
theorem dX12_string_121 : decode cX12_string 121 = .ok (.getfield 143, 3) := by decide +kernel
theorem dX12_string_124 : decode cX12_string 124 = .ok (.iload_n 3, 1) := by decide +kernel
theorem dX12_string_125 : decode cX12_string 125 = .ok (.iaload, 1) := by decide +kernel
theorem dX12_string_126 : decode cX12_string 126 = .ok (.iload_n 1, 1) := by decide +kernel
theorem dX12_string_127 : decode cX12_string 127 = .ok (.if_icmp .ne 13, 3) := by decide +kernel
theorem dX12_string_130 : decode cX12_string 130 = .ok (.aload_n 0, 1) := by decide +kernel
theorem dX12_string_131 : decode cX12_string 131 = .ok (.getfield 146, 3) := by decide +kernel
theorem dX12_string_134 : decode cX12_string 134 = .ok (.iload_n 3, 1) := by decide +kernel
theorem dX12_string_135 : decode cX12_string 135 = .ok (.iaload, 1) := by decide +kernel
theorem dX12_string_136 : decode cX12_string 136 = .ok (.iload_n 2, 1) := by decide +kernel
theorem dX12_string_137 : decode cX12_string 137 = .ok (.if_icmp .eq 23, 3) := by decide +kernel
theorem dX12_string_140 : decode cX12_string 140 = .ok (.aload_n 0, 1) := by decide +kernel
theorem dX12_string_141 : decode cX12_string 141 = .ok (.getfield 143, 3) := by decide +kernel
theorem dX12_string_144 : decode cX12_string 144 = .ok (.iload_n 3, 1) := by decide +kernel
theorem dX12_string_145 : decode cX12_string 145 = .ok (.iaload, 1) := by decide +kernel
theorem dX12_string_146 : decode cX12_string 146 = .ok (.iload_n 2, 1) := by decide +kernel
theorem dX12_string_147 : decode cX12_string 147 = .ok (.if_icmp .ne 16, 3) := by decide +kernel
theorem dX12_string_150 : decode cX12_string 150 = .ok (.aload_n 0, 1) := by decide +kernel
theorem dX12_string_151 : decode cX12_string 151 = .ok (.getfield 146, 3) := by decide +kernel
theorem dX12_string_154 : decode cX12_string 154 = .ok (.iload_n 3, 1) := by decide +kernel
theorem dX12_string_155 : decode cX12_string 155 = .ok (.iaload, 1) := by decide +kernel
theorem dX12_string_156 : decode cX12_string 156 = .ok (.iload_n 1, 1) := by decide +kernel
theorem dX12_string_157 : decode cX12_string 157 = .ok (.if_icmp .ne 6, 3) := by decide +kernel
theorem dX12_string_160 : decode cX12_string 160 = .ok (.bipush (-3), 2) := by decide +kernel
theorem dX12_string_162 : decode cX12_string 162 = .ok (.ireturn, 1) := by decide +kernel
theorem dX12_string_163 : decode cX12_string 163 = .ok (.iinc 3 1, 3) := by decide +kernel
theorem dX12_string_166 : decode cX12_string 166 = .ok (.goto (-54), 3) := by decide +kernel
theorem dX12_string_169 : decode cX12_string 169 = .ok (.aload_n 0, 1) := by decide +kernel
theorem dX12_string_170 : decode cX12_string 170 = .ok (.getfield 143, 3) := by decide +kernel
theorem dX12_string_173 : decode cX12_string 173 = .ok (.aload_n 0, 1) := by decide +kernel
theorem dX12_string_174 : decode cX12_string 174 = .ok (.getfield 452, 3) := by decide +kernel
theorem dX12_string_177 : decode cX12_string 177 = .ok (.iload_n 1, 1) := by decide +kernel
theorem dX12_string_178 : decode cX12_string 178 = .ok (.iastore, 1) := by decide +kernel
theorem dX12_string_179 : decode cX12_string 179 = .ok (.aload_n 0, 1) := by decide +kernel
theorem dX12_string_180 : decode cX12_string 180 = .ok (.getfield 146, 3) := by decide +kernel
theorem dX12_string_183 : decode cX12_string 183 = .ok (.aload_n 0, 1) := by decide +kernel
theorem dX12_string_184 : decode cX12_string 184 = .ok (.getfield 452, 3) := by decide +kernel
theorem dX12_string_187 : decode cX12_string 187 = .ok (.iload_n 2, 1) := by decide +kernel
theorem dX12_string_188 : decode cX12_string 188 = .ok (.iastore, 1) := by decide +kernel
theorem dX12_string_189 : decode cX12_string 189 = .ok (.aload_n 0, 1) := by decide +kernel
theorem dX12_string_190 : decode cX12_string 190 = .ok (.dup, 1) := by decide +kernel
theorem dX12_string_191 : decode cX12_string 191 = .ok (.getfield 452, 3) := by decide +kernel
theorem dX12_string_194 : decode cX12_string 194 = .ok (.iconst 1, 1) := by decide +kernel
theorem dX12_string_195 : decode cX12_string 195 = .ok (.iadd, 1) := by decide +kernel
theorem dX12_string_196 : decode cX12_string 196 = .ok (.putfield 452, 3) := by decide +kernel
theorem dX12_string_199 : decode cX12_string 199 = .ok (.aload_n 0, 1) := by decide +kernel
theorem dX12_string_200 : decode cX12_string 200 = .ok (.getfield 452, 3) := by decide +kernel
theorem dX12_string_203 : decode cX12_string 203 = .ok (.iconst 1, 1) := by decide +kernel
theorem dX12_string_204 : decode cX12_string 204 = .ok (.isub, 1) := by decide +kernel
theorem dX12_string_205 : decode cX12_string 205 = .ok (.ireturn, 1) := by decide +kernel
theorem dX12_cut_0 : decode cX12_cut 0 = .ok (.aload_n 0, 1) := by decide +kernel
theorem dX12_cut_1 : decode cX12_cut 1 = .ok (.iconst 0, 1) := by decide +kernel
theorem dX12_cut_2 : decode cX12_cut 2 = .ok (.putfield 179, 3) := by decide +kernel
theorem dX12_cut_5 : decode cX12_cut 5 = .ok (.aload_n 0, 1) := by decide +kernel
theorem dX12_cut_6 : decode cX12_cut 6 = .ok (.getfield 452, 3) := by decide +kernel
theorem dX12_cut_9 : decode cX12_cut 9 = .ok (.istore_n 1, 1) := by decide +kernel
theorem dX12_cut_10 : decode cX12_cut 10 = .ok (.aload_n 0, 1) := by decide +kernel
theorem dX12_cut_11 : decode cX12_cut 11 = .ok (.iconst 0, 1) := by decide +kernel
theorem dX12_cut_12 : decode cX12_cut 12 = .ok (.putfield 452, 3) := by decide +kernel
theorem dX12_cut_15 : decode cX12_cut 15 = .ok (.aload_n 0, 1) := by decide +kernel
theorem dX12_cut_16 : decode cX12_cut 16 = .ok (.iconst 0, 1) := by decide +kernel
theorem dX12_cut_17 : decode cX12_cut 17 = .ok (.putfield 449, 3) := by decide +kernel
theorem dX12_cut_20 : decode cX12_cut 20 = .ok (.iload_n 1, 1) := by decide +kernel
theorem dX12_cut_21 : decode cX12_cut 21 = .ok (.ireturn, 1) := by decide +kernel
theorem dX12_pulls_0 : decode cX12_pulls 0 = .ok (.aload_n 0, 1) := by decide +kernel
theorem dX12_pulls_1 : decode cX12_pulls 1 = .ok (.getfield 143, 3) := by decide +kernel
theorem dX12_pulls_4 : decode cX12_pulls 4 = .ok (.iload_n 1, 1) := by decide +kernel
theorem dX12_pulls_5 : decode cX12_pulls 5 = .ok (.iaload, 1) := by decide +kernel
theorem dX12_pulls_6 : decode cX12_pulls 6 = .ok (.iload_n 2, 1) := by decide +kernel
theorem dX12_pulls_7 : decode cX12_pulls 7 = .ok (.if_icmp .eq 15, 3) := by decide +kernel
theorem dX12_pulls_10 : decode cX12_pulls 10 = .ok (.aload_n 0, 1) := by decide +kernel
theorem dX12_pulls_11 : decode cX12_pulls 11 = .ok (.getfield 146, 3) := by decide +kernel
theorem dX12_pulls_14 : decode cX12_pulls 14 = .ok (.iload_n 1, 1) := by decide +kernel
theorem dX12_pulls_15 : decode cX12_pulls 15 = .ok (.iaload, 1) := by decide +kernel
theorem dX12_pulls_16 : decode cX12_pulls 16 = .ok (.iload_n 2, 1) := by decide +kernel
theorem dX12_pulls_17 : decode cX12_pulls 17 = .ok (.if_icmp .eq 5, 3) := by decide +kernel
theorem dX12_pulls_20 : decode cX12_pulls 20 = .ok (.iconst 0, 1) := by decide +kernel
theorem dX12_pulls_21 : decode cX12_pulls 21 = .ok (.ireturn, 1) := by decide +kernel
theorem dX12_pulls_22 : decode cX12_pulls 22 = .ok (.aload_n 0, 1) := by decide +kernel
theorem dX12_pulls_23 : decode cX12_pulls 23 = .ok (.getfield 143, 3) := by decide +kernel
theorem dX12_pulls_26 : decode cX12_pulls 26 = .ok (.iload_n 1, 1) := by decide +kernel
theorem dX12_pulls_27 : decode cX12_pulls 27 = .ok (.iaload, 1) := by decide +kernel
theorem dX12_pulls_28 : decode cX12_pulls 28 = .ok (.iload_n 2, 1) := by decide +kernel
theorem dX12_pulls_29 : decode cX12_pulls 29 = .ok (.if_icmp .ne 12, 3) := by decide +kernel
theorem dX12_pulls_32 : decode cX12_pulls 32 = .ok (.aload_n 0, 1) := by decide +kernel
theorem dX12_pulls_33 : decode cX12_pulls 33 = .ok (.getfield 146, 3) := by decide +kernel
theorem dX12_pulls_36 : decode cX12_pulls 36 = .ok (.iload_n 1, 1) := by decide +kernel
theorem dX12_pulls_37 : decode cX12_pulls 37 = .ok (.iaload, 1) := by decide +kernel
theorem dX12_pulls_38 : decode cX12_pulls 38 = .ok (.goto 9, 3) := by decide +kernel
theorem dX12_pulls_41 : decode cX12_pulls 41 = .ok (.aload_n 0, 1) := by decide +kernel
theorem dX12_pulls_42 : decode cX12_pulls 42 = .ok (.getfield 143, 3) := by decide +kernel
theorem dX12_pulls_45 : decode cX12_pulls 45 = .ok (.iload_n 1, 1) := by decide +kernel
theorem dX12_pulls_46 : decode cX12_pulls 46 = .ok (.iaload, 1) := by decide +kernel
theorem dX12_pulls_47 : decode cX12_pulls 47 = .ok (.istore 4, 2) := by decide +kernel
theorem dX12_pulls_49 : decode cX12_pulls 49 = .ok (.iload_n 3, 1) := by decide +kernel
theorem dX12_pulls_50 : decode cX12_pulls 50 = .ok (.ifCond .ne 20, 3) := by decide +kernel
theorem dX12_pulls_53 : decode cX12_pulls 53 = .ok (.aload_n 0, 1) := by decide +kernel
theorem dX12_pulls_54 : decode cX12_pulls 54 = .ok (.getfield 131, 3) := by decide +kernel
theorem dX12_pulls_57 : decode cX12_pulls 57 = .ok (.iload 4, 2) := by decide +kernel
theorem dX12_pulls_59 : decode cX12_pulls 59 = .ok (.iaload, 1) := by decide +kernel
theorem dX12_pulls_60 : decode cX12_pulls 60 = .ok (.aload_n 0, 1) := by decide +kernel
theorem dX12_pulls_61 : decode cX12_pulls 61 = .ok (.getfield 131, 3) := by decide +kernel
theorem dX12_pulls_64 : decode cX12_pulls 64 = .ok (.iload_n 2, 1) := by decide +kernel
theorem dX12_pulls_65 : decode cX12_pulls 65 = .ok (.iaload, 1) := by decide +kernel
theorem dX12_pulls_66 : decode cX12_pulls 66 = .ok (.isub, 1) := by decide +kernel
theorem dX12_pulls_67 : decode cX12_pulls 67 = .ok (.goto 17, 3) := by decide +kernel
theorem dX12_pulls_70 : decode cX12_pulls 70 = .ok (.aload_n 0, 1) := by decide +kernel
theorem dX12_pulls_71 : decode cX12_pulls 71 = .ok (.getfield 134, 3) := by decide +kernel
theorem dX12_pulls_74 : decode cX12_pulls 74 = .ok (.iload 4, 2) := by decide +kernel
theorem dX12_pulls_76 : decode cX12_pulls 76 = .ok (.iaload, 1) := by decide +kernel
theorem dX12_pulls_77 : decode cX12_pulls 77 = .ok (.aload_n 0, 1) := by decide +kernel
theorem dX12_pulls_78 : decode cX12_pulls 78 = .ok (.getfield 134, 3) := by decide +kernel
theorem dX12_pulls_81 : decode cX12_pulls 81 = .ok (.iload_n 2, 1) := by decide +kernel
theorem dX12_pulls_82 : decode cX12_pulls 82 = .ok (.iaload, 1) := by decide +kernel
theorem dX12_pulls_83 : decode cX12_pulls 83 = .ok (.isub, 1) := by decide +kernel
theorem dX12_pulls_84 : decode cX12_pulls 84 = .ok (.ireturn, 1) := by decide +kernel
theorem dX12_divisor_0 : decode cX12_divisor 0 = .ok (.lload_n 0, 1) := by decide +kernel
theorem dX12_divisor_1 : decode cX12_divisor 1 = .ok (.lconst 0, 1) := by decide +kernel
theorem dX12_divisor_2 : decode cX12_divisor 2 = .ok (.lcmp, 1) := by decide +kernel
theorem dX12_divisor_3 : decode cX12_divisor 3 = .ok (.ifCond .ge 8, 3) := by decide +kernel
theorem dX12_divisor_6 : decode cX12_divisor 6 = .ok (.lload_n 0, 1) := by decide +kernel
theorem dX12_divisor_7 : decode cX12_divisor 7 = .ok (.lneg, 1) := by decide +kernel
theorem dX12_divisor_8 : decode cX12_divisor 8 = .ok (.goto 4, 3) := by decide +kernel
theorem dX12_divisor_11 : decode cX12_divisor 11 = .ok (.lload_n 0, 1) := by decide +kernel
theorem dX12_divisor_12 : decode cX12_divisor 12 = .ok (.lstore 4, 2) := by decide +kernel
theorem dX12_divisor_14 : decode cX12_divisor 14 = .ok (.lload_n 2, 1) := by decide +kernel
theorem dX12_divisor_15 : decode cX12_divisor 15 = .ok (.lconst 0, 1) := by decide +kernel
theorem dX12_divisor_16 : decode cX12_divisor 16 = .ok (.lcmp, 1) := by decide +kernel
theorem dX12_divisor_17 : decode cX12_divisor 17 = .ok (.ifCond .ge 8, 3) := by decide +kernel
theorem dX12_divisor_20 : decode cX12_divisor 20 = .ok (.lload_n 2, 1) := by decide +kernel
theorem dX12_divisor_21 : decode cX12_divisor 21 = .ok (.lneg, 1) := by decide +kernel
theorem dX12_divisor_22 : decode cX12_divisor 22 = .ok (.goto 4, 3) := by decide +kernel
theorem dX12_divisor_25 : decode cX12_divisor 25 = .ok (.lload_n 2, 1) := by decide +kernel
theorem dX12_divisor_26 : decode cX12_divisor 26 = .ok (.lstore 6, 2) := by decide +kernel
theorem dX12_divisor_28 : decode cX12_divisor 28 = .ok (.lload 6, 2) := by decide +kernel
theorem dX12_divisor_30 : decode cX12_divisor 30 = .ok (.lconst 0, 1) := by decide +kernel
theorem dX12_divisor_31 : decode cX12_divisor 31 = .ok (.lcmp, 1) := by decide +kernel
theorem dX12_divisor_32 : decode cX12_divisor 32 = .ok (.ifCond .eq 21, 3) := by decide +kernel
theorem dX12_divisor_35 : decode cX12_divisor 35 = .ok (.lload 4, 2) := by decide +kernel
theorem dX12_divisor_37 : decode cX12_divisor 37 = .ok (.lload 6, 2) := by decide +kernel
theorem dX12_divisor_39 : decode cX12_divisor 39 = .ok (.lrem, 1) := by decide +kernel
theorem dX12_divisor_40 : decode cX12_divisor 40 = .ok (.lstore 8, 2) := by decide +kernel
theorem dX12_divisor_42 : decode cX12_divisor 42 = .ok (.lload 6, 2) := by decide +kernel
theorem dX12_divisor_44 : decode cX12_divisor 44 = .ok (.lstore 4, 2) := by decide +kernel
theorem dX12_divisor_46 : decode cX12_divisor 46 = .ok (.lload 8, 2) := by decide +kernel
theorem dX12_divisor_48 : decode cX12_divisor 48 = .ok (.lstore 6, 2) := by decide +kernel
theorem dX12_divisor_50 : decode cX12_divisor 50 = .ok (.goto (-22), 3) := by decide +kernel
theorem dX12_divisor_53 : decode cX12_divisor 53 = .ok (.lload 4, 2) := by decide +kernel
theorem dX12_divisor_55 : decode cX12_divisor 55 = .ok (.lreturn, 1) := by decide +kernel
theorem dX12_writeRows_0 : decode cX12_writeRows 0 = .ok (.iconst 0, 1) := by decide +kernel
theorem dX12_writeRows_1 : decode cX12_writeRows 1 = .ok (.istore_n 2, 1) := by decide +kernel
theorem dX12_writeRows_2 : decode cX12_writeRows 2 = .ok (.iload_n 2, 1) := by decide +kernel
theorem dX12_writeRows_3 : decode cX12_writeRows 3 = .ok (.bipush 6, 2) := by decide +kernel
theorem dX12_writeRows_5 : decode cX12_writeRows 5 = .ok (.if_icmp .ge 166, 3) := by decide +kernel
theorem dX12_writeRows_8 : decode cX12_writeRows 8 = .ok (.iconst 0, 1) := by decide +kernel
theorem dX12_writeRows_9 : decode cX12_writeRows 9 = .ok (.istore_n 3, 1) := by decide +kernel
theorem dX12_writeRows_10 : decode cX12_writeRows 10 = .ok (.iload_n 3, 1) := by decide +kernel
theorem dX12_writeRows_11 : decode cX12_writeRows 11 = .ok (.iconst 2, 1) := by decide +kernel
theorem dX12_writeRows_12 : decode cX12_writeRows 12 = .ok (.if_icmp .ge 153, 3) := by decide +kernel
theorem dX12_writeRows_15 : decode cX12_writeRows 15 = .ok (.iload_n 2, 1) := by decide +kernel
theorem dX12_writeRows_16 : decode cX12_writeRows 16 = .ok (.aload_n 0, 1) := by decide +kernel
theorem dX12_writeRows_17 : decode cX12_writeRows 17 = .ok (.getfield 449, 3) := by decide +kernel
theorem dX12_writeRows_20 : decode cX12_writeRows 20 = .ok (.if_icmp .ge 16, 3) := by decide +kernel
theorem dX12_writeRows_23 : decode cX12_writeRows 23 = .ok (.aload_n 0, 1) := by decide +kernel
theorem dX12_writeRows_24 : decode cX12_writeRows 24 = .ok (.getfield 149, 3) := by decide +kernel
theorem dX12_writeRows_27 : decode cX12_writeRows 27 = .ok (.iload_n 2, 1) := by decide +kernel
theorem dX12_writeRows_28 : decode cX12_writeRows 28 = .ok (.baload, 1) := by decide +kernel
theorem dX12_writeRows_29 : decode cX12_writeRows 29 = .ok (.ifCond .ne 7, 3) := by decide +kernel
theorem dX12_writeRows_32 : decode cX12_writeRows 32 = .ok (.iconst 1, 1) := by decide +kernel
theorem dX12_writeRows_33 : decode cX12_writeRows 33 = .ok (.goto 4, 3) := by decide +kernel
theorem dX12_writeRows_36 : decode cX12_writeRows 36 = .ok (.iconst 0, 1) := by decide +kernel
theorem dX12_writeRows_37 : decode cX12_writeRows 37 = .ok (.istore 4, 2) := by decide +kernel
theorem dX12_writeRows_39 : decode cX12_writeRows 39 = .ok (.iconst 0, 1) := by decide +kernel
theorem dX12_writeRows_40 : decode cX12_writeRows 40 = .ok (.istore 5, 2) := by decide +kernel
theorem dX12_writeRows_42 : decode cX12_writeRows 42 = .ok (.iload 5, 2) := by decide +kernel
theorem dX12_writeRows_44 : decode cX12_writeRows 44 = .ok (.bipush 6, 2) := by decide +kernel
theorem dX12_writeRows_46 : decode cX12_writeRows 46 = .ok (.if_icmp .ge 49, 3) := by decide +kernel
theorem dX12_writeRows_49 : decode cX12_writeRows 49 = .ok (.aload_n 0, 1) := by decide +kernel
theorem dX12_writeRows_50 : decode cX12_writeRows 50 = .ok (.getfield 154, 3) := by decide +kernel
theorem dX12_writeRows_53 : decode cX12_writeRows 53 = .ok (.iconst 2, 1) := by decide +kernel
theorem dX12_writeRows_54 : decode cX12_writeRows 54 = .ok (.iload_n 2, 1) := by decide +kernel
theorem dX12_writeRows_55 : decode cX12_writeRows 55 = .ok (.imul, 1) := by decide +kernel
theorem dX12_writeRows_56 : decode cX12_writeRows 56 = .ok (.iload_n 3, 1) := by decide +kernel
theorem dX12_writeRows_57 : decode cX12_writeRows 57 = .ok (.iadd, 1) := by decide +kernel
theorem dX12_writeRows_58 : decode cX12_writeRows 58 = .ok (.aaload, 1) := by decide +kernel
theorem dX12_writeRows_59 : decode cX12_writeRows 59 = .ok (.iload 5, 2) := by decide +kernel
theorem dX12_writeRows_61 : decode cX12_writeRows 61 = .ok (.iload 4, 2) := by decide +kernel
theorem dX12_writeRows_63 : decode cX12_writeRows 63 = .ok (.ifCond .eq 24, 3) := by decide +kernel
theorem dX12_writeRows_66 : decode cX12_writeRows 66 = .ok (.iload 5, 2) := by decide +kernel
theorem dX12_writeRows_68 : decode cX12_writeRows 68 = .ok (.aload_n 0, 1) := by decide +kernel
theorem dX12_writeRows_69 : decode cX12_writeRows 69 = .ok (.getfield 452, 3) := by decide +kernel
theorem dX12_writeRows_72 : decode cX12_writeRows 72 = .ok (.if_icmp .ge 15, 3) := by decide +kernel
theorem dX12_writeRows_75 : decode cX12_writeRows 75 = .ok (.aload_n 0, 1) := by decide +kernel
theorem dX12_writeRows_76 : decode cX12_writeRows 76 = .ok (.iload 5, 2) := by decide +kernel
theorem dX12_writeRows_78 : decode cX12_writeRows 78 = .ok (.iload_n 2, 1) := by decide +kernel
theorem dX12_writeRows_79 : decode cX12_writeRows 79 = .ok (.iload_n 3, 1) := by decide +kernel
theorem dX12_writeRows_80 : decode cX12_writeRows 80 = .ok (.invokevirtual 455, 3) := by decide +kernel
theorem dX12_writeRows_83 : decode cX12_writeRows 83 = .ok (.i2l, 1) := by decide +kernel
theorem dX12_writeRows_84 : decode cX12_writeRows 84 = .ok (.goto 4, 3) := by decide +kernel
theorem dX12_writeRows_87 : decode cX12_writeRows 87 = .ok (.lconst 0, 1) := by decide +kernel
theorem dX12_writeRows_88 : decode cX12_writeRows 88 = .ok (.lastore, 1) := by decide +kernel
theorem dX12_writeRows_89 : decode cX12_writeRows 89 = .ok (.iinc 5 1, 3) := by decide +kernel
theorem dX12_writeRows_92 : decode cX12_writeRows 92 = .ok (.goto (-50), 3) := by decide +kernel
theorem dX12_writeRows_95 : decode cX12_writeRows 95 = .ok (.iload_n 1, 1) := by decide +kernel
theorem dX12_writeRows_96 : decode cX12_writeRows 96 = .ok (.iconst (-1), 1) := by decide +kernel
theorem dX12_writeRows_97 : decode cX12_writeRows 97 = .ok (.if_icmp .ne 27, 3) := by decide +kernel
theorem dX12_writeRows_100 : decode cX12_writeRows 100 = .ok (.iload_n 3, 1) := by decide +kernel
theorem dX12_writeRows_101 : decode cX12_writeRows 101 = .ok (.ifCond .ne 13, 3) := by decide +kernel
theorem dX12_writeRows_104 : decode cX12_writeRows 104 = .ok (.aload_n 0, 1) := by decide +kernel
theorem dX12_writeRows_105 : decode cX12_writeRows 105 = .ok (.getfield 137, 3) := by decide +kernel
theorem dX12_writeRows_108 : decode cX12_writeRows 108 = .ok (.iload_n 2, 1) := by decide +kernel
theorem dX12_writeRows_109 : decode cX12_writeRows 109 = .ok (.iaload, 1) := by decide +kernel
theorem dX12_writeRows_110 : decode cX12_writeRows 110 = .ok (.ineg, 1) := by decide +kernel
theorem dX12_writeRows_111 : decode cX12_writeRows 111 = .ok (.goto 21, 3) := by decide +kernel
theorem dX12_writeRows_114 : decode cX12_writeRows 114 = .ok (.aload_n 0, 1) := by decide +kernel
theorem dX12_writeRows_115 : decode cX12_writeRows 115 = .ok (.getfield 140, 3) := by decide +kernel
theorem dX12_writeRows_118 : decode cX12_writeRows 118 = .ok (.iload_n 2, 1) := by decide +kernel
theorem dX12_writeRows_119 : decode cX12_writeRows 119 = .ok (.iaload, 1) := by decide +kernel
theorem dX12_writeRows_120 : decode cX12_writeRows 120 = .ok (.ineg, 1) := by decide +kernel
theorem dX12_writeRows_121 : decode cX12_writeRows 121 = .ok (.goto 11, 3) := by decide +kernel
theorem dX12_writeRows_124 : decode cX12_writeRows 124 = .ok (.aload_n 0, 1) := by decide +kernel
theorem dX12_writeRows_125 : decode cX12_writeRows 125 = .ok (.iload_n 1, 1) := by decide +kernel
theorem dX12_writeRows_126 : decode cX12_writeRows 126 = .ok (.iload_n 2, 1) := by decide +kernel
theorem dX12_writeRows_127 : decode cX12_writeRows 127 = .ok (.iload_n 3, 1) := by decide +kernel
theorem dX12_writeRows_128 : decode cX12_writeRows 128 = .ok (.invokevirtual 455, 3) := by decide +kernel
theorem dX12_writeRows_131 : decode cX12_writeRows 131 = .ok (.ineg, 1) := by decide +kernel
theorem dX12_writeRows_132 : decode cX12_writeRows 132 = .ok (.istore 5, 2) := by decide +kernel
theorem dX12_writeRows_134 : decode cX12_writeRows 134 = .ok (.aload_n 0, 1) := by decide +kernel
theorem dX12_writeRows_135 : decode cX12_writeRows 135 = .ok (.getfield 154, 3) := by decide +kernel
theorem dX12_writeRows_138 : decode cX12_writeRows 138 = .ok (.iconst 2, 1) := by decide +kernel
theorem dX12_writeRows_139 : decode cX12_writeRows 139 = .ok (.iload_n 2, 1) := by decide +kernel
theorem dX12_writeRows_140 : decode cX12_writeRows 140 = .ok (.imul, 1) := by decide +kernel
theorem dX12_writeRows_141 : decode cX12_writeRows 141 = .ok (.iload_n 3, 1) := by decide +kernel
theorem dX12_writeRows_142 : decode cX12_writeRows 142 = .ok (.iadd, 1) := by decide +kernel
theorem dX12_writeRows_143 : decode cX12_writeRows 143 = .ok (.aaload, 1) := by decide +kernel
theorem dX12_writeRows_144 : decode cX12_writeRows 144 = .ok (.bipush 6, 2) := by decide +kernel
theorem dX12_writeRows_146 : decode cX12_writeRows 146 = .ok (.iload 4, 2) := by decide +kernel
theorem dX12_writeRows_148 : decode cX12_writeRows 148 = .ok (.ifCond .eq 9, 3) := by decide +kernel
theorem dX12_writeRows_151 : decode cX12_writeRows 151 = .ok (.iload 5, 2) := by decide +kernel
theorem dX12_writeRows_153 : decode cX12_writeRows 153 = .ok (.i2l, 1) := by decide +kernel
theorem dX12_writeRows_154 : decode cX12_writeRows 154 = .ok (.goto 4, 3) := by decide +kernel
theorem dX12_writeRows_157 : decode cX12_writeRows 157 = .ok (.lconst 0, 1) := by decide +kernel
theorem dX12_writeRows_158 : decode cX12_writeRows 158 = .ok (.lastore, 1) := by decide +kernel
theorem dX12_writeRows_159 : decode cX12_writeRows 159 = .ok (.iinc 3 1, 3) := by decide +kernel
theorem dX12_writeRows_162 : decode cX12_writeRows 162 = .ok (.goto (-152), 3) := by decide +kernel
theorem dX12_writeRows_165 : decode cX12_writeRows 165 = .ok (.iinc 2 1, 3) := by decide +kernel
theorem dX12_writeRows_168 : decode cX12_writeRows 168 = .ok (.goto (-166), 3) := by decide +kernel
theorem dX12_writeRows_171 : decode cX12_writeRows 171 = .ok (.return_, 1) := by decide +kernel
theorem dX12_shorten_0 : decode cX12_shorten 0 = .ok (.lconst 0, 1) := by decide +kernel
theorem dX12_shorten_1 : decode cX12_shorten 1 = .ok (.lstore_n 2, 1) := by decide +kernel
theorem dX12_shorten_2 : decode cX12_shorten 2 = .ok (.iconst 0, 1) := by decide +kernel
theorem dX12_shorten_3 : decode cX12_shorten 3 = .ok (.istore 4, 2) := by decide +kernel
theorem dX12_shorten_5 : decode cX12_shorten 5 = .ok (.iload 4, 2) := by decide +kernel
theorem dX12_shorten_7 : decode cX12_shorten 7 = .ok (.bipush 7, 2) := by decide +kernel
theorem dX12_shorten_9 : decode cX12_shorten 9 = .ok (.if_icmp .ge 18, 3) := by decide +kernel
theorem dX12_shorten_12 : decode cX12_shorten 12 = .ok (.aload_n 1, 1) := by decide +kernel
theorem dX12_shorten_13 : decode cX12_shorten 13 = .ok (.iload 4, 2) := by decide +kernel
theorem dX12_shorten_15 : decode cX12_shorten 15 = .ok (.laload, 1) := by decide +kernel
theorem dX12_shorten_16 : decode cX12_shorten 16 = .ok (.lload_n 2, 1) := by decide +kernel
theorem dX12_shorten_17 : decode cX12_shorten 17 = .ok (.invokestatic 459, 3) := by decide +kernel
theorem dX12_shorten_20 : decode cX12_shorten 20 = .ok (.lstore_n 2, 1) := by decide +kernel
theorem dX12_shorten_21 : decode cX12_shorten 21 = .ok (.iinc 4 1, 3) := by decide +kernel
theorem dX12_shorten_24 : decode cX12_shorten 24 = .ok (.goto (-19), 3) := by decide +kernel
theorem dX12_shorten_27 : decode cX12_shorten 27 = .ok (.iconst 0, 1) := by decide +kernel
theorem dX12_shorten_28 : decode cX12_shorten 28 = .ok (.istore 4, 2) := by decide +kernel
theorem dX12_shorten_30 : decode cX12_shorten 30 = .ok (.iload 4, 2) := by decide +kernel
theorem dX12_shorten_32 : decode cX12_shorten 32 = .ok (.bipush 7, 2) := by decide +kernel
theorem dX12_shorten_34 : decode cX12_shorten 34 = .ok (.if_icmp .ge 23, 3) := by decide +kernel
theorem dX12_shorten_37 : decode cX12_shorten 37 = .ok (.lload_n 2, 1) := by decide +kernel
theorem dX12_shorten_38 : decode cX12_shorten 38 = .ok (.lconst 1, 1) := by decide +kernel
theorem dX12_shorten_39 : decode cX12_shorten 39 = .ok (.lcmp, 1) := by decide +kernel
theorem dX12_shorten_40 : decode cX12_shorten 40 = .ok (.ifCond .le 17, 3) := by decide +kernel
theorem dX12_shorten_43 : decode cX12_shorten 43 = .ok (.aload_n 1, 1) := by decide +kernel
theorem dX12_shorten_44 : decode cX12_shorten 44 = .ok (.iload 4, 2) := by decide +kernel
theorem dX12_shorten_46 : decode cX12_shorten 46 = .ok (.dup2, 1) := by decide +kernel
theorem dX12_shorten_47 : decode cX12_shorten 47 = .ok (.laload, 1) := by decide +kernel
theorem dX12_shorten_48 : decode cX12_shorten 48 = .ok (.lload_n 2, 1) := by decide +kernel
theorem dX12_shorten_49 : decode cX12_shorten 49 = .ok (.ldiv, 1) := by decide +kernel
theorem dX12_shorten_50 : decode cX12_shorten 50 = .ok (.lastore, 1) := by decide +kernel
theorem dX12_shorten_51 : decode cX12_shorten 51 = .ok (.iinc 4 1, 3) := by decide +kernel
theorem dX12_shorten_54 : decode cX12_shorten 54 = .ok (.goto (-24), 3) := by decide +kernel
theorem dX12_shorten_57 : decode cX12_shorten 57 = .ok (.return_, 1) := by decide +kernel
theorem dX12_solves_0 : decode cX12_solves 0 = .ok (.aload_n 0, 1) := by decide +kernel
theorem dX12_solves_1 : decode cX12_solves 1 = .ok (.iload_n 2, 1) := by decide +kernel
theorem dX12_solves_2 : decode cX12_solves 2 = .ok (.invokevirtual 463, 3) := by decide +kernel
theorem dX12_solves_5 : decode cX12_solves 5 = .ok (.iconst 0, 1) := by decide +kernel
theorem dX12_solves_6 : decode cX12_solves 6 = .ok (.istore_n 3, 1) := by decide +kernel
theorem dX12_solves_7 : decode cX12_solves 7 = .ok (.iconst 0, 1) := by decide +kernel
theorem dX12_solves_8 : decode cX12_solves 8 = .ok (.istore 4, 2) := by decide +kernel
theorem dX12_solves_10 : decode cX12_solves 10 = .ok (.iload 4, 2) := by decide +kernel
theorem dX12_solves_12 : decode cX12_solves 12 = .ok (.aload_n 0, 1) := by decide +kernel
theorem dX12_solves_13 : decode cX12_solves 13 = .ok (.getfield 452, 3) := by decide +kernel
theorem dX12_solves_16 : decode cX12_solves 16 = .ok (.if_icmp .ge 252, 3) := by decide +kernel
theorem dX12_solves_19 : decode cX12_solves 19 = .ok (.iload_n 1, 1) := by decide +kernel
theorem dX12_solves_20 : decode cX12_solves 20 = .ok (.iload 4, 2) := by decide +kernel
theorem dX12_solves_22 : decode cX12_solves 22 = .ok (.ishr, 1) := by decide +kernel
theorem dX12_solves_23 : decode cX12_solves 23 = .ok (.iconst 1, 1) := by decide +kernel
theorem dX12_solves_24 : decode cX12_solves 24 = .ok (.iand, 1) := by decide +kernel
theorem dX12_solves_25 : decode cX12_solves 25 = .ok (.ifCond .ne 6, 3) := by decide +kernel
theorem dX12_solves_28 : decode cX12_solves 28 = .ok (.goto 234, 3) := by decide +kernel
theorem dX12_solves_31 : decode cX12_solves 31 = .ok (.iconst 0, 1) := by decide +kernel
theorem dX12_solves_32 : decode cX12_solves 32 = .ok (.istore 5, 2) := by decide +kernel
theorem dX12_solves_34 : decode cX12_solves 34 = .ok (.iload 5, 2) := by decide +kernel
theorem dX12_solves_36 : decode cX12_solves 36 = .ok (.bipush 12, 2) := by decide +kernel
theorem dX12_solves_38 : decode cX12_solves 38 = .ok (.if_icmp .ge 34, 3) := by decide +kernel
theorem dX12_solves_41 : decode cX12_solves 41 = .ok (.iload_n 3, 1) := by decide +kernel
theorem dX12_solves_42 : decode cX12_solves 42 = .ok (.iload 5, 2) := by decide +kernel
theorem dX12_solves_44 : decode cX12_solves 44 = .ok (.ishr, 1) := by decide +kernel
theorem dX12_solves_45 : decode cX12_solves 45 = .ok (.iconst 1, 1) := by decide +kernel
theorem dX12_solves_46 : decode cX12_solves 46 = .ok (.iand, 1) := by decide +kernel
theorem dX12_solves_47 : decode cX12_solves 47 = .ok (.iconst 1, 1) := by decide +kernel
theorem dX12_solves_48 : decode cX12_solves 48 = .ok (.if_icmp .eq 18, 3) := by decide +kernel
theorem dX12_solves_51 : decode cX12_solves 51 = .ok (.aload_n 0, 1) := by decide +kernel
theorem dX12_solves_52 : decode cX12_solves 52 = .ok (.getfield 154, 3) := by decide +kernel
theorem dX12_solves_55 : decode cX12_solves 55 = .ok (.iload 5, 2) := by decide +kernel
theorem dX12_solves_57 : decode cX12_solves 57 = .ok (.aaload, 1) := by decide +kernel
theorem dX12_solves_58 : decode cX12_solves 58 = .ok (.iload 4, 2) := by decide +kernel
theorem dX12_solves_60 : decode cX12_solves 60 = .ok (.laload, 1) := by decide +kernel
theorem dX12_solves_61 : decode cX12_solves 61 = .ok (.lconst 0, 1) := by decide +kernel
theorem dX12_solves_62 : decode cX12_solves 62 = .ok (.lcmp, 1) := by decide +kernel
theorem dX12_solves_63 : decode cX12_solves 63 = .ok (.ifCond .ne 9, 3) := by decide +kernel
theorem dX12_solves_66 : decode cX12_solves 66 = .ok (.iinc 5 1, 3) := by decide +kernel
theorem dX12_solves_69 : decode cX12_solves 69 = .ok (.goto (-35), 3) := by decide +kernel
theorem dX12_solves_72 : decode cX12_solves 72 = .ok (.iload 5, 2) := by decide +kernel
theorem dX12_solves_74 : decode cX12_solves 74 = .ok (.bipush 12, 2) := by decide +kernel
theorem dX12_solves_76 : decode cX12_solves 76 = .ok (.if_icmp .ne 5, 3) := by decide +kernel
theorem dX12_solves_79 : decode cX12_solves 79 = .ok (.iconst 0, 1) := by decide +kernel
theorem dX12_solves_80 : decode cX12_solves 80 = .ok (.ireturn, 1) := by decide +kernel
theorem dX12_solves_81 : decode cX12_solves 81 = .ok (.iload_n 3, 1) := by decide +kernel
theorem dX12_solves_82 : decode cX12_solves 82 = .ok (.iconst 1, 1) := by decide +kernel
theorem dX12_solves_83 : decode cX12_solves 83 = .ok (.iload 5, 2) := by decide +kernel
theorem dX12_solves_85 : decode cX12_solves 85 = .ok (.ishl, 1) := by decide +kernel
theorem dX12_solves_86 : decode cX12_solves 86 = .ok (.ior, 1) := by decide +kernel
theorem dX12_solves_87 : decode cX12_solves 87 = .ok (.istore_n 3, 1) := by decide +kernel
theorem dX12_solves_88 : decode cX12_solves 88 = .ok (.aload_n 0, 1) := by decide +kernel
theorem dX12_solves_89 : decode cX12_solves 89 = .ok (.getfield 157, 3) := by decide +kernel
theorem dX12_solves_92 : decode cX12_solves 92 = .ok (.iload 4, 2) := by decide +kernel
theorem dX12_solves_94 : decode cX12_solves 94 = .ok (.iload 5, 2) := by decide +kernel
theorem dX12_solves_96 : decode cX12_solves 96 = .ok (.iastore, 1) := by decide +kernel
theorem dX12_solves_97 : decode cX12_solves 97 = .ok (.iconst 0, 1) := by decide +kernel
theorem dX12_solves_98 : decode cX12_solves 98 = .ok (.istore 6, 2) := by decide +kernel
theorem dX12_solves_100 : decode cX12_solves 100 = .ok (.iload 6, 2) := by decide +kernel
theorem dX12_solves_102 : decode cX12_solves 102 = .ok (.bipush 12, 2) := by decide +kernel
theorem dX12_solves_104 : decode cX12_solves 104 = .ok (.if_icmp .ge 158, 3) := by decide +kernel
theorem dX12_solves_107 : decode cX12_solves 107 = .ok (.iload 6, 2) := by decide +kernel
theorem dX12_solves_109 : decode cX12_solves 109 = .ok (.iload 5, 2) := by decide +kernel
theorem dX12_solves_111 : decode cX12_solves 111 = .ok (.if_icmp .eq 145, 3) := by decide +kernel
theorem dX12_solves_114 : decode cX12_solves 114 = .ok (.aload_n 0, 1) := by decide +kernel
theorem dX12_solves_115 : decode cX12_solves 115 = .ok (.getfield 154, 3) := by decide +kernel
theorem dX12_solves_118 : decode cX12_solves 118 = .ok (.iload 6, 2) := by decide +kernel
theorem dX12_solves_120 : decode cX12_solves 120 = .ok (.aaload, 1) := by decide +kernel
theorem dX12_solves_121 : decode cX12_solves 121 = .ok (.iload 4, 2) := by decide +kernel
theorem dX12_solves_123 : decode cX12_solves 123 = .ok (.laload, 1) := by decide +kernel
theorem dX12_solves_124 : decode cX12_solves 124 = .ok (.lconst 0, 1) := by decide +kernel
theorem dX12_solves_125 : decode cX12_solves 125 = .ok (.lcmp, 1) := by decide +kernel
theorem dX12_solves_126 : decode cX12_solves 126 = .ok (.ifCond .ne 6, 3) := by decide +kernel
theorem dX12_solves_129 : decode cX12_solves 129 = .ok (.goto 127, 3) := by decide +kernel
theorem dX12_solves_132 : decode cX12_solves 132 = .ok (.aload_n 0, 1) := by decide +kernel
theorem dX12_solves_133 : decode cX12_solves 133 = .ok (.getfield 154, 3) := by decide +kernel
theorem dX12_solves_136 : decode cX12_solves 136 = .ok (.iload 5, 2) := by decide +kernel
theorem dX12_solves_138 : decode cX12_solves 138 = .ok (.aaload, 1) := by decide +kernel
theorem dX12_solves_139 : decode cX12_solves 139 = .ok (.iload 4, 2) := by decide +kernel
theorem dX12_solves_141 : decode cX12_solves 141 = .ok (.laload, 1) := by decide +kernel
theorem dX12_solves_142 : decode cX12_solves 142 = .ok (.lstore 7, 2) := by decide +kernel
theorem dX12_solves_144 : decode cX12_solves 144 = .ok (.aload_n 0, 1) := by decide +kernel
theorem dX12_solves_145 : decode cX12_solves 145 = .ok (.getfield 154, 3) := by decide +kernel
theorem dX12_solves_148 : decode cX12_solves 148 = .ok (.iload 6, 2) := by decide +kernel
theorem dX12_solves_150 : decode cX12_solves 150 = .ok (.aaload, 1) := by decide +kernel
theorem dX12_solves_151 : decode cX12_solves 151 = .ok (.iload 4, 2) := by decide +kernel
theorem dX12_solves_153 : decode cX12_solves 153 = .ok (.laload, 1) := by decide +kernel
theorem dX12_solves_154 : decode cX12_solves 154 = .ok (.lstore 9, 2) := by decide +kernel
theorem dX12_solves_156 : decode cX12_solves 156 = .ok (.lload 7, 2) := by decide +kernel
theorem dX12_solves_158 : decode cX12_solves 158 = .ok (.lload 9, 2) := by decide +kernel
theorem dX12_solves_160 : decode cX12_solves 160 = .ok (.invokestatic 459, 3) := by decide +kernel
theorem dX12_solves_163 : decode cX12_solves 163 = .ok (.lstore 11, 2) := by decide +kernel
theorem dX12_solves_165 : decode cX12_solves 165 = .ok (.iconst 0, 1) := by decide +kernel
theorem dX12_solves_166 : decode cX12_solves 166 = .ok (.istore 13, 2) := by decide +kernel
theorem dX12_solves_168 : decode cX12_solves 168 = .ok (.iload 13, 2) := by decide +kernel
theorem dX12_solves_170 : decode cX12_solves 170 = .ok (.bipush 7, 2) := by decide +kernel
theorem dX12_solves_172 : decode cX12_solves 172 = .ok (.if_icmp .ge 73, 3) := by decide +kernel
theorem dX12_solves_175 : decode cX12_solves 175 = .ok (.aload_n 0, 1) := by decide +kernel
theorem dX12_solves_176 : decode cX12_solves 176 = .ok (.getfield 154, 3) := by decide +kernel
theorem dX12_solves_179 : decode cX12_solves 179 = .ok (.iload 6, 2) := by decide +kernel
theorem dX12_solves_181 : decode cX12_solves 181 = .ok (.aaload, 1) := by decide +kernel
theorem dX12_solves_182 : decode cX12_solves 182 = .ok (.iload 13, 2) := by decide +kernel
theorem dX12_solves_184 : decode cX12_solves 184 = .ok (.iload_n 1, 1) := by decide +kernel
theorem dX12_solves_185 : decode cX12_solves 185 = .ok (.iload 13, 2) := by decide +kernel
theorem dX12_solves_187 : decode cX12_solves 187 = .ok (.ishr, 1) := by decide +kernel
theorem dX12_solves_188 : decode cX12_solves 188 = .ok (.iconst 1, 1) := by decide +kernel
theorem dX12_solves_189 : decode cX12_solves 189 = .ok (.iand, 1) := by decide +kernel
theorem dX12_solves_190 : decode cX12_solves 190 = .ok (.iconst 1, 1) := by decide +kernel
theorem dX12_solves_191 : decode cX12_solves 191 = .ok (.if_icmp .eq 10, 3) := by decide +kernel
theorem dX12_solves_194 : decode cX12_solves 194 = .ok (.iload 13, 2) := by decide +kernel
theorem dX12_solves_196 : decode cX12_solves 196 = .ok (.bipush 6, 2) := by decide +kernel
theorem dX12_solves_198 : decode cX12_solves 198 = .ok (.if_icmp .ne 39, 3) := by decide +kernel
theorem dX12_solves_201 : decode cX12_solves 201 = .ok (.lload 7, 2) := by decide +kernel
theorem dX12_solves_203 : decode cX12_solves 203 = .ok (.lload 11, 2) := by decide +kernel
theorem dX12_solves_205 : decode cX12_solves 205 = .ok (.ldiv, 1) := by decide +kernel
theorem dX12_solves_206 : decode cX12_solves 206 = .ok (.aload_n 0, 1) := by decide +kernel
theorem dX12_solves_207 : decode cX12_solves 207 = .ok (.getfield 154, 3) := by decide +kernel
theorem dX12_solves_210 : decode cX12_solves 210 = .ok (.iload 6, 2) := by decide +kernel
theorem dX12_solves_212 : decode cX12_solves 212 = .ok (.aaload, 1) := by decide +kernel
theorem dX12_solves_213 : decode cX12_solves 213 = .ok (.iload 13, 2) := by decide +kernel
theorem dX12_solves_215 : decode cX12_solves 215 = .ok (.laload, 1) := by decide +kernel
theorem dX12_solves_216 : decode cX12_solves 216 = .ok (.lmul, 1) := by decide +kernel
theorem dX12_solves_217 : decode cX12_solves 217 = .ok (.lload 9, 2) := by decide +kernel
theorem dX12_solves_219 : decode cX12_solves 219 = .ok (.lload 11, 2) := by decide +kernel
theorem dX12_solves_221 : decode cX12_solves 221 = .ok (.ldiv, 1) := by decide +kernel
theorem dX12_solves_222 : decode cX12_solves 222 = .ok (.aload_n 0, 1) := by decide +kernel
theorem dX12_solves_223 : decode cX12_solves 223 = .ok (.getfield 154, 3) := by decide +kernel
theorem dX12_solves_226 : decode cX12_solves 226 = .ok (.iload 5, 2) := by decide +kernel
theorem dX12_solves_228 : decode cX12_solves 228 = .ok (.aaload, 1) := by decide +kernel
theorem dX12_solves_229 : decode cX12_solves 229 = .ok (.iload 13, 2) := by decide +kernel
theorem dX12_solves_231 : decode cX12_solves 231 = .ok (.laload, 1) := by decide +kernel
theorem dX12_solves_232 : decode cX12_solves 232 = .ok (.lmul, 1) := by decide +kernel
theorem dX12_solves_233 : decode cX12_solves 233 = .ok (.lsub, 1) := by decide +kernel
theorem dX12_solves_234 : decode cX12_solves 234 = .ok (.goto 4, 3) := by decide +kernel
theorem dX12_solves_237 : decode cX12_solves 237 = .ok (.lconst 0, 1) := by decide +kernel
theorem dX12_solves_238 : decode cX12_solves 238 = .ok (.lastore, 1) := by decide +kernel
theorem dX12_solves_239 : decode cX12_solves 239 = .ok (.iinc 13 1, 3) := by decide +kernel
theorem dX12_solves_242 : decode cX12_solves 242 = .ok (.goto (-74), 3) := by decide +kernel
theorem dX12_solves_245 : decode cX12_solves 245 = .ok (.aload_n 0, 1) := by decide +kernel
theorem dX12_solves_246 : decode cX12_solves 246 = .ok (.aload_n 0, 1) := by decide +kernel
theorem dX12_solves_247 : decode cX12_solves 247 = .ok (.getfield 154, 3) := by decide +kernel
theorem dX12_solves_250 : decode cX12_solves 250 = .ok (.iload 6, 2) := by decide +kernel
theorem dX12_solves_252 : decode cX12_solves 252 = .ok (.aaload, 1) := by decide +kernel
theorem dX12_solves_253 : decode cX12_solves 253 = .ok (.invokevirtual 466, 3) := by decide +kernel
theorem dX12_solves_256 : decode cX12_solves 256 = .ok (.iinc 6 1, 3) := by decide +kernel
theorem dX12_solves_259 : decode cX12_solves 259 = .ok (.goto (-159), 3) := by decide +kernel
theorem dX12_solves_262 : decode cX12_solves 262 = .ok (.iinc 4 1, 3) := by decide +kernel
theorem dX12_solves_265 : decode cX12_solves 265 = .ok (.goto (-255), 3) := by decide +kernel
theorem dX12_solves_268 : decode cX12_solves 268 = .ok (.iconst 0, 1) := by decide +kernel
theorem dX12_solves_269 : decode cX12_solves 269 = .ok (.istore 4, 2) := by decide +kernel
theorem dX12_solves_271 : decode cX12_solves 271 = .ok (.iload 4, 2) := by decide +kernel
theorem dX12_solves_273 : decode cX12_solves 273 = .ok (.bipush 12, 2) := by decide +kernel
theorem dX12_solves_275 : decode cX12_solves 275 = .ok (.if_icmp .ge 35, 3) := by decide +kernel
theorem dX12_solves_278 : decode cX12_solves 278 = .ok (.iload_n 3, 1) := by decide +kernel
theorem dX12_solves_279 : decode cX12_solves 279 = .ok (.iload 4, 2) := by decide +kernel
theorem dX12_solves_281 : decode cX12_solves 281 = .ok (.ishr, 1) := by decide +kernel
theorem dX12_solves_282 : decode cX12_solves 282 = .ok (.iconst 1, 1) := by decide +kernel
theorem dX12_solves_283 : decode cX12_solves 283 = .ok (.iand, 1) := by decide +kernel
theorem dX12_solves_284 : decode cX12_solves 284 = .ok (.ifCond .ne 20, 3) := by decide +kernel
theorem dX12_solves_287 : decode cX12_solves 287 = .ok (.aload_n 0, 1) := by decide +kernel
theorem dX12_solves_288 : decode cX12_solves 288 = .ok (.getfield 154, 3) := by decide +kernel
theorem dX12_solves_291 : decode cX12_solves 291 = .ok (.iload 4, 2) := by decide +kernel
theorem dX12_solves_293 : decode cX12_solves 293 = .ok (.aaload, 1) := by decide +kernel
theorem dX12_solves_294 : decode cX12_solves 294 = .ok (.bipush 6, 2) := by decide +kernel
theorem dX12_solves_296 : decode cX12_solves 296 = .ok (.laload, 1) := by decide +kernel
theorem dX12_solves_297 : decode cX12_solves 297 = .ok (.lconst 0, 1) := by decide +kernel
theorem dX12_solves_298 : decode cX12_solves 298 = .ok (.lcmp, 1) := by decide +kernel
theorem dX12_solves_299 : decode cX12_solves 299 = .ok (.ifCond .eq 5, 3) := by decide +kernel
theorem dX12_solves_302 : decode cX12_solves 302 = .ok (.iconst 0, 1) := by decide +kernel
theorem dX12_solves_303 : decode cX12_solves 303 = .ok (.ireturn, 1) := by decide +kernel
theorem dX12_solves_304 : decode cX12_solves 304 = .ok (.iinc 4 1, 3) := by decide +kernel
theorem dX12_solves_307 : decode cX12_solves 307 = .ok (.goto (-36), 3) := by decide +kernel
theorem dX12_solves_310 : decode cX12_solves 310 = .ok (.iconst 0, 1) := by decide +kernel
theorem dX12_solves_311 : decode cX12_solves 311 = .ok (.istore 4, 2) := by decide +kernel
theorem dX12_solves_313 : decode cX12_solves 313 = .ok (.iload 4, 2) := by decide +kernel
theorem dX12_solves_315 : decode cX12_solves 315 = .ok (.aload_n 0, 1) := by decide +kernel
theorem dX12_solves_316 : decode cX12_solves 316 = .ok (.getfield 452, 3) := by decide +kernel
theorem dX12_solves_319 : decode cX12_solves 319 = .ok (.if_icmp .ge 150, 3) := by decide +kernel
theorem dX12_solves_322 : decode cX12_solves 322 = .ok (.aload_n 0, 1) := by decide +kernel
theorem dX12_solves_323 : decode cX12_solves 323 = .ok (.getfield 160, 3) := by decide +kernel
theorem dX12_solves_326 : decode cX12_solves 326 = .ok (.iload 4, 2) := by decide +kernel
theorem dX12_solves_328 : decode cX12_solves 328 = .ok (.lconst 0, 1) := by decide +kernel
theorem dX12_solves_329 : decode cX12_solves 329 = .ok (.lastore, 1) := by decide +kernel
theorem dX12_solves_330 : decode cX12_solves 330 = .ok (.aload_n 0, 1) := by decide +kernel
theorem dX12_solves_331 : decode cX12_solves 331 = .ok (.getfield 164, 3) := by decide +kernel
theorem dX12_solves_334 : decode cX12_solves 334 = .ok (.iload 4, 2) := by decide +kernel
theorem dX12_solves_336 : decode cX12_solves 336 = .ok (.lconst 1, 1) := by decide +kernel
theorem dX12_solves_337 : decode cX12_solves 337 = .ok (.lastore, 1) := by decide +kernel
theorem dX12_solves_338 : decode cX12_solves 338 = .ok (.iload_n 1, 1) := by decide +kernel
theorem dX12_solves_339 : decode cX12_solves 339 = .ok (.iload 4, 2) := by decide +kernel
theorem dX12_solves_341 : decode cX12_solves 341 = .ok (.ishr, 1) := by decide +kernel
theorem dX12_solves_342 : decode cX12_solves 342 = .ok (.iconst 1, 1) := by decide +kernel
theorem dX12_solves_343 : decode cX12_solves 343 = .ok (.iand, 1) := by decide +kernel
theorem dX12_solves_344 : decode cX12_solves 344 = .ok (.ifCond .ne 6, 3) := by decide +kernel
theorem dX12_solves_347 : decode cX12_solves 347 = .ok (.goto 116, 3) := by decide +kernel
theorem dX12_solves_350 : decode cX12_solves 350 = .ok (.aload_n 0, 1) := by decide +kernel
theorem dX12_solves_351 : decode cX12_solves 351 = .ok (.getfield 154, 3) := by decide +kernel
theorem dX12_solves_354 : decode cX12_solves 354 = .ok (.aload_n 0, 1) := by decide +kernel
theorem dX12_solves_355 : decode cX12_solves 355 = .ok (.getfield 157, 3) := by decide +kernel
theorem dX12_solves_358 : decode cX12_solves 358 = .ok (.iload 4, 2) := by decide +kernel
theorem dX12_solves_360 : decode cX12_solves 360 = .ok (.iaload, 1) := by decide +kernel
theorem dX12_solves_361 : decode cX12_solves 361 = .ok (.aaload, 1) := by decide +kernel
theorem dX12_solves_362 : decode cX12_solves 362 = .ok (.bipush 6, 2) := by decide +kernel
theorem dX12_solves_364 : decode cX12_solves 364 = .ok (.laload, 1) := by decide +kernel
theorem dX12_solves_365 : decode cX12_solves 365 = .ok (.lstore 5, 2) := by decide +kernel
theorem dX12_solves_367 : decode cX12_solves 367 = .ok (.aload_n 0, 1) := by decide +kernel
theorem dX12_solves_368 : decode cX12_solves 368 = .ok (.getfield 154, 3) := by decide +kernel
theorem dX12_solves_371 : decode cX12_solves 371 = .ok (.aload_n 0, 1) := by decide +kernel
theorem dX12_solves_372 : decode cX12_solves 372 = .ok (.getfield 157, 3) := by decide +kernel
theorem dX12_solves_375 : decode cX12_solves 375 = .ok (.iload 4, 2) := by decide +kernel
theorem dX12_solves_377 : decode cX12_solves 377 = .ok (.iaload, 1) := by decide +kernel
theorem dX12_solves_378 : decode cX12_solves 378 = .ok (.aaload, 1) := by decide +kernel
theorem dX12_solves_379 : decode cX12_solves 379 = .ok (.iload 4, 2) := by decide +kernel
theorem dX12_solves_381 : decode cX12_solves 381 = .ok (.laload, 1) := by decide +kernel
theorem dX12_solves_382 : decode cX12_solves 382 = .ok (.lstore 7, 2) := by decide +kernel
theorem dX12_solves_384 : decode cX12_solves 384 = .ok (.lload 5, 2) := by decide +kernel
theorem dX12_solves_386 : decode cX12_solves 386 = .ok (.lload 7, 2) := by decide +kernel
theorem dX12_solves_388 : decode cX12_solves 388 = .ok (.invokestatic 459, 3) := by decide +kernel
theorem dX12_solves_391 : decode cX12_solves 391 = .ok (.lstore 9, 2) := by decide +kernel
theorem dX12_solves_393 : decode cX12_solves 393 = .ok (.aload_n 0, 1) := by decide +kernel
theorem dX12_solves_394 : decode cX12_solves 394 = .ok (.getfield 160, 3) := by decide +kernel
theorem dX12_solves_397 : decode cX12_solves 397 = .ok (.iload 4, 2) := by decide +kernel
theorem dX12_solves_399 : decode cX12_solves 399 = .ok (.lload 7, 2) := by decide +kernel
theorem dX12_solves_401 : decode cX12_solves 401 = .ok (.lconst 0, 1) := by decide +kernel
theorem dX12_solves_402 : decode cX12_solves 402 = .ok (.lcmp, 1) := by decide +kernel
theorem dX12_solves_403 : decode cX12_solves 403 = .ok (.ifCond .ge 12, 3) := by decide +kernel
theorem dX12_solves_406 : decode cX12_solves 406 = .ok (.lload 5, 2) := by decide +kernel
theorem dX12_solves_408 : decode cX12_solves 408 = .ok (.lneg, 1) := by decide +kernel
theorem dX12_solves_409 : decode cX12_solves 409 = .ok (.lload 9, 2) := by decide +kernel
theorem dX12_solves_411 : decode cX12_solves 411 = .ok (.ldiv, 1) := by decide +kernel
theorem dX12_solves_412 : decode cX12_solves 412 = .ok (.goto 8, 3) := by decide +kernel
theorem dX12_solves_415 : decode cX12_solves 415 = .ok (.lload 5, 2) := by decide +kernel
theorem dX12_solves_417 : decode cX12_solves 417 = .ok (.lload 9, 2) := by decide +kernel
theorem dX12_solves_419 : decode cX12_solves 419 = .ok (.ldiv, 1) := by decide +kernel
theorem dX12_solves_420 : decode cX12_solves 420 = .ok (.lastore, 1) := by decide +kernel
theorem dX12_solves_421 : decode cX12_solves 421 = .ok (.aload_n 0, 1) := by decide +kernel
theorem dX12_solves_422 : decode cX12_solves 422 = .ok (.getfield 164, 3) := by decide +kernel
theorem dX12_solves_425 : decode cX12_solves 425 = .ok (.iload 4, 2) := by decide +kernel
theorem dX12_solves_427 : decode cX12_solves 427 = .ok (.lload 7, 2) := by decide +kernel
theorem dX12_solves_429 : decode cX12_solves 429 = .ok (.lconst 0, 1) := by decide +kernel
theorem dX12_solves_430 : decode cX12_solves 430 = .ok (.lcmp, 1) := by decide +kernel
theorem dX12_solves_431 : decode cX12_solves 431 = .ok (.ifCond .ge 12, 3) := by decide +kernel
theorem dX12_solves_434 : decode cX12_solves 434 = .ok (.lload 7, 2) := by decide +kernel
theorem dX12_solves_436 : decode cX12_solves 436 = .ok (.lneg, 1) := by decide +kernel
theorem dX12_solves_437 : decode cX12_solves 437 = .ok (.lload 9, 2) := by decide +kernel
theorem dX12_solves_439 : decode cX12_solves 439 = .ok (.ldiv, 1) := by decide +kernel
theorem dX12_solves_440 : decode cX12_solves 440 = .ok (.goto 8, 3) := by decide +kernel
theorem dX12_solves_443 : decode cX12_solves 443 = .ok (.lload 7, 2) := by decide +kernel
theorem dX12_solves_445 : decode cX12_solves 445 = .ok (.lload 9, 2) := by decide +kernel
theorem dX12_solves_447 : decode cX12_solves 447 = .ok (.ldiv, 1) := by decide +kernel
theorem dX12_solves_448 : decode cX12_solves 448 = .ok (.lastore, 1) := by decide +kernel
theorem dX12_solves_449 : decode cX12_solves 449 = .ok (.aload_n 0, 1) := by decide +kernel
theorem dX12_solves_450 : decode cX12_solves 450 = .ok (.getfield 160, 3) := by decide +kernel
theorem dX12_solves_453 : decode cX12_solves 453 = .ok (.iload 4, 2) := by decide +kernel
theorem dX12_solves_455 : decode cX12_solves 455 = .ok (.laload, 1) := by decide +kernel
theorem dX12_solves_456 : decode cX12_solves 456 = .ok (.lconst 0, 1) := by decide +kernel
theorem dX12_solves_457 : decode cX12_solves 457 = .ok (.lcmp, 1) := by decide +kernel
theorem dX12_solves_458 : decode cX12_solves 458 = .ok (.ifCond .ge 5, 3) := by decide +kernel
theorem dX12_solves_461 : decode cX12_solves 461 = .ok (.iconst 0, 1) := by decide +kernel
theorem dX12_solves_462 : decode cX12_solves 462 = .ok (.ireturn, 1) := by decide +kernel
theorem dX12_solves_463 : decode cX12_solves 463 = .ok (.iinc 4 1, 3) := by decide +kernel
theorem dX12_solves_466 : decode cX12_solves 466 = .ok (.goto (-153), 3) := by decide +kernel
theorem dX12_solves_469 : decode cX12_solves 469 = .ok (.iconst 1, 1) := by decide +kernel
theorem dX12_solves_470 : decode cX12_solves 470 = .ok (.ireturn, 1) := by decide +kernel
theorem dX12_findEase_0 : decode cX12_findEase 0 = .ok (.iconst 0, 1) := by decide +kernel
theorem dX12_findEase_1 : decode cX12_findEase 1 = .ok (.istore_n 1, 1) := by decide +kernel
theorem dX12_findEase_2 : decode cX12_findEase 2 = .ok (.iconst 0, 1) := by decide +kernel
theorem dX12_findEase_3 : decode cX12_findEase 3 = .ok (.istore_n 2, 1) := by decide +kernel
theorem dX12_findEase_4 : decode cX12_findEase 4 = .ok (.iload_n 2, 1) := by decide +kernel
theorem dX12_findEase_5 : decode cX12_findEase 5 = .ok (.iconst 1, 1) := by decide +kernel
theorem dX12_findEase_6 : decode cX12_findEase 6 = .ok (.aload_n 0, 1) := by decide +kernel
theorem dX12_findEase_7 : decode cX12_findEase 7 = .ok (.getfield 452, 3) := by decide +kernel
theorem dX12_findEase_10 : decode cX12_findEase 10 = .ok (.ishl, 1) := by decide +kernel
theorem dX12_findEase_11 : decode cX12_findEase 11 = .ok (.if_icmp .ge 161, 3) := by decide +kernel
theorem dX12_findEase_14 : decode cX12_findEase 14 = .ok (.aload_n 0, 1) := by decide +kernel
theorem dX12_findEase_15 : decode cX12_findEase 15 = .ok (.iload_n 2, 1) := by decide +kernel
theorem dX12_findEase_16 : decode cX12_findEase 16 = .ok (.iconst (-1), 1) := by decide +kernel
theorem dX12_findEase_17 : decode cX12_findEase 17 = .ok (.invokevirtual 470, 3) := by decide +kernel
theorem dX12_findEase_20 : decode cX12_findEase 20 = .ok (.ifCond .ne 6, 3) := by decide +kernel
theorem dX12_findEase_23 : decode cX12_findEase 23 = .ok (.goto 143, 3) := by decide +kernel
theorem dX12_findEase_26 : decode cX12_findEase 26 = .ok (.lconst 0, 1) := by decide +kernel
theorem dX12_findEase_27 : decode cX12_findEase 27 = .ok (.lstore_n 3, 1) := by decide +kernel
theorem dX12_findEase_28 : decode cX12_findEase 28 = .ok (.lconst 1, 1) := by decide +kernel
theorem dX12_findEase_29 : decode cX12_findEase 29 = .ok (.lstore 5, 2) := by decide +kernel
theorem dX12_findEase_31 : decode cX12_findEase 31 = .ok (.iconst 0, 1) := by decide +kernel
theorem dX12_findEase_32 : decode cX12_findEase 32 = .ok (.istore 7, 2) := by decide +kernel
theorem dX12_findEase_34 : decode cX12_findEase 34 = .ok (.iload 7, 2) := by decide +kernel
theorem dX12_findEase_36 : decode cX12_findEase 36 = .ok (.aload_n 0, 1) := by decide +kernel
theorem dX12_findEase_37 : decode cX12_findEase 37 = .ok (.getfield 452, 3) := by decide +kernel
theorem dX12_findEase_40 : decode cX12_findEase 40 = .ok (.if_icmp .ge 69, 3) := by decide +kernel
theorem dX12_findEase_43 : decode cX12_findEase 43 = .ok (.lload 5, 2) := by decide +kernel
theorem dX12_findEase_45 : decode cX12_findEase 45 = .ok (.aload_n 0, 1) := by decide +kernel
theorem dX12_findEase_46 : decode cX12_findEase 46 = .ok (.getfield 164, 3) := by decide +kernel
theorem dX12_findEase_49 : decode cX12_findEase 49 = .ok (.iload 7, 2) := by decide +kernel
theorem dX12_findEase_51 : decode cX12_findEase 51 = .ok (.laload, 1) := by decide +kernel
theorem dX12_findEase_52 : decode cX12_findEase 52 = .ok (.invokestatic 459, 3) := by decide +kernel
theorem dX12_findEase_55 : decode cX12_findEase 55 = .ok (.lstore 8, 2) := by decide +kernel
theorem dX12_findEase_57 : decode cX12_findEase 57 = .ok (.lload 5, 2) := by decide +kernel
theorem dX12_findEase_59 : decode cX12_findEase 59 = .ok (.lload 8, 2) := by decide +kernel
theorem dX12_findEase_61 : decode cX12_findEase 61 = .ok (.ldiv, 1) := by decide +kernel
theorem dX12_findEase_62 : decode cX12_findEase 62 = .ok (.aload_n 0, 1) := by decide +kernel
theorem dX12_findEase_63 : decode cX12_findEase 63 = .ok (.getfield 164, 3) := by decide +kernel
theorem dX12_findEase_66 : decode cX12_findEase 66 = .ok (.iload 7, 2) := by decide +kernel
theorem dX12_findEase_68 : decode cX12_findEase 68 = .ok (.laload, 1) := by decide +kernel
theorem dX12_findEase_69 : decode cX12_findEase 69 = .ok (.lmul, 1) := by decide +kernel
theorem dX12_findEase_70 : decode cX12_findEase 70 = .ok (.lstore 10, 2) := by decide +kernel
theorem dX12_findEase_72 : decode cX12_findEase 72 = .ok (.lload_n 3, 1) := by decide +kernel
theorem dX12_findEase_73 : decode cX12_findEase 73 = .ok (.lload 10, 2) := by decide +kernel
theorem dX12_findEase_75 : decode cX12_findEase 75 = .ok (.lload 5, 2) := by decide +kernel
theorem dX12_findEase_77 : decode cX12_findEase 77 = .ok (.ldiv, 1) := by decide +kernel
theorem dX12_findEase_78 : decode cX12_findEase 78 = .ok (.lmul, 1) := by decide +kernel
theorem dX12_findEase_79 : decode cX12_findEase 79 = .ok (.aload_n 0, 1) := by decide +kernel
theorem dX12_findEase_80 : decode cX12_findEase 80 = .ok (.getfield 160, 3) := by decide +kernel
theorem dX12_findEase_83 : decode cX12_findEase 83 = .ok (.iload 7, 2) := by decide +kernel
theorem dX12_findEase_85 : decode cX12_findEase 85 = .ok (.laload, 1) := by decide +kernel
theorem dX12_findEase_86 : decode cX12_findEase 86 = .ok (.lload 10, 2) := by decide +kernel
theorem dX12_findEase_88 : decode cX12_findEase 88 = .ok (.aload_n 0, 1) := by decide +kernel
theorem dX12_findEase_89 : decode cX12_findEase 89 = .ok (.getfield 164, 3) := by decide +kernel
theorem dX12_findEase_92 : decode cX12_findEase 92 = .ok (.iload 7, 2) := by decide +kernel
theorem dX12_findEase_94 : decode cX12_findEase 94 = .ok (.laload, 1) := by decide +kernel
theorem dX12_findEase_95 : decode cX12_findEase 95 = .ok (.ldiv, 1) := by decide +kernel
theorem dX12_findEase_96 : decode cX12_findEase 96 = .ok (.lmul, 1) := by decide +kernel
theorem dX12_findEase_97 : decode cX12_findEase 97 = .ok (.ladd, 1) := by decide +kernel
theorem dX12_findEase_98 : decode cX12_findEase 98 = .ok (.lstore_n 3, 1) := by decide +kernel
theorem dX12_findEase_99 : decode cX12_findEase 99 = .ok (.lload 10, 2) := by decide +kernel
theorem dX12_findEase_101 : decode cX12_findEase 101 = .ok (.lstore 5, 2) := by decide +kernel
theorem dX12_findEase_103 : decode cX12_findEase 103 = .ok (.iinc 7 1, 3) := by decide +kernel
theorem dX12_findEase_106 : decode cX12_findEase 106 = .ok (.goto (-72), 3) := by decide +kernel
theorem dX12_findEase_109 : decode cX12_findEase 109 = .ok (.lload_n 3, 1) := by decide +kernel
theorem dX12_findEase_110 : decode cX12_findEase 110 = .ok (.lload 5, 2) := by decide +kernel
theorem dX12_findEase_112 : decode cX12_findEase 112 = .ok (.invokestatic 459, 3) := by decide +kernel
theorem dX12_findEase_115 : decode cX12_findEase 115 = .ok (.lstore 7, 2) := by decide +kernel
theorem dX12_findEase_117 : decode cX12_findEase 117 = .ok (.lload_n 3, 1) := by decide +kernel
theorem dX12_findEase_118 : decode cX12_findEase 118 = .ok (.lload 7, 2) := by decide +kernel
theorem dX12_findEase_120 : decode cX12_findEase 120 = .ok (.ldiv, 1) := by decide +kernel
theorem dX12_findEase_121 : decode cX12_findEase 121 = .ok (.lstore_n 3, 1) := by decide +kernel
theorem dX12_findEase_122 : decode cX12_findEase 122 = .ok (.lload 5, 2) := by decide +kernel
theorem dX12_findEase_124 : decode cX12_findEase 124 = .ok (.lload 7, 2) := by decide +kernel
theorem dX12_findEase_126 : decode cX12_findEase 126 = .ok (.ldiv, 1) := by decide +kernel
theorem dX12_findEase_127 : decode cX12_findEase 127 = .ok (.lstore 5, 2) := by decide +kernel
theorem dX12_findEase_129 : decode cX12_findEase 129 = .ok (.iload_n 1, 1) := by decide +kernel
theorem dX12_findEase_130 : decode cX12_findEase 130 = .ok (.ifCond .eq 23, 3) := by decide +kernel
theorem dX12_findEase_133 : decode cX12_findEase 133 = .ok (.lload_n 3, 1) := by decide +kernel
theorem dX12_findEase_134 : decode cX12_findEase 134 = .ok (.aload_n 0, 1) := by decide +kernel
theorem dX12_findEase_135 : decode cX12_findEase 135 = .ok (.getfield 473, 3) := by decide +kernel
theorem dX12_findEase_138 : decode cX12_findEase 138 = .ok (.lmul, 1) := by decide +kernel
theorem dX12_findEase_139 : decode cX12_findEase 139 = .ok (.aload_n 0, 1) := by decide +kernel
theorem dX12_findEase_140 : decode cX12_findEase 140 = .ok (.getfield 477, 3) := by decide +kernel
theorem dX12_findEase_143 : decode cX12_findEase 143 = .ok (.lload 5, 2) := by decide +kernel
theorem dX12_findEase_145 : decode cX12_findEase 145 = .ok (.lmul, 1) := by decide +kernel
theorem dX12_findEase_146 : decode cX12_findEase 146 = .ok (.lcmp, 1) := by decide +kernel
theorem dX12_findEase_147 : decode cX12_findEase 147 = .ok (.ifCond .lt 6, 3) := by decide +kernel
theorem dX12_findEase_150 : decode cX12_findEase 150 = .ok (.goto 16, 3) := by decide +kernel
theorem dX12_findEase_153 : decode cX12_findEase 153 = .ok (.iconst 1, 1) := by decide +kernel
theorem dX12_findEase_154 : decode cX12_findEase 154 = .ok (.istore_n 1, 1) := by decide +kernel
theorem dX12_findEase_155 : decode cX12_findEase 155 = .ok (.aload_n 0, 1) := by decide +kernel
theorem dX12_findEase_156 : decode cX12_findEase 156 = .ok (.lload_n 3, 1) := by decide +kernel
theorem dX12_findEase_157 : decode cX12_findEase 157 = .ok (.putfield 477, 3) := by decide +kernel
theorem dX12_findEase_160 : decode cX12_findEase 160 = .ok (.aload_n 0, 1) := by decide +kernel
theorem dX12_findEase_161 : decode cX12_findEase 161 = .ok (.lload 5, 2) := by decide +kernel
theorem dX12_findEase_163 : decode cX12_findEase 163 = .ok (.putfield 473, 3) := by decide +kernel
theorem dX12_findEase_166 : decode cX12_findEase 166 = .ok (.iinc 2 1, 3) := by decide +kernel
theorem dX12_findEase_169 : decode cX12_findEase 169 = .ok (.goto (-165), 3) := by decide +kernel
theorem dX12_findEase_172 : decode cX12_findEase 172 = .ok (.iload_n 1, 1) := by decide +kernel
theorem dX12_findEase_173 : decode cX12_findEase 173 = .ok (.ireturn, 1) := by decide +kernel
theorem dX12_hangs_0 : decode cX12_hangs 0 = .ok (.aload_n 0, 1) := by decide +kernel
theorem dX12_hangs_1 : decode cX12_hangs 1 = .ok (.iconst 0, 1) := by decide +kernel
theorem dX12_hangs_2 : decode cX12_hangs 2 = .ok (.putfield 179, 3) := by decide +kernel
theorem dX12_hangs_5 : decode cX12_hangs 5 = .ok (.aload_n 0, 1) := by decide +kernel
theorem dX12_hangs_6 : decode cX12_hangs 6 = .ok (.invokevirtual 480, 3) := by decide +kernel
theorem dX12_hangs_9 : decode cX12_hangs 9 = .ok (.ireturn, 1) := by decide +kernel
theorem dX12_isCorner_0 : decode cX12_isCorner 0 = .ok (.iconst 0, 1) := by decide +kernel
theorem dX12_isCorner_1 : decode cX12_isCorner 1 = .ok (.istore_n 3, 1) := by decide +kernel
theorem dX12_isCorner_2 : decode cX12_isCorner 2 = .ok (.iload_n 3, 1) := by decide +kernel
theorem dX12_isCorner_3 : decode cX12_isCorner 3 = .ok (.iconst 1, 1) := by decide +kernel
theorem dX12_isCorner_4 : decode cX12_isCorner 4 = .ok (.aload_n 0, 1) := by decide +kernel
theorem dX12_isCorner_5 : decode cX12_isCorner 5 = .ok (.getfield 452, 3) := by decide +kernel
theorem dX12_isCorner_8 : decode cX12_isCorner 8 = .ok (.ishl, 1) := by decide +kernel
theorem dX12_isCorner_9 : decode cX12_isCorner 9 = .ok (.if_icmp .ge 40, 3) := by decide +kernel
theorem dX12_isCorner_12 : decode cX12_isCorner 12 = .ok (.aload_n 0, 1) := by decide +kernel
theorem dX12_isCorner_13 : decode cX12_isCorner 13 = .ok (.iload_n 3, 1) := by decide +kernel
theorem dX12_isCorner_14 : decode cX12_isCorner 14 = .ok (.iconst (-1), 1) := by decide +kernel
theorem dX12_isCorner_15 : decode cX12_isCorner 15 = .ok (.invokevirtual 470, 3) := by decide +kernel
theorem dX12_isCorner_18 : decode cX12_isCorner 18 = .ok (.ifCond .eq 25, 3) := by decide +kernel
theorem dX12_isCorner_21 : decode cX12_isCorner 21 = .ok (.aload_n 0, 1) := by decide +kernel
theorem dX12_isCorner_22 : decode cX12_isCorner 22 = .ok (.getfield 160, 3) := by decide +kernel
theorem dX12_isCorner_25 : decode cX12_isCorner 25 = .ok (.iload_n 1, 1) := by decide +kernel
theorem dX12_isCorner_26 : decode cX12_isCorner 26 = .ok (.laload, 1) := by decide +kernel
theorem dX12_isCorner_27 : decode cX12_isCorner 27 = .ok (.lconst 0, 1) := by decide +kernel
theorem dX12_isCorner_28 : decode cX12_isCorner 28 = .ok (.lcmp, 1) := by decide +kernel
theorem dX12_isCorner_29 : decode cX12_isCorner 29 = .ok (.ifCond .ne 7, 3) := by decide +kernel
theorem dX12_isCorner_32 : decode cX12_isCorner 32 = .ok (.iconst 1, 1) := by decide +kernel
theorem dX12_isCorner_33 : decode cX12_isCorner 33 = .ok (.goto 4, 3) := by decide +kernel
theorem dX12_isCorner_36 : decode cX12_isCorner 36 = .ok (.iconst 0, 1) := by decide +kernel
theorem dX12_isCorner_37 : decode cX12_isCorner 37 = .ok (.iload_n 2, 1) := by decide +kernel
theorem dX12_isCorner_38 : decode cX12_isCorner 38 = .ok (.if_icmp .ne 5, 3) := by decide +kernel
theorem dX12_isCorner_41 : decode cX12_isCorner 41 = .ok (.iconst 1, 1) := by decide +kernel
theorem dX12_isCorner_42 : decode cX12_isCorner 42 = .ok (.ireturn, 1) := by decide +kernel
theorem dX12_isCorner_43 : decode cX12_isCorner 43 = .ok (.iinc 3 1, 3) := by decide +kernel
theorem dX12_isCorner_46 : decode cX12_isCorner 46 = .ok (.goto (-44), 3) := by decide +kernel
theorem dX12_isCorner_49 : decode cX12_isCorner 49 = .ok (.iconst 0, 1) := by decide +kernel
theorem dX12_isCorner_50 : decode cX12_isCorner 50 = .ok (.ireturn, 1) := by decide +kernel
theorem dX12_slack_0 : decode cX12_slack 0 = .ok (.aload_n 0, 1) := by decide +kernel
theorem dX12_slack_1 : decode cX12_slack 1 = .ok (.iconst 0, 1) := by decide +kernel
theorem dX12_slack_2 : decode cX12_slack 2 = .ok (.putfield 179, 3) := by decide +kernel
theorem dX12_slack_5 : decode cX12_slack 5 = .ok (.aload_n 0, 1) := by decide +kernel
theorem dX12_slack_6 : decode cX12_slack 6 = .ok (.iload_n 1, 1) := by decide +kernel
theorem dX12_slack_7 : decode cX12_slack 7 = .ok (.iconst 0, 1) := by decide +kernel
theorem dX12_slack_8 : decode cX12_slack 8 = .ok (.aload_n 0, 1) := by decide +kernel
theorem dX12_slack_9 : decode cX12_slack 9 = .ok (.getfield 452, 3) := by decide +kernel
theorem dX12_slack_12 : decode cX12_slack 12 = .ok (.iconst 1, 1) := by decide +kernel
theorem dX12_slack_13 : decode cX12_slack 13 = .ok (.isub, 1) := by decide +kernel
theorem dX12_slack_14 : decode cX12_slack 14 = .ok (.invokestatic 203, 3) := by decide +kernel
theorem dX12_slack_17 : decode cX12_slack 17 = .ok (.ifCond .ne 7, 3) := by decide +kernel
theorem dX12_slack_20 : decode cX12_slack 20 = .ok (.iconst 1, 1) := by decide +kernel
theorem dX12_slack_21 : decode cX12_slack 21 = .ok (.goto 4, 3) := by decide +kernel
theorem dX12_slack_24 : decode cX12_slack 24 = .ok (.iconst 0, 1) := by decide +kernel
theorem dX12_slack_25 : decode cX12_slack 25 = .ok (.iconst 1, 1) := by decide +kernel
theorem dX12_slack_26 : decode cX12_slack 26 = .ok (.invokevirtual 207, 3) := by decide +kernel
theorem dX12_slack_29 : decode cX12_slack 29 = .ok (.ifCond .eq 5, 3) := by decide +kernel
theorem dX12_slack_32 : decode cX12_slack 32 = .ok (.iconst 0, 1) := by decide +kernel
theorem dX12_slack_33 : decode cX12_slack 33 = .ok (.ireturn, 1) := by decide +kernel
theorem dX12_slack_34 : decode cX12_slack 34 = .ok (.aload_n 0, 1) := by decide +kernel
theorem dX12_slack_35 : decode cX12_slack 35 = .ok (.iload_n 1, 1) := by decide +kernel
theorem dX12_slack_36 : decode cX12_slack 36 = .ok (.iconst 1, 1) := by decide +kernel
theorem dX12_slack_37 : decode cX12_slack 37 = .ok (.invokevirtual 483, 3) := by decide +kernel
theorem dX12_slack_40 : decode cX12_slack 40 = .ok (.ireturn, 1) := by decide +kernel
theorem dX12_taut_0 : decode cX12_taut 0 = .ok (.aload_n 0, 1) := by decide +kernel
theorem dX12_taut_1 : decode cX12_taut 1 = .ok (.iconst 0, 1) := by decide +kernel
theorem dX12_taut_2 : decode cX12_taut 2 = .ok (.putfield 179, 3) := by decide +kernel
theorem dX12_taut_5 : decode cX12_taut 5 = .ok (.aload_n 0, 1) := by decide +kernel
theorem dX12_taut_6 : decode cX12_taut 6 = .ok (.iload_n 1, 1) := by decide +kernel
theorem dX12_taut_7 : decode cX12_taut 7 = .ok (.iconst 0, 1) := by decide +kernel
theorem dX12_taut_8 : decode cX12_taut 8 = .ok (.aload_n 0, 1) := by decide +kernel
theorem dX12_taut_9 : decode cX12_taut 9 = .ok (.getfield 452, 3) := by decide +kernel
theorem dX12_taut_12 : decode cX12_taut 12 = .ok (.iconst 1, 1) := by decide +kernel
theorem dX12_taut_13 : decode cX12_taut 13 = .ok (.isub, 1) := by decide +kernel
theorem dX12_taut_14 : decode cX12_taut 14 = .ok (.invokestatic 203, 3) := by decide +kernel
theorem dX12_taut_17 : decode cX12_taut 17 = .ok (.ifCond .ne 7, 3) := by decide +kernel
theorem dX12_taut_20 : decode cX12_taut 20 = .ok (.iconst 1, 1) := by decide +kernel
theorem dX12_taut_21 : decode cX12_taut 21 = .ok (.goto 4, 3) := by decide +kernel
theorem dX12_taut_24 : decode cX12_taut 24 = .ok (.iconst 0, 1) := by decide +kernel
theorem dX12_taut_25 : decode cX12_taut 25 = .ok (.iconst 1, 1) := by decide +kernel
theorem dX12_taut_26 : decode cX12_taut 26 = .ok (.invokevirtual 207, 3) := by decide +kernel
theorem dX12_taut_29 : decode cX12_taut 29 = .ok (.ifCond .eq 5, 3) := by decide +kernel
theorem dX12_taut_32 : decode cX12_taut 32 = .ok (.iconst 0, 1) := by decide +kernel
theorem dX12_taut_33 : decode cX12_taut 33 = .ok (.ireturn, 1) := by decide +kernel
theorem dX12_taut_34 : decode cX12_taut 34 = .ok (.aload_n 0, 1) := by decide +kernel
theorem dX12_taut_35 : decode cX12_taut 35 = .ok (.iload_n 1, 1) := by decide +kernel
theorem dX12_taut_36 : decode cX12_taut 36 = .ok (.iconst 0, 1) := by decide +kernel
theorem dX12_taut_37 : decode cX12_taut 37 = .ok (.invokevirtual 483, 3) := by decide +kernel
theorem dX12_taut_40 : decode cX12_taut 40 = .ok (.ifCond .eq 5, 3) := by decide +kernel
theorem dX12_taut_43 : decode cX12_taut 43 = .ok (.iconst 1, 1) := by decide +kernel
theorem dX12_taut_44 : decode cX12_taut 44 = .ok (.ireturn, 1) := by decide +kernel
theorem dX12_taut_45 : decode cX12_taut 45 = .ok (.aload_n 0, 1) := by decide +kernel
theorem dX12_taut_46 : decode cX12_taut 46 = .ok (.invokevirtual 480, 3) := by decide +kernel
theorem dX12_taut_49 : decode cX12_taut 49 = .ok (.ifCond .ne 5, 3) := by decide +kernel
theorem dX12_taut_52 : decode cX12_taut 52 = .ok (.iconst 0, 1) := by decide +kernel
theorem dX12_taut_53 : decode cX12_taut 53 = .ok (.ireturn, 1) := by decide +kernel
theorem dX12_taut_54 : decode cX12_taut 54 = .ok (.iconst 0, 1) := by decide +kernel
theorem dX12_taut_55 : decode cX12_taut 55 = .ok (.istore_n 2, 1) := by decide +kernel
theorem dX12_taut_56 : decode cX12_taut 56 = .ok (.iload_n 2, 1) := by decide +kernel
theorem dX12_taut_57 : decode cX12_taut 57 = .ok (.iconst 1, 1) := by decide +kernel
theorem dX12_taut_58 : decode cX12_taut 58 = .ok (.aload_n 0, 1) := by decide +kernel
theorem dX12_taut_59 : decode cX12_taut 59 = .ok (.getfield 452, 3) := by decide +kernel
theorem dX12_taut_62 : decode cX12_taut 62 = .ok (.ishl, 1) := by decide +kernel
theorem dX12_taut_63 : decode cX12_taut 63 = .ok (.if_icmp .ge 28, 3) := by decide +kernel
theorem dX12_taut_66 : decode cX12_taut 66 = .ok (.iload_n 2, 1) := by decide +kernel
theorem dX12_taut_67 : decode cX12_taut 67 = .ok (.iload_n 1, 1) := by decide +kernel
theorem dX12_taut_68 : decode cX12_taut 68 = .ok (.ishr, 1) := by decide +kernel
theorem dX12_taut_69 : decode cX12_taut 69 = .ok (.iconst 1, 1) := by decide +kernel
theorem dX12_taut_70 : decode cX12_taut 70 = .ok (.iand, 1) := by decide +kernel
theorem dX12_taut_71 : decode cX12_taut 71 = .ok (.ifCond .ne 14, 3) := by decide +kernel
theorem dX12_taut_74 : decode cX12_taut 74 = .ok (.aload_n 0, 1) := by decide +kernel
theorem dX12_taut_75 : decode cX12_taut 75 = .ok (.iload_n 2, 1) := by decide +kernel
theorem dX12_taut_76 : decode cX12_taut 76 = .ok (.iload_n 1, 1) := by decide +kernel
theorem dX12_taut_77 : decode cX12_taut 77 = .ok (.invokevirtual 470, 3) := by decide +kernel
theorem dX12_taut_80 : decode cX12_taut 80 = .ok (.ifCond .eq 5, 3) := by decide +kernel
theorem dX12_taut_83 : decode cX12_taut 83 = .ok (.iconst 1, 1) := by decide +kernel
theorem dX12_taut_84 : decode cX12_taut 84 = .ok (.ireturn, 1) := by decide +kernel
theorem dX12_taut_85 : decode cX12_taut 85 = .ok (.iinc 2 1, 3) := by decide +kernel
theorem dX12_taut_88 : decode cX12_taut 88 = .ok (.goto (-32), 3) := by decide +kernel
theorem dX12_taut_91 : decode cX12_taut 91 = .ok (.iconst 0, 1) := by decide +kernel
theorem dX12_taut_92 : decode cX12_taut 92 = .ok (.ireturn, 1) := by decide +kernel
theorem dX12_ease_0 : decode cX12_ease 0 = .ok (.aload_n 0, 1) := by decide +kernel
theorem dX12_ease_1 : decode cX12_ease 1 = .ok (.iconst 0, 1) := by decide +kernel
theorem dX12_ease_2 : decode cX12_ease 2 = .ok (.putfield 179, 3) := by decide +kernel
theorem dX12_ease_5 : decode cX12_ease 5 = .ok (.aload_n 0, 1) := by decide +kernel
theorem dX12_ease_6 : decode cX12_ease 6 = .ok (.iload_n 1, 1) := by decide +kernel
theorem dX12_ease_7 : decode cX12_ease 7 = .ok (.iconst 0, 1) := by decide +kernel
theorem dX12_ease_8 : decode cX12_ease 8 = .ok (.iconst 1, 1) := by decide +kernel
theorem dX12_ease_9 : decode cX12_ease 9 = .ok (.invokestatic 203, 3) := by decide +kernel
theorem dX12_ease_12 : decode cX12_ease 12 = .ok (.ifCond .ne 7, 3) := by decide +kernel
theorem dX12_ease_15 : decode cX12_ease 15 = .ok (.iconst 1, 1) := by decide +kernel
theorem dX12_ease_16 : decode cX12_ease 16 = .ok (.goto 4, 3) := by decide +kernel
theorem dX12_ease_19 : decode cX12_ease 19 = .ok (.iconst 0, 1) := by decide +kernel
theorem dX12_ease_20 : decode cX12_ease 20 = .ok (.iconst 1, 1) := by decide +kernel
theorem dX12_ease_21 : decode cX12_ease 21 = .ok (.invokevirtual 207, 3) := by decide +kernel
theorem dX12_ease_24 : decode cX12_ease 24 = .ok (.ifCond .eq 5, 3) := by decide +kernel
theorem dX12_ease_27 : decode cX12_ease 27 = .ok (.lconst 0, 1) := by decide +kernel
theorem dX12_ease_28 : decode cX12_ease 28 = .ok (.lreturn, 1) := by decide +kernel
theorem dX12_ease_29 : decode cX12_ease 29 = .ok (.aload_n 0, 1) := by decide +kernel
theorem dX12_ease_30 : decode cX12_ease 30 = .ok (.invokevirtual 480, 3) := by decide +kernel
theorem dX12_ease_33 : decode cX12_ease 33 = .ok (.ifCond .ne 7, 3) := by decide +kernel
theorem dX12_ease_36 : decode cX12_ease 36 = .ok (.ldc2_w 487, 3) := by decide +kernel
theorem dX12_ease_39 : decode cX12_ease 39 = .ok (.lreturn, 1) := by decide +kernel
theorem dX12_ease_40 : decode cX12_ease 40 = .ok (.iload_n 1, 1) := by decide +kernel
theorem dX12_ease_41 : decode cX12_ease 41 = .ok (.ifCond .ne 10, 3) := by decide +kernel
theorem dX12_ease_44 : decode cX12_ease 44 = .ok (.aload_n 0, 1) := by decide +kernel
theorem dX12_ease_45 : decode cX12_ease 45 = .ok (.getfield 477, 3) := by decide +kernel
theorem dX12_ease_48 : decode cX12_ease 48 = .ok (.goto 7, 3) := by decide +kernel
theorem dX12_ease_51 : decode cX12_ease 51 = .ok (.aload_n 0, 1) := by decide +kernel
theorem dX12_ease_52 : decode cX12_ease 52 = .ok (.getfield 473, 3) := by decide +kernel
theorem dX12_ease_55 : decode cX12_ease 55 = .ok (.lreturn, 1) := by decide +kernel
theorem dX12_offer_0 : decode cX12_offer 0 = .ok (.aload_n 0, 1) := by decide +kernel
theorem dX12_offer_1 : decode cX12_offer 1 = .ok (.iconst 0, 1) := by decide +kernel
theorem dX12_offer_2 : decode cX12_offer 2 = .ok (.putfield 179, 3) := by decide +kernel
theorem dX12_offer_5 : decode cX12_offer 5 = .ok (.aload_n 0, 1) := by decide +kernel
theorem dX12_offer_6 : decode cX12_offer 6 = .ok (.iload_n 1, 1) := by decide +kernel
theorem dX12_offer_7 : decode cX12_offer 7 = .ok (.bipush (-20), 2) := by decide +kernel
theorem dX12_offer_9 : decode cX12_offer 9 = .ok (.bipush 20, 2) := by decide +kernel
theorem dX12_offer_11 : decode cX12_offer 11 = .ok (.invokestatic 203, 3) := by decide +kernel
theorem dX12_offer_14 : decode cX12_offer 14 = .ok (.ifCond .eq 36, 3) := by decide +kernel
theorem dX12_offer_17 : decode cX12_offer 17 = .ok (.iload_n 2, 1) := by decide +kernel
theorem dX12_offer_18 : decode cX12_offer 18 = .ok (.bipush (-20), 2) := by decide +kernel
theorem dX12_offer_20 : decode cX12_offer 20 = .ok (.bipush 20, 2) := by decide +kernel
theorem dX12_offer_22 : decode cX12_offer 22 = .ok (.invokestatic 203, 3) := by decide +kernel
theorem dX12_offer_25 : decode cX12_offer 25 = .ok (.ifCond .eq 25, 3) := by decide +kernel
theorem dX12_offer_28 : decode cX12_offer 28 = .ok (.iload_n 3, 1) := by decide +kernel
theorem dX12_offer_29 : decode cX12_offer 29 = .ok (.iconst 0, 1) := by decide +kernel
theorem dX12_offer_30 : decode cX12_offer 30 = .ok (.sipush 1000, 3) := by decide +kernel
theorem dX12_offer_33 : decode cX12_offer 33 = .ok (.invokestatic 203, 3) := by decide +kernel
theorem dX12_offer_36 : decode cX12_offer 36 = .ok (.ifCond .eq 14, 3) := by decide +kernel
theorem dX12_offer_39 : decode cX12_offer 39 = .ok (.iload 4, 2) := by decide +kernel
theorem dX12_offer_41 : decode cX12_offer 41 = .ok (.iconst 0, 1) := by decide +kernel
theorem dX12_offer_42 : decode cX12_offer 42 = .ok (.bipush 100, 2) := by decide +kernel
theorem dX12_offer_44 : decode cX12_offer 44 = .ok (.invokestatic 203, 3) := by decide +kernel
theorem dX12_offer_47 : decode cX12_offer 47 = .ok (.ifCond .ne 7, 3) := by decide +kernel
theorem dX12_offer_50 : decode cX12_offer 50 = .ok (.iconst 1, 1) := by decide +kernel
theorem dX12_offer_51 : decode cX12_offer 51 = .ok (.goto 4, 3) := by decide +kernel
theorem dX12_offer_54 : decode cX12_offer 54 = .ok (.iconst 0, 1) := by decide +kernel
theorem dX12_offer_55 : decode cX12_offer 55 = .ok (.iconst 1, 1) := by decide +kernel
theorem dX12_offer_56 : decode cX12_offer 56 = .ok (.invokevirtual 207, 3) := by decide +kernel
theorem dX12_offer_59 : decode cX12_offer 59 = .ok (.ifCond .eq 5, 3) := by decide +kernel
theorem dX12_offer_62 : decode cX12_offer 62 = .ok (.iconst 0, 1) := by decide +kernel
theorem dX12_offer_63 : decode cX12_offer 63 = .ok (.ireturn, 1) := by decide +kernel
theorem dX12_offer_64 : decode cX12_offer 64 = .ok (.aload_n 0, 1) := by decide +kernel
theorem dX12_offer_65 : decode cX12_offer 65 = .ok (.getfield 489, 3) := by decide +kernel
theorem dX12_offer_68 : decode cX12_offer 68 = .ok (.bipush 12, 2) := by decide +kernel
theorem dX12_offer_70 : decode cX12_offer 70 = .ok (.if_icmp .ne 5, 3) := by decide +kernel
theorem dX12_offer_73 : decode cX12_offer 73 = .ok (.iconst (-1), 1) := by decide +kernel
theorem dX12_offer_74 : decode cX12_offer 74 = .ok (.ireturn, 1) := by decide +kernel
theorem dX12_offer_75 : decode cX12_offer 75 = .ok (.aload_n 0, 1) := by decide +kernel
theorem dX12_offer_76 : decode cX12_offer 76 = .ok (.getfield 167, 3) := by decide +kernel
theorem dX12_offer_79 : decode cX12_offer 79 = .ok (.aload_n 0, 1) := by decide +kernel
theorem dX12_offer_80 : decode cX12_offer 80 = .ok (.getfield 489, 3) := by decide +kernel
theorem dX12_offer_83 : decode cX12_offer 83 = .ok (.iload_n 1, 1) := by decide +kernel
theorem dX12_offer_84 : decode cX12_offer 84 = .ok (.iastore, 1) := by decide +kernel
theorem dX12_offer_85 : decode cX12_offer 85 = .ok (.aload_n 0, 1) := by decide +kernel
theorem dX12_offer_86 : decode cX12_offer 86 = .ok (.getfield 170, 3) := by decide +kernel
theorem dX12_offer_89 : decode cX12_offer 89 = .ok (.aload_n 0, 1) := by decide +kernel
theorem dX12_offer_90 : decode cX12_offer 90 = .ok (.getfield 489, 3) := by decide +kernel
theorem dX12_offer_93 : decode cX12_offer 93 = .ok (.iload_n 2, 1) := by decide +kernel
theorem dX12_offer_94 : decode cX12_offer 94 = .ok (.iastore, 1) := by decide +kernel
theorem dX12_offer_95 : decode cX12_offer 95 = .ok (.aload_n 0, 1) := by decide +kernel
theorem dX12_offer_96 : decode cX12_offer 96 = .ok (.getfield 173, 3) := by decide +kernel
theorem dX12_offer_99 : decode cX12_offer 99 = .ok (.aload_n 0, 1) := by decide +kernel
theorem dX12_offer_100 : decode cX12_offer 100 = .ok (.getfield 489, 3) := by decide +kernel
theorem dX12_offer_103 : decode cX12_offer 103 = .ok (.iload_n 3, 1) := by decide +kernel
theorem dX12_offer_104 : decode cX12_offer 104 = .ok (.iastore, 1) := by decide +kernel
theorem dX12_offer_105 : decode cX12_offer 105 = .ok (.aload_n 0, 1) := by decide +kernel
theorem dX12_offer_106 : decode cX12_offer 106 = .ok (.getfield 176, 3) := by decide +kernel
theorem dX12_offer_109 : decode cX12_offer 109 = .ok (.aload_n 0, 1) := by decide +kernel
theorem dX12_offer_110 : decode cX12_offer 110 = .ok (.getfield 489, 3) := by decide +kernel
theorem dX12_offer_113 : decode cX12_offer 113 = .ok (.iload 4, 2) := by decide +kernel
theorem dX12_offer_115 : decode cX12_offer 115 = .ok (.iastore, 1) := by decide +kernel
theorem dX12_offer_116 : decode cX12_offer 116 = .ok (.aload_n 0, 1) := by decide +kernel
theorem dX12_offer_117 : decode cX12_offer 117 = .ok (.dup, 1) := by decide +kernel
theorem dX12_offer_118 : decode cX12_offer 118 = .ok (.getfield 489, 3) := by decide +kernel
theorem dX12_offer_121 : decode cX12_offer 121 = .ok (.iconst 1, 1) := by decide +kernel
theorem dX12_offer_122 : decode cX12_offer 122 = .ok (.iadd, 1) := by decide +kernel
theorem dX12_offer_123 : decode cX12_offer 123 = .ok (.putfield 489, 3) := by decide +kernel
theorem dX12_offer_126 : decode cX12_offer 126 = .ok (.aload_n 0, 1) := by decide +kernel
theorem dX12_offer_127 : decode cX12_offer 127 = .ok (.getfield 489, 3) := by decide +kernel
theorem dX12_offer_130 : decode cX12_offer 130 = .ok (.iconst 1, 1) := by decide +kernel
theorem dX12_offer_131 : decode cX12_offer 131 = .ok (.isub, 1) := by decide +kernel
theorem dX12_offer_132 : decode cX12_offer 132 = .ok (.ireturn, 1) := by decide +kernel
theorem dX12_sumOf_0 : decode cX12_sumOf 0 = .ok (.iconst 0, 1) := by decide +kernel
theorem dX12_sumOf_1 : decode cX12_sumOf 1 = .ok (.istore_n 3, 1) := by decide +kernel
theorem dX12_sumOf_2 : decode cX12_sumOf 2 = .ok (.iconst 0, 1) := by decide +kernel
theorem dX12_sumOf_3 : decode cX12_sumOf 3 = .ok (.istore 4, 2) := by decide +kernel
theorem dX12_sumOf_5 : decode cX12_sumOf 5 = .ok (.iload 4, 2) := by decide +kernel
theorem dX12_sumOf_7 : decode cX12_sumOf 7 = .ok (.aload_n 0, 1) := by decide +kernel
theorem dX12_sumOf_8 : decode cX12_sumOf 8 = .ok (.getfield 489, 3) := by decide +kernel
theorem dX12_sumOf_11 : decode cX12_sumOf 11 = .ok (.if_icmp .ge 90, 3) := by decide +kernel
theorem dX12_sumOf_14 : decode cX12_sumOf 14 = .ok (.iload_n 1, 1) := by decide +kernel
theorem dX12_sumOf_15 : decode cX12_sumOf 15 = .ok (.iload 4, 2) := by decide +kernel
theorem dX12_sumOf_17 : decode cX12_sumOf 17 = .ok (.ishr, 1) := by decide +kernel
theorem dX12_sumOf_18 : decode cX12_sumOf 18 = .ok (.iconst 1, 1) := by decide +kernel
theorem dX12_sumOf_19 : decode cX12_sumOf 19 = .ok (.iand, 1) := by decide +kernel
theorem dX12_sumOf_20 : decode cX12_sumOf 20 = .ok (.iconst 1, 1) := by decide +kernel
theorem dX12_sumOf_21 : decode cX12_sumOf 21 = .ok (.if_icmp .ne 74, 3) := by decide +kernel
theorem dX12_sumOf_24 : decode cX12_sumOf 24 = .ok (.iload_n 3, 1) := by decide +kernel
theorem dX12_sumOf_25 : decode cX12_sumOf 25 = .ok (.iload_n 2, 1) := by decide +kernel
theorem dX12_sumOf_26 : decode cX12_sumOf 26 = .ok (.iconst 1, 1) := by decide +kernel
theorem dX12_sumOf_27 : decode cX12_sumOf 27 = .ok (.if_icmp .ne 13, 3) := by decide +kernel
theorem dX12_sumOf_30 : decode cX12_sumOf 30 = .ok (.aload_n 0, 1) := by decide +kernel
theorem dX12_sumOf_31 : decode cX12_sumOf 31 = .ok (.getfield 173, 3) := by decide +kernel
theorem dX12_sumOf_34 : decode cX12_sumOf 34 = .ok (.iload 4, 2) := by decide +kernel
theorem dX12_sumOf_36 : decode cX12_sumOf 36 = .ok (.iaload, 1) := by decide +kernel
theorem dX12_sumOf_37 : decode cX12_sumOf 37 = .ok (.goto 56, 3) := by decide +kernel
theorem dX12_sumOf_40 : decode cX12_sumOf 40 = .ok (.iload_n 2, 1) := by decide +kernel
theorem dX12_sumOf_41 : decode cX12_sumOf 41 = .ok (.iconst 2, 1) := by decide +kernel
theorem dX12_sumOf_42 : decode cX12_sumOf 42 = .ok (.if_icmp .ne 13, 3) := by decide +kernel
theorem dX12_sumOf_45 : decode cX12_sumOf 45 = .ok (.aload_n 0, 1) := by decide +kernel
theorem dX12_sumOf_46 : decode cX12_sumOf 46 = .ok (.getfield 176, 3) := by decide +kernel
theorem dX12_sumOf_49 : decode cX12_sumOf 49 = .ok (.iload 4, 2) := by decide +kernel
theorem dX12_sumOf_51 : decode cX12_sumOf 51 = .ok (.iaload, 1) := by decide +kernel
theorem dX12_sumOf_52 : decode cX12_sumOf 52 = .ok (.goto 41, 3) := by decide +kernel
theorem dX12_sumOf_55 : decode cX12_sumOf 55 = .ok (.iload_n 2, 1) := by decide +kernel
theorem dX12_sumOf_56 : decode cX12_sumOf 56 = .ok (.iconst 3, 1) := by decide +kernel
theorem dX12_sumOf_57 : decode cX12_sumOf 57 = .ok (.if_icmp .ne 21, 3) := by decide +kernel
theorem dX12_sumOf_60 : decode cX12_sumOf 60 = .ok (.aload_n 0, 1) := by decide +kernel
theorem dX12_sumOf_61 : decode cX12_sumOf 61 = .ok (.getfield 173, 3) := by decide +kernel
theorem dX12_sumOf_64 : decode cX12_sumOf 64 = .ok (.iload 4, 2) := by decide +kernel
theorem dX12_sumOf_66 : decode cX12_sumOf 66 = .ok (.iaload, 1) := by decide +kernel
theorem dX12_sumOf_67 : decode cX12_sumOf 67 = .ok (.aload_n 0, 1) := by decide +kernel
theorem dX12_sumOf_68 : decode cX12_sumOf 68 = .ok (.getfield 167, 3) := by decide +kernel
theorem dX12_sumOf_71 : decode cX12_sumOf 71 = .ok (.iload 4, 2) := by decide +kernel
theorem dX12_sumOf_73 : decode cX12_sumOf 73 = .ok (.iaload, 1) := by decide +kernel
theorem dX12_sumOf_74 : decode cX12_sumOf 74 = .ok (.imul, 1) := by decide +kernel
theorem dX12_sumOf_75 : decode cX12_sumOf 75 = .ok (.goto 18, 3) := by decide +kernel
theorem dX12_sumOf_78 : decode cX12_sumOf 78 = .ok (.aload_n 0, 1) := by decide +kernel
theorem dX12_sumOf_79 : decode cX12_sumOf 79 = .ok (.getfield 173, 3) := by decide +kernel
theorem dX12_sumOf_82 : decode cX12_sumOf 82 = .ok (.iload 4, 2) := by decide +kernel
theorem dX12_sumOf_84 : decode cX12_sumOf 84 = .ok (.iaload, 1) := by decide +kernel
theorem dX12_sumOf_85 : decode cX12_sumOf 85 = .ok (.aload_n 0, 1) := by decide +kernel
theorem dX12_sumOf_86 : decode cX12_sumOf 86 = .ok (.getfield 170, 3) := by decide +kernel
theorem dX12_sumOf_89 : decode cX12_sumOf 89 = .ok (.iload 4, 2) := by decide +kernel
theorem dX12_sumOf_91 : decode cX12_sumOf 91 = .ok (.iaload, 1) := by decide +kernel
theorem dX12_sumOf_92 : decode cX12_sumOf 92 = .ok (.imul, 1) := by decide +kernel
theorem dX12_sumOf_93 : decode cX12_sumOf 93 = .ok (.iadd, 1) := by decide +kernel
theorem dX12_sumOf_94 : decode cX12_sumOf 94 = .ok (.istore_n 3, 1) := by decide +kernel
theorem dX12_sumOf_95 : decode cX12_sumOf 95 = .ok (.iinc 4 1, 3) := by decide +kernel
theorem dX12_sumOf_98 : decode cX12_sumOf 98 = .ok (.goto (-93), 3) := by decide +kernel
theorem dX12_sumOf_101 : decode cX12_sumOf 101 = .ok (.iload_n 3, 1) := by decide +kernel
theorem dX12_sumOf_102 : decode cX12_sumOf 102 = .ok (.ireturn, 1) := by decide +kernel
theorem dX12_isAhead_0 : decode cX12_isAhead 0 = .ok (.aload_n 0, 1) := by decide +kernel
theorem dX12_isAhead_1 : decode cX12_isAhead 1 = .ok (.iload_n 1, 1) := by decide +kernel
theorem dX12_isAhead_2 : decode cX12_isAhead 2 = .ok (.iconst 1, 1) := by decide +kernel
theorem dX12_isAhead_3 : decode cX12_isAhead 3 = .ok (.invokevirtual 492, 3) := by decide +kernel
theorem dX12_isAhead_6 : decode cX12_isAhead 6 = .ok (.aload_n 0, 1) := by decide +kernel
theorem dX12_isAhead_7 : decode cX12_isAhead 7 = .ok (.iload_n 2, 1) := by decide +kernel
theorem dX12_isAhead_8 : decode cX12_isAhead 8 = .ok (.iconst 1, 1) := by decide +kernel
theorem dX12_isAhead_9 : decode cX12_isAhead 9 = .ok (.invokevirtual 492, 3) := by decide +kernel
theorem dX12_isAhead_12 : decode cX12_isAhead 12 = .ok (.if_icmp .eq 24, 3) := by decide +kernel
theorem dX12_isAhead_15 : decode cX12_isAhead 15 = .ok (.aload_n 0, 1) := by decide +kernel
theorem dX12_isAhead_16 : decode cX12_isAhead 16 = .ok (.iload_n 1, 1) := by decide +kernel
theorem dX12_isAhead_17 : decode cX12_isAhead 17 = .ok (.iconst 1, 1) := by decide +kernel
theorem dX12_isAhead_18 : decode cX12_isAhead 18 = .ok (.invokevirtual 492, 3) := by decide +kernel
theorem dX12_isAhead_21 : decode cX12_isAhead 21 = .ok (.aload_n 0, 1) := by decide +kernel
theorem dX12_isAhead_22 : decode cX12_isAhead 22 = .ok (.iload_n 2, 1) := by decide +kernel
theorem dX12_isAhead_23 : decode cX12_isAhead 23 = .ok (.iconst 1, 1) := by decide +kernel
theorem dX12_isAhead_24 : decode cX12_isAhead 24 = .ok (.invokevirtual 492, 3) := by decide +kernel
theorem dX12_isAhead_27 : decode cX12_isAhead 27 = .ok (.if_icmp .le 7, 3) := by decide +kernel
theorem dX12_isAhead_30 : decode cX12_isAhead 30 = .ok (.iconst 1, 1) := by decide +kernel
theorem dX12_isAhead_31 : decode cX12_isAhead 31 = .ok (.goto 4, 3) := by decide +kernel
theorem dX12_isAhead_34 : decode cX12_isAhead 34 = .ok (.iconst 0, 1) := by decide +kernel
theorem dX12_isAhead_35 : decode cX12_isAhead 35 = .ok (.ireturn, 1) := by decide +kernel
theorem dX12_isAhead_36 : decode cX12_isAhead 36 = .ok (.aload_n 0, 1) := by decide +kernel
theorem dX12_isAhead_37 : decode cX12_isAhead 37 = .ok (.iload_n 1, 1) := by decide +kernel
theorem dX12_isAhead_38 : decode cX12_isAhead 38 = .ok (.iconst 2, 1) := by decide +kernel
theorem dX12_isAhead_39 : decode cX12_isAhead 39 = .ok (.invokevirtual 492, 3) := by decide +kernel
theorem dX12_isAhead_42 : decode cX12_isAhead 42 = .ok (.aload_n 0, 1) := by decide +kernel
theorem dX12_isAhead_43 : decode cX12_isAhead 43 = .ok (.iload_n 2, 1) := by decide +kernel
theorem dX12_isAhead_44 : decode cX12_isAhead 44 = .ok (.iconst 2, 1) := by decide +kernel
theorem dX12_isAhead_45 : decode cX12_isAhead 45 = .ok (.invokevirtual 492, 3) := by decide +kernel
theorem dX12_isAhead_48 : decode cX12_isAhead 48 = .ok (.if_icmp .eq 24, 3) := by decide +kernel
theorem dX12_isAhead_51 : decode cX12_isAhead 51 = .ok (.aload_n 0, 1) := by decide +kernel
theorem dX12_isAhead_52 : decode cX12_isAhead 52 = .ok (.iload_n 1, 1) := by decide +kernel
theorem dX12_isAhead_53 : decode cX12_isAhead 53 = .ok (.iconst 2, 1) := by decide +kernel
theorem dX12_isAhead_54 : decode cX12_isAhead 54 = .ok (.invokevirtual 492, 3) := by decide +kernel
theorem dX12_isAhead_57 : decode cX12_isAhead 57 = .ok (.aload_n 0, 1) := by decide +kernel
theorem dX12_isAhead_58 : decode cX12_isAhead 58 = .ok (.iload_n 2, 1) := by decide +kernel
theorem dX12_isAhead_59 : decode cX12_isAhead 59 = .ok (.iconst 2, 1) := by decide +kernel
theorem dX12_isAhead_60 : decode cX12_isAhead 60 = .ok (.invokevirtual 492, 3) := by decide +kernel
theorem dX12_isAhead_63 : decode cX12_isAhead 63 = .ok (.if_icmp .ge 7, 3) := by decide +kernel
theorem dX12_isAhead_66 : decode cX12_isAhead 66 = .ok (.iconst 1, 1) := by decide +kernel
theorem dX12_isAhead_67 : decode cX12_isAhead 67 = .ok (.goto 4, 3) := by decide +kernel
theorem dX12_isAhead_70 : decode cX12_isAhead 70 = .ok (.iconst 0, 1) := by decide +kernel
theorem dX12_isAhead_71 : decode cX12_isAhead 71 = .ok (.ireturn, 1) := by decide +kernel
theorem dX12_isAhead_72 : decode cX12_isAhead 72 = .ok (.iconst 0, 1) := by decide +kernel
theorem dX12_isAhead_73 : decode cX12_isAhead 73 = .ok (.istore_n 3, 1) := by decide +kernel
theorem dX12_isAhead_74 : decode cX12_isAhead 74 = .ok (.iload_n 3, 1) := by decide +kernel
theorem dX12_isAhead_75 : decode cX12_isAhead 75 = .ok (.bipush 12, 2) := by decide +kernel
theorem dX12_isAhead_77 : decode cX12_isAhead 77 = .ok (.if_icmp .ge 22, 3) := by decide +kernel
theorem dX12_isAhead_80 : decode cX12_isAhead 80 = .ok (.iload_n 1, 1) := by decide +kernel
theorem dX12_isAhead_81 : decode cX12_isAhead 81 = .ok (.iload_n 3, 1) := by decide +kernel
theorem dX12_isAhead_82 : decode cX12_isAhead 82 = .ok (.ishr, 1) := by decide +kernel
theorem dX12_isAhead_83 : decode cX12_isAhead 83 = .ok (.iconst 1, 1) := by decide +kernel
theorem dX12_isAhead_84 : decode cX12_isAhead 84 = .ok (.iand, 1) := by decide +kernel
theorem dX12_isAhead_85 : decode cX12_isAhead 85 = .ok (.iload_n 2, 1) := by decide +kernel
theorem dX12_isAhead_86 : decode cX12_isAhead 86 = .ok (.iload_n 3, 1) := by decide +kernel
theorem dX12_isAhead_87 : decode cX12_isAhead 87 = .ok (.ishr, 1) := by decide +kernel
theorem dX12_isAhead_88 : decode cX12_isAhead 88 = .ok (.iconst 1, 1) := by decide +kernel
theorem dX12_isAhead_89 : decode cX12_isAhead 89 = .ok (.iand, 1) := by decide +kernel
theorem dX12_isAhead_90 : decode cX12_isAhead 90 = .ok (.if_icmp .ne 9, 3) := by decide +kernel
theorem dX12_isAhead_93 : decode cX12_isAhead 93 = .ok (.iinc 3 1, 3) := by decide +kernel
theorem dX12_isAhead_96 : decode cX12_isAhead 96 = .ok (.goto (-22), 3) := by decide +kernel
theorem dX12_isAhead_99 : decode cX12_isAhead 99 = .ok (.iload_n 3, 1) := by decide +kernel
theorem dX12_isAhead_100 : decode cX12_isAhead 100 = .ok (.bipush 12, 2) := by decide +kernel
theorem dX12_isAhead_102 : decode cX12_isAhead 102 = .ok (.if_icmp .ge 16, 3) := by decide +kernel
theorem dX12_isAhead_105 : decode cX12_isAhead 105 = .ok (.iload_n 1, 1) := by decide +kernel
theorem dX12_isAhead_106 : decode cX12_isAhead 106 = .ok (.iload_n 3, 1) := by decide +kernel
theorem dX12_isAhead_107 : decode cX12_isAhead 107 = .ok (.ishr, 1) := by decide +kernel
theorem dX12_isAhead_108 : decode cX12_isAhead 108 = .ok (.iconst 1, 1) := by decide +kernel
theorem dX12_isAhead_109 : decode cX12_isAhead 109 = .ok (.iand, 1) := by decide +kernel
theorem dX12_isAhead_110 : decode cX12_isAhead 110 = .ok (.iconst 1, 1) := by decide +kernel
theorem dX12_isAhead_111 : decode cX12_isAhead 111 = .ok (.if_icmp .ne 7, 3) := by decide +kernel
theorem dX12_isAhead_114 : decode cX12_isAhead 114 = .ok (.iconst 1, 1) := by decide +kernel
theorem dX12_isAhead_115 : decode cX12_isAhead 115 = .ok (.goto 4, 3) := by decide +kernel
theorem dX12_isAhead_118 : decode cX12_isAhead 118 = .ok (.iconst 0, 1) := by decide +kernel
theorem dX12_isAhead_119 : decode cX12_isAhead 119 = .ok (.ireturn, 1) := by decide +kernel
theorem dX12_sheet_0 : decode cX12_sheet 0 = .ok (.aload_n 0, 1) := by decide +kernel
theorem dX12_sheet_1 : decode cX12_sheet 1 = .ok (.iconst 0, 1) := by decide +kernel
theorem dX12_sheet_2 : decode cX12_sheet 2 = .ok (.putfield 179, 3) := by decide +kernel
theorem dX12_sheet_5 : decode cX12_sheet 5 = .ok (.aload_n 0, 1) := by decide +kernel
theorem dX12_sheet_6 : decode cX12_sheet 6 = .ok (.iload_n 1, 1) := by decide +kernel
theorem dX12_sheet_7 : decode cX12_sheet 7 = .ok (.iconst 0, 1) := by decide +kernel
theorem dX12_sheet_8 : decode cX12_sheet 8 = .ok (.sipush 1200, 3) := by decide +kernel
theorem dX12_sheet_11 : decode cX12_sheet 11 = .ok (.invokestatic 203, 3) := by decide +kernel
theorem dX12_sheet_14 : decode cX12_sheet 14 = .ok (.ifCond .eq 23, 3) := by decide +kernel
theorem dX12_sheet_17 : decode cX12_sheet 17 = .ok (.iload_n 2, 1) := by decide +kernel
theorem dX12_sheet_18 : decode cX12_sheet 18 = .ok (.iconst 0, 1) := by decide +kernel
theorem dX12_sheet_19 : decode cX12_sheet 19 = .ok (.ldc_w 436, 3) := by decide +kernel
theorem dX12_sheet_22 : decode cX12_sheet 22 = .ok (.invokestatic 203, 3) := by decide +kernel
theorem dX12_sheet_25 : decode cX12_sheet 25 = .ok (.ifCond .eq 12, 3) := by decide +kernel
theorem dX12_sheet_28 : decode cX12_sheet 28 = .ok (.iload_n 3, 1) := by decide +kernel
theorem dX12_sheet_29 : decode cX12_sheet 29 = .ok (.iconst 0, 1) := by decide +kernel
theorem dX12_sheet_30 : decode cX12_sheet 30 = .ok (.iconst 4, 1) := by decide +kernel
theorem dX12_sheet_31 : decode cX12_sheet 31 = .ok (.invokestatic 203, 3) := by decide +kernel
theorem dX12_sheet_34 : decode cX12_sheet 34 = .ok (.ifCond .ne 7, 3) := by decide +kernel
theorem dX12_sheet_37 : decode cX12_sheet 37 = .ok (.iconst 1, 1) := by decide +kernel
theorem dX12_sheet_38 : decode cX12_sheet 38 = .ok (.goto 4, 3) := by decide +kernel
theorem dX12_sheet_41 : decode cX12_sheet 41 = .ok (.iconst 0, 1) := by decide +kernel
theorem dX12_sheet_42 : decode cX12_sheet 42 = .ok (.iconst 1, 1) := by decide +kernel
theorem dX12_sheet_43 : decode cX12_sheet 43 = .ok (.invokevirtual 207, 3) := by decide +kernel
theorem dX12_sheet_46 : decode cX12_sheet 46 = .ok (.ifCond .eq 5, 3) := by decide +kernel
theorem dX12_sheet_49 : decode cX12_sheet 49 = .ok (.iconst 0, 1) := by decide +kernel
theorem dX12_sheet_50 : decode cX12_sheet 50 = .ok (.ireturn, 1) := by decide +kernel
theorem dX12_sheet_51 : decode cX12_sheet 51 = .ok (.iconst 0, 1) := by decide +kernel
theorem dX12_sheet_52 : decode cX12_sheet 52 = .ok (.istore 4, 2) := by decide +kernel
theorem dX12_sheet_54 : decode cX12_sheet 54 = .ok (.iconst 1, 1) := by decide +kernel
theorem dX12_sheet_55 : decode cX12_sheet 55 = .ok (.istore 5, 2) := by decide +kernel
theorem dX12_sheet_57 : decode cX12_sheet 57 = .ok (.iload 5, 2) := by decide +kernel
theorem dX12_sheet_59 : decode cX12_sheet 59 = .ok (.iconst 1, 1) := by decide +kernel
theorem dX12_sheet_60 : decode cX12_sheet 60 = .ok (.aload_n 0, 1) := by decide +kernel
theorem dX12_sheet_61 : decode cX12_sheet 61 = .ok (.getfield 489, 3) := by decide +kernel
theorem dX12_sheet_64 : decode cX12_sheet 64 = .ok (.ishl, 1) := by decide +kernel
theorem dX12_sheet_65 : decode cX12_sheet 65 = .ok (.if_icmp .ge 71, 3) := by decide +kernel
theorem dX12_sheet_68 : decode cX12_sheet 68 = .ok (.aload_n 0, 1) := by decide +kernel
theorem dX12_sheet_69 : decode cX12_sheet 69 = .ok (.iload 5, 2) := by decide +kernel
theorem dX12_sheet_71 : decode cX12_sheet 71 = .ok (.iconst 2, 1) := by decide +kernel
theorem dX12_sheet_72 : decode cX12_sheet 72 = .ok (.invokevirtual 492, 3) := by decide +kernel
theorem dX12_sheet_75 : decode cX12_sheet 75 = .ok (.iload_n 1, 1) := by decide +kernel
theorem dX12_sheet_76 : decode cX12_sheet 76 = .ok (.if_icmp .gt 54, 3) := by decide +kernel
theorem dX12_sheet_79 : decode cX12_sheet 79 = .ok (.aload_n 0, 1) := by decide +kernel
theorem dX12_sheet_80 : decode cX12_sheet 80 = .ok (.iload 5, 2) := by decide +kernel
theorem dX12_sheet_82 : decode cX12_sheet 82 = .ok (.iconst 3, 1) := by decide +kernel
theorem dX12_sheet_83 : decode cX12_sheet 83 = .ok (.invokevirtual 492, 3) := by decide +kernel
theorem dX12_sheet_86 : decode cX12_sheet 86 = .ok (.invokestatic 237, 3) := by decide +kernel
theorem dX12_sheet_89 : decode cX12_sheet 89 = .ok (.iload_n 2, 1) := by decide +kernel
theorem dX12_sheet_90 : decode cX12_sheet 90 = .ok (.if_icmp .gt 40, 3) := by decide +kernel
theorem dX12_sheet_93 : decode cX12_sheet 93 = .ok (.aload_n 0, 1) := by decide +kernel
theorem dX12_sheet_94 : decode cX12_sheet 94 = .ok (.iload 5, 2) := by decide +kernel
theorem dX12_sheet_96 : decode cX12_sheet 96 = .ok (.iconst 4, 1) := by decide +kernel
theorem dX12_sheet_97 : decode cX12_sheet 97 = .ok (.invokevirtual 492, 3) := by decide +kernel
theorem dX12_sheet_100 : decode cX12_sheet 100 = .ok (.invokestatic 237, 3) := by decide +kernel
theorem dX12_sheet_103 : decode cX12_sheet 103 = .ok (.iload_n 2, 1) := by decide +kernel
theorem dX12_sheet_104 : decode cX12_sheet 104 = .ok (.if_icmp .le 6, 3) := by decide +kernel
theorem dX12_sheet_107 : decode cX12_sheet 107 = .ok (.goto 23, 3) := by decide +kernel
theorem dX12_sheet_110 : decode cX12_sheet 110 = .ok (.aload_n 0, 1) := by decide +kernel
theorem dX12_sheet_111 : decode cX12_sheet 111 = .ok (.iload 5, 2) := by decide +kernel
theorem dX12_sheet_113 : decode cX12_sheet 113 = .ok (.iload 4, 2) := by decide +kernel
theorem dX12_sheet_115 : decode cX12_sheet 115 = .ok (.invokevirtual 495, 3) := by decide +kernel
theorem dX12_sheet_118 : decode cX12_sheet 118 = .ok (.ifCond .eq 8, 3) := by decide +kernel
theorem dX12_sheet_121 : decode cX12_sheet 121 = .ok (.iload 5, 2) := by decide +kernel
theorem dX12_sheet_123 : decode cX12_sheet 123 = .ok (.goto 5, 3) := by decide +kernel
theorem dX12_sheet_126 : decode cX12_sheet 126 = .ok (.iload 4, 2) := by decide +kernel
theorem dX12_sheet_128 : decode cX12_sheet 128 = .ok (.istore 4, 2) := by decide +kernel
theorem dX12_sheet_130 : decode cX12_sheet 130 = .ok (.iinc 5 1, 3) := by decide +kernel
theorem dX12_sheet_133 : decode cX12_sheet 133 = .ok (.goto (-76), 3) := by decide +kernel
theorem dX12_sheet_136 : decode cX12_sheet 136 = .ok (.iload_n 3, 1) := by decide +kernel
theorem dX12_sheet_137 : decode cX12_sheet 137 = .ok (.ifCond .ne 8, 3) := by decide +kernel
theorem dX12_sheet_140 : decode cX12_sheet 140 = .ok (.iload 4, 2) := by decide +kernel
theorem dX12_sheet_142 : decode cX12_sheet 142 = .ok (.goto 10, 3) := by decide +kernel
theorem dX12_sheet_145 : decode cX12_sheet 145 = .ok (.aload_n 0, 1) := by decide +kernel
theorem dX12_sheet_146 : decode cX12_sheet 146 = .ok (.iload 4, 2) := by decide +kernel
theorem dX12_sheet_148 : decode cX12_sheet 148 = .ok (.iload_n 3, 1) := by decide +kernel
theorem dX12_sheet_149 : decode cX12_sheet 149 = .ok (.invokevirtual 492, 3) := by decide +kernel
theorem dX12_sheet_152 : decode cX12_sheet 152 = .ok (.ireturn, 1) := by decide +kernel
theorem dX12_lateBy_0 : decode cX12_lateBy 0 = .ok (.aload_n 0, 1) := by decide +kernel
theorem dX12_lateBy_1 : decode cX12_lateBy 1 = .ok (.getfield 304, 3) := by decide +kernel
theorem dX12_lateBy_4 : decode cX12_lateBy 4 = .ok (.istore_n 3, 1) := by decide +kernel
theorem dX12_lateBy_5 : decode cX12_lateBy 5 = .ok (.aload_n 0, 1) := by decide +kernel
theorem dX12_lateBy_6 : decode cX12_lateBy 6 = .ok (.getfield 307, 3) := by decide +kernel
theorem dX12_lateBy_9 : decode cX12_lateBy 9 = .ok (.istore 4, 2) := by decide +kernel
theorem dX12_lateBy_11 : decode cX12_lateBy 11 = .ok (.iconst 0, 1) := by decide +kernel
theorem dX12_lateBy_12 : decode cX12_lateBy 12 = .ok (.istore 5, 2) := by decide +kernel
theorem dX12_lateBy_14 : decode cX12_lateBy 14 = .ok (.iload 5, 2) := by decide +kernel
theorem dX12_lateBy_16 : decode cX12_lateBy 16 = .ok (.iload_n 2, 1) := by decide +kernel
theorem dX12_lateBy_17 : decode cX12_lateBy 17 = .ok (.if_icmp .ge 24, 3) := by decide +kernel
theorem dX12_lateBy_20 : decode cX12_lateBy 20 = .ok (.aload_n 0, 1) := by decide +kernel
theorem dX12_lateBy_21 : decode cX12_lateBy 21 = .ok (.aload_n 0, 1) := by decide +kernel
theorem dX12_lateBy_22 : decode cX12_lateBy 22 = .ok (.getfield 59, 3) := by decide +kernel
theorem dX12_lateBy_25 : decode cX12_lateBy 25 = .ok (.aload_n 0, 1) := by decide +kernel
theorem dX12_lateBy_26 : decode cX12_lateBy 26 = .ok (.getfield 304, 3) := by decide +kernel
theorem dX12_lateBy_29 : decode cX12_lateBy 29 = .ok (.invokestatic 298, 3) := by decide +kernel
theorem dX12_lateBy_32 : decode cX12_lateBy 32 = .ok (.putfield 304, 3) := by decide +kernel
theorem dX12_lateBy_35 : decode cX12_lateBy 35 = .ok (.iinc 5 1, 3) := by decide +kernel
theorem dX12_lateBy_38 : decode cX12_lateBy 38 = .ok (.goto (-24), 3) := by decide +kernel
theorem dX12_lateBy_41 : decode cX12_lateBy 41 = .ok (.aload_n 0, 1) := by decide +kernel
theorem dX12_lateBy_42 : decode cX12_lateBy 42 = .ok (.dup, 1) := by decide +kernel
theorem dX12_lateBy_43 : decode cX12_lateBy 43 = .ok (.getfield 307, 3) := by decide +kernel
theorem dX12_lateBy_46 : decode cX12_lateBy 46 = .ok (.iload_n 2, 1) := by decide +kernel
theorem dX12_lateBy_47 : decode cX12_lateBy 47 = .ok (.iadd, 1) := by decide +kernel
theorem dX12_lateBy_48 : decode cX12_lateBy 48 = .ok (.putfield 307, 3) := by decide +kernel
theorem dX12_lateBy_51 : decode cX12_lateBy 51 = .ok (.aload_n 0, 1) := by decide +kernel
theorem dX12_lateBy_52 : decode cX12_lateBy 52 = .ok (.iload_n 1, 1) := by decide +kernel
theorem dX12_lateBy_53 : decode cX12_lateBy 53 = .ok (.aload_n 0, 1) := by decide +kernel
theorem dX12_lateBy_54 : decode cX12_lateBy 54 = .ok (.invokevirtual 317, 3) := by decide +kernel
theorem dX12_lateBy_57 : decode cX12_lateBy 57 = .ok (.invokevirtual 321, 3) := by decide +kernel
theorem dX12_lateBy_60 : decode cX12_lateBy 60 = .ok (.aload_n 0, 1) := by decide +kernel
theorem dX12_lateBy_61 : decode cX12_lateBy 61 = .ok (.iload_n 3, 1) := by decide +kernel
theorem dX12_lateBy_62 : decode cX12_lateBy 62 = .ok (.putfield 304, 3) := by decide +kernel
theorem dX12_lateBy_65 : decode cX12_lateBy 65 = .ok (.aload_n 0, 1) := by decide +kernel
theorem dX12_lateBy_66 : decode cX12_lateBy 66 = .ok (.iload 4, 2) := by decide +kernel
theorem dX12_lateBy_68 : decode cX12_lateBy 68 = .ok (.putfield 307, 3) := by decide +kernel
theorem dX12_lateBy_71 : decode cX12_lateBy 71 = .ok (.aload_n 0, 1) := by decide +kernel
theorem dX12_lateBy_72 : decode cX12_lateBy 72 = .ok (.getfield 301, 3) := by decide +kernel
theorem dX12_lateBy_75 : decode cX12_lateBy 75 = .ok (.iconst (-1), 1) := by decide +kernel
theorem dX12_lateBy_76 : decode cX12_lateBy 76 = .ok (.if_icmp .ne 7, 3) := by decide +kernel
theorem dX12_lateBy_79 : decode cX12_lateBy 79 = .ok (.iconst (-1), 1) := by decide +kernel
theorem dX12_lateBy_80 : decode cX12_lateBy 80 = .ok (.goto 9, 3) := by decide +kernel
theorem dX12_lateBy_83 : decode cX12_lateBy 83 = .ok (.iload_n 2, 1) := by decide +kernel
theorem dX12_lateBy_84 : decode cX12_lateBy 84 = .ok (.aload_n 0, 1) := by decide +kernel
theorem dX12_lateBy_85 : decode cX12_lateBy 85 = .ok (.getfield 301, 3) := by decide +kernel
theorem dX12_lateBy_88 : decode cX12_lateBy 88 = .ok (.iadd, 1) := by decide +kernel
theorem dX12_lateBy_89 : decode cX12_lateBy 89 = .ok (.ireturn, 1) := by decide +kernel
theorem dX12_late_0 : decode cX12_late 0 = .ok (.aload_n 0, 1) := by decide +kernel
theorem dX12_late_1 : decode cX12_late 1 = .ok (.iconst 0, 1) := by decide +kernel
theorem dX12_late_2 : decode cX12_late 2 = .ok (.putfield 179, 3) := by decide +kernel
theorem dX12_late_5 : decode cX12_late 5 = .ok (.aload_n 0, 1) := by decide +kernel
theorem dX12_late_6 : decode cX12_late 6 = .ok (.iload_n 1, 1) := by decide +kernel
theorem dX12_late_7 : decode cX12_late 7 = .ok (.iconst 0, 1) := by decide +kernel
theorem dX12_late_8 : decode cX12_late 8 = .ok (.aload_n 0, 1) := by decide +kernel
theorem dX12_late_9 : decode cX12_late 9 = .ok (.getfield 289, 3) := by decide +kernel
theorem dX12_late_12 : decode cX12_late 12 = .ok (.iconst 1, 1) := by decide +kernel
theorem dX12_late_13 : decode cX12_late 13 = .ok (.isub, 1) := by decide +kernel
theorem dX12_late_14 : decode cX12_late 14 = .ok (.invokestatic 203, 3) := by decide +kernel
theorem dX12_late_17 : decode cX12_late 17 = .ok (.ifCond .ne 7, 3) := by decide +kernel
theorem dX12_late_20 : decode cX12_late 20 = .ok (.iconst 1, 1) := by decide +kernel
theorem dX12_late_21 : decode cX12_late 21 = .ok (.goto 4, 3) := by decide +kernel
theorem dX12_late_24 : decode cX12_late 24 = .ok (.iconst 0, 1) := by decide +kernel
theorem dX12_late_25 : decode cX12_late 25 = .ok (.iconst 1, 1) := by decide +kernel
theorem dX12_late_26 : decode cX12_late 26 = .ok (.invokevirtual 207, 3) := by decide +kernel
theorem dX12_late_29 : decode cX12_late 29 = .ok (.ifCond .ne 26, 3) := by decide +kernel
theorem dX12_late_32 : decode cX12_late 32 = .ok (.aload_n 0, 1) := by decide +kernel
theorem dX12_late_33 : decode cX12_late 33 = .ok (.iload_n 2, 1) := by decide +kernel
theorem dX12_late_34 : decode cX12_late 34 = .ok (.iconst 0, 1) := by decide +kernel
theorem dX12_late_35 : decode cX12_late 35 = .ok (.bipush 20, 2) := by decide +kernel
theorem dX12_late_37 : decode cX12_late 37 = .ok (.invokestatic 203, 3) := by decide +kernel
theorem dX12_late_40 : decode cX12_late 40 = .ok (.ifCond .ne 7, 3) := by decide +kernel
theorem dX12_late_43 : decode cX12_late 43 = .ok (.iconst 1, 1) := by decide +kernel
theorem dX12_late_44 : decode cX12_late 44 = .ok (.goto 4, 3) := by decide +kernel
theorem dX12_late_47 : decode cX12_late 47 = .ok (.iconst 0, 1) := by decide +kernel
theorem dX12_late_48 : decode cX12_late 48 = .ok (.iconst 2, 1) := by decide +kernel
theorem dX12_late_49 : decode cX12_late 49 = .ok (.invokevirtual 207, 3) := by decide +kernel
theorem dX12_late_52 : decode cX12_late 52 = .ok (.ifCond .eq 5, 3) := by decide +kernel
theorem dX12_late_55 : decode cX12_late 55 = .ok (.iconst 0, 1) := by decide +kernel
theorem dX12_late_56 : decode cX12_late 56 = .ok (.ireturn, 1) := by decide +kernel
theorem dX12_late_57 : decode cX12_late 57 = .ok (.aload_n 0, 1) := by decide +kernel
theorem dX12_late_58 : decode cX12_late 58 = .ok (.iload_n 1, 1) := by decide +kernel
theorem dX12_late_59 : decode cX12_late 59 = .ok (.iload_n 2, 1) := by decide +kernel
theorem dX12_late_60 : decode cX12_late 60 = .ok (.invokevirtual 498, 3) := by decide +kernel
theorem dX12_late_63 : decode cX12_late 63 = .ok (.ireturn, 1) := by decide +kernel
theorem dX12_window_0 : decode cX12_window 0 = .ok (.aload_n 0, 1) := by decide +kernel
theorem dX12_window_1 : decode cX12_window 1 = .ok (.iconst 0, 1) := by decide +kernel
theorem dX12_window_2 : decode cX12_window 2 = .ok (.putfield 179, 3) := by decide +kernel
theorem dX12_window_5 : decode cX12_window 5 = .ok (.aload_n 0, 1) := by decide +kernel
theorem dX12_window_6 : decode cX12_window 6 = .ok (.iload_n 1, 1) := by decide +kernel
theorem dX12_window_7 : decode cX12_window 7 = .ok (.iconst 0, 1) := by decide +kernel
theorem dX12_window_8 : decode cX12_window 8 = .ok (.aload_n 0, 1) := by decide +kernel
theorem dX12_window_9 : decode cX12_window 9 = .ok (.getfield 289, 3) := by decide +kernel
theorem dX12_window_12 : decode cX12_window 12 = .ok (.iconst 1, 1) := by decide +kernel
theorem dX12_window_13 : decode cX12_window 13 = .ok (.isub, 1) := by decide +kernel
theorem dX12_window_14 : decode cX12_window 14 = .ok (.invokestatic 203, 3) := by decide +kernel
theorem dX12_window_17 : decode cX12_window 17 = .ok (.ifCond .ne 7, 3) := by decide +kernel
theorem dX12_window_20 : decode cX12_window 20 = .ok (.iconst 1, 1) := by decide +kernel
theorem dX12_window_21 : decode cX12_window 21 = .ok (.goto 4, 3) := by decide +kernel
theorem dX12_window_24 : decode cX12_window 24 = .ok (.iconst 0, 1) := by decide +kernel
theorem dX12_window_25 : decode cX12_window 25 = .ok (.iconst 1, 1) := by decide +kernel
theorem dX12_window_26 : decode cX12_window 26 = .ok (.invokevirtual 207, 3) := by decide +kernel
theorem dX12_window_29 : decode cX12_window 29 = .ok (.ifCond .eq 5, 3) := by decide +kernel
theorem dX12_window_32 : decode cX12_window 32 = .ok (.iconst 0, 1) := by decide +kernel
theorem dX12_window_33 : decode cX12_window 33 = .ok (.ireturn, 1) := by decide +kernel
theorem dX12_window_34 : decode cX12_window 34 = .ok (.iconst (-1), 1) := by decide +kernel
theorem dX12_window_35 : decode cX12_window 35 = .ok (.istore_n 2, 1) := by decide +kernel
theorem dX12_window_36 : decode cX12_window 36 = .ok (.iconst 0, 1) := by decide +kernel
theorem dX12_window_37 : decode cX12_window 37 = .ok (.istore_n 3, 1) := by decide +kernel
theorem dX12_window_38 : decode cX12_window 38 = .ok (.iconst 0, 1) := by decide +kernel
theorem dX12_window_39 : decode cX12_window 39 = .ok (.istore 4, 2) := by decide +kernel
theorem dX12_window_41 : decode cX12_window 41 = .ok (.iload 4, 2) := by decide +kernel
theorem dX12_window_43 : decode cX12_window 43 = .ok (.bipush 20, 2) := by decide +kernel
theorem dX12_window_45 : decode cX12_window 45 = .ok (.if_icmp .gt 44, 3) := by decide +kernel
theorem dX12_window_48 : decode cX12_window 48 = .ok (.aload_n 0, 1) := by decide +kernel
theorem dX12_window_49 : decode cX12_window 49 = .ok (.iload_n 1, 1) := by decide +kernel
theorem dX12_window_50 : decode cX12_window 50 = .ok (.iload 4, 2) := by decide +kernel
theorem dX12_window_52 : decode cX12_window 52 = .ok (.invokevirtual 498, 3) := by decide +kernel
theorem dX12_window_55 : decode cX12_window 55 = .ok (.istore 5, 2) := by decide +kernel
theorem dX12_window_57 : decode cX12_window 57 = .ok (.iload 5, 2) := by decide +kernel
theorem dX12_window_59 : decode cX12_window 59 = .ok (.iconst (-1), 1) := by decide +kernel
theorem dX12_window_60 : decode cX12_window 60 = .ok (.if_icmp .eq 23, 3) := by decide +kernel
theorem dX12_window_63 : decode cX12_window 63 = .ok (.iload_n 2, 1) := by decide +kernel
theorem dX12_window_64 : decode cX12_window 64 = .ok (.iconst (-1), 1) := by decide +kernel
theorem dX12_window_65 : decode cX12_window 65 = .ok (.if_icmp .eq 12, 3) := by decide +kernel
theorem dX12_window_68 : decode cX12_window 68 = .ok (.iload 5, 2) := by decide +kernel
theorem dX12_window_70 : decode cX12_window 70 = .ok (.iload_n 3, 1) := by decide +kernel
theorem dX12_window_71 : decode cX12_window 71 = .ok (.if_icmp .lt 6, 3) := by decide +kernel
theorem dX12_window_74 : decode cX12_window 74 = .ok (.goto 9, 3) := by decide +kernel
theorem dX12_window_77 : decode cX12_window 77 = .ok (.iload 4, 2) := by decide +kernel
theorem dX12_window_79 : decode cX12_window 79 = .ok (.istore_n 2, 1) := by decide +kernel
theorem dX12_window_80 : decode cX12_window 80 = .ok (.iload 5, 2) := by decide +kernel
theorem dX12_window_82 : decode cX12_window 82 = .ok (.istore_n 3, 1) := by decide +kernel
theorem dX12_window_83 : decode cX12_window 83 = .ok (.iinc 4 1, 3) := by decide +kernel
theorem dX12_window_86 : decode cX12_window 86 = .ok (.goto (-45), 3) := by decide +kernel
theorem dX12_window_89 : decode cX12_window 89 = .ok (.iload_n 2, 1) := by decide +kernel
theorem dX12_window_90 : decode cX12_window 90 = .ok (.ireturn, 1) := by decide +kernel
theorem dX12_count_0 : decode cX12_count 0 = .ok (.aload_n 0, 1) := by decide +kernel
theorem dX12_count_1 : decode cX12_count 1 = .ok (.iconst 0, 1) := by decide +kernel
theorem dX12_count_2 : decode cX12_count 2 = .ok (.putfield 179, 3) := by decide +kernel
theorem dX12_count_5 : decode cX12_count 5 = .ok (.iconst 0, 1) := by decide +kernel
theorem dX12_count_6 : decode cX12_count 6 = .ok (.istore_n 2, 1) := by decide +kernel
theorem dX12_count_7 : decode cX12_count 7 = .ok (.iconst 0, 1) := by decide +kernel
theorem dX12_count_8 : decode cX12_count 8 = .ok (.istore_n 3, 1) := by decide +kernel
theorem dX12_count_9 : decode cX12_count 9 = .ok (.iload_n 3, 1) := by decide +kernel
theorem dX12_count_10 : decode cX12_count 10 = .ok (.iconst 1, 1) := by decide +kernel
theorem dX12_count_11 : decode cX12_count 11 = .ok (.iadd, 1) := by decide +kernel
theorem dX12_count_12 : decode cX12_count 12 = .ok (.aload_n 0, 1) := by decide +kernel
theorem dX12_count_13 : decode cX12_count 13 = .ok (.getfield 182, 3) := by decide +kernel
