theorem dX12_named_65 : decode cX12_named 65 = .ok (.aload_n 0, 1) := by decide +kernel
theorem dX12_named_66 : decode cX12_named 66 = .ok (.getfield 222, 3) := by decide +kernel
theorem dX12_named_69 : decode cX12_named 69 = .ok (.if_icmp .ge 29, 3) := by decide +kernel
theorem dX12_named_72 : decode cX12_named 72 = .ok (.iload 4, 2) := by decide +kernel
theorem dX12_named_74 : decode cX12_named 74 = .ok (.aload_n 0, 1) := by decide +kernel
theorem dX12_named_75 : decode cX12_named 75 = .ok (.getfield 47, 3) := by decide +kernel
theorem dX12_named_78 : decode cX12_named 78 = .ok (.iload 5, 2) := by decide +kernel
theorem dX12_named_80 : decode cX12_named 80 = .ok (.baload, 1) := by decide +kernel
theorem dX12_named_81 : decode cX12_named 81 = .ok (.ifCond .eq 7, 3) := by decide +kernel
theorem dX12_named_84 : decode cX12_named 84 = .ok (.iconst 1, 1) := by decide +kernel
theorem dX12_named_85 : decode cX12_named 85 = .ok (.goto 4, 3) := by decide +kernel
theorem dX12_named_88 : decode cX12_named 88 = .ok (.iconst 0, 1) := by decide +kernel
theorem dX12_named_89 : decode cX12_named 89 = .ok (.iadd, 1) := by decide +kernel
theorem dX12_named_90 : decode cX12_named 90 = .ok (.istore 4, 2) := by decide +kernel
theorem dX12_named_92 : decode cX12_named 92 = .ok (.iinc 5 1, 3) := by decide +kernel
theorem dX12_named_95 : decode cX12_named 95 = .ok (.goto (-32), 3) := by decide +kernel
theorem dX12_named_98 : decode cX12_named 98 = .ok (.iload_n 1, 1) := by decide +kernel
theorem dX12_named_99 : decode cX12_named 99 = .ok (.ifCond .ne 10, 3) := by decide +kernel
theorem dX12_named_102 : decode cX12_named 102 = .ok (.aload_n 0, 1) := by decide +kernel
theorem dX12_named_103 : decode cX12_named 103 = .ok (.getfield 59, 3) := by decide +kernel
theorem dX12_named_106 : decode cX12_named 106 = .ok (.goto 77, 3) := by decide +kernel
theorem dX12_named_109 : decode cX12_named 109 = .ok (.iload_n 1, 1) := by decide +kernel
theorem dX12_named_110 : decode cX12_named 110 = .ok (.iconst 1, 1) := by decide +kernel
theorem dX12_named_111 : decode cX12_named 111 = .ok (.if_icmp .ne 10, 3) := by decide +kernel
theorem dX12_named_114 : decode cX12_named 114 = .ok (.aload_n 0, 1) := by decide +kernel
theorem dX12_named_115 : decode cX12_named 115 = .ok (.getfield 304, 3) := by decide +kernel
theorem dX12_named_118 : decode cX12_named 118 = .ok (.goto 65, 3) := by decide +kernel
theorem dX12_named_121 : decode cX12_named 121 = .ok (.iload_n 1, 1) := by decide +kernel
theorem dX12_named_122 : decode cX12_named 122 = .ok (.iconst 2, 1) := by decide +kernel
theorem dX12_named_123 : decode cX12_named 123 = .ok (.if_icmp .ne 10, 3) := by decide +kernel
theorem dX12_named_126 : decode cX12_named 126 = .ok (.aload_n 0, 1) := by decide +kernel
theorem dX12_named_127 : decode cX12_named 127 = .ok (.getfield 307, 3) := by decide +kernel
theorem dX12_named_130 : decode cX12_named 130 = .ok (.goto 53, 3) := by decide +kernel
theorem dX12_named_133 : decode cX12_named 133 = .ok (.iload_n 1, 1) := by decide +kernel
theorem dX12_named_134 : decode cX12_named 134 = .ok (.iconst 3, 1) := by decide +kernel
theorem dX12_named_135 : decode cX12_named 135 = .ok (.if_icmp .ne 7, 3) := by decide +kernel
theorem dX12_named_138 : decode cX12_named 138 = .ok (.iload_n 2, 1) := by decide +kernel
theorem dX12_named_139 : decode cX12_named 139 = .ok (.goto 44, 3) := by decide +kernel
theorem dX12_named_142 : decode cX12_named 142 = .ok (.iload_n 1, 1) := by decide +kernel
theorem dX12_named_143 : decode cX12_named 143 = .ok (.iconst 4, 1) := by decide +kernel
theorem dX12_named_144 : decode cX12_named 144 = .ok (.if_icmp .ne 18, 3) := by decide +kernel
theorem dX12_named_147 : decode cX12_named 147 = .ok (.iload_n 3, 1) := by decide +kernel
theorem dX12_named_148 : decode cX12_named 148 = .ok (.ifCond .ge 10, 3) := by decide +kernel
theorem dX12_named_151 : decode cX12_named 151 = .ok (.iload_n 3, 1) := by decide +kernel
theorem dX12_named_152 : decode cX12_named 152 = .ok (.bipush 72, 2) := by decide +kernel
theorem dX12_named_154 : decode cX12_named 154 = .ok (.iadd, 1) := by decide +kernel
theorem dX12_named_155 : decode cX12_named 155 = .ok (.goto 28, 3) := by decide +kernel
theorem dX12_named_158 : decode cX12_named 158 = .ok (.iload_n 3, 1) := by decide +kernel
theorem dX12_named_159 : decode cX12_named 159 = .ok (.goto 24, 3) := by decide +kernel
theorem dX12_named_162 : decode cX12_named 162 = .ok (.iload_n 1, 1) := by decide +kernel
theorem dX12_named_163 : decode cX12_named 163 = .ok (.iconst 5, 1) := by decide +kernel
theorem dX12_named_164 : decode cX12_named 164 = .ok (.if_icmp .ne 17, 3) := by decide +kernel
theorem dX12_named_167 : decode cX12_named 167 = .ok (.aload_n 0, 1) := by decide +kernel
theorem dX12_named_168 : decode cX12_named 168 = .ok (.getfield 59, 3) := by decide +kernel
theorem dX12_named_171 : decode cX12_named 171 = .ok (.aload_n 0, 1) := by decide +kernel
theorem dX12_named_172 : decode cX12_named 172 = .ok (.invokevirtual 317, 3) := by decide +kernel
theorem dX12_named_175 : decode cX12_named 175 = .ok (.invokestatic 295, 3) := by decide +kernel
theorem dX12_named_178 : decode cX12_named 178 = .ok (.goto 5, 3) := by decide +kernel
theorem dX12_named_181 : decode cX12_named 181 = .ok (.iload 4, 2) := by decide +kernel
theorem dX12_named_183 : decode cX12_named 183 = .ok (.ireturn, 1) := by decide +kernel
theorem dX12_nameHere_0 : decode cX12_nameHere 0 = .ok (.aload_n 0, 1) := by decide +kernel
theorem dX12_nameHere_1 : decode cX12_nameHere 1 = .ok (.invokevirtual 361, 3) := by decide +kernel
theorem dX12_nameHere_4 : decode cX12_nameHere 4 = .ok (.istore_n 1, 1) := by decide +kernel
theorem dX12_nameHere_5 : decode cX12_nameHere 5 = .ok (.iload_n 1, 1) := by decide +kernel
theorem dX12_nameHere_6 : decode cX12_nameHere 6 = .ok (.bipush 18, 2) := by decide +kernel
theorem dX12_nameHere_8 : decode cX12_nameHere 8 = .ok (.bipush 8, 2) := by decide +kernel
theorem dX12_nameHere_10 : decode cX12_nameHere 10 = .ok (.bipush 15, 2) := by decide +kernel
theorem dX12_nameHere_12 : decode cX12_nameHere 12 = .ok (.iconst 0, 1) := by decide +kernel
theorem dX12_nameHere_13 : decode cX12_nameHere 13 = .ok (.iconst 0, 1) := by decide +kernel
theorem dX12_nameHere_14 : decode cX12_nameHere 14 = .ok (.invokestatic 364, 3) := by decide +kernel
theorem dX12_nameHere_17 : decode cX12_nameHere 17 = .ok (.if_icmp .ne 5, 3) := by decide +kernel
theorem dX12_nameHere_20 : decode cX12_nameHere 20 = .ok (.iconst 0, 1) := by decide +kernel
theorem dX12_nameHere_21 : decode cX12_nameHere 21 = .ok (.ireturn, 1) := by decide +kernel
theorem dX12_nameHere_22 : decode cX12_nameHere 22 = .ok (.iload_n 1, 1) := by decide +kernel
theorem dX12_nameHere_23 : decode cX12_nameHere 23 = .ok (.iconst 1, 1) := by decide +kernel
theorem dX12_nameHere_24 : decode cX12_nameHere 24 = .ok (.bipush 14, 2) := by decide +kernel
theorem dX12_nameHere_26 : decode cX12_nameHere 26 = .ok (.bipush 7, 2) := by decide +kernel
theorem dX12_nameHere_28 : decode cX12_nameHere 28 = .ok (.bipush 12, 2) := by decide +kernel
theorem dX12_nameHere_30 : decode cX12_nameHere 30 = .ok (.iconst 5, 1) := by decide +kernel
theorem dX12_nameHere_31 : decode cX12_nameHere 31 = .ok (.invokestatic 364, 3) := by decide +kernel
theorem dX12_nameHere_34 : decode cX12_nameHere 34 = .ok (.if_icmp .ne 5, 3) := by decide +kernel
theorem dX12_nameHere_37 : decode cX12_nameHere 37 = .ok (.iconst 1, 1) := by decide +kernel
theorem dX12_nameHere_38 : decode cX12_nameHere 38 = .ok (.ireturn, 1) := by decide +kernel
theorem dX12_nameHere_39 : decode cX12_nameHere 39 = .ok (.iload_n 1, 1) := by decide +kernel
theorem dX12_nameHere_40 : decode cX12_nameHere 40 = .ok (.iconst 4, 1) := by decide +kernel
theorem dX12_nameHere_41 : decode cX12_nameHere 41 = .ok (.iconst 1, 1) := by decide +kernel
theorem dX12_nameHere_42 : decode cX12_nameHere 42 = .ok (.bipush 25, 2) := by decide +kernel
theorem dX12_nameHere_44 : decode cX12_nameHere 44 = .ok (.iconst 0, 1) := by decide +kernel
theorem dX12_nameHere_45 : decode cX12_nameHere 45 = .ok (.iconst 0, 1) := by decide +kernel
theorem dX12_nameHere_46 : decode cX12_nameHere 46 = .ok (.invokestatic 364, 3) := by decide +kernel
theorem dX12_nameHere_49 : decode cX12_nameHere 49 = .ok (.if_icmp .ne 5, 3) := by decide +kernel
theorem dX12_nameHere_52 : decode cX12_nameHere 52 = .ok (.iconst 2, 1) := by decide +kernel
theorem dX12_nameHere_53 : decode cX12_nameHere 53 = .ok (.ireturn, 1) := by decide +kernel
theorem dX12_nameHere_54 : decode cX12_nameHere 54 = .ok (.iload_n 1, 1) := by decide +kernel
theorem dX12_nameHere_55 : decode cX12_nameHere 55 = .ok (.bipush 6, 2) := by decide +kernel
theorem dX12_nameHere_57 : decode cX12_nameHere 57 = .ok (.iconst 1, 1) := by decide +kernel
theorem dX12_nameHere_58 : decode cX12_nameHere 58 = .ok (.bipush 18, 2) := by decide +kernel
theorem dX12_nameHere_60 : decode cX12_nameHere 60 = .ok (.iconst 0, 1) := by decide +kernel
theorem dX12_nameHere_61 : decode cX12_nameHere 61 = .ok (.iconst 0, 1) := by decide +kernel
theorem dX12_nameHere_62 : decode cX12_nameHere 62 = .ok (.invokestatic 364, 3) := by decide +kernel
theorem dX12_nameHere_65 : decode cX12_nameHere 65 = .ok (.if_icmp .ne 5, 3) := by decide +kernel
theorem dX12_nameHere_68 : decode cX12_nameHere 68 = .ok (.iconst 3, 1) := by decide +kernel
theorem dX12_nameHere_69 : decode cX12_nameHere 69 = .ok (.ireturn, 1) := by decide +kernel
theorem dX12_nameHere_70 : decode cX12_nameHere 70 = .ok (.iload_n 1, 1) := by decide +kernel
theorem dX12_nameHere_71 : decode cX12_nameHere 71 = .ok (.bipush 12, 2) := by decide +kernel
theorem dX12_nameHere_73 : decode cX12_nameHere 73 = .ok (.iconst 5, 1) := by decide +kernel
theorem dX12_nameHere_74 : decode cX12_nameHere 74 = .ok (.iconst 1, 1) := by decide +kernel
theorem dX12_nameHere_75 : decode cX12_nameHere 75 = .ok (.iconst 4, 1) := by decide +kernel
theorem dX12_nameHere_76 : decode cX12_nameHere 76 = .ok (.iconst 0, 1) := by decide +kernel
theorem dX12_nameHere_77 : decode cX12_nameHere 77 = .ok (.invokestatic 364, 3) := by decide +kernel
theorem dX12_nameHere_80 : decode cX12_nameHere 80 = .ok (.if_icmp .ne 5, 3) := by decide +kernel
theorem dX12_nameHere_83 : decode cX12_nameHere 83 = .ok (.iconst 4, 1) := by decide +kernel
theorem dX12_nameHere_84 : decode cX12_nameHere 84 = .ok (.ireturn, 1) := by decide +kernel
theorem dX12_nameHere_85 : decode cX12_nameHere 85 = .ok (.iload_n 1, 1) := by decide +kernel
theorem dX12_nameHere_86 : decode cX12_nameHere 86 = .ok (.bipush 19, 2) := by decide +kernel
theorem dX12_nameHere_88 : decode cX12_nameHere 88 = .ok (.bipush 20, 2) := by decide +kernel
theorem dX12_nameHere_90 : decode cX12_nameHere 90 = .ok (.iconst 5, 1) := by decide +kernel
theorem dX12_nameHere_91 : decode cX12_nameHere 91 = .ok (.bipush 16, 2) := by decide +kernel
theorem dX12_nameHere_93 : decode cX12_nameHere 93 = .ok (.bipush 19, 2) := by decide +kernel
theorem dX12_nameHere_95 : decode cX12_nameHere 95 = .ok (.invokestatic 364, 3) := by decide +kernel
theorem dX12_nameHere_98 : decode cX12_nameHere 98 = .ok (.if_icmp .ne 5, 3) := by decide +kernel
theorem dX12_nameHere_101 : decode cX12_nameHere 101 = .ok (.iconst 5, 1) := by decide +kernel
theorem dX12_nameHere_102 : decode cX12_nameHere 102 = .ok (.ireturn, 1) := by decide +kernel
theorem dX12_nameHere_103 : decode cX12_nameHere 103 = .ok (.iload_n 1, 1) := by decide +kernel
theorem dX12_nameHere_104 : decode cX12_nameHere 104 = .ok (.bipush 20, 2) := by decide +kernel
theorem dX12_nameHere_106 : decode cX12_nameHere 106 = .ok (.bipush 15, 2) := by decide +kernel
theorem dX12_nameHere_108 : decode cX12_nameHere 108 = .ok (.bipush 18, 2) := by decide +kernel
theorem dX12_nameHere_110 : decode cX12_nameHere 110 = .ok (.bipush 14, 2) := by decide +kernel
theorem dX12_nameHere_112 : decode cX12_nameHere 112 = .ok (.iconst 0, 1) := by decide +kernel
theorem dX12_nameHere_113 : decode cX12_nameHere 113 = .ok (.invokestatic 364, 3) := by decide +kernel
theorem dX12_nameHere_116 : decode cX12_nameHere 116 = .ok (.if_icmp .ne 8, 3) := by decide +kernel
theorem dX12_nameHere_119 : decode cX12_nameHere 119 = .ok (.bipush 6, 2) := by decide +kernel
theorem dX12_nameHere_121 : decode cX12_nameHere 121 = .ok (.goto 4, 3) := by decide +kernel
theorem dX12_nameHere_124 : decode cX12_nameHere 124 = .ok (.iconst (-1), 1) := by decide +kernel
theorem dX12_nameHere_125 : decode cX12_nameHere 125 = .ok (.ireturn, 1) := by decide +kernel
theorem dX12_unit_0 : decode cX12_unit 0 = .ok (.aload_n 0, 1) := by decide +kernel
theorem dX12_unit_1 : decode cX12_unit 1 = .ok (.getfield 339, 3) := by decide +kernel
theorem dX12_unit_4 : decode cX12_unit 4 = .ok (.ifCond .eq 5, 3) := by decide +kernel
theorem dX12_unit_7 : decode cX12_unit 7 = .ok (.iconst 0, 1) := by decide +kernel
theorem dX12_unit_8 : decode cX12_unit 8 = .ok (.ireturn, 1) := by decide +kernel
theorem dX12_unit_9 : decode cX12_unit 9 = .ok (.aload_n 0, 1) := by decide +kernel
theorem dX12_unit_10 : decode cX12_unit 10 = .ok (.invokevirtual 345, 3) := by decide +kernel
theorem dX12_unit_13 : decode cX12_unit 13 = .ok (.aload_n 0, 1) := by decide +kernel
theorem dX12_unit_14 : decode cX12_unit 14 = .ok (.aload_n 0, 1) := by decide +kernel
theorem dX12_unit_15 : decode cX12_unit 15 = .ok (.getfield 333, 3) := by decide +kernel
theorem dX12_unit_18 : decode cX12_unit 18 = .ok (.invokevirtual 336, 3) := by decide +kernel
theorem dX12_unit_21 : decode cX12_unit 21 = .ok (.invokestatic 354, 3) := by decide +kernel
theorem dX12_unit_24 : decode cX12_unit 24 = .ok (.ifCond .eq 8, 3) := by decide +kernel
theorem dX12_unit_27 : decode cX12_unit 27 = .ok (.aload_n 0, 1) := by decide +kernel
theorem dX12_unit_28 : decode cX12_unit 28 = .ok (.invokevirtual 368, 3) := by decide +kernel
theorem dX12_unit_31 : decode cX12_unit 31 = .ok (.ireturn, 1) := by decide +kernel
theorem dX12_unit_32 : decode cX12_unit 32 = .ok (.aload_n 0, 1) := by decide +kernel
theorem dX12_unit_33 : decode cX12_unit 33 = .ok (.invokevirtual 371, 3) := by decide +kernel
theorem dX12_unit_36 : decode cX12_unit 36 = .ok (.istore_n 1, 1) := by decide +kernel
theorem dX12_unit_37 : decode cX12_unit 37 = .ok (.aload_n 0, 1) := by decide +kernel
theorem dX12_unit_38 : decode cX12_unit 38 = .ok (.invokevirtual 361, 3) := by decide +kernel
theorem dX12_unit_41 : decode cX12_unit 41 = .ok (.istore_n 2, 1) := by decide +kernel
theorem dX12_unit_42 : decode cX12_unit 42 = .ok (.iload_n 1, 1) := by decide +kernel
theorem dX12_unit_43 : decode cX12_unit 43 = .ok (.iconst (-1), 1) := by decide +kernel
theorem dX12_unit_44 : decode cX12_unit 44 = .ok (.if_icmp .eq 13, 3) := by decide +kernel
theorem dX12_unit_47 : decode cX12_unit 47 = .ok (.aload_n 0, 1) := by decide +kernel
theorem dX12_unit_48 : decode cX12_unit 48 = .ok (.invokevirtual 374, 3) := by decide +kernel
theorem dX12_unit_51 : decode cX12_unit 51 = .ok (.aload_n 0, 1) := by decide +kernel
theorem dX12_unit_52 : decode cX12_unit 52 = .ok (.iload_n 1, 1) := by decide +kernel
theorem dX12_unit_53 : decode cX12_unit 53 = .ok (.invokevirtual 377, 3) := by decide +kernel
theorem dX12_unit_56 : decode cX12_unit 56 = .ok (.ireturn, 1) := by decide +kernel
theorem dX12_unit_57 : decode cX12_unit 57 = .ok (.iload_n 2, 1) := by decide +kernel
theorem dX12_unit_58 : decode cX12_unit 58 = .ok (.bipush 12, 2) := by decide +kernel
theorem dX12_unit_60 : decode cX12_unit 60 = .ok (.iconst 5, 1) := by decide +kernel
theorem dX12_unit_61 : decode cX12_unit 61 = .ok (.iconst 1, 1) := by decide +kernel
theorem dX12_unit_62 : decode cX12_unit 62 = .ok (.bipush 19, 2) := by decide +kernel
theorem dX12_unit_64 : decode cX12_unit 64 = .ok (.bipush 20, 2) := by decide +kernel
theorem dX12_unit_66 : decode cX12_unit 66 = .ok (.invokestatic 364, 3) := by decide +kernel
theorem dX12_unit_69 : decode cX12_unit 69 = .ok (.if_icmp .ne 7, 3) := by decide +kernel
theorem dX12_unit_72 : decode cX12_unit 72 = .ok (.iconst 1, 1) := by decide +kernel
theorem dX12_unit_73 : decode cX12_unit 73 = .ok (.goto 4, 3) := by decide +kernel
theorem dX12_unit_76 : decode cX12_unit 76 = .ok (.iconst 0, 1) := by decide +kernel
theorem dX12_unit_77 : decode cX12_unit 77 = .ok (.istore_n 3, 1) := by decide +kernel
theorem dX12_unit_78 : decode cX12_unit 78 = .ok (.iload_n 2, 1) := by decide +kernel
theorem dX12_unit_79 : decode cX12_unit 79 = .ok (.bipush 13, 2) := by decide +kernel
theorem dX12_unit_81 : decode cX12_unit 81 = .ok (.bipush 15, 2) := by decide +kernel
theorem dX12_unit_83 : decode cX12_unit 83 = .ok (.bipush 19, 2) := by decide +kernel
theorem dX12_unit_85 : decode cX12_unit 85 = .ok (.bipush 20, 2) := by decide +kernel
theorem dX12_unit_87 : decode cX12_unit 87 = .ok (.iconst 0, 1) := by decide +kernel
theorem dX12_unit_88 : decode cX12_unit 88 = .ok (.invokestatic 364, 3) := by decide +kernel
theorem dX12_unit_91 : decode cX12_unit 91 = .ok (.if_icmp .ne 7, 3) := by decide +kernel
theorem dX12_unit_94 : decode cX12_unit 94 = .ok (.iconst 1, 1) := by decide +kernel
theorem dX12_unit_95 : decode cX12_unit 95 = .ok (.goto 4, 3) := by decide +kernel
theorem dX12_unit_98 : decode cX12_unit 98 = .ok (.iconst 0, 1) := by decide +kernel
theorem dX12_unit_99 : decode cX12_unit 99 = .ok (.istore 4, 2) := by decide +kernel
theorem dX12_unit_101 : decode cX12_unit 101 = .ok (.iload_n 3, 1) := by decide +kernel
theorem dX12_unit_102 : decode cX12_unit 102 = .ok (.ifCond .ne 8, 3) := by decide +kernel
theorem dX12_unit_105 : decode cX12_unit 105 = .ok (.iload 4, 2) := by decide +kernel
theorem dX12_unit_107 : decode cX12_unit 107 = .ok (.ifCond .eq 7, 3) := by decide +kernel
theorem dX12_unit_110 : decode cX12_unit 110 = .ok (.aload_n 0, 1) := by decide +kernel
theorem dX12_unit_111 : decode cX12_unit 111 = .ok (.invokevirtual 374, 3) := by decide +kernel
theorem dX12_unit_114 : decode cX12_unit 114 = .ok (.aload_n 0, 1) := by decide +kernel
theorem dX12_unit_115 : decode cX12_unit 115 = .ok (.invokevirtual 345, 3) := by decide +kernel
theorem dX12_unit_118 : decode cX12_unit 118 = .ok (.aload_n 0, 1) := by decide +kernel
theorem dX12_unit_119 : decode cX12_unit 119 = .ok (.aload_n 0, 1) := by decide +kernel
theorem dX12_unit_120 : decode cX12_unit 120 = .ok (.getfield 333, 3) := by decide +kernel
theorem dX12_unit_123 : decode cX12_unit 123 = .ok (.invokevirtual 336, 3) := by decide +kernel
theorem dX12_unit_126 : decode cX12_unit 126 = .ok (.bipush 40, 2) := by decide +kernel
theorem dX12_unit_128 : decode cX12_unit 128 = .ok (.if_icmp .eq 14, 3) := by decide +kernel
theorem dX12_unit_131 : decode cX12_unit 131 = .ok (.aload_n 0, 1) := by decide +kernel
theorem dX12_unit_132 : decode cX12_unit 132 = .ok (.iconst 1, 1) := by decide +kernel
theorem dX12_unit_133 : decode cX12_unit 133 = .ok (.aload_n 0, 1) := by decide +kernel
theorem dX12_unit_134 : decode cX12_unit 134 = .ok (.getfield 333, 3) := by decide +kernel
theorem dX12_unit_137 : decode cX12_unit 137 = .ok (.invokevirtual 351, 3) := by decide +kernel
theorem dX12_unit_140 : decode cX12_unit 140 = .ok (.iconst 0, 1) := by decide +kernel
theorem dX12_unit_141 : decode cX12_unit 141 = .ok (.ireturn, 1) := by decide +kernel
theorem dX12_unit_142 : decode cX12_unit 142 = .ok (.aload_n 0, 1) := by decide +kernel
theorem dX12_unit_143 : decode cX12_unit 143 = .ok (.iconst 1, 1) := by decide +kernel
theorem dX12_unit_144 : decode cX12_unit 144 = .ok (.invokevirtual 380, 3) := by decide +kernel
theorem dX12_unit_147 : decode cX12_unit 147 = .ok (.aload_n 0, 1) := by decide +kernel
theorem dX12_unit_148 : decode cX12_unit 148 = .ok (.invokevirtual 384, 3) := by decide +kernel
theorem dX12_unit_151 : decode cX12_unit 151 = .ok (.istore 5, 2) := by decide +kernel
theorem dX12_unit_153 : decode cX12_unit 153 = .ok (.iload_n 3, 1) := by decide +kernel
theorem dX12_unit_154 : decode cX12_unit 154 = .ok (.ifCond .ne 8, 3) := by decide +kernel
theorem dX12_unit_157 : decode cX12_unit 157 = .ok (.iload 4, 2) := by decide +kernel
theorem dX12_unit_159 : decode cX12_unit 159 = .ok (.ifCond .eq 40, 3) := by decide +kernel
theorem dX12_unit_162 : decode cX12_unit 162 = .ok (.aload_n 0, 1) := by decide +kernel
theorem dX12_unit_163 : decode cX12_unit 163 = .ok (.bipush 44, 2) := by decide +kernel
theorem dX12_unit_165 : decode cX12_unit 165 = .ok (.invokevirtual 387, 3) := by decide +kernel
theorem dX12_unit_168 : decode cX12_unit 168 = .ok (.aload_n 0, 1) := by decide +kernel
theorem dX12_unit_169 : decode cX12_unit 169 = .ok (.invokevirtual 384, 3) := by decide +kernel
theorem dX12_unit_172 : decode cX12_unit 172 = .ok (.istore 6, 2) := by decide +kernel
theorem dX12_unit_174 : decode cX12_unit 174 = .ok (.iload_n 3, 1) := by decide +kernel
theorem dX12_unit_175 : decode cX12_unit 175 = .ok (.iload 6, 2) := by decide +kernel
theorem dX12_unit_177 : decode cX12_unit 177 = .ok (.iload 5, 2) := by decide +kernel
theorem dX12_unit_179 : decode cX12_unit 179 = .ok (.if_icmp .ge 7, 3) := by decide +kernel
theorem dX12_unit_182 : decode cX12_unit 182 = .ok (.iconst 1, 1) := by decide +kernel
theorem dX12_unit_183 : decode cX12_unit 183 = .ok (.goto 4, 3) := by decide +kernel
theorem dX12_unit_186 : decode cX12_unit 186 = .ok (.iconst 0, 1) := by decide +kernel
theorem dX12_unit_187 : decode cX12_unit 187 = .ok (.if_icmp .ne 8, 3) := by decide +kernel
theorem dX12_unit_190 : decode cX12_unit 190 = .ok (.iload 6, 2) := by decide +kernel
theorem dX12_unit_192 : decode cX12_unit 192 = .ok (.goto 5, 3) := by decide +kernel
theorem dX12_unit_195 : decode cX12_unit 195 = .ok (.iload 5, 2) := by decide +kernel
theorem dX12_unit_197 : decode cX12_unit 197 = .ok (.istore 5, 2) := by decide +kernel
theorem dX12_unit_199 : decode cX12_unit 199 = .ok (.aload_n 0, 1) := by decide +kernel
theorem dX12_unit_200 : decode cX12_unit 200 = .ok (.bipush 41, 2) := by decide +kernel
theorem dX12_unit_202 : decode cX12_unit 202 = .ok (.invokevirtual 387, 3) := by decide +kernel
theorem dX12_unit_205 : decode cX12_unit 205 = .ok (.aload_n 0, 1) := by decide +kernel
theorem dX12_unit_206 : decode cX12_unit 206 = .ok (.dup, 1) := by decide +kernel
theorem dX12_unit_207 : decode cX12_unit 207 = .ok (.getfield 358, 3) := by decide +kernel
theorem dX12_unit_210 : decode cX12_unit 210 = .ok (.iconst 1, 1) := by decide +kernel
theorem dX12_unit_211 : decode cX12_unit 211 = .ok (.isub, 1) := by decide +kernel
theorem dX12_unit_212 : decode cX12_unit 212 = .ok (.putfield 358, 3) := by decide +kernel
theorem dX12_unit_215 : decode cX12_unit 215 = .ok (.iload 5, 2) := by decide +kernel
theorem dX12_unit_217 : decode cX12_unit 217 = .ok (.ireturn, 1) := by decide +kernel
theorem dX12_product_0 : decode cX12_product 0 = .ok (.aload_n 0, 1) := by decide +kernel
theorem dX12_product_1 : decode cX12_product 1 = .ok (.invokevirtual 390, 3) := by decide +kernel
theorem dX12_product_4 : decode cX12_product 4 = .ok (.istore_n 1, 1) := by decide +kernel
theorem dX12_product_5 : decode cX12_product 5 = .ok (.aload_n 0, 1) := by decide +kernel
theorem dX12_product_6 : decode cX12_product 6 = .ok (.invokevirtual 345, 3) := by decide +kernel
theorem dX12_product_9 : decode cX12_product 9 = .ok (.aload_n 0, 1) := by decide +kernel
theorem dX12_product_10 : decode cX12_product 10 = .ok (.getfield 339, 3) := by decide +kernel
theorem dX12_product_13 : decode cX12_product 13 = .ok (.ifCond .ne 84, 3) := by decide +kernel
theorem dX12_product_16 : decode cX12_product 16 = .ok (.aload_n 0, 1) := by decide +kernel
theorem dX12_product_17 : decode cX12_product 17 = .ok (.aload_n 0, 1) := by decide +kernel
theorem dX12_product_18 : decode cX12_product 18 = .ok (.getfield 333, 3) := by decide +kernel
theorem dX12_product_21 : decode cX12_product 21 = .ok (.invokevirtual 336, 3) := by decide +kernel
theorem dX12_product_24 : decode cX12_product 24 = .ok (.bipush 42, 2) := by decide +kernel
theorem dX12_product_26 : decode cX12_product 26 = .ok (.if_icmp .eq 16, 3) := by decide +kernel
theorem dX12_product_29 : decode cX12_product 29 = .ok (.aload_n 0, 1) := by decide +kernel
theorem dX12_product_30 : decode cX12_product 30 = .ok (.aload_n 0, 1) := by decide +kernel
theorem dX12_product_31 : decode cX12_product 31 = .ok (.getfield 333, 3) := by decide +kernel
theorem dX12_product_34 : decode cX12_product 34 = .ok (.invokevirtual 336, 3) := by decide +kernel
theorem dX12_product_37 : decode cX12_product 37 = .ok (.bipush 47, 2) := by decide +kernel
theorem dX12_product_39 : decode cX12_product 39 = .ok (.if_icmp .ne 58, 3) := by decide +kernel
theorem dX12_product_42 : decode cX12_product 42 = .ok (.aload_n 0, 1) := by decide +kernel
theorem dX12_product_43 : decode cX12_product 43 = .ok (.aload_n 0, 1) := by decide +kernel
theorem dX12_product_44 : decode cX12_product 44 = .ok (.getfield 333, 3) := by decide +kernel
theorem dX12_product_47 : decode cX12_product 47 = .ok (.invokevirtual 336, 3) := by decide +kernel
theorem dX12_product_50 : decode cX12_product 50 = .ok (.istore_n 2, 1) := by decide +kernel
theorem dX12_product_51 : decode cX12_product 51 = .ok (.aload_n 0, 1) := by decide +kernel
theorem dX12_product_52 : decode cX12_product 52 = .ok (.dup, 1) := by decide +kernel
theorem dX12_product_53 : decode cX12_product 53 = .ok (.getfield 333, 3) := by decide +kernel
theorem dX12_product_56 : decode cX12_product 56 = .ok (.iconst 1, 1) := by decide +kernel
theorem dX12_product_57 : decode cX12_product 57 = .ok (.iadd, 1) := by decide +kernel
theorem dX12_product_58 : decode cX12_product 58 = .ok (.putfield 333, 3) := by decide +kernel
theorem dX12_product_61 : decode cX12_product 61 = .ok (.aload_n 0, 1) := by decide +kernel
theorem dX12_product_62 : decode cX12_product 62 = .ok (.invokevirtual 390, 3) := by decide +kernel
theorem dX12_product_65 : decode cX12_product 65 = .ok (.istore_n 3, 1) := by decide +kernel
theorem dX12_product_66 : decode cX12_product 66 = .ok (.iload_n 2, 1) := by decide +kernel
theorem dX12_product_67 : decode cX12_product 67 = .ok (.bipush 42, 2) := by decide +kernel
theorem dX12_product_69 : decode cX12_product 69 = .ok (.if_icmp .ne 9, 3) := by decide +kernel
theorem dX12_product_72 : decode cX12_product 72 = .ok (.iload_n 1, 1) := by decide +kernel
theorem dX12_product_73 : decode cX12_product 73 = .ok (.iload_n 3, 1) := by decide +kernel
theorem dX12_product_74 : decode cX12_product 74 = .ok (.imul, 1) := by decide +kernel
theorem dX12_product_75 : decode cX12_product 75 = .ok (.goto 14, 3) := by decide +kernel
theorem dX12_product_78 : decode cX12_product 78 = .ok (.iload_n 3, 1) := by decide +kernel
theorem dX12_product_79 : decode cX12_product 79 = .ok (.ifCond .ne 7, 3) := by decide +kernel
theorem dX12_product_82 : decode cX12_product 82 = .ok (.iconst 0, 1) := by decide +kernel
theorem dX12_product_83 : decode cX12_product 83 = .ok (.goto 6, 3) := by decide +kernel
theorem dX12_product_86 : decode cX12_product 86 = .ok (.iload_n 1, 1) := by decide +kernel
theorem dX12_product_87 : decode cX12_product 87 = .ok (.iload_n 3, 1) := by decide +kernel
theorem dX12_product_88 : decode cX12_product 88 = .ok (.idiv, 1) := by decide +kernel
theorem dX12_product_89 : decode cX12_product 89 = .ok (.istore_n 1, 1) := by decide +kernel
theorem dX12_product_90 : decode cX12_product 90 = .ok (.aload_n 0, 1) := by decide +kernel
theorem dX12_product_91 : decode cX12_product 91 = .ok (.invokevirtual 345, 3) := by decide +kernel
theorem dX12_product_94 : decode cX12_product 94 = .ok (.goto (-85), 3) := by decide +kernel
theorem dX12_product_97 : decode cX12_product 97 = .ok (.iload_n 1, 1) := by decide +kernel
theorem dX12_product_98 : decode cX12_product 98 = .ok (.ireturn, 1) := by decide +kernel
theorem dX12_sum_0 : decode cX12_sum 0 = .ok (.aload_n 0, 1) := by decide +kernel
theorem dX12_sum_1 : decode cX12_sum 1 = .ok (.invokevirtual 393, 3) := by decide +kernel
theorem dX12_sum_4 : decode cX12_sum 4 = .ok (.istore_n 1, 1) := by decide +kernel
theorem dX12_sum_5 : decode cX12_sum 5 = .ok (.aload_n 0, 1) := by decide +kernel
theorem dX12_sum_6 : decode cX12_sum 6 = .ok (.invokevirtual 345, 3) := by decide +kernel
theorem dX12_sum_9 : decode cX12_sum 9 = .ok (.aload_n 0, 1) := by decide +kernel
theorem dX12_sum_10 : decode cX12_sum 10 = .ok (.getfield 339, 3) := by decide +kernel
theorem dX12_sum_13 : decode cX12_sum 13 = .ok (.ifCond .ne 76, 3) := by decide +kernel
theorem dX12_sum_16 : decode cX12_sum 16 = .ok (.aload_n 0, 1) := by decide +kernel
theorem dX12_sum_17 : decode cX12_sum 17 = .ok (.aload_n 0, 1) := by decide +kernel
theorem dX12_sum_18 : decode cX12_sum 18 = .ok (.getfield 333, 3) := by decide +kernel
theorem dX12_sum_21 : decode cX12_sum 21 = .ok (.invokevirtual 336, 3) := by decide +kernel
theorem dX12_sum_24 : decode cX12_sum 24 = .ok (.bipush 43, 2) := by decide +kernel
theorem dX12_sum_26 : decode cX12_sum 26 = .ok (.if_icmp .eq 16, 3) := by decide +kernel
theorem dX12_sum_29 : decode cX12_sum 29 = .ok (.aload_n 0, 1) := by decide +kernel
theorem dX12_sum_30 : decode cX12_sum 30 = .ok (.aload_n 0, 1) := by decide +kernel
theorem dX12_sum_31 : decode cX12_sum 31 = .ok (.getfield 333, 3) := by decide +kernel
theorem dX12_sum_34 : decode cX12_sum 34 = .ok (.invokevirtual 336, 3) := by decide +kernel
theorem dX12_sum_37 : decode cX12_sum 37 = .ok (.bipush 45, 2) := by decide +kernel
theorem dX12_sum_39 : decode cX12_sum 39 = .ok (.if_icmp .ne 50, 3) := by decide +kernel
theorem dX12_sum_42 : decode cX12_sum 42 = .ok (.aload_n 0, 1) := by decide +kernel
theorem dX12_sum_43 : decode cX12_sum 43 = .ok (.aload_n 0, 1) := by decide +kernel
theorem dX12_sum_44 : decode cX12_sum 44 = .ok (.getfield 333, 3) := by decide +kernel
theorem dX12_sum_47 : decode cX12_sum 47 = .ok (.invokevirtual 336, 3) := by decide +kernel
theorem dX12_sum_50 : decode cX12_sum 50 = .ok (.istore_n 2, 1) := by decide +kernel
theorem dX12_sum_51 : decode cX12_sum 51 = .ok (.aload_n 0, 1) := by decide +kernel
theorem dX12_sum_52 : decode cX12_sum 52 = .ok (.dup, 1) := by decide +kernel
theorem dX12_sum_53 : decode cX12_sum 53 = .ok (.getfield 333, 3) := by decide +kernel
theorem dX12_sum_56 : decode cX12_sum 56 = .ok (.iconst 1, 1) := by decide +kernel
theorem dX12_sum_57 : decode cX12_sum 57 = .ok (.iadd, 1) := by decide +kernel
theorem dX12_sum_58 : decode cX12_sum 58 = .ok (.putfield 333, 3) := by decide +kernel
theorem dX12_sum_61 : decode cX12_sum 61 = .ok (.aload_n 0, 1) := by decide +kernel
theorem dX12_sum_62 : decode cX12_sum 62 = .ok (.invokevirtual 393, 3) := by decide +kernel
theorem dX12_sum_65 : decode cX12_sum 65 = .ok (.istore_n 3, 1) := by decide +kernel
theorem dX12_sum_66 : decode cX12_sum 66 = .ok (.iload_n 2, 1) := by decide +kernel
theorem dX12_sum_67 : decode cX12_sum 67 = .ok (.bipush 43, 2) := by decide +kernel
theorem dX12_sum_69 : decode cX12_sum 69 = .ok (.if_icmp .ne 9, 3) := by decide +kernel
theorem dX12_sum_72 : decode cX12_sum 72 = .ok (.iload_n 1, 1) := by decide +kernel
theorem dX12_sum_73 : decode cX12_sum 73 = .ok (.iload_n 3, 1) := by decide +kernel
theorem dX12_sum_74 : decode cX12_sum 74 = .ok (.iadd, 1) := by decide +kernel
theorem dX12_sum_75 : decode cX12_sum 75 = .ok (.goto 6, 3) := by decide +kernel
theorem dX12_sum_78 : decode cX12_sum 78 = .ok (.iload_n 1, 1) := by decide +kernel
theorem dX12_sum_79 : decode cX12_sum 79 = .ok (.iload_n 3, 1) := by decide +kernel
theorem dX12_sum_80 : decode cX12_sum 80 = .ok (.isub, 1) := by decide +kernel
theorem dX12_sum_81 : decode cX12_sum 81 = .ok (.istore_n 1, 1) := by decide +kernel
theorem dX12_sum_82 : decode cX12_sum 82 = .ok (.aload_n 0, 1) := by decide +kernel
theorem dX12_sum_83 : decode cX12_sum 83 = .ok (.invokevirtual 345, 3) := by decide +kernel
theorem dX12_sum_86 : decode cX12_sum 86 = .ok (.goto (-77), 3) := by decide +kernel
theorem dX12_sum_89 : decode cX12_sum 89 = .ok (.iload_n 1, 1) := by decide +kernel
theorem dX12_sum_90 : decode cX12_sum 90 = .ok (.ireturn, 1) := by decide +kernel
theorem dX12_test_0 : decode cX12_test 0 = .ok (.aload_n 0, 1) := by decide +kernel
theorem dX12_test_1 : decode cX12_test 1 = .ok (.getfield 339, 3) := by decide +kernel
theorem dX12_test_4 : decode cX12_test 4 = .ok (.ifCond .eq 5, 3) := by decide +kernel
theorem dX12_test_7 : decode cX12_test 7 = .ok (.iconst 0, 1) := by decide +kernel
theorem dX12_test_8 : decode cX12_test 8 = .ok (.ireturn, 1) := by decide +kernel
theorem dX12_test_9 : decode cX12_test 9 = .ok (.aload_n 0, 1) := by decide +kernel
theorem dX12_test_10 : decode cX12_test 10 = .ok (.invokevirtual 361, 3) := by decide +kernel
theorem dX12_test_13 : decode cX12_test 13 = .ok (.bipush 14, 2) := by decide +kernel
theorem dX12_test_15 : decode cX12_test 15 = .ok (.bipush 15, 2) := by decide +kernel
theorem dX12_test_17 : decode cX12_test 17 = .ok (.bipush 20, 2) := by decide +kernel
theorem dX12_test_19 : decode cX12_test 19 = .ok (.iconst 0, 1) := by decide +kernel
theorem dX12_test_20 : decode cX12_test 20 = .ok (.iconst 0, 1) := by decide +kernel
theorem dX12_test_21 : decode cX12_test 21 = .ok (.invokestatic 364, 3) := by decide +kernel
theorem dX12_test_24 : decode cX12_test 24 = .ok (.if_icmp .ne 33, 3) := by decide +kernel
theorem dX12_test_27 : decode cX12_test 27 = .ok (.aload_n 0, 1) := by decide +kernel
theorem dX12_test_28 : decode cX12_test 28 = .ok (.iconst 3, 1) := by decide +kernel
theorem dX12_test_29 : decode cX12_test 29 = .ok (.invokevirtual 380, 3) := by decide +kernel
theorem dX12_test_32 : decode cX12_test 32 = .ok (.aload_n 0, 1) := by decide +kernel
theorem dX12_test_33 : decode cX12_test 33 = .ok (.invokevirtual 396, 3) := by decide +kernel
theorem dX12_test_36 : decode cX12_test 36 = .ok (.ifCond .ne 7, 3) := by decide +kernel
theorem dX12_test_39 : decode cX12_test 39 = .ok (.iconst 1, 1) := by decide +kernel
theorem dX12_test_40 : decode cX12_test 40 = .ok (.goto 4, 3) := by decide +kernel
theorem dX12_test_43 : decode cX12_test 43 = .ok (.iconst 0, 1) := by decide +kernel
theorem dX12_test_44 : decode cX12_test 44 = .ok (.istore_n 1, 1) := by decide +kernel
theorem dX12_test_45 : decode cX12_test 45 = .ok (.aload_n 0, 1) := by decide +kernel
theorem dX12_test_46 : decode cX12_test 46 = .ok (.dup, 1) := by decide +kernel
theorem dX12_test_47 : decode cX12_test 47 = .ok (.getfield 358, 3) := by decide +kernel
theorem dX12_test_50 : decode cX12_test 50 = .ok (.iconst 1, 1) := by decide +kernel
theorem dX12_test_51 : decode cX12_test 51 = .ok (.isub, 1) := by decide +kernel
theorem dX12_test_52 : decode cX12_test 52 = .ok (.putfield 358, 3) := by decide +kernel
theorem dX12_test_55 : decode cX12_test 55 = .ok (.iload_n 1, 1) := by decide +kernel
theorem dX12_test_56 : decode cX12_test 56 = .ok (.ireturn, 1) := by decide +kernel
theorem dX12_test_57 : decode cX12_test 57 = .ok (.aload_n 0, 1) := by decide +kernel
theorem dX12_test_58 : decode cX12_test 58 = .ok (.aload_n 0, 1) := by decide +kernel
theorem dX12_test_59 : decode cX12_test 59 = .ok (.getfield 333, 3) := by decide +kernel
theorem dX12_test_62 : decode cX12_test 62 = .ok (.invokevirtual 336, 3) := by decide +kernel
theorem dX12_test_65 : decode cX12_test 65 = .ok (.bipush 91, 2) := by decide +kernel
theorem dX12_test_67 : decode cX12_test 67 = .ok (.if_icmp .ne 31, 3) := by decide +kernel
theorem dX12_test_70 : decode cX12_test 70 = .ok (.aload_n 0, 1) := by decide +kernel
theorem dX12_test_71 : decode cX12_test 71 = .ok (.iconst 1, 1) := by decide +kernel
theorem dX12_test_72 : decode cX12_test 72 = .ok (.invokevirtual 380, 3) := by decide +kernel
theorem dX12_test_75 : decode cX12_test 75 = .ok (.aload_n 0, 1) := by decide +kernel
theorem dX12_test_76 : decode cX12_test 76 = .ok (.invokevirtual 400, 3) := by decide +kernel
theorem dX12_test_79 : decode cX12_test 79 = .ok (.istore_n 1, 1) := by decide +kernel
theorem dX12_test_80 : decode cX12_test 80 = .ok (.aload_n 0, 1) := by decide +kernel
theorem dX12_test_81 : decode cX12_test 81 = .ok (.bipush 93, 2) := by decide +kernel
theorem dX12_test_83 : decode cX12_test 83 = .ok (.invokevirtual 387, 3) := by decide +kernel
theorem dX12_test_86 : decode cX12_test 86 = .ok (.aload_n 0, 1) := by decide +kernel
theorem dX12_test_87 : decode cX12_test 87 = .ok (.dup, 1) := by decide +kernel
theorem dX12_test_88 : decode cX12_test 88 = .ok (.getfield 358, 3) := by decide +kernel
theorem dX12_test_91 : decode cX12_test 91 = .ok (.iconst 1, 1) := by decide +kernel
theorem dX12_test_92 : decode cX12_test 92 = .ok (.isub, 1) := by decide +kernel
theorem dX12_test_93 : decode cX12_test 93 = .ok (.putfield 358, 3) := by decide +kernel
theorem dX12_test_96 : decode cX12_test 96 = .ok (.iload_n 1, 1) := by decide +kernel
theorem dX12_test_97 : decode cX12_test 97 = .ok (.ireturn, 1) := by decide +kernel
theorem dX12_test_98 : decode cX12_test 98 = .ok (.aload_n 0, 1) := by decide +kernel
theorem dX12_test_99 : decode cX12_test 99 = .ok (.invokevirtual 384, 3) := by decide +kernel
theorem dX12_test_102 : decode cX12_test 102 = .ok (.istore_n 1, 1) := by decide +kernel
theorem dX12_test_103 : decode cX12_test 103 = .ok (.aload_n 0, 1) := by decide +kernel
theorem dX12_test_104 : decode cX12_test 104 = .ok (.invokevirtual 345, 3) := by decide +kernel
theorem dX12_test_107 : decode cX12_test 107 = .ok (.aload_n 0, 1) := by decide +kernel
theorem dX12_test_108 : decode cX12_test 108 = .ok (.aload_n 0, 1) := by decide +kernel
theorem dX12_test_109 : decode cX12_test 109 = .ok (.getfield 333, 3) := by decide +kernel
theorem dX12_test_112 : decode cX12_test 112 = .ok (.invokevirtual 336, 3) := by decide +kernel
theorem dX12_test_115 : decode cX12_test 115 = .ok (.istore_n 2, 1) := by decide +kernel
theorem dX12_test_116 : decode cX12_test 116 = .ok (.iload_n 2, 1) := by decide +kernel
theorem dX12_test_117 : decode cX12_test 117 = .ok (.bipush 60, 2) := by decide +kernel
theorem dX12_test_119 : decode cX12_test 119 = .ok (.if_icmp .eq 24, 3) := by decide +kernel
theorem dX12_test_122 : decode cX12_test 122 = .ok (.iload_n 2, 1) := by decide +kernel
theorem dX12_test_123 : decode cX12_test 123 = .ok (.bipush 62, 2) := by decide +kernel
theorem dX12_test_125 : decode cX12_test 125 = .ok (.if_icmp .eq 18, 3) := by decide +kernel
theorem dX12_test_128 : decode cX12_test 128 = .ok (.iload_n 2, 1) := by decide +kernel
theorem dX12_test_129 : decode cX12_test 129 = .ok (.bipush 61, 2) := by decide +kernel
theorem dX12_test_131 : decode cX12_test 131 = .ok (.if_icmp .eq 12, 3) := by decide +kernel
theorem dX12_test_134 : decode cX12_test 134 = .ok (.aload_n 0, 1) := by decide +kernel
theorem dX12_test_135 : decode cX12_test 135 = .ok (.iconst 1, 1) := by decide +kernel
theorem dX12_test_136 : decode cX12_test 136 = .ok (.aload_n 0, 1) := by decide +kernel
theorem dX12_test_137 : decode cX12_test 137 = .ok (.getfield 333, 3) := by decide +kernel
theorem dX12_test_140 : decode cX12_test 140 = .ok (.invokevirtual 351, 3) := by decide +kernel
theorem dX12_test_143 : decode cX12_test 143 = .ok (.aload_n 0, 1) := by decide +kernel
theorem dX12_test_144 : decode cX12_test 144 = .ok (.dup, 1) := by decide +kernel
theorem dX12_test_145 : decode cX12_test 145 = .ok (.getfield 333, 3) := by decide +kernel
theorem dX12_test_148 : decode cX12_test 148 = .ok (.iconst 1, 1) := by decide +kernel
theorem dX12_test_149 : decode cX12_test 149 = .ok (.iadd, 1) := by decide +kernel
theorem dX12_test_150 : decode cX12_test 150 = .ok (.putfield 333, 3) := by decide +kernel
theorem dX12_test_153 : decode cX12_test 153 = .ok (.aload_n 0, 1) := by decide +kernel
theorem dX12_test_154 : decode cX12_test 154 = .ok (.invokevirtual 384, 3) := by decide +kernel
theorem dX12_test_157 : decode cX12_test 157 = .ok (.istore_n 3, 1) := by decide +kernel
theorem dX12_test_158 : decode cX12_test 158 = .ok (.iload_n 2, 1) := by decide +kernel
theorem dX12_test_159 : decode cX12_test 159 = .ok (.bipush 60, 2) := by decide +kernel
theorem dX12_test_161 : decode cX12_test 161 = .ok (.if_icmp .ne 16, 3) := by decide +kernel
theorem dX12_test_164 : decode cX12_test 164 = .ok (.iload_n 1, 1) := by decide +kernel
theorem dX12_test_165 : decode cX12_test 165 = .ok (.iload_n 3, 1) := by decide +kernel
theorem dX12_test_166 : decode cX12_test 166 = .ok (.if_icmp .ge 7, 3) := by decide +kernel
theorem dX12_test_169 : decode cX12_test 169 = .ok (.iconst 1, 1) := by decide +kernel
theorem dX12_test_170 : decode cX12_test 170 = .ok (.goto 36, 3) := by decide +kernel
theorem dX12_test_173 : decode cX12_test 173 = .ok (.iconst 0, 1) := by decide +kernel
theorem dX12_test_174 : decode cX12_test 174 = .ok (.goto 32, 3) := by decide +kernel
theorem dX12_test_177 : decode cX12_test 177 = .ok (.iload_n 2, 1) := by decide +kernel
theorem dX12_test_178 : decode cX12_test 178 = .ok (.bipush 62, 2) := by decide +kernel
theorem dX12_test_180 : decode cX12_test 180 = .ok (.if_icmp .ne 16, 3) := by decide +kernel
theorem dX12_test_183 : decode cX12_test 183 = .ok (.iload_n 1, 1) := by decide +kernel
theorem dX12_test_184 : decode cX12_test 184 = .ok (.iload_n 3, 1) := by decide +kernel
theorem dX12_test_185 : decode cX12_test 185 = .ok (.if_icmp .le 7, 3) := by decide +kernel
theorem dX12_test_188 : decode cX12_test 188 = .ok (.iconst 1, 1) := by decide +kernel
theorem dX12_test_189 : decode cX12_test 189 = .ok (.goto 17, 3) := by decide +kernel
theorem dX12_test_192 : decode cX12_test 192 = .ok (.iconst 0, 1) := by decide +kernel
theorem dX12_test_193 : decode cX12_test 193 = .ok (.goto 13, 3) := by decide +kernel
theorem dX12_test_196 : decode cX12_test 196 = .ok (.iload_n 1, 1) := by decide +kernel
theorem dX12_test_197 : decode cX12_test 197 = .ok (.iload_n 3, 1) := by decide +kernel
theorem dX12_test_198 : decode cX12_test 198 = .ok (.if_icmp .ne 7, 3) := by decide +kernel
theorem dX12_test_201 : decode cX12_test 201 = .ok (.iconst 1, 1) := by decide +kernel
theorem dX12_test_202 : decode cX12_test 202 = .ok (.goto 4, 3) := by decide +kernel
theorem dX12_test_205 : decode cX12_test 205 = .ok (.iconst 0, 1) := by decide +kernel
theorem dX12_test_206 : decode cX12_test 206 = .ok (.ireturn, 1) := by decide +kernel
theorem dX12_ands_0 : decode cX12_ands 0 = .ok (.aload_n 0, 1) := by decide +kernel
theorem dX12_ands_1 : decode cX12_ands 1 = .ok (.invokevirtual 396, 3) := by decide +kernel
theorem dX12_ands_4 : decode cX12_ands 4 = .ok (.istore_n 1, 1) := by decide +kernel
theorem dX12_ands_5 : decode cX12_ands 5 = .ok (.aload_n 0, 1) := by decide +kernel
theorem dX12_ands_6 : decode cX12_ands 6 = .ok (.getfield 339, 3) := by decide +kernel
theorem dX12_ands_9 : decode cX12_ands 9 = .ok (.ifCond .ne 45, 3) := by decide +kernel
theorem dX12_ands_12 : decode cX12_ands 12 = .ok (.aload_n 0, 1) := by decide +kernel
theorem dX12_ands_13 : decode cX12_ands 13 = .ok (.invokevirtual 361, 3) := by decide +kernel
theorem dX12_ands_16 : decode cX12_ands 16 = .ok (.iconst 1, 1) := by decide +kernel
theorem dX12_ands_17 : decode cX12_ands 17 = .ok (.bipush 14, 2) := by decide +kernel
theorem dX12_ands_19 : decode cX12_ands 19 = .ok (.iconst 4, 1) := by decide +kernel
theorem dX12_ands_20 : decode cX12_ands 20 = .ok (.iconst 0, 1) := by decide +kernel
theorem dX12_ands_21 : decode cX12_ands 21 = .ok (.iconst 0, 1) := by decide +kernel
theorem dX12_ands_22 : decode cX12_ands 22 = .ok (.invokestatic 364, 3) := by decide +kernel
theorem dX12_ands_25 : decode cX12_ands 25 = .ok (.if_icmp .ne 29, 3) := by decide +kernel
theorem dX12_ands_28 : decode cX12_ands 28 = .ok (.aload_n 0, 1) := by decide +kernel
theorem dX12_ands_29 : decode cX12_ands 29 = .ok (.invokevirtual 374, 3) := by decide +kernel
theorem dX12_ands_32 : decode cX12_ands 32 = .ok (.aload_n 0, 1) := by decide +kernel
theorem dX12_ands_33 : decode cX12_ands 33 = .ok (.invokevirtual 396, 3) := by decide +kernel
theorem dX12_ands_36 : decode cX12_ands 36 = .ok (.istore_n 2, 1) := by decide +kernel
theorem dX12_ands_37 : decode cX12_ands 37 = .ok (.iload_n 1, 1) := by decide +kernel
theorem dX12_ands_38 : decode cX12_ands 38 = .ok (.ifCond .eq 11, 3) := by decide +kernel
theorem dX12_ands_41 : decode cX12_ands 41 = .ok (.iload_n 2, 1) := by decide +kernel
theorem dX12_ands_42 : decode cX12_ands 42 = .ok (.ifCond .eq 7, 3) := by decide +kernel
theorem dX12_ands_45 : decode cX12_ands 45 = .ok (.iconst 1, 1) := by decide +kernel
theorem dX12_ands_46 : decode cX12_ands 46 = .ok (.goto 4, 3) := by decide +kernel
theorem dX12_ands_49 : decode cX12_ands 49 = .ok (.iconst 0, 1) := by decide +kernel
theorem dX12_ands_50 : decode cX12_ands 50 = .ok (.istore_n 1, 1) := by decide +kernel
theorem dX12_ands_51 : decode cX12_ands 51 = .ok (.goto (-46), 3) := by decide +kernel
theorem dX12_ands_54 : decode cX12_ands 54 = .ok (.iload_n 1, 1) := by decide +kernel
theorem dX12_ands_55 : decode cX12_ands 55 = .ok (.ireturn, 1) := by decide +kernel
theorem dX12_ors_0 : decode cX12_ors 0 = .ok (.aload_n 0, 1) := by decide +kernel
theorem dX12_ors_1 : decode cX12_ors 1 = .ok (.invokevirtual 403, 3) := by decide +kernel
theorem dX12_ors_4 : decode cX12_ors 4 = .ok (.istore_n 1, 1) := by decide +kernel
theorem dX12_ors_5 : decode cX12_ors 5 = .ok (.aload_n 0, 1) := by decide +kernel
theorem dX12_ors_6 : decode cX12_ors 6 = .ok (.getfield 339, 3) := by decide +kernel
theorem dX12_ors_9 : decode cX12_ors 9 = .ok (.ifCond .ne 46, 3) := by decide +kernel
theorem dX12_ors_12 : decode cX12_ors 12 = .ok (.aload_n 0, 1) := by decide +kernel
theorem dX12_ors_13 : decode cX12_ors 13 = .ok (.invokevirtual 361, 3) := by decide +kernel
theorem dX12_ors_16 : decode cX12_ors 16 = .ok (.bipush 15, 2) := by decide +kernel
theorem dX12_ors_18 : decode cX12_ors 18 = .ok (.bipush 18, 2) := by decide +kernel
theorem dX12_ors_20 : decode cX12_ors 20 = .ok (.iconst 0, 1) := by decide +kernel
theorem dX12_ors_21 : decode cX12_ors 21 = .ok (.iconst 0, 1) := by decide +kernel
theorem dX12_ors_22 : decode cX12_ors 22 = .ok (.iconst 0, 1) := by decide +kernel
theorem dX12_ors_23 : decode cX12_ors 23 = .ok (.invokestatic 364, 3) := by decide +kernel
theorem dX12_ors_26 : decode cX12_ors 26 = .ok (.if_icmp .ne 29, 3) := by decide +kernel
theorem dX12_ors_29 : decode cX12_ors 29 = .ok (.aload_n 0, 1) := by decide +kernel
theorem dX12_ors_30 : decode cX12_ors 30 = .ok (.invokevirtual 374, 3) := by decide +kernel
theorem dX12_ors_33 : decode cX12_ors 33 = .ok (.aload_n 0, 1) := by decide +kernel
theorem dX12_ors_34 : decode cX12_ors 34 = .ok (.invokevirtual 403, 3) := by decide +kernel
theorem dX12_ors_37 : decode cX12_ors 37 = .ok (.istore_n 2, 1) := by decide +kernel
theorem dX12_ors_38 : decode cX12_ors 38 = .ok (.iload_n 1, 1) := by decide +kernel
theorem dX12_ors_39 : decode cX12_ors 39 = .ok (.ifCond .ne 7, 3) := by decide +kernel
theorem dX12_ors_42 : decode cX12_ors 42 = .ok (.iload_n 2, 1) := by decide +kernel
theorem dX12_ors_43 : decode cX12_ors 43 = .ok (.ifCond .eq 7, 3) := by decide +kernel
theorem dX12_ors_46 : decode cX12_ors 46 = .ok (.iconst 1, 1) := by decide +kernel
theorem dX12_ors_47 : decode cX12_ors 47 = .ok (.goto 4, 3) := by decide +kernel
theorem dX12_ors_50 : decode cX12_ors 50 = .ok (.iconst 0, 1) := by decide +kernel
theorem dX12_ors_51 : decode cX12_ors 51 = .ok (.istore_n 1, 1) := by decide +kernel
theorem dX12_ors_52 : decode cX12_ors 52 = .ok (.goto (-47), 3) := by decide +kernel
theorem dX12_ors_55 : decode cX12_ors 55 = .ok (.iload_n 1, 1) := by decide +kernel
theorem dX12_ors_56 : decode cX12_ors 56 = .ok (.ireturn, 1) := by decide +kernel
theorem dX12_readAll_0 : decode cX12_readAll 0 = .ok (.aload_n 0, 1) := by decide +kernel
theorem dX12_readAll_1 : decode cX12_readAll 1 = .ok (.iconst 0, 1) := by decide +kernel
theorem dX12_readAll_2 : decode cX12_readAll 2 = .ok (.putfield 333, 3) := by decide +kernel
theorem dX12_readAll_5 : decode cX12_readAll 5 = .ok (.aload_n 0, 1) := by decide +kernel
theorem dX12_readAll_6 : decode cX12_readAll 6 = .ok (.iconst 0, 1) := by decide +kernel
theorem dX12_readAll_7 : decode cX12_readAll 7 = .ok (.putfield 358, 3) := by decide +kernel
theorem dX12_readAll_10 : decode cX12_readAll 10 = .ok (.aload_n 0, 1) := by decide +kernel
theorem dX12_readAll_11 : decode cX12_readAll 11 = .ok (.iconst 0, 1) := by decide +kernel
theorem dX12_readAll_12 : decode cX12_readAll 12 = .ok (.putfield 339, 3) := by decide +kernel
theorem dX12_readAll_15 : decode cX12_readAll 15 = .ok (.aload_n 0, 1) := by decide +kernel
theorem dX12_readAll_16 : decode cX12_readAll 16 = .ok (.iconst (-1), 1) := by decide +kernel
theorem dX12_readAll_17 : decode cX12_readAll 17 = .ok (.putfield 342, 3) := by decide +kernel
theorem dX12_readAll_20 : decode cX12_readAll 20 = .ok (.aload_n 0, 1) := by decide +kernel
theorem dX12_readAll_21 : decode cX12_readAll 21 = .ok (.iconst 0, 1) := by decide +kernel
theorem dX12_readAll_22 : decode cX12_readAll 22 = .ok (.putfield 406, 3) := by decide +kernel
theorem dX12_readAll_25 : decode cX12_readAll 25 = .ok (.aload_n 0, 1) := by decide +kernel
theorem dX12_readAll_26 : decode cX12_readAll 26 = .ok (.iconst (-1), 1) := by decide +kernel
theorem dX12_readAll_27 : decode cX12_readAll 27 = .ok (.putfield 409, 3) := by decide +kernel
theorem dX12_readAll_30 : decode cX12_readAll 30 = .ok (.aload_n 0, 1) := by decide +kernel
theorem dX12_readAll_31 : decode cX12_readAll 31 = .ok (.iconst 1, 1) := by decide +kernel
theorem dX12_readAll_32 : decode cX12_readAll 32 = .ok (.putfield 412, 3) := by decide +kernel
theorem dX12_readAll_35 : decode cX12_readAll 35 = .ok (.aload_n 0, 1) := by decide +kernel
theorem dX12_readAll_36 : decode cX12_readAll 36 = .ok (.invokevirtual 345, 3) := by decide +kernel
theorem dX12_readAll_39 : decode cX12_readAll 39 = .ok (.aload_n 0, 1) := by decide +kernel
theorem dX12_readAll_40 : decode cX12_readAll 40 = .ok (.getfield 339, 3) := by decide +kernel
theorem dX12_readAll_43 : decode cX12_readAll 43 = .ok (.ifCond .ne 225, 3) := by decide +kernel
theorem dX12_readAll_46 : decode cX12_readAll 46 = .ok (.aload_n 0, 1) := by decide +kernel
theorem dX12_readAll_47 : decode cX12_readAll 47 = .ok (.getfield 333, 3) := by decide +kernel
theorem dX12_readAll_50 : decode cX12_readAll 50 = .ok (.aload_n 0, 1) := by decide +kernel
theorem dX12_readAll_51 : decode cX12_readAll 51 = .ok (.getfield 327, 3) := by decide +kernel
theorem dX12_readAll_54 : decode cX12_readAll 54 = .ok (.if_icmp .ge 214, 3) := by decide +kernel
theorem dX12_readAll_57 : decode cX12_readAll 57 = .ok (.aload_n 0, 1) := by decide +kernel
theorem dX12_readAll_58 : decode cX12_readAll 58 = .ok (.invokevirtual 361, 3) := by decide +kernel
theorem dX12_readAll_61 : decode cX12_readAll 61 = .ok (.istore_n 1, 1) := by decide +kernel
theorem dX12_readAll_62 : decode cX12_readAll 62 = .ok (.iload_n 1, 1) := by decide +kernel
theorem dX12_readAll_63 : decode cX12_readAll 63 = .ok (.bipush 9, 2) := by decide +kernel
theorem dX12_readAll_65 : decode cX12_readAll 65 = .ok (.bipush 14, 2) := by decide +kernel
theorem dX12_readAll_67 : decode cX12_readAll 67 = .ok (.iconst 0, 1) := by decide +kernel
theorem dX12_readAll_68 : decode cX12_readAll 68 = .ok (.iconst 0, 1) := by decide +kernel
theorem dX12_readAll_69 : decode cX12_readAll 69 = .ok (.iconst 0, 1) := by decide +kernel
theorem dX12_readAll_70 : decode cX12_readAll 70 = .ok (.invokestatic 364, 3) := by decide +kernel
theorem dX12_readAll_73 : decode cX12_readAll 73 = .ok (.if_icmp .ne 7, 3) := by decide +kernel
theorem dX12_readAll_76 : decode cX12_readAll 76 = .ok (.iconst 0, 1) := by decide +kernel
theorem dX12_readAll_77 : decode cX12_readAll 77 = .ok (.goto 41, 3) := by decide +kernel
theorem dX12_readAll_80 : decode cX12_readAll 80 = .ok (.iload_n 1, 1) := by decide +kernel
theorem dX12_readAll_81 : decode cX12_readAll 81 = .ok (.bipush 11, 2) := by decide +kernel
theorem dX12_readAll_83 : decode cX12_readAll 83 = .ok (.iconst 5, 1) := by decide +kernel
theorem dX12_readAll_84 : decode cX12_readAll 84 = .ok (.iconst 5, 1) := by decide +kernel
theorem dX12_readAll_85 : decode cX12_readAll 85 = .ok (.bipush 16, 2) := by decide +kernel
theorem dX12_readAll_87 : decode cX12_readAll 87 = .ok (.iconst 0, 1) := by decide +kernel
theorem dX12_readAll_88 : decode cX12_readAll 88 = .ok (.invokestatic 364, 3) := by decide +kernel
theorem dX12_readAll_91 : decode cX12_readAll 91 = .ok (.if_icmp .ne 7, 3) := by decide +kernel
theorem dX12_readAll_94 : decode cX12_readAll 94 = .ok (.iconst 1, 1) := by decide +kernel
theorem dX12_readAll_95 : decode cX12_readAll 95 = .ok (.goto 23, 3) := by decide +kernel
theorem dX12_readAll_98 : decode cX12_readAll 98 = .ok (.iload_n 1, 1) := by decide +kernel
theorem dX12_readAll_99 : decode cX12_readAll 99 = .ok (.bipush 15, 2) := by decide +kernel
theorem dX12_readAll_101 : decode cX12_readAll 101 = .ok (.bipush 21, 2) := by decide +kernel
theorem dX12_readAll_103 : decode cX12_readAll 103 = .ok (.bipush 20, 2) := by decide +kernel
theorem dX12_readAll_105 : decode cX12_readAll 105 = .ok (.iconst 0, 1) := by decide +kernel
theorem dX12_readAll_106 : decode cX12_readAll 106 = .ok (.iconst 0, 1) := by decide +kernel
theorem dX12_readAll_107 : decode cX12_readAll 107 = .ok (.invokestatic 364, 3) := by decide +kernel
theorem dX12_readAll_110 : decode cX12_readAll 110 = .ok (.if_icmp .ne 7, 3) := by decide +kernel
theorem dX12_readAll_113 : decode cX12_readAll 113 = .ok (.iconst 2, 1) := by decide +kernel
theorem dX12_readAll_114 : decode cX12_readAll 114 = .ok (.goto 4, 3) := by decide +kernel
theorem dX12_readAll_117 : decode cX12_readAll 117 = .ok (.iconst (-1), 1) := by decide +kernel
theorem dX12_readAll_118 : decode cX12_readAll 118 = .ok (.istore_n 2, 1) := by decide +kernel
theorem dX12_readAll_119 : decode cX12_readAll 119 = .ok (.iload_n 2, 1) := by decide +kernel
theorem dX12_readAll_120 : decode cX12_readAll 120 = .ok (.iconst (-1), 1) := by decide +kernel
theorem dX12_readAll_121 : decode cX12_readAll 121 = .ok (.if_icmp .ne 15, 3) := by decide +kernel
theorem dX12_readAll_124 : decode cX12_readAll 124 = .ok (.aload_n 0, 1) := by decide +kernel
theorem dX12_readAll_125 : decode cX12_readAll 125 = .ok (.iconst 1, 1) := by decide +kernel
theorem dX12_readAll_126 : decode cX12_readAll 126 = .ok (.aload_n 0, 1) := by decide +kernel
theorem dX12_readAll_127 : decode cX12_readAll 127 = .ok (.getfield 333, 3) := by decide +kernel
theorem dX12_readAll_130 : decode cX12_readAll 130 = .ok (.invokevirtual 351, 3) := by decide +kernel
theorem dX12_readAll_133 : decode cX12_readAll 133 = .ok (.goto 28, 3) := by decide +kernel
theorem dX12_readAll_136 : decode cX12_readAll 136 = .ok (.aload_n 0, 1) := by decide +kernel
theorem dX12_readAll_137 : decode cX12_readAll 137 = .ok (.getfield 406, 3) := by decide +kernel
theorem dX12_readAll_140 : decode cX12_readAll 140 = .ok (.bipush 16, 2) := by decide +kernel
theorem dX12_readAll_142 : decode cX12_readAll 142 = .ok (.if_icmp .ne 15, 3) := by decide +kernel
theorem dX12_readAll_145 : decode cX12_readAll 145 = .ok (.aload_n 0, 1) := by decide +kernel
theorem dX12_readAll_146 : decode cX12_readAll 146 = .ok (.iconst 3, 1) := by decide +kernel
theorem dX12_readAll_147 : decode cX12_readAll 147 = .ok (.aload_n 0, 1) := by decide +kernel
theorem dX12_readAll_148 : decode cX12_readAll 148 = .ok (.getfield 333, 3) := by decide +kernel
theorem dX12_readAll_151 : decode cX12_readAll 151 = .ok (.invokevirtual 351, 3) := by decide +kernel
theorem dX12_readAll_154 : decode cX12_readAll 154 = .ok (.goto 7, 3) := by decide +kernel
theorem dX12_readAll_157 : decode cX12_readAll 157 = .ok (.aload_n 0, 1) := by decide +kernel
theorem dX12_readAll_158 : decode cX12_readAll 158 = .ok (.invokevirtual 374, 3) := by decide +kernel
theorem dX12_readAll_161 : decode cX12_readAll 161 = .ok (.aload_n 0, 1) := by decide +kernel
theorem dX12_readAll_162 : decode cX12_readAll 162 = .ok (.getfield 339, 3) := by decide +kernel
theorem dX12_readAll_165 : decode cX12_readAll 165 = .ok (.ifCond .ne 36, 3) := by decide +kernel
theorem dX12_readAll_168 : decode cX12_readAll 168 = .ok (.aload_n 0, 1) := by decide +kernel
theorem dX12_readAll_169 : decode cX12_readAll 169 = .ok (.invokevirtual 361, 3) := by decide +kernel
theorem dX12_readAll_172 : decode cX12_readAll 172 = .ok (.bipush 9, 2) := by decide +kernel
theorem dX12_readAll_174 : decode cX12_readAll 174 = .ok (.bipush 6, 2) := by decide +kernel
theorem dX12_readAll_176 : decode cX12_readAll 176 = .ok (.iconst 0, 1) := by decide +kernel
theorem dX12_readAll_177 : decode cX12_readAll 177 = .ok (.iconst 0, 1) := by decide +kernel
theorem dX12_readAll_178 : decode cX12_readAll 178 = .ok (.iconst 0, 1) := by decide +kernel
theorem dX12_readAll_179 : decode cX12_readAll 179 = .ok (.invokestatic 364, 3) := by decide +kernel
theorem dX12_readAll_182 : decode cX12_readAll 182 = .ok (.if_icmp .ne 10, 3) := by decide +kernel
theorem dX12_readAll_185 : decode cX12_readAll 185 = .ok (.aload_n 0, 1) := by decide +kernel
theorem dX12_readAll_186 : decode cX12_readAll 186 = .ok (.invokevirtual 374, 3) := by decide +kernel
theorem dX12_readAll_189 : decode cX12_readAll 189 = .ok (.goto 12, 3) := by decide +kernel
theorem dX12_readAll_192 : decode cX12_readAll 192 = .ok (.aload_n 0, 1) := by decide +kernel
theorem dX12_readAll_193 : decode cX12_readAll 193 = .ok (.iconst 1, 1) := by decide +kernel
theorem dX12_readAll_194 : decode cX12_readAll 194 = .ok (.aload_n 0, 1) := by decide +kernel
theorem dX12_readAll_195 : decode cX12_readAll 195 = .ok (.getfield 333, 3) := by decide +kernel
theorem dX12_readAll_198 : decode cX12_readAll 198 = .ok (.invokevirtual 351, 3) := by decide +kernel
theorem dX12_readAll_201 : decode cX12_readAll 201 = .ok (.aload_n 0, 1) := by decide +kernel
theorem dX12_readAll_202 : decode cX12_readAll 202 = .ok (.invokevirtual 400, 3) := by decide +kernel
theorem dX12_readAll_205 : decode cX12_readAll 205 = .ok (.istore_n 3, 1) := by decide +kernel
theorem dX12_readAll_206 : decode cX12_readAll 206 = .ok (.aload_n 0, 1) := by decide +kernel
theorem dX12_readAll_207 : decode cX12_readAll 207 = .ok (.getfield 339, 3) := by decide +kernel
theorem dX12_readAll_210 : decode cX12_readAll 210 = .ok (.ifCond .ne 9, 3) := by decide +kernel
theorem dX12_readAll_213 : decode cX12_readAll 213 = .ok (.aload_n 0, 1) := by decide +kernel
theorem dX12_readAll_214 : decode cX12_readAll 214 = .ok (.bipush 59, 2) := by decide +kernel
theorem dX12_readAll_216 : decode cX12_readAll 216 = .ok (.invokevirtual 387, 3) := by decide +kernel
theorem dX12_readAll_219 : decode cX12_readAll 219 = .ok (.aload_n 0, 1) := by decide +kernel
theorem dX12_readAll_220 : decode cX12_readAll 220 = .ok (.getfield 339, 3) := by decide +kernel
theorem dX12_readAll_223 : decode cX12_readAll 223 = .ok (.ifCond .ne 28, 3) := by decide +kernel
theorem dX12_readAll_226 : decode cX12_readAll 226 = .ok (.iload_n 3, 1) := by decide +kernel
theorem dX12_readAll_227 : decode cX12_readAll 227 = .ok (.ifCond .eq 24, 3) := by decide +kernel
theorem dX12_readAll_230 : decode cX12_readAll 230 = .ok (.aload_n 0, 1) := by decide +kernel
theorem dX12_readAll_231 : decode cX12_readAll 231 = .ok (.getfield 409, 3) := by decide +kernel
theorem dX12_readAll_234 : decode cX12_readAll 234 = .ok (.iconst (-1), 1) := by decide +kernel
theorem dX12_readAll_235 : decode cX12_readAll 235 = .ok (.if_icmp .ne 16, 3) := by decide +kernel
theorem dX12_readAll_238 : decode cX12_readAll 238 = .ok (.aload_n 0, 1) := by decide +kernel
theorem dX12_readAll_239 : decode cX12_readAll 239 = .ok (.aload_n 0, 1) := by decide +kernel
theorem dX12_readAll_240 : decode cX12_readAll 240 = .ok (.getfield 406, 3) := by decide +kernel
theorem dX12_readAll_243 : decode cX12_readAll 243 = .ok (.putfield 409, 3) := by decide +kernel
theorem dX12_readAll_246 : decode cX12_readAll 246 = .ok (.aload_n 0, 1) := by decide +kernel
theorem dX12_readAll_247 : decode cX12_readAll 247 = .ok (.iload_n 2, 1) := by decide +kernel
theorem dX12_readAll_248 : decode cX12_readAll 248 = .ok (.putfield 412, 3) := by decide +kernel
theorem dX12_readAll_251 : decode cX12_readAll 251 = .ok (.aload_n 0, 1) := by decide +kernel
theorem dX12_readAll_252 : decode cX12_readAll 252 = .ok (.dup, 1) := by decide +kernel
theorem dX12_readAll_253 : decode cX12_readAll 253 = .ok (.getfield 406, 3) := by decide +kernel
theorem dX12_readAll_256 : decode cX12_readAll 256 = .ok (.iconst 1, 1) := by decide +kernel
theorem dX12_readAll_257 : decode cX12_readAll 257 = .ok (.iadd, 1) := by decide +kernel
theorem dX12_readAll_258 : decode cX12_readAll 258 = .ok (.putfield 406, 3) := by decide +kernel
theorem dX12_readAll_261 : decode cX12_readAll 261 = .ok (.aload_n 0, 1) := by decide +kernel
theorem dX12_readAll_262 : decode cX12_readAll 262 = .ok (.invokevirtual 345, 3) := by decide +kernel
theorem dX12_readAll_265 : decode cX12_readAll 265 = .ok (.goto (-226), 3) := by decide +kernel
theorem dX12_readAll_268 : decode cX12_readAll 268 = .ok (.return_, 1) := by decide +kernel
theorem dX12_rules_0 : decode cX12_rules 0 = .ok (.aload_n 0, 1) := by decide +kernel
theorem dX12_rules_1 : decode cX12_rules 1 = .ok (.iconst 0, 1) := by decide +kernel
theorem dX12_rules_2 : decode cX12_rules 2 = .ok (.putfield 179, 3) := by decide +kernel
theorem dX12_rules_5 : decode cX12_rules 5 = .ok (.aload_n 0, 1) := by decide +kernel
theorem dX12_rules_6 : decode cX12_rules 6 = .ok (.iload_n 1, 1) := by decide +kernel
theorem dX12_rules_7 : decode cX12_rules 7 = .ok (.iconst 0, 1) := by decide +kernel
theorem dX12_rules_8 : decode cX12_rules 8 = .ok (.aload_n 0, 1) := by decide +kernel
theorem dX12_rules_9 : decode cX12_rules 9 = .ok (.getfield 324, 3) := by decide +kernel
theorem dX12_rules_12 : decode cX12_rules 12 = .ok (.invokestatic 203, 3) := by decide +kernel
theorem dX12_rules_15 : decode cX12_rules 15 = .ok (.ifCond .ne 7, 3) := by decide +kernel
theorem dX12_rules_18 : decode cX12_rules 18 = .ok (.iconst 1, 1) := by decide +kernel
theorem dX12_rules_19 : decode cX12_rules 19 = .ok (.goto 4, 3) := by decide +kernel
theorem dX12_rules_22 : decode cX12_rules 22 = .ok (.iconst 0, 1) := by decide +kernel
theorem dX12_rules_23 : decode cX12_rules 23 = .ok (.iconst 1, 1) := by decide +kernel
theorem dX12_rules_24 : decode cX12_rules 24 = .ok (.invokevirtual 207, 3) := by decide +kernel
theorem dX12_rules_27 : decode cX12_rules 27 = .ok (.ifCond .eq 5, 3) := by decide +kernel
theorem dX12_rules_30 : decode cX12_rules 30 = .ok (.iconst 0, 1) := by decide +kernel
theorem dX12_rules_31 : decode cX12_rules 31 = .ok (.ireturn, 1) := by decide +kernel
theorem dX12_rules_32 : decode cX12_rules 32 = .ok (.aload_n 0, 1) := by decide +kernel
theorem dX12_rules_33 : decode cX12_rules 33 = .ok (.iconst 0, 1) := by decide +kernel
theorem dX12_rules_34 : decode cX12_rules 34 = .ok (.putfield 330, 3) := by decide +kernel
theorem dX12_rules_37 : decode cX12_rules 37 = .ok (.aload_n 0, 1) := by decide +kernel
theorem dX12_rules_38 : decode cX12_rules 38 = .ok (.iload_n 1, 1) := by decide +kernel
theorem dX12_rules_39 : decode cX12_rules 39 = .ok (.putfield 327, 3) := by decide +kernel
theorem dX12_rules_42 : decode cX12_rules 42 = .ok (.aload_n 0, 1) := by decide +kernel
theorem dX12_rules_43 : decode cX12_rules 43 = .ok (.invokevirtual 415, 3) := by decide +kernel
theorem dX12_rules_46 : decode cX12_rules 46 = .ok (.aload_n 0, 1) := by decide +kernel
theorem dX12_rules_47 : decode cX12_rules 47 = .ok (.iconst 0, 1) := by decide +kernel
theorem dX12_rules_48 : decode cX12_rules 48 = .ok (.putfield 324, 3) := by decide +kernel
theorem dX12_rules_51 : decode cX12_rules 51 = .ok (.aload_n 0, 1) := by decide +kernel
theorem dX12_rules_52 : decode cX12_rules 52 = .ok (.aload_n 0, 1) := by decide +kernel
theorem dX12_rules_53 : decode cX12_rules 53 = .ok (.getfield 342, 3) := by decide +kernel
theorem dX12_rules_56 : decode cX12_rules 56 = .ok (.putfield 83, 3) := by decide +kernel
theorem dX12_rules_59 : decode cX12_rules 59 = .ok (.aload_n 0, 1) := by decide +kernel
theorem dX12_rules_60 : decode cX12_rules 60 = .ok (.getfield 339, 3) := by decide +kernel
theorem dX12_rules_63 : decode cX12_rules 63 = .ok (.ifCond .eq 11, 3) := by decide +kernel
theorem dX12_rules_66 : decode cX12_rules 66 = .ok (.aload_n 0, 1) := by decide +kernel
theorem dX12_rules_67 : decode cX12_rules 67 = .ok (.getfield 339, 3) := by decide +kernel
theorem dX12_rules_70 : decode cX12_rules 70 = .ok (.bipush 10, 2) := by decide +kernel
theorem dX12_rules_72 : decode cX12_rules 72 = .ok (.isub, 1) := by decide +kernel
theorem dX12_rules_73 : decode cX12_rules 73 = .ok (.ireturn, 1) := by decide +kernel
theorem dX12_rules_74 : decode cX12_rules 74 = .ok (.iconst 0, 1) := by decide +kernel
theorem dX12_rules_75 : decode cX12_rules 75 = .ok (.istore_n 2, 1) := by decide +kernel
theorem dX12_rules_76 : decode cX12_rules 76 = .ok (.iload_n 2, 1) := by decide +kernel
theorem dX12_rules_77 : decode cX12_rules 77 = .ok (.iload_n 1, 1) := by decide +kernel
theorem dX12_rules_78 : decode cX12_rules 78 = .ok (.if_icmp .ge 21, 3) := by decide +kernel
theorem dX12_rules_81 : decode cX12_rules 81 = .ok (.aload_n 0, 1) := by decide +kernel
theorem dX12_rules_82 : decode cX12_rules 82 = .ok (.getfield 89, 3) := by decide +kernel
theorem dX12_rules_85 : decode cX12_rules 85 = .ok (.iload_n 2, 1) := by decide +kernel
theorem dX12_rules_86 : decode cX12_rules 86 = .ok (.aload_n 0, 1) := by decide +kernel
theorem dX12_rules_87 : decode cX12_rules 87 = .ok (.getfield 86, 3) := by decide +kernel
theorem dX12_rules_90 : decode cX12_rules 90 = .ok (.iload_n 2, 1) := by decide +kernel
theorem dX12_rules_91 : decode cX12_rules 91 = .ok (.iaload, 1) := by decide +kernel
theorem dX12_rules_92 : decode cX12_rules 92 = .ok (.iastore, 1) := by decide +kernel
theorem dX12_rules_93 : decode cX12_rules 93 = .ok (.iinc 2 1, 3) := by decide +kernel
theorem dX12_rules_96 : decode cX12_rules 96 = .ok (.goto (-20), 3) := by decide +kernel
theorem dX12_rules_99 : decode cX12_rules 99 = .ok (.aload_n 0, 1) := by decide +kernel
theorem dX12_rules_100 : decode cX12_rules 100 = .ok (.iload_n 1, 1) := by decide +kernel
theorem dX12_rules_101 : decode cX12_rules 101 = .ok (.putfield 418, 3) := by decide +kernel
theorem dX12_rules_104 : decode cX12_rules 104 = .ok (.aload_n 0, 1) := by decide +kernel
theorem dX12_rules_105 : decode cX12_rules 105 = .ok (.aload_n 0, 1) := by decide +kernel
theorem dX12_rules_106 : decode cX12_rules 106 = .ok (.getfield 406, 3) := by decide +kernel
theorem dX12_rules_109 : decode cX12_rules 109 = .ok (.putfield 421, 3) := by decide +kernel
theorem dX12_rules_112 : decode cX12_rules 112 = .ok (.aload_n 0, 1) := by decide +kernel
theorem dX12_rules_113 : decode cX12_rules 113 = .ok (.getfield 421, 3) := by decide +kernel
theorem dX12_rules_116 : decode cX12_rules 116 = .ok (.ireturn, 1) := by decide +kernel
theorem dX12_fault_0 : decode cX12_fault 0 = .ok (.aload_n 0, 1) := by decide +kernel
theorem dX12_fault_1 : decode cX12_fault 1 = .ok (.iconst 0, 1) := by decide +kernel
theorem dX12_fault_2 : decode cX12_fault 2 = .ok (.putfield 179, 3) := by decide +kernel
theorem dX12_fault_5 : decode cX12_fault 5 = .ok (.aload_n 0, 1) := by decide +kernel
theorem dX12_fault_6 : decode cX12_fault 6 = .ok (.getfield 83, 3) := by decide +kernel
theorem dX12_fault_9 : decode cX12_fault 9 = .ok (.ireturn, 1) := by decide +kernel
theorem dX12_asked_0 : decode cX12_asked 0 = .ok (.aload_n 0, 1) := by decide +kernel
theorem dX12_asked_1 : decode cX12_asked 1 = .ok (.iconst 1, 1) := by decide +kernel
theorem dX12_asked_2 : decode cX12_asked 2 = .ok (.putfield 330, 3) := by decide +kernel
theorem dX12_asked_5 : decode cX12_asked 5 = .ok (.aload_n 0, 1) := by decide +kernel
theorem dX12_asked_6 : decode cX12_asked 6 = .ok (.aload_n 0, 1) := by decide +kernel
theorem dX12_asked_7 : decode cX12_asked 7 = .ok (.getfield 418, 3) := by decide +kernel
theorem dX12_asked_10 : decode cX12_asked 10 = .ok (.putfield 327, 3) := by decide +kernel
theorem dX12_asked_13 : decode cX12_asked 13 = .ok (.aload_n 0, 1) := by decide +kernel
theorem dX12_asked_14 : decode cX12_asked 14 = .ok (.invokevirtual 415, 3) := by decide +kernel
theorem dX12_asked_17 : decode cX12_asked 17 = .ok (.return_, 1) := by decide +kernel
theorem dX12_asks_0 : decode cX12_asks 0 = .ok (.aload_n 0, 1) := by decide +kernel
theorem dX12_asks_1 : decode cX12_asks 1 = .ok (.iconst 0, 1) := by decide +kernel
theorem dX12_asks_2 : decode cX12_asks 2 = .ok (.putfield 179, 3) := by decide +kernel
theorem dX12_asks_5 : decode cX12_asks 5 = .ok (.aload_n 0, 1) := by decide +kernel
theorem dX12_asks_6 : decode cX12_asks 6 = .ok (.invokevirtual 424, 3) := by decide +kernel
theorem dX12_asks_9 : decode cX12_asks 9 = .ok (.aload_n 0, 1) := by decide +kernel
theorem dX12_asks_10 : decode cX12_asks 10 = .ok (.getfield 409, 3) := by decide +kernel
theorem dX12_asks_13 : decode cX12_asks 13 = .ok (.iconst (-1), 1) := by decide +kernel
theorem dX12_asks_14 : decode cX12_asks 14 = .ok (.if_icmp .ne 8, 3) := by decide +kernel
theorem dX12_asks_17 : decode cX12_asks 17 = .ok (.bipush (-9), 2) := by decide +kernel
theorem dX12_asks_19 : decode cX12_asks 19 = .ok (.goto 15, 3) := by decide +kernel
theorem dX12_asks_22 : decode cX12_asks 22 = .ok (.bipush 10, 2) := by decide +kernel
theorem dX12_asks_24 : decode cX12_asks 24 = .ok (.aload_n 0, 1) := by decide +kernel
theorem dX12_asks_25 : decode cX12_asks 25 = .ok (.getfield 409, 3) := by decide +kernel
theorem dX12_asks_28 : decode cX12_asks 28 = .ok (.imul, 1) := by decide +kernel
theorem dX12_asks_29 : decode cX12_asks 29 = .ok (.aload_n 0, 1) := by decide +kernel
theorem dX12_asks_30 : decode cX12_asks 30 = .ok (.getfield 412, 3) := by decide +kernel
theorem dX12_asks_33 : decode cX12_asks 33 = .ok (.iadd, 1) := by decide +kernel
theorem dX12_asks_34 : decode cX12_asks 34 = .ok (.ireturn, 1) := by decide +kernel
theorem dX12_dust_0 : decode cX12_dust 0 = .ok (.aload_n 0, 1) := by decide +kernel
theorem dX12_dust_1 : decode cX12_dust 1 = .ok (.iconst 0, 1) := by decide +kernel
theorem dX12_dust_2 : decode cX12_dust 2 = .ok (.putfield 179, 3) := by decide +kernel
theorem dX12_dust_5 : decode cX12_dust 5 = .ok (.aload_n 0, 1) := by decide +kernel
theorem dX12_dust_6 : decode cX12_dust 6 = .ok (.iload_n 1, 1) := by decide +kernel
theorem dX12_dust_7 : decode cX12_dust 7 = .ok (.iconst 0, 1) := by decide +kernel
theorem dX12_dust_8 : decode cX12_dust 8 = .ok (.aload_n 0, 1) := by decide +kernel
theorem dX12_dust_9 : decode cX12_dust 9 = .ok (.getfield 222, 3) := by decide +kernel
theorem dX12_dust_12 : decode cX12_dust 12 = .ok (.iconst 1, 1) := by decide +kernel
theorem dX12_dust_13 : decode cX12_dust 13 = .ok (.isub, 1) := by decide +kernel
theorem dX12_dust_14 : decode cX12_dust 14 = .ok (.invokestatic 203, 3) := by decide +kernel
theorem dX12_dust_17 : decode cX12_dust 17 = .ok (.ifCond .ne 7, 3) := by decide +kernel
theorem dX12_dust_20 : decode cX12_dust 20 = .ok (.iconst 1, 1) := by decide +kernel
theorem dX12_dust_21 : decode cX12_dust 21 = .ok (.goto 4, 3) := by decide +kernel
theorem dX12_dust_24 : decode cX12_dust 24 = .ok (.iconst 0, 1) := by decide +kernel
theorem dX12_dust_25 : decode cX12_dust 25 = .ok (.iconst 1, 1) := by decide +kernel
theorem dX12_dust_26 : decode cX12_dust 26 = .ok (.invokevirtual 207, 3) := by decide +kernel
theorem dX12_dust_29 : decode cX12_dust 29 = .ok (.ifCond .ne 35, 3) := by decide +kernel
theorem dX12_dust_32 : decode cX12_dust 32 = .ok (.aload_n 0, 1) := by decide +kernel
theorem dX12_dust_33 : decode cX12_dust 33 = .ok (.iload_n 2, 1) := by decide +kernel
theorem dX12_dust_34 : decode cX12_dust 34 = .ok (.iconst 0, 1) := by decide +kernel
theorem dX12_dust_35 : decode cX12_dust 35 = .ok (.sipush 1999, 3) := by decide +kernel
theorem dX12_dust_38 : decode cX12_dust 38 = .ok (.invokestatic 203, 3) := by decide +kernel
theorem dX12_dust_41 : decode cX12_dust 41 = .ok (.ifCond .eq 11, 3) := by decide +kernel
theorem dX12_dust_44 : decode cX12_dust 44 = .ok (.iload_n 2, 1) := by decide +kernel
theorem dX12_dust_45 : decode cX12_dust 45 = .ok (.aload_n 0, 1) := by decide +kernel
theorem dX12_dust_46 : decode cX12_dust 46 = .ok (.getfield 307, 3) := by decide +kernel
theorem dX12_dust_49 : decode cX12_dust 49 = .ok (.if_icmp .ge 7, 3) := by decide +kernel
theorem dX12_dust_52 : decode cX12_dust 52 = .ok (.iconst 1, 1) := by decide +kernel
theorem dX12_dust_53 : decode cX12_dust 53 = .ok (.goto 4, 3) := by decide +kernel
theorem dX12_dust_56 : decode cX12_dust 56 = .ok (.iconst 0, 1) := by decide +kernel
theorem dX12_dust_57 : decode cX12_dust 57 = .ok (.iconst 2, 1) := by decide +kernel
theorem dX12_dust_58 : decode cX12_dust 58 = .ok (.invokevirtual 207, 3) := by decide +kernel
theorem dX12_dust_61 : decode cX12_dust 61 = .ok (.ifCond .eq 5, 3) := by decide +kernel
theorem dX12_dust_64 : decode cX12_dust 64 = .ok (.iconst 0, 1) := by decide +kernel
theorem dX12_dust_65 : decode cX12_dust 65 = .ok (.ireturn, 1) := by decide +kernel
theorem dX12_dust_66 : decode cX12_dust 66 = .ok (.aload_n 0, 1) := by decide +kernel
theorem dX12_dust_67 : decode cX12_dust 67 = .ok (.getfield 427, 3) := by decide +kernel
theorem dX12_dust_70 : decode cX12_dust 70 = .ok (.bipush 20, 2) := by decide +kernel
theorem dX12_dust_72 : decode cX12_dust 72 = .ok (.if_icmp .ne 5, 3) := by decide +kernel
theorem dX12_dust_75 : decode cX12_dust 75 = .ok (.iconst (-1), 1) := by decide +kernel
theorem dX12_dust_76 : decode cX12_dust 76 = .ok (.ireturn, 1) := by decide +kernel
theorem dX12_dust_77 : decode cX12_dust 77 = .ok (.aload_n 0, 1) := by decide +kernel
theorem dX12_dust_78 : decode cX12_dust 78 = .ok (.getfield 92, 3) := by decide +kernel
theorem dX12_dust_81 : decode cX12_dust 81 = .ok (.aload_n 0, 1) := by decide +kernel
theorem dX12_dust_82 : decode cX12_dust 82 = .ok (.getfield 427, 3) := by decide +kernel
theorem dX12_dust_85 : decode cX12_dust 85 = .ok (.iload_n 1, 1) := by decide +kernel
theorem dX12_dust_86 : decode cX12_dust 86 = .ok (.iastore, 1) := by decide +kernel
theorem dX12_dust_87 : decode cX12_dust 87 = .ok (.aload_n 0, 1) := by decide +kernel
theorem dX12_dust_88 : decode cX12_dust 88 = .ok (.getfield 95, 3) := by decide +kernel
theorem dX12_dust_91 : decode cX12_dust 91 = .ok (.aload_n 0, 1) := by decide +kernel
theorem dX12_dust_92 : decode cX12_dust 92 = .ok (.getfield 427, 3) := by decide +kernel
theorem dX12_dust_95 : decode cX12_dust 95 = .ok (.iload_n 2, 1) := by decide +kernel
theorem dX12_dust_96 : decode cX12_dust 96 = .ok (.iastore, 1) := by decide +kernel
theorem dX12_dust_97 : decode cX12_dust 97 = .ok (.aload_n 0, 1) := by decide +kernel
theorem dX12_dust_98 : decode cX12_dust 98 = .ok (.dup, 1) := by decide +kernel
theorem dX12_dust_99 : decode cX12_dust 99 = .ok (.getfield 427, 3) := by decide +kernel
theorem dX12_dust_102 : decode cX12_dust 102 = .ok (.iconst 1, 1) := by decide +kernel
theorem dX12_dust_103 : decode cX12_dust 103 = .ok (.iadd, 1) := by decide +kernel
theorem dX12_dust_104 : decode cX12_dust 104 = .ok (.putfield 427, 3) := by decide +kernel
theorem dX12_dust_107 : decode cX12_dust 107 = .ok (.aload_n 0, 1) := by decide +kernel
theorem dX12_dust_108 : decode cX12_dust 108 = .ok (.getfield 427, 3) := by decide +kernel
theorem dX12_dust_111 : decode cX12_dust 111 = .ok (.ireturn, 1) := by decide +kernel
theorem dX12_flyDay_0 : decode cX12_flyDay 0 = .ok (.aload_n 0, 1) := by decide +kernel
theorem dX12_flyDay_1 : decode cX12_flyDay 1 = .ok (.invokevirtual 317, 3) := by decide +kernel
theorem dX12_flyDay_4 : decode cX12_flyDay 4 = .ok (.istore_n 1, 1) := by decide +kernel
theorem dX12_flyDay_5 : decode cX12_flyDay 5 = .ok (.aload_n 0, 1) := by decide +kernel
theorem dX12_flyDay_6 : decode cX12_flyDay 6 = .ok (.invokevirtual 424, 3) := by decide +kernel
theorem dX12_flyDay_9 : decode cX12_flyDay 9 = .ok (.aload_n 0, 1) := by decide +kernel
theorem dX12_flyDay_10 : decode cX12_flyDay 10 = .ok (.getfield 409, 3) := by decide +kernel
theorem dX12_flyDay_13 : decode cX12_flyDay 13 = .ok (.iconst (-1), 1) := by decide +kernel
theorem dX12_flyDay_14 : decode cX12_flyDay 14 = .ok (.if_icmp .ne 7, 3) := by decide +kernel
theorem dX12_flyDay_17 : decode cX12_flyDay 17 = .ok (.iconst 1, 1) := by decide +kernel
theorem dX12_flyDay_18 : decode cX12_flyDay 18 = .ok (.goto 7, 3) := by decide +kernel
theorem dX12_flyDay_21 : decode cX12_flyDay 21 = .ok (.aload_n 0, 1) := by decide +kernel
theorem dX12_flyDay_22 : decode cX12_flyDay 22 = .ok (.getfield 412, 3) := by decide +kernel
theorem dX12_flyDay_25 : decode cX12_flyDay 25 = .ok (.istore_n 2, 1) := by decide +kernel
theorem dX12_flyDay_26 : decode cX12_flyDay 26 = .ok (.aload_n 0, 1) := by decide +kernel
theorem dX12_flyDay_27 : decode cX12_flyDay 27 = .ok (.getfield 59, 3) := by decide +kernel
theorem dX12_flyDay_30 : decode cX12_flyDay 30 = .ok (.aload_n 0, 1) := by decide +kernel
theorem dX12_flyDay_31 : decode cX12_flyDay 31 = .ok (.getfield 304, 3) := by decide +kernel
theorem dX12_flyDay_34 : decode cX12_flyDay 34 = .ok (.iload_n 2, 1) := by decide +kernel
theorem dX12_flyDay_35 : decode cX12_flyDay 35 = .ok (.iload_n 1, 1) := by decide +kernel
theorem dX12_flyDay_36 : decode cX12_flyDay 36 = .ok (.invokestatic 314, 3) := by decide +kernel
theorem dX12_flyDay_39 : decode cX12_flyDay 39 = .ok (.istore_n 3, 1) := by decide +kernel
theorem dX12_flyDay_40 : decode cX12_flyDay 40 = .ok (.iload_n 3, 1) := by decide +kernel
theorem dX12_flyDay_41 : decode cX12_flyDay 41 = .ok (.iconst (-1), 1) := by decide +kernel
theorem dX12_flyDay_42 : decode cX12_flyDay 42 = .ok (.if_icmp .ne 19, 3) := by decide +kernel
theorem dX12_flyDay_45 : decode cX12_flyDay 45 = .ok (.iconst 1, 1) := by decide +kernel
theorem dX12_flyDay_46 : decode cX12_flyDay 46 = .ok (.istore_n 2, 1) := by decide +kernel
theorem dX12_flyDay_47 : decode cX12_flyDay 47 = .ok (.aload_n 0, 1) := by decide +kernel
theorem dX12_flyDay_48 : decode cX12_flyDay 48 = .ok (.getfield 59, 3) := by decide +kernel
theorem dX12_flyDay_51 : decode cX12_flyDay 51 = .ok (.aload_n 0, 1) := by decide +kernel
theorem dX12_flyDay_52 : decode cX12_flyDay 52 = .ok (.getfield 304, 3) := by decide +kernel
theorem dX12_flyDay_55 : decode cX12_flyDay 55 = .ok (.iconst 1, 1) := by decide +kernel
theorem dX12_flyDay_56 : decode cX12_flyDay 56 = .ok (.iload_n 1, 1) := by decide +kernel
theorem dX12_flyDay_57 : decode cX12_flyDay 57 = .ok (.invokestatic 314, 3) := by decide +kernel
theorem dX12_flyDay_60 : decode cX12_flyDay 60 = .ok (.istore_n 3, 1) := by decide +kernel
theorem dX12_flyDay_61 : decode cX12_flyDay 61 = .ok (.aload_n 0, 1) := by decide +kernel
theorem dX12_flyDay_62 : decode cX12_flyDay 62 = .ok (.iload_n 3, 1) := by decide +kernel
theorem dX12_flyDay_63 : decode cX12_flyDay 63 = .ok (.bipush 72, 2) := by decide +kernel
theorem dX12_flyDay_65 : decode cX12_flyDay 65 = .ok (.idiv, 1) := by decide +kernel
theorem dX12_flyDay_66 : decode cX12_flyDay 66 = .ok (.putfield 59, 3) := by decide +kernel
theorem dX12_flyDay_69 : decode cX12_flyDay 69 = .ok (.aload_n 0, 1) := by decide +kernel
theorem dX12_flyDay_70 : decode cX12_flyDay 70 = .ok (.iload_n 3, 1) := by decide +kernel
theorem dX12_flyDay_71 : decode cX12_flyDay 71 = .ok (.bipush 72, 2) := by decide +kernel
theorem dX12_flyDay_73 : decode cX12_flyDay 73 = .ok (.irem, 1) := by decide +kernel
theorem dX12_flyDay_74 : decode cX12_flyDay 74 = .ok (.putfield 304, 3) := by decide +kernel
theorem dX12_flyDay_77 : decode cX12_flyDay 77 = .ok (.iconst 0, 1) := by decide +kernel
theorem dX12_flyDay_78 : decode cX12_flyDay 78 = .ok (.istore 4, 2) := by decide +kernel
theorem dX12_flyDay_80 : decode cX12_flyDay 80 = .ok (.iload 4, 2) := by decide +kernel
theorem dX12_flyDay_82 : decode cX12_flyDay 82 = .ok (.aload_n 0, 1) := by decide +kernel
theorem dX12_flyDay_83 : decode cX12_flyDay 83 = .ok (.getfield 427, 3) := by decide +kernel
theorem dX12_flyDay_86 : decode cX12_flyDay 86 = .ok (.if_icmp .ge 36, 3) := by decide +kernel
theorem dX12_flyDay_89 : decode cX12_flyDay 89 = .ok (.aload_n 0, 1) := by decide +kernel
theorem dX12_flyDay_90 : decode cX12_flyDay 90 = .ok (.getfield 95, 3) := by decide +kernel
theorem dX12_flyDay_93 : decode cX12_flyDay 93 = .ok (.iload 4, 2) := by decide +kernel
theorem dX12_flyDay_95 : decode cX12_flyDay 95 = .ok (.iaload, 1) := by decide +kernel
theorem dX12_flyDay_96 : decode cX12_flyDay 96 = .ok (.aload_n 0, 1) := by decide +kernel
theorem dX12_flyDay_97 : decode cX12_flyDay 97 = .ok (.getfield 307, 3) := by decide +kernel
theorem dX12_flyDay_100 : decode cX12_flyDay 100 = .ok (.if_icmp .ne 16, 3) := by decide +kernel
theorem dX12_flyDay_103 : decode cX12_flyDay 103 = .ok (.aload_n 0, 1) := by decide +kernel
theorem dX12_flyDay_104 : decode cX12_flyDay 104 = .ok (.getfield 47, 3) := by decide +kernel
theorem dX12_flyDay_107 : decode cX12_flyDay 107 = .ok (.aload_n 0, 1) := by decide +kernel
theorem dX12_flyDay_108 : decode cX12_flyDay 108 = .ok (.getfield 92, 3) := by decide +kernel
theorem dX12_flyDay_111 : decode cX12_flyDay 111 = .ok (.iload 4, 2) := by decide +kernel
theorem dX12_flyDay_113 : decode cX12_flyDay 113 = .ok (.iaload, 1) := by decide +kernel
theorem dX12_flyDay_114 : decode cX12_flyDay 114 = .ok (.iconst 1, 1) := by decide +kernel
theorem dX12_flyDay_115 : decode cX12_flyDay 115 = .ok (.bastore, 1) := by decide +kernel
theorem dX12_flyDay_116 : decode cX12_flyDay 116 = .ok (.iinc 4 1, 3) := by decide +kernel
theorem dX12_flyDay_119 : decode cX12_flyDay 119 = .ok (.goto (-39), 3) := by decide +kernel
theorem dX12_flyDay_122 : decode cX12_flyDay 122 = .ok (.iconst 0, 1) := by decide +kernel
theorem dX12_flyDay_123 : decode cX12_flyDay 123 = .ok (.istore 4, 2) := by decide +kernel
theorem dX12_flyDay_125 : decode cX12_flyDay 125 = .ok (.iload 4, 2) := by decide +kernel
theorem dX12_flyDay_127 : decode cX12_flyDay 127 = .ok (.aload_n 0, 1) := by decide +kernel
theorem dX12_flyDay_128 : decode cX12_flyDay 128 = .ok (.getfield 222, 3) := by decide +kernel
theorem dX12_flyDay_131 : decode cX12_flyDay 131 = .ok (.if_icmp .ge 165, 3) := by decide +kernel
theorem dX12_flyDay_134 : decode cX12_flyDay 134 = .ok (.aload_n 0, 1) := by decide +kernel
theorem dX12_flyDay_135 : decode cX12_flyDay 135 = .ok (.getfield 47, 3) := by decide +kernel
theorem dX12_flyDay_138 : decode cX12_flyDay 138 = .ok (.iload 4, 2) := by decide +kernel
theorem dX12_flyDay_140 : decode cX12_flyDay 140 = .ok (.baload, 1) := by decide +kernel
theorem dX12_flyDay_141 : decode cX12_flyDay 141 = .ok (.ifCond .eq 6, 3) := by decide +kernel
theorem dX12_flyDay_144 : decode cX12_flyDay 144 = .ok (.goto 146, 3) := by decide +kernel
theorem dX12_flyDay_147 : decode cX12_flyDay 147 = .ok (.aload_n 0, 1) := by decide +kernel
theorem dX12_flyDay_148 : decode cX12_flyDay 148 = .ok (.getfield 44, 3) := by decide +kernel
theorem dX12_flyDay_151 : decode cX12_flyDay 151 = .ok (.iload 4, 2) := by decide +kernel
theorem dX12_flyDay_153 : decode cX12_flyDay 153 = .ok (.aload_n 0, 1) := by decide +kernel
theorem dX12_flyDay_154 : decode cX12_flyDay 154 = .ok (.getfield 38, 3) := by decide +kernel
theorem dX12_flyDay_157 : decode cX12_flyDay 157 = .ok (.iload 4, 2) := by decide +kernel
theorem dX12_flyDay_159 : decode cX12_flyDay 159 = .ok (.iaload, 1) := by decide +kernel
theorem dX12_flyDay_160 : decode cX12_flyDay 160 = .ok (.bipush 100, 2) := by decide +kernel
theorem dX12_flyDay_162 : decode cX12_flyDay 162 = .ok (.imul, 1) := by decide +kernel
theorem dX12_flyDay_163 : decode cX12_flyDay 163 = .ok (.bipush 32, 2) := by decide +kernel
theorem dX12_flyDay_165 : decode cX12_flyDay 165 = .ok (.imul, 1) := by decide +kernel
theorem dX12_flyDay_166 : decode cX12_flyDay 166 = .ok (.aload_n 0, 1) := by decide +kernel
theorem dX12_flyDay_167 : decode cX12_flyDay 167 = .ok (.getfield 59, 3) := by decide +kernel
theorem dX12_flyDay_170 : decode cX12_flyDay 170 = .ok (.bipush 32, 2) := by decide +kernel
theorem dX12_flyDay_172 : decode cX12_flyDay 172 = .ok (.iadd, 1) := by decide +kernel
theorem dX12_flyDay_173 : decode cX12_flyDay 173 = .ok (.idiv, 1) := by decide +kernel
theorem dX12_flyDay_174 : decode cX12_flyDay 174 = .ok (.bipush 100, 2) := by decide +kernel
theorem dX12_flyDay_176 : decode cX12_flyDay 176 = .ok (.idiv, 1) := by decide +kernel
theorem dX12_flyDay_177 : decode cX12_flyDay 177 = .ok (.bipush 20, 2) := by decide +kernel
theorem dX12_flyDay_179 : decode cX12_flyDay 179 = .ok (.if_icmp .le 15, 3) := by decide +kernel
theorem dX12_flyDay_182 : decode cX12_flyDay 182 = .ok (.aload_n 0, 1) := by decide +kernel
theorem dX12_flyDay_183 : decode cX12_flyDay 183 = .ok (.getfield 44, 3) := by decide +kernel
theorem dX12_flyDay_186 : decode cX12_flyDay 186 = .ok (.iload 4, 2) := by decide +kernel
theorem dX12_flyDay_188 : decode cX12_flyDay 188 = .ok (.iaload, 1) := by decide +kernel
theorem dX12_flyDay_189 : decode cX12_flyDay 189 = .ok (.iconst 1, 1) := by decide +kernel
theorem dX12_flyDay_190 : decode cX12_flyDay 190 = .ok (.iadd, 1) := by decide +kernel
theorem dX12_flyDay_191 : decode cX12_flyDay 191 = .ok (.goto 4, 3) := by decide +kernel
theorem dX12_flyDay_194 : decode cX12_flyDay 194 = .ok (.iconst 0, 1) := by decide +kernel
theorem dX12_flyDay_195 : decode cX12_flyDay 195 = .ok (.iastore, 1) := by decide +kernel
theorem dX12_flyDay_196 : decode cX12_flyDay 196 = .ok (.aload_n 0, 1) := by decide +kernel
theorem dX12_flyDay_197 : decode cX12_flyDay 197 = .ok (.getfield 44, 3) := by decide +kernel
theorem dX12_flyDay_200 : decode cX12_flyDay 200 = .ok (.iload 4, 2) := by decide +kernel
theorem dX12_flyDay_202 : decode cX12_flyDay 202 = .ok (.iaload, 1) := by decide +kernel
theorem dX12_flyDay_203 : decode cX12_flyDay 203 = .ok (.iconst 5, 1) := by decide +kernel
theorem dX12_flyDay_204 : decode cX12_flyDay 204 = .ok (.if_icmp .ne 42, 3) := by decide +kernel
theorem dX12_flyDay_207 : decode cX12_flyDay 207 = .ok (.aload_n 0, 1) := by decide +kernel
theorem dX12_flyDay_208 : decode cX12_flyDay 208 = .ok (.getfield 41, 3) := by decide +kernel
theorem dX12_flyDay_211 : decode cX12_flyDay 211 = .ok (.iload 4, 2) := by decide +kernel
theorem dX12_flyDay_213 : decode cX12_flyDay 213 = .ok (.aload_n 0, 1) := by decide +kernel
theorem dX12_flyDay_214 : decode cX12_flyDay 214 = .ok (.getfield 41, 3) := by decide +kernel
theorem dX12_flyDay_217 : decode cX12_flyDay 217 = .ok (.iload 4, 2) := by decide +kernel
theorem dX12_flyDay_219 : decode cX12_flyDay 219 = .ok (.iaload, 1) := by decide +kernel
theorem dX12_flyDay_220 : decode cX12_flyDay 220 = .ok (.iconst 2, 1) := by decide +kernel
theorem dX12_flyDay_221 : decode cX12_flyDay 221 = .ok (.if_icmp .ge 15, 3) := by decide +kernel
theorem dX12_flyDay_224 : decode cX12_flyDay 224 = .ok (.aload_n 0, 1) := by decide +kernel
theorem dX12_flyDay_225 : decode cX12_flyDay 225 = .ok (.getfield 41, 3) := by decide +kernel
theorem dX12_flyDay_228 : decode cX12_flyDay 228 = .ok (.iload 4, 2) := by decide +kernel
theorem dX12_flyDay_230 : decode cX12_flyDay 230 = .ok (.iaload, 1) := by decide +kernel
theorem dX12_flyDay_231 : decode cX12_flyDay 231 = .ok (.iconst 1, 1) := by decide +kernel
theorem dX12_flyDay_232 : decode cX12_flyDay 232 = .ok (.iadd, 1) := by decide +kernel
theorem dX12_flyDay_233 : decode cX12_flyDay 233 = .ok (.goto 4, 3) := by decide +kernel
theorem dX12_flyDay_236 : decode cX12_flyDay 236 = .ok (.iconst 2, 1) := by decide +kernel
theorem dX12_flyDay_237 : decode cX12_flyDay 237 = .ok (.iastore, 1) := by decide +kernel
theorem dX12_flyDay_238 : decode cX12_flyDay 238 = .ok (.aload_n 0, 1) := by decide +kernel
theorem dX12_flyDay_239 : decode cX12_flyDay 239 = .ok (.getfield 44, 3) := by decide +kernel
theorem dX12_flyDay_242 : decode cX12_flyDay 242 = .ok (.iload 4, 2) := by decide +kernel
theorem dX12_flyDay_244 : decode cX12_flyDay 244 = .ok (.iconst 0, 1) := by decide +kernel
theorem dX12_flyDay_245 : decode cX12_flyDay 245 = .ok (.iastore, 1) := by decide +kernel
theorem dX12_flyDay_246 : decode cX12_flyDay 246 = .ok (.aload_n 0, 1) := by decide +kernel
theorem dX12_flyDay_247 : decode cX12_flyDay 247 = .ok (.getfield 307, 3) := by decide +kernel
theorem dX12_flyDay_250 : decode cX12_flyDay 250 = .ok (.bipush 10, 2) := by decide +kernel
theorem dX12_flyDay_252 : decode cX12_flyDay 252 = .ok (.irem, 1) := by decide +kernel
theorem dX12_flyDay_253 : decode cX12_flyDay 253 = .ok (.bipush 9, 2) := by decide +kernel
theorem dX12_flyDay_255 : decode cX12_flyDay 255 = .ok (.if_icmp .ne 35, 3) := by decide +kernel
theorem dX12_flyDay_258 : decode cX12_flyDay 258 = .ok (.aload_n 0, 1) := by decide +kernel
theorem dX12_flyDay_259 : decode cX12_flyDay 259 = .ok (.getfield 35, 3) := by decide +kernel
theorem dX12_flyDay_262 : decode cX12_flyDay 262 = .ok (.iload 4, 2) := by decide +kernel
theorem dX12_flyDay_264 : decode cX12_flyDay 264 = .ok (.iaload, 1) := by decide +kernel
theorem dX12_flyDay_265 : decode cX12_flyDay 265 = .ok (.ifCond .le 25, 3) := by decide +kernel
theorem dX12_flyDay_268 : decode cX12_flyDay 268 = .ok (.aload_n 0, 1) := by decide +kernel
theorem dX12_flyDay_269 : decode cX12_flyDay 269 = .ok (.getfield 35, 3) := by decide +kernel
theorem dX12_flyDay_272 : decode cX12_flyDay 272 = .ok (.iload 4, 2) := by decide +kernel
theorem dX12_flyDay_274 : decode cX12_flyDay 274 = .ok (.dup2, 1) := by decide +kernel
theorem dX12_flyDay_275 : decode cX12_flyDay 275 = .ok (.iaload, 1) := by decide +kernel
theorem dX12_flyDay_276 : decode cX12_flyDay 276 = .ok (.iconst 1, 1) := by decide +kernel
theorem dX12_flyDay_277 : decode cX12_flyDay 277 = .ok (.isub, 1) := by decide +kernel
theorem dX12_flyDay_278 : decode cX12_flyDay 278 = .ok (.iastore, 1) := by decide +kernel
theorem dX12_flyDay_279 : decode cX12_flyDay 279 = .ok (.aload_n 0, 1) := by decide +kernel
theorem dX12_flyDay_280 : decode cX12_flyDay 280 = .ok (.getfield 38, 3) := by decide +kernel
theorem dX12_flyDay_283 : decode cX12_flyDay 283 = .ok (.iload 4, 2) := by decide +kernel
theorem dX12_flyDay_285 : decode cX12_flyDay 285 = .ok (.dup2, 1) := by decide +kernel
theorem dX12_flyDay_286 : decode cX12_flyDay 286 = .ok (.iaload, 1) := by decide +kernel
theorem dX12_flyDay_287 : decode cX12_flyDay 287 = .ok (.iconst 1, 1) := by decide +kernel
theorem dX12_flyDay_288 : decode cX12_flyDay 288 = .ok (.iadd, 1) := by decide +kernel
theorem dX12_flyDay_289 : decode cX12_flyDay 289 = .ok (.iastore, 1) := by decide +kernel
theorem dX12_flyDay_290 : decode cX12_flyDay 290 = .ok (.iinc 4 1, 3) := by decide +kernel
theorem dX12_flyDay_293 : decode cX12_flyDay 293 = .ok (.goto (-168), 3) := by decide +kernel
theorem dX12_flyDay_296 : decode cX12_flyDay 296 = .ok (.aload_n 0, 1) := by decide +kernel
theorem dX12_flyDay_297 : decode cX12_flyDay 297 = .ok (.getfield 98, 3) := by decide +kernel
theorem dX12_flyDay_300 : decode cX12_flyDay 300 = .ok (.aload_n 0, 1) := by decide +kernel
theorem dX12_flyDay_301 : decode cX12_flyDay 301 = .ok (.getfield 307, 3) := by decide +kernel
theorem dX12_flyDay_304 : decode cX12_flyDay 304 = .ok (.iload_n 2, 1) := by decide +kernel
theorem dX12_flyDay_305 : decode cX12_flyDay 305 = .ok (.iastore, 1) := by decide +kernel
theorem dX12_flyDay_306 : decode cX12_flyDay 306 = .ok (.aload_n 0, 1) := by decide +kernel
theorem dX12_flyDay_307 : decode cX12_flyDay 307 = .ok (.getfield 101, 3) := by decide +kernel
theorem dX12_flyDay_310 : decode cX12_flyDay 310 = .ok (.aload_n 0, 1) := by decide +kernel
theorem dX12_flyDay_311 : decode cX12_flyDay 311 = .ok (.getfield 307, 3) := by decide +kernel
theorem dX12_flyDay_314 : decode cX12_flyDay 314 = .ok (.aload_n 0, 1) := by decide +kernel
theorem dX12_flyDay_315 : decode cX12_flyDay 315 = .ok (.getfield 59, 3) := by decide +kernel
theorem dX12_flyDay_318 : decode cX12_flyDay 318 = .ok (.iastore, 1) := by decide +kernel
theorem dX12_flyDay_319 : decode cX12_flyDay 319 = .ok (.aload_n 0, 1) := by decide +kernel
theorem dX12_flyDay_320 : decode cX12_flyDay 320 = .ok (.getfield 104, 3) := by decide +kernel
theorem dX12_flyDay_323 : decode cX12_flyDay 323 = .ok (.aload_n 0, 1) := by decide +kernel
theorem dX12_flyDay_324 : decode cX12_flyDay 324 = .ok (.getfield 307, 3) := by decide +kernel
theorem dX12_flyDay_327 : decode cX12_flyDay 327 = .ok (.aload_n 0, 1) := by decide +kernel
theorem dX12_flyDay_328 : decode cX12_flyDay 328 = .ok (.getfield 304, 3) := by decide +kernel
theorem dX12_flyDay_331 : decode cX12_flyDay 331 = .ok (.iastore, 1) := by decide +kernel
theorem dX12_flyDay_332 : decode cX12_flyDay 332 = .ok (.aload_n 0, 1) := by decide +kernel
theorem dX12_flyDay_333 : decode cX12_flyDay 333 = .ok (.getfield 107, 3) := by decide +kernel
theorem dX12_flyDay_336 : decode cX12_flyDay 336 = .ok (.aload_n 0, 1) := by decide +kernel
theorem dX12_flyDay_337 : decode cX12_flyDay 337 = .ok (.getfield 307, 3) := by decide +kernel
theorem dX12_flyDay_340 : decode cX12_flyDay 340 = .ok (.iload_n 1, 1) := by decide +kernel
theorem dX12_flyDay_341 : decode cX12_flyDay 341 = .ok (.iastore, 1) := by decide +kernel
theorem dX12_flyDay_342 : decode cX12_flyDay 342 = .ok (.aload_n 0, 1) := by decide +kernel
theorem dX12_flyDay_343 : decode cX12_flyDay 343 = .ok (.dup, 1) := by decide +kernel
theorem dX12_flyDay_344 : decode cX12_flyDay 344 = .ok (.getfield 307, 3) := by decide +kernel
theorem dX12_flyDay_347 : decode cX12_flyDay 347 = .ok (.iconst 1, 1) := by decide +kernel
theorem dX12_flyDay_348 : decode cX12_flyDay 348 = .ok (.iadd, 1) := by decide +kernel
theorem dX12_flyDay_349 : decode cX12_flyDay 349 = .ok (.putfield 307, 3) := by decide +kernel
theorem dX12_flyDay_352 : decode cX12_flyDay 352 = .ok (.return_, 1) := by decide +kernel
theorem dX12_fly_0 : decode cX12_fly 0 = .ok (.aload_n 0, 1) := by decide +kernel
theorem dX12_fly_1 : decode cX12_fly 1 = .ok (.iconst 0, 1) := by decide +kernel
theorem dX12_fly_2 : decode cX12_fly 2 = .ok (.putfield 179, 3) := by decide +kernel
theorem dX12_fly_5 : decode cX12_fly 5 = .ok (.aload_n 0, 1) := by decide +kernel
theorem dX12_fly_6 : decode cX12_fly 6 = .ok (.iload_n 1, 1) := by decide +kernel
theorem dX12_fly_7 : decode cX12_fly 7 = .ok (.iconst 0, 1) := by decide +kernel
theorem dX12_fly_8 : decode cX12_fly 8 = .ok (.sipush 200, 3) := by decide +kernel
theorem dX12_fly_11 : decode cX12_fly 11 = .ok (.invokestatic 203, 3) := by decide +kernel
theorem dX12_fly_14 : decode cX12_fly 14 = .ok (.ifCond .ne 7, 3) := by decide +kernel
theorem dX12_fly_17 : decode cX12_fly 17 = .ok (.iconst 1, 1) := by decide +kernel
theorem dX12_fly_18 : decode cX12_fly 18 = .ok (.goto 4, 3) := by decide +kernel
theorem dX12_fly_21 : decode cX12_fly 21 = .ok (.iconst 0, 1) := by decide +kernel
theorem dX12_fly_22 : decode cX12_fly 22 = .ok (.iconst 1, 1) := by decide +kernel
theorem dX12_fly_23 : decode cX12_fly 23 = .ok (.invokevirtual 207, 3) := by decide +kernel
theorem dX12_fly_26 : decode cX12_fly 26 = .ok (.ifCond .ne 28, 3) := by decide +kernel
theorem dX12_fly_29 : decode cX12_fly 29 = .ok (.aload_n 0, 1) := by decide +kernel
theorem dX12_fly_30 : decode cX12_fly 30 = .ok (.aload_n 0, 1) := by decide +kernel
theorem dX12_fly_31 : decode cX12_fly 31 = .ok (.getfield 307, 3) := by decide +kernel
theorem dX12_fly_34 : decode cX12_fly 34 = .ok (.iload_n 1, 1) := by decide +kernel
theorem dX12_fly_35 : decode cX12_fly 35 = .ok (.iadd, 1) := by decide +kernel
theorem dX12_fly_36 : decode cX12_fly 36 = .ok (.sipush 2000, 3) := by decide +kernel
theorem dX12_fly_39 : decode cX12_fly 39 = .ok (.if_icmp .le 7, 3) := by decide +kernel
theorem dX12_fly_42 : decode cX12_fly 42 = .ok (.iconst 1, 1) := by decide +kernel
theorem dX12_fly_43 : decode cX12_fly 43 = .ok (.goto 4, 3) := by decide +kernel
theorem dX12_fly_46 : decode cX12_fly 46 = .ok (.iconst 0, 1) := by decide +kernel
theorem dX12_fly_47 : decode cX12_fly 47 = .ok (.iconst 2, 1) := by decide +kernel
theorem dX12_fly_48 : decode cX12_fly 48 = .ok (.invokevirtual 207, 3) := by decide +kernel
theorem dX12_fly_51 : decode cX12_fly 51 = .ok (.ifCond .eq 5, 3) := by decide +kernel
theorem dX12_fly_54 : decode cX12_fly 54 = .ok (.iconst 0, 1) := by decide +kernel
theorem dX12_fly_55 : decode cX12_fly 55 = .ok (.ireturn, 1) := by decide +kernel
theorem dX12_fly_56 : decode cX12_fly 56 = .ok (.iconst 0, 1) := by decide +kernel
theorem dX12_fly_57 : decode cX12_fly 57 = .ok (.istore_n 2, 1) := by decide +kernel
theorem dX12_fly_58 : decode cX12_fly 58 = .ok (.iconst 0, 1) := by decide +kernel
theorem dX12_fly_59 : decode cX12_fly 59 = .ok (.istore_n 3, 1) := by decide +kernel
theorem dX12_fly_60 : decode cX12_fly 60 = .ok (.iload_n 2, 1) := by decide +kernel
theorem dX12_fly_61 : decode cX12_fly 61 = .ok (.iload_n 1, 1) := by decide +kernel
theorem dX12_fly_62 : decode cX12_fly 62 = .ok (.if_icmp .ge 54, 3) := by decide +kernel
theorem dX12_fly_65 : decode cX12_fly 65 = .ok (.iload_n 3, 1) := by decide +kernel
theorem dX12_fly_66 : decode cX12_fly 66 = .ok (.ifCond .ne 50, 3) := by decide +kernel
theorem dX12_fly_69 : decode cX12_fly 69 = .ok (.aload_n 0, 1) := by decide +kernel
theorem dX12_fly_70 : decode cX12_fly 70 = .ok (.invokevirtual 430, 3) := by decide +kernel
theorem dX12_fly_73 : decode cX12_fly 73 = .ok (.iinc 2 1, 3) := by decide +kernel
theorem dX12_fly_76 : decode cX12_fly 76 = .ok (.aload_n 0, 1) := by decide +kernel
theorem dX12_fly_77 : decode cX12_fly 77 = .ok (.getfield 63, 3) := by decide +kernel
theorem dX12_fly_80 : decode cX12_fly 80 = .ok (.iconst (-1), 1) := by decide +kernel
theorem dX12_fly_81 : decode cX12_fly 81 = .ok (.if_icmp .eq 30, 3) := by decide +kernel
theorem dX12_fly_84 : decode cX12_fly 84 = .ok (.aload_n 0, 1) := by decide +kernel
theorem dX12_fly_85 : decode cX12_fly 85 = .ok (.aload_n 0, 1) := by decide +kernel
theorem dX12_fly_86 : decode cX12_fly 86 = .ok (.getfield 63, 3) := by decide +kernel
theorem dX12_fly_89 : decode cX12_fly 89 = .ok (.aload_n 0, 1) := by decide +kernel
theorem dX12_fly_90 : decode cX12_fly 90 = .ok (.getfield 59, 3) := by decide +kernel
theorem dX12_fly_93 : decode cX12_fly 93 = .ok (.aload_n 0, 1) := by decide +kernel
theorem dX12_fly_94 : decode cX12_fly 94 = .ok (.getfield 304, 3) := by decide +kernel
theorem dX12_fly_97 : decode cX12_fly 97 = .ok (.aload_n 0, 1) := by decide +kernel
theorem dX12_fly_98 : decode cX12_fly 98 = .ok (.getfield 307, 3) := by decide +kernel
theorem dX12_fly_101 : decode cX12_fly 101 = .ok (.invokevirtual 310, 3) := by decide +kernel
theorem dX12_fly_104 : decode cX12_fly 104 = .ok (.ifCond .eq 7, 3) := by decide +kernel
theorem dX12_fly_107 : decode cX12_fly 107 = .ok (.iconst 1, 1) := by decide +kernel
theorem dX12_fly_108 : decode cX12_fly 108 = .ok (.goto 4, 3) := by decide +kernel
theorem dX12_fly_111 : decode cX12_fly 111 = .ok (.iconst 0, 1) := by decide +kernel
theorem dX12_fly_112 : decode cX12_fly 112 = .ok (.istore_n 3, 1) := by decide +kernel
theorem dX12_fly_113 : decode cX12_fly 113 = .ok (.goto (-53), 3) := by decide +kernel
theorem dX12_fly_116 : decode cX12_fly 116 = .ok (.iload_n 2, 1) := by decide +kernel
theorem dX12_fly_117 : decode cX12_fly 117 = .ok (.ireturn, 1) := by decide +kernel
theorem dX12_note_0 : decode cX12_note 0 = .ok (.aload_n 0, 1) := by decide +kernel
theorem dX12_note_1 : decode cX12_note 1 = .ok (.iconst 0, 1) := by decide +kernel
theorem dX12_note_2 : decode cX12_note 2 = .ok (.putfield 179, 3) := by decide +kernel
theorem dX12_note_5 : decode cX12_note 5 = .ok (.aload_n 0, 1) := by decide +kernel
theorem dX12_note_6 : decode cX12_note 6 = .ok (.iload_n 2, 1) := by decide +kernel
theorem dX12_note_7 : decode cX12_note 7 = .ok (.iconst 0, 1) := by decide +kernel
theorem dX12_note_8 : decode cX12_note 8 = .ok (.iconst 3, 1) := by decide +kernel
theorem dX12_note_9 : decode cX12_note 9 = .ok (.invokestatic 203, 3) := by decide +kernel
theorem dX12_note_12 : decode cX12_note 12 = .ok (.ifCond .ne 7, 3) := by decide +kernel
theorem dX12_note_15 : decode cX12_note 15 = .ok (.iconst 1, 1) := by decide +kernel
theorem dX12_note_16 : decode cX12_note 16 = .ok (.goto 4, 3) := by decide +kernel
theorem dX12_note_19 : decode cX12_note 19 = .ok (.iconst 0, 1) := by decide +kernel
theorem dX12_note_20 : decode cX12_note 20 = .ok (.iconst 1, 1) := by decide +kernel
theorem dX12_note_21 : decode cX12_note 21 = .ok (.invokevirtual 207, 3) := by decide +kernel
theorem dX12_note_24 : decode cX12_note 24 = .ok (.ifCond .eq 5, 3) := by decide +kernel
theorem dX12_note_27 : decode cX12_note 27 = .ok (.iconst 0, 1) := by decide +kernel
theorem dX12_note_28 : decode cX12_note 28 = .ok (.ireturn, 1) := by decide +kernel
theorem dX12_note_29 : decode cX12_note 29 = .ok (.iload_n 1, 1) := by decide +kernel
theorem dX12_note_30 : decode cX12_note 30 = .ok (.ifCond .lt 22, 3) := by decide +kernel
theorem dX12_note_33 : decode cX12_note 33 = .ok (.iload_n 1, 1) := by decide +kernel
theorem dX12_note_34 : decode cX12_note 34 = .ok (.aload_n 0, 1) := by decide +kernel
theorem dX12_note_35 : decode cX12_note 35 = .ok (.getfield 307, 3) := by decide +kernel
theorem dX12_note_38 : decode cX12_note 38 = .ok (.if_icmp .ge 14, 3) := by decide +kernel
theorem dX12_note_41 : decode cX12_note 41 = .ok (.iload_n 1, 1) := by decide +kernel
theorem dX12_note_42 : decode cX12_note 42 = .ok (.aload_n 0, 1) := by decide +kernel
theorem dX12_note_43 : decode cX12_note 43 = .ok (.getfield 307, 3) := by decide +kernel
theorem dX12_note_46 : decode cX12_note 46 = .ok (.bipush 64, 2) := by decide +kernel
theorem dX12_note_48 : decode cX12_note 48 = .ok (.isub, 1) := by decide +kernel
theorem dX12_note_49 : decode cX12_note 49 = .ok (.if_icmp .ge 5, 3) := by decide +kernel
theorem dX12_note_52 : decode cX12_note 52 = .ok (.iconst (-1), 1) := by decide +kernel
theorem dX12_note_53 : decode cX12_note 53 = .ok (.ireturn, 1) := by decide +kernel
theorem dX12_note_54 : decode cX12_note 54 = .ok (.iload_n 2, 1) := by decide +kernel
theorem dX12_note_55 : decode cX12_note 55 = .ok (.ifCond .ne 12, 3) := by decide +kernel
theorem dX12_note_58 : decode cX12_note 58 = .ok (.aload_n 0, 1) := by decide +kernel
theorem dX12_note_59 : decode cX12_note 59 = .ok (.getfield 98, 3) := by decide +kernel
theorem dX12_note_62 : decode cX12_note 62 = .ok (.iload_n 1, 1) := by decide +kernel
theorem dX12_note_63 : decode cX12_note 63 = .ok (.iaload, 1) := by decide +kernel
theorem dX12_note_64 : decode cX12_note 64 = .ok (.goto 37, 3) := by decide +kernel
theorem dX12_note_67 : decode cX12_note 67 = .ok (.iload_n 2, 1) := by decide +kernel
theorem dX12_note_68 : decode cX12_note 68 = .ok (.iconst 1, 1) := by decide +kernel
theorem dX12_note_69 : decode cX12_note 69 = .ok (.if_icmp .ne 12, 3) := by decide +kernel
theorem dX12_note_72 : decode cX12_note 72 = .ok (.aload_n 0, 1) := by decide +kernel
theorem dX12_note_73 : decode cX12_note 73 = .ok (.getfield 101, 3) := by decide +kernel
theorem dX12_note_76 : decode cX12_note 76 = .ok (.iload_n 1, 1) := by decide +kernel
theorem dX12_note_77 : decode cX12_note 77 = .ok (.iaload, 1) := by decide +kernel
theorem dX12_note_78 : decode cX12_note 78 = .ok (.goto 23, 3) := by decide +kernel
theorem dX12_note_81 : decode cX12_note 81 = .ok (.iload_n 2, 1) := by decide +kernel
theorem dX12_note_82 : decode cX12_note 82 = .ok (.iconst 2, 1) := by decide +kernel
theorem dX12_note_83 : decode cX12_note 83 = .ok (.if_icmp .ne 12, 3) := by decide +kernel
theorem dX12_note_86 : decode cX12_note 86 = .ok (.aload_n 0, 1) := by decide +kernel
theorem dX12_note_87 : decode cX12_note 87 = .ok (.getfield 104, 3) := by decide +kernel
theorem dX12_note_90 : decode cX12_note 90 = .ok (.iload_n 1, 1) := by decide +kernel
theorem dX12_note_91 : decode cX12_note 91 = .ok (.iaload, 1) := by decide +kernel
theorem dX12_note_92 : decode cX12_note 92 = .ok (.goto 9, 3) := by decide +kernel
theorem dX12_note_95 : decode cX12_note 95 = .ok (.aload_n 0, 1) := by decide +kernel
theorem dX12_note_96 : decode cX12_note 96 = .ok (.getfield 107, 3) := by decide +kernel
theorem dX12_note_99 : decode cX12_note 99 = .ok (.iload_n 1, 1) := by decide +kernel
theorem dX12_note_100 : decode cX12_note 100 = .ok (.iaload, 1) := by decide +kernel
theorem dX12_note_101 : decode cX12_note 101 = .ok (.ireturn, 1) := by decide +kernel
theorem dX12_coat_0 : decode cX12_coat 0 = .ok (.aload_n 0, 1) := by decide +kernel
theorem dX12_coat_1 : decode cX12_coat 1 = .ok (.iconst 0, 1) := by decide +kernel
theorem dX12_coat_2 : decode cX12_coat 2 = .ok (.putfield 179, 3) := by decide +kernel
theorem dX12_coat_5 : decode cX12_coat 5 = .ok (.aload_n 0, 1) := by decide +kernel
theorem dX12_coat_6 : decode cX12_coat 6 = .ok (.iload_n 1, 1) := by decide +kernel
theorem dX12_coat_7 : decode cX12_coat 7 = .ok (.iconst 0, 1) := by decide +kernel
theorem dX12_coat_8 : decode cX12_coat 8 = .ok (.bipush 100, 2) := by decide +kernel
theorem dX12_coat_10 : decode cX12_coat 10 = .ok (.invokestatic 203, 3) := by decide +kernel
theorem dX12_coat_13 : decode cX12_coat 13 = .ok (.ifCond .eq 21, 3) := by decide +kernel
theorem dX12_coat_16 : decode cX12_coat 16 = .ok (.iload_n 2, 1) := by decide +kernel
theorem dX12_coat_17 : decode cX12_coat 17 = .ok (.iconst 0, 1) := by decide +kernel
theorem dX12_coat_18 : decode cX12_coat 18 = .ok (.bipush 100, 2) := by decide +kernel
theorem dX12_coat_20 : decode cX12_coat 20 = .ok (.invokestatic 203, 3) := by decide +kernel
theorem dX12_coat_23 : decode cX12_coat 23 = .ok (.ifCond .eq 11, 3) := by decide +kernel
theorem dX12_coat_26 : decode cX12_coat 26 = .ok (.iload_n 1, 1) := by decide +kernel
theorem dX12_coat_27 : decode cX12_coat 27 = .ok (.iload_n 2, 1) := by decide +kernel
theorem dX12_coat_28 : decode cX12_coat 28 = .ok (.iadd, 1) := by decide +kernel
theorem dX12_coat_29 : decode cX12_coat 29 = .ok (.bipush 100, 2) := by decide +kernel
theorem dX12_coat_31 : decode cX12_coat 31 = .ok (.if_icmp .le 7, 3) := by decide +kernel
theorem dX12_coat_34 : decode cX12_coat 34 = .ok (.iconst 1, 1) := by decide +kernel
theorem dX12_coat_35 : decode cX12_coat 35 = .ok (.goto 4, 3) := by decide +kernel
theorem dX12_coat_38 : decode cX12_coat 38 = .ok (.iconst 0, 1) := by decide +kernel
theorem dX12_coat_39 : decode cX12_coat 39 = .ok (.iconst 1, 1) := by decide +kernel
theorem dX12_coat_40 : decode cX12_coat 40 = .ok (.invokevirtual 207, 3) := by decide +kernel
theorem dX12_coat_43 : decode cX12_coat 43 = .ok (.ifCond .eq 5, 3) := by decide +kernel
theorem dX12_coat_46 : decode cX12_coat 46 = .ok (.iconst 0, 1) := by decide +kernel
theorem dX12_coat_47 : decode cX12_coat 47 = .ok (.ireturn, 1) := by decide +kernel
theorem dX12_coat_48 : decode cX12_coat 48 = .ok (.aload_n 0, 1) := by decide +kernel
theorem dX12_coat_49 : decode cX12_coat 49 = .ok (.getfield 433, 3) := by decide +kernel
theorem dX12_coat_52 : decode cX12_coat 52 = .ok (.iconst 5, 1) := by decide +kernel
theorem dX12_coat_53 : decode cX12_coat 53 = .ok (.if_icmp .ne 5, 3) := by decide +kernel
theorem dX12_coat_56 : decode cX12_coat 56 = .ok (.iconst (-1), 1) := by decide +kernel
theorem dX12_coat_57 : decode cX12_coat 57 = .ok (.ireturn, 1) := by decide +kernel
theorem dX12_coat_58 : decode cX12_coat 58 = .ok (.aload_n 0, 1) := by decide +kernel
theorem dX12_coat_59 : decode cX12_coat 59 = .ok (.getfield 110, 3) := by decide +kernel
theorem dX12_coat_62 : decode cX12_coat 62 = .ok (.aload_n 0, 1) := by decide +kernel
theorem dX12_coat_63 : decode cX12_coat 63 = .ok (.getfield 433, 3) := by decide +kernel
theorem dX12_coat_66 : decode cX12_coat 66 = .ok (.iload_n 1, 1) := by decide +kernel
theorem dX12_coat_67 : decode cX12_coat 67 = .ok (.iastore, 1) := by decide +kernel
theorem dX12_coat_68 : decode cX12_coat 68 = .ok (.aload_n 0, 1) := by decide +kernel
theorem dX12_coat_69 : decode cX12_coat 69 = .ok (.getfield 113, 3) := by decide +kernel
theorem dX12_coat_72 : decode cX12_coat 72 = .ok (.aload_n 0, 1) := by decide +kernel
theorem dX12_coat_73 : decode cX12_coat 73 = .ok (.getfield 433, 3) := by decide +kernel
theorem dX12_coat_76 : decode cX12_coat 76 = .ok (.iload_n 2, 1) := by decide +kernel
theorem dX12_coat_77 : decode cX12_coat 77 = .ok (.iastore, 1) := by decide +kernel
theorem dX12_coat_78 : decode cX12_coat 78 = .ok (.aload_n 0, 1) := by decide +kernel
theorem dX12_coat_79 : decode cX12_coat 79 = .ok (.dup, 1) := by decide +kernel
theorem dX12_coat_80 : decode cX12_coat 80 = .ok (.getfield 433, 3) := by decide +kernel
theorem dX12_coat_83 : decode cX12_coat 83 = .ok (.iconst 1, 1) := by decide +kernel
theorem dX12_coat_84 : decode cX12_coat 84 = .ok (.iadd, 1) := by decide +kernel
theorem dX12_coat_85 : decode cX12_coat 85 = .ok (.putfield 433, 3) := by decide +kernel
theorem dX12_coat_88 : decode cX12_coat 88 = .ok (.aload_n 0, 1) := by decide +kernel
theorem dX12_coat_89 : decode cX12_coat 89 = .ok (.getfield 433, 3) := by decide +kernel
theorem dX12_coat_92 : decode cX12_coat 92 = .ok (.iconst 1, 1) := by decide +kernel
theorem dX12_coat_93 : decode cX12_coat 93 = .ok (.isub, 1) := by decide +kernel
theorem dX12_coat_94 : decode cX12_coat 94 = .ok (.ireturn, 1) := by decide +kernel
theorem dX12_sight_0 : decode cX12_sight 0 = .ok (.aload_n 0, 1) := by decide +kernel
theorem dX12_sight_1 : decode cX12_sight 1 = .ok (.iconst 0, 1) := by decide +kernel
theorem dX12_sight_2 : decode cX12_sight 2 = .ok (.putfield 179, 3) := by decide +kernel
theorem dX12_sight_5 : decode cX12_sight 5 = .ok (.aload_n 0, 1) := by decide +kernel
theorem dX12_sight_6 : decode cX12_sight 6 = .ok (.iload_n 1, 1) := by decide +kernel
theorem dX12_sight_7 : decode cX12_sight 7 = .ok (.bipush (-8), 2) := by decide +kernel
theorem dX12_sight_9 : decode cX12_sight 9 = .ok (.bipush 8, 2) := by decide +kernel
theorem dX12_sight_11 : decode cX12_sight 11 = .ok (.invokestatic 203, 3) := by decide +kernel
theorem dX12_sight_14 : decode cX12_sight 14 = .ok (.ifCond .eq 25, 3) := by decide +kernel
theorem dX12_sight_17 : decode cX12_sight 17 = .ok (.iload_n 2, 1) := by decide +kernel
theorem dX12_sight_18 : decode cX12_sight 18 = .ok (.iconst 0, 1) := by decide +kernel
theorem dX12_sight_19 : decode cX12_sight 19 = .ok (.ldc_w 436, 3) := by decide +kernel
theorem dX12_sight_22 : decode cX12_sight 22 = .ok (.invokestatic 203, 3) := by decide +kernel
theorem dX12_sight_25 : decode cX12_sight 25 = .ok (.ifCond .eq 14, 3) := by decide +kernel
theorem dX12_sight_28 : decode cX12_sight 28 = .ok (.iload_n 3, 1) := by decide +kernel
theorem dX12_sight_29 : decode cX12_sight 29 = .ok (.iconst 0, 1) := by decide +kernel
theorem dX12_sight_30 : decode cX12_sight 30 = .ok (.sipush 10000, 3) := by decide +kernel
theorem dX12_sight_33 : decode cX12_sight 33 = .ok (.invokestatic 203, 3) := by decide +kernel
theorem dX12_sight_36 : decode cX12_sight 36 = .ok (.ifCond .ne 7, 3) := by decide +kernel
theorem dX12_sight_39 : decode cX12_sight 39 = .ok (.iconst 1, 1) := by decide +kernel
theorem dX12_sight_40 : decode cX12_sight 40 = .ok (.goto 4, 3) := by decide +kernel
theorem dX12_sight_43 : decode cX12_sight 43 = .ok (.iconst 0, 1) := by decide +kernel
theorem dX12_sight_44 : decode cX12_sight 44 = .ok (.iconst 1, 1) := by decide +kernel
theorem dX12_sight_45 : decode cX12_sight 45 = .ok (.invokevirtual 207, 3) := by decide +kernel
theorem dX12_sight_48 : decode cX12_sight 48 = .ok (.ifCond .eq 5, 3) := by decide +kernel
theorem dX12_sight_51 : decode cX12_sight 51 = .ok (.iconst 0, 1) := by decide +kernel
theorem dX12_sight_52 : decode cX12_sight 52 = .ok (.ireturn, 1) := by decide +kernel
theorem dX12_sight_53 : decode cX12_sight 53 = .ok (.aload_n 0, 1) := by decide +kernel
theorem dX12_sight_54 : decode cX12_sight 54 = .ok (.getfield 437, 3) := by decide +kernel
theorem dX12_sight_57 : decode cX12_sight 57 = .ok (.bipush 6, 2) := by decide +kernel
theorem dX12_sight_59 : decode cX12_sight 59 = .ok (.if_icmp .ne 5, 3) := by decide +kernel
theorem dX12_sight_62 : decode cX12_sight 62 = .ok (.iconst (-1), 1) := by decide +kernel
theorem dX12_sight_63 : decode cX12_sight 63 = .ok (.ireturn, 1) := by decide +kernel
theorem dX12_sight_64 : decode cX12_sight 64 = .ok (.aload_n 0, 1) := by decide +kernel
theorem dX12_sight_65 : decode cX12_sight 65 = .ok (.getfield 116, 3) := by decide +kernel
theorem dX12_sight_68 : decode cX12_sight 68 = .ok (.aload_n 0, 1) := by decide +kernel
theorem dX12_sight_69 : decode cX12_sight 69 = .ok (.getfield 437, 3) := by decide +kernel
theorem dX12_sight_72 : decode cX12_sight 72 = .ok (.iload_n 1, 1) := by decide +kernel
theorem dX12_sight_73 : decode cX12_sight 73 = .ok (.iastore, 1) := by decide +kernel
theorem dX12_sight_74 : decode cX12_sight 74 = .ok (.aload_n 0, 1) := by decide +kernel
theorem dX12_sight_75 : decode cX12_sight 75 = .ok (.getfield 119, 3) := by decide +kernel
theorem dX12_sight_78 : decode cX12_sight 78 = .ok (.aload_n 0, 1) := by decide +kernel
theorem dX12_sight_79 : decode cX12_sight 79 = .ok (.getfield 437, 3) := by decide +kernel
theorem dX12_sight_82 : decode cX12_sight 82 = .ok (.iload_n 2, 1) := by decide +kernel
theorem dX12_sight_83 : decode cX12_sight 83 = .ok (.iastore, 1) := by decide +kernel
theorem dX12_sight_84 : decode cX12_sight 84 = .ok (.aload_n 0, 1) := by decide +kernel
theorem dX12_sight_85 : decode cX12_sight 85 = .ok (.getfield 122, 3) := by decide +kernel
theorem dX12_sight_88 : decode cX12_sight 88 = .ok (.aload_n 0, 1) := by decide +kernel
theorem dX12_sight_89 : decode cX12_sight 89 = .ok (.getfield 437, 3) := by decide +kernel
theorem dX12_sight_92 : decode cX12_sight 92 = .ok (.iload_n 3, 1) := by decide +kernel
theorem dX12_sight_93 : decode cX12_sight 93 = .ok (.iastore, 1) := by decide +kernel
theorem dX12_sight_94 : decode cX12_sight 94 = .ok (.aload_n 0, 1) := by decide +kernel
theorem dX12_sight_95 : decode cX12_sight 95 = .ok (.dup, 1) := by decide +kernel
theorem dX12_sight_96 : decode cX12_sight 96 = .ok (.getfield 437, 3) := by decide +kernel
theorem dX12_sight_99 : decode cX12_sight 99 = .ok (.iconst 1, 1) := by decide +kernel
theorem dX12_sight_100 : decode cX12_sight 100 = .ok (.iadd, 1) := by decide +kernel
theorem dX12_sight_101 : decode cX12_sight 101 = .ok (.putfield 437, 3) := by decide +kernel
theorem dX12_sight_104 : decode cX12_sight 104 = .ok (.aload_n 0, 1) := by decide +kernel
theorem dX12_sight_105 : decode cX12_sight 105 = .ok (.getfield 437, 3) := by decide +kernel
theorem dX12_sight_108 : decode cX12_sight 108 = .ok (.ireturn, 1) := by decide +kernel
theorem dX12_seen_0 : decode cX12_seen 0 = .ok (.iconst 0, 1) := by decide +kernel
theorem dX12_seen_1 : decode cX12_seen 1 = .ok (.istore_n 3, 1) := by decide +kernel
theorem dX12_seen_2 : decode cX12_seen 2 = .ok (.iconst 0, 1) := by decide +kernel
theorem dX12_seen_3 : decode cX12_seen 3 = .ok (.istore 4, 2) := by decide +kernel
theorem dX12_seen_5 : decode cX12_seen 5 = .ok (.iload 4, 2) := by decide +kernel
theorem dX12_seen_7 : decode cX12_seen 7 = .ok (.aload_n 0, 1) := by decide +kernel
theorem dX12_seen_8 : decode cX12_seen 8 = .ok (.getfield 222, 3) := by decide +kernel
theorem dX12_seen_11 : decode cX12_seen 11 = .ok (.if_icmp .ge 73, 3) := by decide +kernel
theorem dX12_seen_14 : decode cX12_seen 14 = .ok (.iload_n 3, 1) := by decide +kernel
theorem dX12_seen_15 : decode cX12_seen 15 = .ok (.iload 4, 2) := by decide +kernel
theorem dX12_seen_17 : decode cX12_seen 17 = .ok (.iload_n 1, 1) := by decide +kernel
theorem dX12_seen_18 : decode cX12_seen 18 = .ok (.if_icmp .ge 37, 3) := by decide +kernel
theorem dX12_seen_21 : decode cX12_seen 21 = .ok (.aload_n 0, 1) := by decide +kernel
theorem dX12_seen_22 : decode cX12_seen 22 = .ok (.iload 4, 2) := by decide +kernel
theorem dX12_seen_24 : decode cX12_seen 24 = .ok (.iload_n 2, 1) := by decide +kernel
theorem dX12_seen_25 : decode cX12_seen 25 = .ok (.aload_n 0, 1) := by decide +kernel
theorem dX12_seen_26 : decode cX12_seen 26 = .ok (.getfield 110, 3) := by decide +kernel
theorem dX12_seen_29 : decode cX12_seen 29 = .ok (.aload_n 0, 1) := by decide +kernel
theorem dX12_seen_30 : decode cX12_seen 30 = .ok (.getfield 125, 3) := by decide +kernel
theorem dX12_seen_33 : decode cX12_seen 33 = .ok (.iload 4, 2) := by decide +kernel
theorem dX12_seen_35 : decode cX12_seen 35 = .ok (.iaload, 1) := by decide +kernel
theorem dX12_seen_36 : decode cX12_seen 36 = .ok (.iaload, 1) := by decide +kernel
theorem dX12_seen_37 : decode cX12_seen 37 = .ok (.aload_n 0, 1) := by decide +kernel
theorem dX12_seen_38 : decode cX12_seen 38 = .ok (.getfield 113, 3) := by decide +kernel
theorem dX12_seen_41 : decode cX12_seen 41 = .ok (.aload_n 0, 1) := by decide +kernel
theorem dX12_seen_42 : decode cX12_seen 42 = .ok (.getfield 125, 3) := by decide +kernel
theorem dX12_seen_45 : decode cX12_seen 45 = .ok (.iload 4, 2) := by decide +kernel
theorem dX12_seen_47 : decode cX12_seen 47 = .ok (.iaload, 1) := by decide +kernel
theorem dX12_seen_48 : decode cX12_seen 48 = .ok (.iaload, 1) := by decide +kernel
theorem dX12_seen_49 : decode cX12_seen 49 = .ok (.invokevirtual 279, 3) := by decide +kernel
theorem dX12_seen_52 : decode cX12_seen 52 = .ok (.goto 24, 3) := by decide +kernel
theorem dX12_seen_55 : decode cX12_seen 55 = .ok (.aload_n 0, 1) := by decide +kernel
theorem dX12_seen_56 : decode cX12_seen 56 = .ok (.iload 4, 2) := by decide +kernel
theorem dX12_seen_58 : decode cX12_seen 58 = .ok (.iload_n 2, 1) := by decide +kernel
theorem dX12_seen_59 : decode cX12_seen 59 = .ok (.aload_n 0, 1) := by decide +kernel
theorem dX12_seen_60 : decode cX12_seen 60 = .ok (.getfield 35, 3) := by decide +kernel
theorem dX12_seen_63 : decode cX12_seen 63 = .ok (.iload 4, 2) := by decide +kernel
theorem dX12_seen_65 : decode cX12_seen 65 = .ok (.iaload, 1) := by decide +kernel
theorem dX12_seen_66 : decode cX12_seen 66 = .ok (.aload_n 0, 1) := by decide +kernel
theorem dX12_seen_67 : decode cX12_seen 67 = .ok (.getfield 38, 3) := by decide +kernel
theorem dX12_seen_70 : decode cX12_seen 70 = .ok (.iload 4, 2) := by decide +kernel
theorem dX12_seen_72 : decode cX12_seen 72 = .ok (.iaload, 1) := by decide +kernel
theorem dX12_seen_73 : decode cX12_seen 73 = .ok (.invokevirtual 279, 3) := by decide +kernel
theorem dX12_seen_76 : decode cX12_seen 76 = .ok (.iadd, 1) := by decide +kernel
theorem dX12_seen_77 : decode cX12_seen 77 = .ok (.istore_n 3, 1) := by decide +kernel
theorem dX12_seen_78 : decode cX12_seen 78 = .ok (.iinc 4 1, 3) := by decide +kernel
theorem dX12_seen_81 : decode cX12_seen 81 = .ok (.goto (-76), 3) := by decide +kernel
theorem dX12_seen_84 : decode cX12_seen 84 = .ok (.iload_n 3, 1) := by decide +kernel
theorem dX12_seen_85 : decode cX12_seen 85 = .ok (.ireturn, 1) := by decide +kernel
theorem dX12_waysOf_0 : decode cX12_waysOf 0 = .ok (.iconst 1, 1) := by decide +kernel
theorem dX12_waysOf_1 : decode cX12_waysOf 1 = .ok (.istore_n 2, 1) := by decide +kernel
theorem dX12_waysOf_2 : decode cX12_waysOf 2 = .ok (.iconst 0, 1) := by decide +kernel
theorem dX12_waysOf_3 : decode cX12_waysOf 3 = .ok (.istore_n 3, 1) := by decide +kernel
theorem dX12_waysOf_4 : decode cX12_waysOf 4 = .ok (.iload_n 3, 1) := by decide +kernel
theorem dX12_waysOf_5 : decode cX12_waysOf 5 = .ok (.iload_n 1, 1) := by decide +kernel
theorem dX12_waysOf_6 : decode cX12_waysOf 6 = .ok (.if_icmp .ge 16, 3) := by decide +kernel
theorem dX12_waysOf_9 : decode cX12_waysOf 9 = .ok (.iload_n 2, 1) := by decide +kernel
theorem dX12_waysOf_10 : decode cX12_waysOf 10 = .ok (.aload_n 0, 1) := by decide +kernel
theorem dX12_waysOf_11 : decode cX12_waysOf 11 = .ok (.getfield 433, 3) := by decide +kernel
theorem dX12_waysOf_14 : decode cX12_waysOf 14 = .ok (.imul, 1) := by decide +kernel
theorem dX12_waysOf_15 : decode cX12_waysOf 15 = .ok (.istore_n 2, 1) := by decide +kernel
theorem dX12_waysOf_16 : decode cX12_waysOf 16 = .ok (.iinc 3 1, 3) := by decide +kernel
theorem dX12_waysOf_19 : decode cX12_waysOf 19 = .ok (.goto (-15), 3) := by decide +kernel
theorem dX12_waysOf_22 : decode cX12_waysOf 22 = .ok (.iload_n 2, 1) := by decide +kernel
theorem dX12_waysOf_23 : decode cX12_waysOf 23 = .ok (.ireturn, 1) := by decide +kernel
theorem dX12_takes_0 : decode cX12_takes 0 = .ok (.iload_n 2, 1) := by decide +kernel
theorem dX12_takes_1 : decode cX12_takes 1 = .ok (.istore_n 3, 1) := by decide +kernel
theorem dX12_takes_2 : decode cX12_takes 2 = .ok (.iload_n 1, 1) := by decide +kernel
theorem dX12_takes_3 : decode cX12_takes 3 = .ok (.iconst 1, 1) := by decide +kernel
theorem dX12_takes_4 : decode cX12_takes 4 = .ok (.isub, 1) := by decide +kernel
theorem dX12_takes_5 : decode cX12_takes 5 = .ok (.istore 4, 2) := by decide +kernel
theorem dX12_takes_7 : decode cX12_takes 7 = .ok (.iload 4, 2) := by decide +kernel
theorem dX12_takes_9 : decode cX12_takes 9 = .ok (.ifCond .lt 29, 3) := by decide +kernel
theorem dX12_takes_12 : decode cX12_takes 12 = .ok (.aload_n 0, 1) := by decide +kernel
theorem dX12_takes_13 : decode cX12_takes 13 = .ok (.getfield 125, 3) := by decide +kernel
theorem dX12_takes_16 : decode cX12_takes 16 = .ok (.iload 4, 2) := by decide +kernel
theorem dX12_takes_18 : decode cX12_takes 18 = .ok (.iload_n 3, 1) := by decide +kernel
theorem dX12_takes_19 : decode cX12_takes 19 = .ok (.aload_n 0, 1) := by decide +kernel
theorem dX12_takes_20 : decode cX12_takes 20 = .ok (.getfield 433, 3) := by decide +kernel
theorem dX12_takes_23 : decode cX12_takes 23 = .ok (.irem, 1) := by decide +kernel
theorem dX12_takes_24 : decode cX12_takes 24 = .ok (.iastore, 1) := by decide +kernel
theorem dX12_takes_25 : decode cX12_takes 25 = .ok (.iload_n 3, 1) := by decide +kernel
theorem dX12_takes_26 : decode cX12_takes 26 = .ok (.aload_n 0, 1) := by decide +kernel
theorem dX12_takes_27 : decode cX12_takes 27 = .ok (.getfield 433, 3) := by decide +kernel
theorem dX12_takes_30 : decode cX12_takes 30 = .ok (.idiv, 1) := by decide +kernel
theorem dX12_takes_31 : decode cX12_takes 31 = .ok (.istore_n 3, 1) := by decide +kernel
theorem dX12_takes_32 : decode cX12_takes 32 = .ok (.iinc 4 (-1), 3) := by decide +kernel
theorem dX12_takes_35 : decode cX12_takes 35 = .ok (.goto (-28), 3) := by decide +kernel
theorem dX12_takes_38 : decode cX12_takes 38 = .ok (.iconst 0, 1) := by decide +kernel
theorem dX12_takes_39 : decode cX12_takes 39 = .ok (.istore 4, 2) := by decide +kernel
theorem dX12_takes_41 : decode cX12_takes 41 = .ok (.iload 4, 2) := by decide +kernel
theorem dX12_takes_43 : decode cX12_takes 43 = .ok (.aload_n 0, 1) := by decide +kernel
theorem dX12_takes_44 : decode cX12_takes 44 = .ok (.getfield 437, 3) := by decide +kernel
theorem dX12_takes_47 : decode cX12_takes 47 = .ok (.if_icmp .ge 44, 3) := by decide +kernel
theorem dX12_takes_50 : decode cX12_takes 50 = .ok (.aload_n 0, 1) := by decide +kernel
theorem dX12_takes_51 : decode cX12_takes 51 = .ok (.iload_n 1, 1) := by decide +kernel
theorem dX12_takes_52 : decode cX12_takes 52 = .ok (.aload_n 0, 1) := by decide +kernel
theorem dX12_takes_53 : decode cX12_takes 53 = .ok (.getfield 116, 3) := by decide +kernel
theorem dX12_takes_56 : decode cX12_takes 56 = .ok (.iload 4, 2) := by decide +kernel
theorem dX12_takes_58 : decode cX12_takes 58 = .ok (.iaload, 1) := by decide +kernel
theorem dX12_takes_59 : decode cX12_takes 59 = .ok (.invokevirtual 440, 3) := by decide +kernel
theorem dX12_takes_62 : decode cX12_takes 62 = .ok (.aload_n 0, 1) := by decide +kernel
theorem dX12_takes_63 : decode cX12_takes 63 = .ok (.getfield 119, 3) := by decide +kernel
theorem dX12_takes_66 : decode cX12_takes 66 = .ok (.iload 4, 2) := by decide +kernel
theorem dX12_takes_68 : decode cX12_takes 68 = .ok (.iaload, 1) := by decide +kernel
theorem dX12_takes_69 : decode cX12_takes 69 = .ok (.isub, 1) := by decide +kernel
theorem dX12_takes_70 : decode cX12_takes 70 = .ok (.invokestatic 237, 3) := by decide +kernel
theorem dX12_takes_73 : decode cX12_takes 73 = .ok (.aload_n 0, 1) := by decide +kernel
theorem dX12_takes_74 : decode cX12_takes 74 = .ok (.getfield 122, 3) := by decide +kernel
theorem dX12_takes_77 : decode cX12_takes 77 = .ok (.iload 4, 2) := by decide +kernel
theorem dX12_takes_79 : decode cX12_takes 79 = .ok (.iaload, 1) := by decide +kernel
theorem dX12_takes_80 : decode cX12_takes 80 = .ok (.if_icmp .le 5, 3) := by decide +kernel
theorem dX12_takes_83 : decode cX12_takes 83 = .ok (.iconst 0, 1) := by decide +kernel
theorem dX12_takes_84 : decode cX12_takes 84 = .ok (.ireturn, 1) := by decide +kernel
theorem dX12_takes_85 : decode cX12_takes 85 = .ok (.iinc 4 1, 3) := by decide +kernel
theorem dX12_takes_88 : decode cX12_takes 88 = .ok (.goto (-47), 3) := by decide +kernel
theorem dX12_takes_91 : decode cX12_takes 91 = .ok (.iconst 1, 1) := by decide +kernel
theorem dX12_takes_92 : decode cX12_takes 92 = .ok (.ireturn, 1) := by decide +kernel
theorem dX12_fits_0 : decode cX12_fits 0 = .ok (.aload_n 0, 1) := by decide +kernel
theorem dX12_fits_1 : decode cX12_fits 1 = .ok (.iconst 0, 1) := by decide +kernel
theorem dX12_fits_2 : decode cX12_fits 2 = .ok (.putfield 179, 3) := by decide +kernel
theorem dX12_fits_5 : decode cX12_fits 5 = .ok (.aload_n 0, 1) := by decide +kernel
theorem dX12_fits_6 : decode cX12_fits 6 = .ok (.iload_n 1, 1) := by decide +kernel
theorem dX12_fits_7 : decode cX12_fits 7 = .ok (.iconst 1, 1) := by decide +kernel
theorem dX12_fits_8 : decode cX12_fits 8 = .ok (.iconst 4, 1) := by decide +kernel
theorem dX12_fits_9 : decode cX12_fits 9 = .ok (.invokestatic 203, 3) := by decide +kernel
theorem dX12_fits_12 : decode cX12_fits 12 = .ok (.ifCond .eq 11, 3) := by decide +kernel
theorem dX12_fits_15 : decode cX12_fits 15 = .ok (.iload_n 1, 1) := by decide +kernel
theorem dX12_fits_16 : decode cX12_fits 16 = .ok (.aload_n 0, 1) := by decide +kernel
theorem dX12_fits_17 : decode cX12_fits 17 = .ok (.getfield 222, 3) := by decide +kernel
theorem dX12_fits_20 : decode cX12_fits 20 = .ok (.if_icmp .le 7, 3) := by decide +kernel
theorem dX12_fits_23 : decode cX12_fits 23 = .ok (.iconst 1, 1) := by decide +kernel
theorem dX12_fits_24 : decode cX12_fits 24 = .ok (.goto 4, 3) := by decide +kernel
theorem dX12_fits_27 : decode cX12_fits 27 = .ok (.iconst 0, 1) := by decide +kernel
theorem dX12_fits_28 : decode cX12_fits 28 = .ok (.iconst 1, 1) := by decide +kernel
theorem dX12_fits_29 : decode cX12_fits 29 = .ok (.invokevirtual 207, 3) := by decide +kernel
theorem dX12_fits_32 : decode cX12_fits 32 = .ok (.ifCond .eq 5, 3) := by decide +kernel
theorem dX12_fits_35 : decode cX12_fits 35 = .ok (.iconst 0, 1) := by decide +kernel
theorem dX12_fits_36 : decode cX12_fits 36 = .ok (.ireturn, 1) := by decide +kernel
theorem dX12_fits_37 : decode cX12_fits 37 = .ok (.iconst 0, 1) := by decide +kernel
theorem dX12_fits_38 : decode cX12_fits 38 = .ok (.istore_n 2, 1) := by decide +kernel
theorem dX12_fits_39 : decode cX12_fits 39 = .ok (.iconst 0, 1) := by decide +kernel
theorem dX12_fits_40 : decode cX12_fits 40 = .ok (.istore_n 3, 1) := by decide +kernel
theorem dX12_fits_41 : decode cX12_fits 41 = .ok (.iload_n 3, 1) := by decide +kernel
theorem dX12_fits_42 : decode cX12_fits 42 = .ok (.aload_n 0, 1) := by decide +kernel
theorem dX12_fits_43 : decode cX12_fits 43 = .ok (.iload_n 1, 1) := by decide +kernel
theorem dX12_fits_44 : decode cX12_fits 44 = .ok (.invokevirtual 443, 3) := by decide +kernel
theorem dX12_fits_47 : decode cX12_fits 47 = .ok (.if_icmp .ge 26, 3) := by decide +kernel
theorem dX12_fits_50 : decode cX12_fits 50 = .ok (.iload_n 2, 1) := by decide +kernel
theorem dX12_fits_51 : decode cX12_fits 51 = .ok (.aload_n 0, 1) := by decide +kernel
theorem dX12_fits_52 : decode cX12_fits 52 = .ok (.iload_n 1, 1) := by decide +kernel
theorem dX12_fits_53 : decode cX12_fits 53 = .ok (.iload_n 3, 1) := by decide +kernel
theorem dX12_fits_54 : decode cX12_fits 54 = .ok (.invokevirtual 446, 3) := by decide +kernel
theorem dX12_fits_57 : decode cX12_fits 57 = .ok (.ifCond .eq 7, 3) := by decide +kernel
theorem dX12_fits_60 : decode cX12_fits 60 = .ok (.iconst 1, 1) := by decide +kernel
theorem dX12_fits_61 : decode cX12_fits 61 = .ok (.goto 4, 3) := by decide +kernel
theorem dX12_fits_64 : decode cX12_fits 64 = .ok (.iconst 0, 1) := by decide +kernel
theorem dX12_fits_65 : decode cX12_fits 65 = .ok (.iadd, 1) := by decide +kernel
theorem dX12_fits_66 : decode cX12_fits 66 = .ok (.istore_n 2, 1) := by decide +kernel
theorem dX12_fits_67 : decode cX12_fits 67 = .ok (.iinc 3 1, 3) := by decide +kernel
theorem dX12_fits_70 : decode cX12_fits 70 = .ok (.goto (-29), 3) := by decide +kernel
theorem dX12_fits_73 : decode cX12_fits 73 = .ok (.iload_n 2, 1) := by decide +kernel
theorem dX12_fits_74 : decode cX12_fits 74 = .ok (.ireturn, 1) := by decide +kernel
theorem dX12_fit_0 : decode cX12_fit 0 = .ok (.aload_n 0, 1) := by decide +kernel
theorem dX12_fit_1 : decode cX12_fit 1 = .ok (.iconst 0, 1) := by decide +kernel
theorem dX12_fit_2 : decode cX12_fit 2 = .ok (.putfield 179, 3) := by decide +kernel
theorem dX12_fit_5 : decode cX12_fit 5 = .ok (.aload_n 0, 1) := by decide +kernel
theorem dX12_fit_6 : decode cX12_fit 6 = .ok (.iload_n 1, 1) := by decide +kernel
theorem dX12_fit_7 : decode cX12_fit 7 = .ok (.iconst 1, 1) := by decide +kernel
theorem dX12_fit_8 : decode cX12_fit 8 = .ok (.iconst 4, 1) := by decide +kernel
theorem dX12_fit_9 : decode cX12_fit 9 = .ok (.invokestatic 203, 3) := by decide +kernel
theorem dX12_fit_12 : decode cX12_fit 12 = .ok (.ifCond .eq 11, 3) := by decide +kernel
theorem dX12_fit_15 : decode cX12_fit 15 = .ok (.iload_n 1, 1) := by decide +kernel
theorem dX12_fit_16 : decode cX12_fit 16 = .ok (.aload_n 0, 1) := by decide +kernel
theorem dX12_fit_17 : decode cX12_fit 17 = .ok (.getfield 222, 3) := by decide +kernel
theorem dX12_fit_20 : decode cX12_fit 20 = .ok (.if_icmp .le 7, 3) := by decide +kernel
theorem dX12_fit_23 : decode cX12_fit 23 = .ok (.iconst 1, 1) := by decide +kernel
theorem dX12_fit_24 : decode cX12_fit 24 = .ok (.goto 4, 3) := by decide +kernel
theorem dX12_fit_27 : decode cX12_fit 27 = .ok (.iconst 0, 1) := by decide +kernel
theorem dX12_fit_28 : decode cX12_fit 28 = .ok (.iconst 1, 1) := by decide +kernel
theorem dX12_fit_29 : decode cX12_fit 29 = .ok (.invokevirtual 207, 3) := by decide +kernel
theorem dX12_fit_32 : decode cX12_fit 32 = .ok (.ifCond .eq 5, 3) := by decide +kernel
theorem dX12_fit_35 : decode cX12_fit 35 = .ok (.iconst 0, 1) := by decide +kernel
theorem dX12_fit_36 : decode cX12_fit 36 = .ok (.ireturn, 1) := by decide +kernel
theorem dX12_fit_37 : decode cX12_fit 37 = .ok (.iconst 0, 1) := by decide +kernel
theorem dX12_fit_38 : decode cX12_fit 38 = .ok (.istore_n 3, 1) := by decide +kernel
theorem dX12_fit_39 : decode cX12_fit 39 = .ok (.iload_n 3, 1) := by decide +kernel
theorem dX12_fit_40 : decode cX12_fit 40 = .ok (.aload_n 0, 1) := by decide +kernel
theorem dX12_fit_41 : decode cX12_fit 41 = .ok (.iload_n 1, 1) := by decide +kernel
theorem dX12_fit_42 : decode cX12_fit 42 = .ok (.invokevirtual 443, 3) := by decide +kernel
theorem dX12_fit_45 : decode cX12_fit 45 = .ok (.if_icmp .ge 36, 3) := by decide +kernel
theorem dX12_fit_48 : decode cX12_fit 48 = .ok (.iload_n 2, 1) := by decide +kernel
theorem dX12_fit_49 : decode cX12_fit 49 = .ok (.iconst 0, 1) := by decide +kernel
theorem dX12_fit_50 : decode cX12_fit 50 = .ok (.iload_n 1, 1) := by decide +kernel
theorem dX12_fit_51 : decode cX12_fit 51 = .ok (.iconst 1, 1) := by decide +kernel
theorem dX12_fit_52 : decode cX12_fit 52 = .ok (.isub, 1) := by decide +kernel
theorem dX12_fit_53 : decode cX12_fit 53 = .ok (.invokestatic 203, 3) := by decide +kernel
theorem dX12_fit_56 : decode cX12_fit 56 = .ok (.ifCond .eq 25, 3) := by decide +kernel
theorem dX12_fit_59 : decode cX12_fit 59 = .ok (.aload_n 0, 1) := by decide +kernel
theorem dX12_fit_60 : decode cX12_fit 60 = .ok (.iload_n 1, 1) := by decide +kernel
theorem dX12_fit_61 : decode cX12_fit 61 = .ok (.iload_n 3, 1) := by decide +kernel
theorem dX12_fit_62 : decode cX12_fit 62 = .ok (.invokevirtual 446, 3) := by decide +kernel
theorem dX12_fit_65 : decode cX12_fit 65 = .ok (.ifCond .eq 10, 3) := by decide +kernel
theorem dX12_fit_68 : decode cX12_fit 68 = .ok (.aload_n 0, 1) := by decide +kernel
theorem dX12_fit_69 : decode cX12_fit 69 = .ok (.getfield 125, 3) := by decide +kernel
theorem dX12_fit_72 : decode cX12_fit 72 = .ok (.iload_n 2, 1) := by decide +kernel
theorem dX12_fit_73 : decode cX12_fit 73 = .ok (.iaload, 1) := by decide +kernel
theorem dX12_fit_74 : decode cX12_fit 74 = .ok (.ireturn, 1) := by decide +kernel
theorem dX12_fit_75 : decode cX12_fit 75 = .ok (.iinc 3 1, 3) := by decide +kernel
theorem dX12_fit_78 : decode cX12_fit 78 = .ok (.goto (-39), 3) := by decide +kernel
theorem dX12_fit_81 : decode cX12_fit 81 = .ok (.iconst (-1), 1) := by decide +kernel
theorem dX12_fit_82 : decode cX12_fit 82 = .ok (.ireturn, 1) := by decide +kernel
theorem dX12_shows_0 : decode cX12_shows 0 = .ok (.aload_n 0, 1) := by decide +kernel
theorem dX12_shows_1 : decode cX12_shows 1 = .ok (.iconst 0, 1) := by decide +kernel
theorem dX12_shows_2 : decode cX12_shows 2 = .ok (.putfield 179, 3) := by decide +kernel
theorem dX12_shows_5 : decode cX12_shows 5 = .ok (.aload_n 0, 1) := by decide +kernel
theorem dX12_shows_6 : decode cX12_shows 6 = .ok (.iload_n 1, 1) := by decide +kernel
theorem dX12_shows_7 : decode cX12_shows 7 = .ok (.iconst 1, 1) := by decide +kernel
theorem dX12_shows_8 : decode cX12_shows 8 = .ok (.iconst 4, 1) := by decide +kernel
theorem dX12_shows_9 : decode cX12_shows 9 = .ok (.invokestatic 203, 3) := by decide +kernel
theorem dX12_shows_12 : decode cX12_shows 12 = .ok (.ifCond .eq 11, 3) := by decide +kernel
theorem dX12_shows_15 : decode cX12_shows 15 = .ok (.iload_n 1, 1) := by decide +kernel
theorem dX12_shows_16 : decode cX12_shows 16 = .ok (.aload_n 0, 1) := by decide +kernel
theorem dX12_shows_17 : decode cX12_shows 17 = .ok (.getfield 222, 3) := by decide +kernel
