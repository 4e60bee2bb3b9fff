theorem dX9_steerOfFirstWay_70 : decode cX9_steerOfFirstWay 70 = .ok (.iload 7, 2) := by decide +kernel
theorem dX9_steerOfFirstWay_72 : decode cX9_steerOfFirstWay 72 = .ok (.iload 4, 2) := by decide +kernel
theorem dX9_steerOfFirstWay_74 : decode cX9_steerOfFirstWay 74 = .ok (.iload 9, 2) := by decide +kernel
theorem dX9_steerOfFirstWay_76 : decode cX9_steerOfFirstWay 76 = .ok (.isub, 1) := by decide +kernel
theorem dX9_steerOfFirstWay_77 : decode cX9_steerOfFirstWay 77 = .ok (.invokevirtual 83, 3) := by decide +kernel
theorem dX9_steerOfFirstWay_80 : decode cX9_steerOfFirstWay 80 = .ok (.istore 8, 2) := by decide +kernel
theorem dX9_steerOfFirstWay_82 : decode cX9_steerOfFirstWay 82 = .ok (.aload 5, 2) := by decide +kernel
theorem dX9_steerOfFirstWay_84 : decode cX9_steerOfFirstWay 84 = .ok (.iload 6, 2) := by decide +kernel
theorem dX9_steerOfFirstWay_86 : decode cX9_steerOfFirstWay 86 = .ok (.iload 7, 2) := by decide +kernel
theorem dX9_steerOfFirstWay_88 : decode cX9_steerOfFirstWay 88 = .ok (.invokevirtual 86, 3) := by decide +kernel
theorem dX9_steerOfFirstWay_91 : decode cX9_steerOfFirstWay 91 = .ok (.istore 7, 2) := by decide +kernel
theorem dX9_steerOfFirstWay_93 : decode cX9_steerOfFirstWay 93 = .ok (.iload 6, 2) := by decide +kernel
theorem dX9_steerOfFirstWay_95 : decode cX9_steerOfFirstWay 95 = .ok (.iload 8, 2) := by decide +kernel
theorem dX9_steerOfFirstWay_97 : decode cX9_steerOfFirstWay 97 = .ok (.iload_n 3, 1) := by decide +kernel
theorem dX9_steerOfFirstWay_98 : decode cX9_steerOfFirstWay 98 = .ok (.invokestatic 89, 3) := by decide +kernel
theorem dX9_steerOfFirstWay_101 : decode cX9_steerOfFirstWay 101 = .ok (.istore 6, 2) := by decide +kernel
theorem dX9_steerOfFirstWay_103 : decode cX9_steerOfFirstWay 103 = .ok (.iinc 9 1, 3) := by decide +kernel
theorem dX9_steerOfFirstWay_106 : decode cX9_steerOfFirstWay 106 = .ok (.goto (-46), 3) := by decide +kernel
theorem dX9_steerOfFirstWay_109 : decode cX9_steerOfFirstWay 109 = .ok (.iload 8, 2) := by decide +kernel
theorem dX9_steerOfFirstWay_111 : decode cX9_steerOfFirstWay 111 = .ok (.ireturn, 1) := by decide +kernel
theorem dX9_daysInAll_0 : decode cX9_daysInAll 0 = .ok (.aload_n 0, 1) := by decide +kernel
theorem dX9_daysInAll_1 : decode cX9_daysInAll 1 = .ok (.iload_n 1, 1) := by decide +kernel
theorem dX9_daysInAll_2 : decode cX9_daysInAll 2 = .ok (.iload_n 2, 1) := by decide +kernel
theorem dX9_daysInAll_3 : decode cX9_daysInAll 3 = .ok (.iload_n 3, 1) := by decide +kernel
theorem dX9_daysInAll_4 : decode cX9_daysInAll 4 = .ok (.invokevirtual 79, 3) := by decide +kernel
theorem dX9_daysInAll_7 : decode cX9_daysInAll 7 = .ok (.istore 4, 2) := by decide +kernel
theorem dX9_daysInAll_9 : decode cX9_daysInAll 9 = .ok (.iload 4, 2) := by decide +kernel
theorem dX9_daysInAll_11 : decode cX9_daysInAll 11 = .ok (.iconst (-1), 1) := by decide +kernel
theorem dX9_daysInAll_12 : decode cX9_daysInAll 12 = .ok (.if_icmp .ne 7, 3) := by decide +kernel
theorem dX9_daysInAll_15 : decode cX9_daysInAll 15 = .ok (.iconst (-1), 1) := by decide +kernel
theorem dX9_daysInAll_16 : decode cX9_daysInAll 16 = .ok (.goto 7, 3) := by decide +kernel
theorem dX9_daysInAll_19 : decode cX9_daysInAll 19 = .ok (.iload_n 2, 1) := by decide +kernel
theorem dX9_daysInAll_20 : decode cX9_daysInAll 20 = .ok (.iload 4, 2) := by decide +kernel
theorem dX9_daysInAll_22 : decode cX9_daysInAll 22 = .ok (.iadd, 1) := by decide +kernel
theorem dX9_daysInAll_23 : decode cX9_daysInAll 23 = .ok (.ireturn, 1) := by decide +kernel
theorem dX9_bestWaiting_0 : decode cX9_bestWaiting 0 = .ok (.iconst (-1), 1) := by decide +kernel
theorem dX9_bestWaiting_1 : decode cX9_bestWaiting 1 = .ok (.istore_n 3, 1) := by decide +kernel
theorem dX9_bestWaiting_2 : decode cX9_bestWaiting 2 = .ok (.iconst (-1), 1) := by decide +kernel
theorem dX9_bestWaiting_3 : decode cX9_bestWaiting 3 = .ok (.istore 4, 2) := by decide +kernel
theorem dX9_bestWaiting_5 : decode cX9_bestWaiting 5 = .ok (.iconst 0, 1) := by decide +kernel
theorem dX9_bestWaiting_6 : decode cX9_bestWaiting 6 = .ok (.istore 5, 2) := by decide +kernel
theorem dX9_bestWaiting_8 : decode cX9_bestWaiting 8 = .ok (.iload 5, 2) := by decide +kernel
theorem dX9_bestWaiting_10 : decode cX9_bestWaiting 10 = .ok (.bipush 20, 2) := by decide +kernel
theorem dX9_bestWaiting_12 : decode cX9_bestWaiting 12 = .ok (.if_icmp .gt 50, 3) := by decide +kernel
theorem dX9_bestWaiting_15 : decode cX9_bestWaiting 15 = .ok (.aload_n 0, 1) := by decide +kernel
theorem dX9_bestWaiting_16 : decode cX9_bestWaiting 16 = .ok (.iload_n 1, 1) := by decide +kernel
theorem dX9_bestWaiting_17 : decode cX9_bestWaiting 17 = .ok (.iload 5, 2) := by decide +kernel
theorem dX9_bestWaiting_19 : decode cX9_bestWaiting 19 = .ok (.iload_n 2, 1) := by decide +kernel
theorem dX9_bestWaiting_20 : decode cX9_bestWaiting 20 = .ok (.invokevirtual 79, 3) := by decide +kernel
theorem dX9_bestWaiting_23 : decode cX9_bestWaiting 23 = .ok (.istore 6, 2) := by decide +kernel
theorem dX9_bestWaiting_25 : decode cX9_bestWaiting 25 = .ok (.iload 6, 2) := by decide +kernel
theorem dX9_bestWaiting_27 : decode cX9_bestWaiting 27 = .ok (.iconst (-1), 1) := by decide +kernel
theorem dX9_bestWaiting_28 : decode cX9_bestWaiting 28 = .ok (.if_icmp .eq 28, 3) := by decide +kernel
theorem dX9_bestWaiting_31 : decode cX9_bestWaiting 31 = .ok (.iload_n 3, 1) := by decide +kernel
theorem dX9_bestWaiting_32 : decode cX9_bestWaiting 32 = .ok (.iconst (-1), 1) := by decide +kernel
theorem dX9_bestWaiting_33 : decode cX9_bestWaiting 33 = .ok (.if_icmp .eq 13, 3) := by decide +kernel
theorem dX9_bestWaiting_36 : decode cX9_bestWaiting 36 = .ok (.iload 5, 2) := by decide +kernel
theorem dX9_bestWaiting_38 : decode cX9_bestWaiting 38 = .ok (.iload 6, 2) := by decide +kernel
theorem dX9_bestWaiting_40 : decode cX9_bestWaiting 40 = .ok (.iadd, 1) := by decide +kernel
theorem dX9_bestWaiting_41 : decode cX9_bestWaiting 41 = .ok (.iload 4, 2) := by decide +kernel
theorem dX9_bestWaiting_43 : decode cX9_bestWaiting 43 = .ok (.if_icmp .ge 13, 3) := by decide +kernel
theorem dX9_bestWaiting_46 : decode cX9_bestWaiting 46 = .ok (.iload 5, 2) := by decide +kernel
theorem dX9_bestWaiting_48 : decode cX9_bestWaiting 48 = .ok (.istore_n 3, 1) := by decide +kernel
theorem dX9_bestWaiting_49 : decode cX9_bestWaiting 49 = .ok (.iload 5, 2) := by decide +kernel
theorem dX9_bestWaiting_51 : decode cX9_bestWaiting 51 = .ok (.iload 6, 2) := by decide +kernel
theorem dX9_bestWaiting_53 : decode cX9_bestWaiting 53 = .ok (.iadd, 1) := by decide +kernel
theorem dX9_bestWaiting_54 : decode cX9_bestWaiting 54 = .ok (.istore 4, 2) := by decide +kernel
theorem dX9_bestWaiting_56 : decode cX9_bestWaiting 56 = .ok (.iinc 5 1, 3) := by decide +kernel
theorem dX9_bestWaiting_59 : decode cX9_bestWaiting 59 = .ok (.goto (-51), 3) := by decide +kernel
theorem dX9_bestWaiting_62 : decode cX9_bestWaiting 62 = .ok (.iload_n 3, 1) := by decide +kernel
theorem dX9_bestWaiting_63 : decode cX9_bestWaiting 63 = .ok (.ireturn, 1) := by decide +kernel
theorem dX9_addDust_0 : decode cX9_addDust 0 = .ok (.aload_n 0, 1) := by decide +kernel
theorem dX9_addDust_1 : decode cX9_addDust 1 = .ok (.getfield 92, 3) := by decide +kernel
theorem dX9_addDust_4 : decode cX9_addDust 4 = .ok (.bipush 20, 2) := by decide +kernel
theorem dX9_addDust_6 : decode cX9_addDust 6 = .ok (.if_icmp .ne 5, 3) := by decide +kernel
theorem dX9_addDust_9 : decode cX9_addDust 9 = .ok (.iconst (-1), 1) := by decide +kernel
theorem dX9_addDust_10 : decode cX9_addDust 10 = .ok (.ireturn, 1) := by decide +kernel
theorem dX9_addDust_11 : decode cX9_addDust 11 = .ok (.aload_n 0, 1) := by decide +kernel
theorem dX9_addDust_12 : decode cX9_addDust 12 = .ok (.getfield 24, 3) := by decide +kernel
theorem dX9_addDust_15 : decode cX9_addDust 15 = .ok (.aload_n 0, 1) := by decide +kernel
theorem dX9_addDust_16 : decode cX9_addDust 16 = .ok (.getfield 92, 3) := by decide +kernel
theorem dX9_addDust_19 : decode cX9_addDust 19 = .ok (.iload_n 1, 1) := by decide +kernel
theorem dX9_addDust_20 : decode cX9_addDust 20 = .ok (.iastore, 1) := by decide +kernel
theorem dX9_addDust_21 : decode cX9_addDust 21 = .ok (.aload_n 0, 1) := by decide +kernel
theorem dX9_addDust_22 : decode cX9_addDust 22 = .ok (.getfield 28, 3) := by decide +kernel
theorem dX9_addDust_25 : decode cX9_addDust 25 = .ok (.aload_n 0, 1) := by decide +kernel
theorem dX9_addDust_26 : decode cX9_addDust 26 = .ok (.getfield 92, 3) := by decide +kernel
theorem dX9_addDust_29 : decode cX9_addDust 29 = .ok (.iload_n 2, 1) := by decide +kernel
theorem dX9_addDust_30 : decode cX9_addDust 30 = .ok (.iastore, 1) := by decide +kernel
theorem dX9_addDust_31 : decode cX9_addDust 31 = .ok (.aload_n 0, 1) := by decide +kernel
theorem dX9_addDust_32 : decode cX9_addDust 32 = .ok (.dup, 1) := by decide +kernel
theorem dX9_addDust_33 : decode cX9_addDust 33 = .ok (.getfield 92, 3) := by decide +kernel
theorem dX9_addDust_36 : decode cX9_addDust 36 = .ok (.iconst 1, 1) := by decide +kernel
theorem dX9_addDust_37 : decode cX9_addDust 37 = .ok (.iadd, 1) := by decide +kernel
theorem dX9_addDust_38 : decode cX9_addDust 38 = .ok (.putfield 92, 3) := by decide +kernel
theorem dX9_addDust_41 : decode cX9_addDust 41 = .ok (.aload_n 0, 1) := by decide +kernel
theorem dX9_addDust_42 : decode cX9_addDust 42 = .ok (.getfield 92, 3) := by decide +kernel
theorem dX9_addDust_45 : decode cX9_addDust 45 = .ok (.ireturn, 1) := by decide +kernel
theorem dX9_firstRule_0 : decode cX9_firstRule 0 = .ok (.aload_n 0, 1) := by decide +kernel
theorem dX9_firstRule_1 : decode cX9_firstRule 1 = .ok (.aload_n 0, 1) := by decide +kernel
theorem dX9_firstRule_2 : decode cX9_firstRule 2 = .ok (.getfield 15, 3) := by decide +kernel
theorem dX9_firstRule_5 : decode cX9_firstRule 5 = .ok (.invokevirtual 47, 3) := by decide +kernel
theorem dX9_firstRule_8 : decode cX9_firstRule 8 = .ok (.istore 4, 2) := by decide +kernel
theorem dX9_firstRule_10 : decode cX9_firstRule 10 = .ok (.aload_n 0, 1) := by decide +kernel
theorem dX9_firstRule_11 : decode cX9_firstRule 11 = .ok (.getfield 34, 3) := by decide +kernel
theorem dX9_firstRule_14 : decode cX9_firstRule 14 = .ok (.iconst 0, 1) := by decide +kernel
theorem dX9_firstRule_15 : decode cX9_firstRule 15 = .ok (.aload_n 0, 1) := by decide +kernel
theorem dX9_firstRule_16 : decode cX9_firstRule 16 = .ok (.getfield 9, 3) := by decide +kernel
theorem dX9_firstRule_19 : decode cX9_firstRule 19 = .ok (.iastore, 1) := by decide +kernel
theorem dX9_firstRule_20 : decode cX9_firstRule 20 = .ok (.aload_n 0, 1) := by decide +kernel
theorem dX9_firstRule_21 : decode cX9_firstRule 21 = .ok (.getfield 34, 3) := by decide +kernel
theorem dX9_firstRule_24 : decode cX9_firstRule 24 = .ok (.iconst 1, 1) := by decide +kernel
theorem dX9_firstRule_25 : decode cX9_firstRule 25 = .ok (.aload_n 0, 1) := by decide +kernel
theorem dX9_firstRule_26 : decode cX9_firstRule 26 = .ok (.getfield 55, 3) := by decide +kernel
theorem dX9_firstRule_29 : decode cX9_firstRule 29 = .ok (.iastore, 1) := by decide +kernel
theorem dX9_firstRule_30 : decode cX9_firstRule 30 = .ok (.aload_n 0, 1) := by decide +kernel
theorem dX9_firstRule_31 : decode cX9_firstRule 31 = .ok (.getfield 34, 3) := by decide +kernel
theorem dX9_firstRule_34 : decode cX9_firstRule 34 = .ok (.iconst 2, 1) := by decide +kernel
theorem dX9_firstRule_35 : decode cX9_firstRule 35 = .ok (.aload_n 0, 1) := by decide +kernel
theorem dX9_firstRule_36 : decode cX9_firstRule 36 = .ok (.getfield 52, 3) := by decide +kernel
theorem dX9_firstRule_39 : decode cX9_firstRule 39 = .ok (.iastore, 1) := by decide +kernel
theorem dX9_firstRule_40 : decode cX9_firstRule 40 = .ok (.aload_n 0, 1) := by decide +kernel
theorem dX9_firstRule_41 : decode cX9_firstRule 41 = .ok (.getfield 34, 3) := by decide +kernel
theorem dX9_firstRule_44 : decode cX9_firstRule 44 = .ok (.iconst 3, 1) := by decide +kernel
theorem dX9_firstRule_45 : decode cX9_firstRule 45 = .ok (.iload 4, 2) := by decide +kernel
theorem dX9_firstRule_47 : decode cX9_firstRule 47 = .ok (.ifCond .eq 23, 3) := by decide +kernel
theorem dX9_firstRule_50 : decode cX9_firstRule 50 = .ok (.aload_n 0, 1) := by decide +kernel
theorem dX9_firstRule_51 : decode cX9_firstRule 51 = .ok (.getfield 20, 3) := by decide +kernel
theorem dX9_firstRule_54 : decode cX9_firstRule 54 = .ok (.aload_n 0, 1) := by decide +kernel
theorem dX9_firstRule_55 : decode cX9_firstRule 55 = .ok (.getfield 15, 3) := by decide +kernel
theorem dX9_firstRule_58 : decode cX9_firstRule 58 = .ok (.aaload, 1) := by decide +kernel
theorem dX9_firstRule_59 : decode cX9_firstRule 59 = .ok (.getfield 51, 3) := by decide +kernel
theorem dX9_firstRule_62 : decode cX9_firstRule 62 = .ok (.aload_n 0, 1) := by decide +kernel
theorem dX9_firstRule_63 : decode cX9_firstRule 63 = .ok (.getfield 9, 3) := by decide +kernel
theorem dX9_firstRule_66 : decode cX9_firstRule 66 = .ok (.isub, 1) := by decide +kernel
theorem dX9_firstRule_67 : decode cX9_firstRule 67 = .ok (.goto 4, 3) := by decide +kernel
theorem dX9_firstRule_70 : decode cX9_firstRule 70 = .ok (.iconst 0, 1) := by decide +kernel
theorem dX9_firstRule_71 : decode cX9_firstRule 71 = .ok (.iastore, 1) := by decide +kernel
theorem dX9_firstRule_72 : decode cX9_firstRule 72 = .ok (.aload_n 0, 1) := by decide +kernel
theorem dX9_firstRule_73 : decode cX9_firstRule 73 = .ok (.getfield 34, 3) := by decide +kernel
theorem dX9_firstRule_76 : decode cX9_firstRule 76 = .ok (.iconst 4, 1) := by decide +kernel
theorem dX9_firstRule_77 : decode cX9_firstRule 77 = .ok (.iload 4, 2) := by decide +kernel
theorem dX9_firstRule_79 : decode cX9_firstRule 79 = .ok (.ifCond .eq 32, 3) := by decide +kernel
theorem dX9_firstRule_82 : decode cX9_firstRule 82 = .ok (.aload_n 0, 1) := by decide +kernel
theorem dX9_firstRule_83 : decode cX9_firstRule 83 = .ok (.getfield 20, 3) := by decide +kernel
theorem dX9_firstRule_86 : decode cX9_firstRule 86 = .ok (.aload_n 0, 1) := by decide +kernel
theorem dX9_firstRule_87 : decode cX9_firstRule 87 = .ok (.getfield 15, 3) := by decide +kernel
theorem dX9_firstRule_90 : decode cX9_firstRule 90 = .ok (.aaload, 1) := by decide +kernel
theorem dX9_firstRule_91 : decode cX9_firstRule 91 = .ok (.aload_n 0, 1) := by decide +kernel
theorem dX9_firstRule_92 : decode cX9_firstRule 92 = .ok (.getfield 52, 3) := by decide +kernel
theorem dX9_firstRule_95 : decode cX9_firstRule 95 = .ok (.invokevirtual 95, 3) := by decide +kernel
theorem dX9_firstRule_98 : decode cX9_firstRule 98 = .ok (.aload_n 0, 1) := by decide +kernel
theorem dX9_firstRule_99 : decode cX9_firstRule 99 = .ok (.getfield 55, 3) := by decide +kernel
theorem dX9_firstRule_102 : decode cX9_firstRule 102 = .ok (.isub, 1) := by decide +kernel
theorem dX9_firstRule_103 : decode cX9_firstRule 103 = .ok (.bipush 72, 2) := by decide +kernel
theorem dX9_firstRule_105 : decode cX9_firstRule 105 = .ok (.invokestatic 98, 3) := by decide +kernel
theorem dX9_firstRule_108 : decode cX9_firstRule 108 = .ok (.goto 4, 3) := by decide +kernel
theorem dX9_firstRule_111 : decode cX9_firstRule 111 = .ok (.iconst 0, 1) := by decide +kernel
theorem dX9_firstRule_112 : decode cX9_firstRule 112 = .ok (.iastore, 1) := by decide +kernel
theorem dX9_firstRule_113 : decode cX9_firstRule 113 = .ok (.aload_n 0, 1) := by decide +kernel
theorem dX9_firstRule_114 : decode cX9_firstRule 114 = .ok (.getfield 34, 3) := by decide +kernel
theorem dX9_firstRule_117 : decode cX9_firstRule 117 = .ok (.iconst 5, 1) := by decide +kernel
theorem dX9_firstRule_118 : decode cX9_firstRule 118 = .ok (.aload_n 0, 1) := by decide +kernel
theorem dX9_firstRule_119 : decode cX9_firstRule 119 = .ok (.getfield 9, 3) := by decide +kernel
theorem dX9_firstRule_122 : decode cX9_firstRule 122 = .ok (.iload_n 3, 1) := by decide +kernel
theorem dX9_firstRule_123 : decode cX9_firstRule 123 = .ok (.invokestatic 103, 3) := by decide +kernel
theorem dX9_firstRule_126 : decode cX9_firstRule 126 = .ok (.iastore, 1) := by decide +kernel
theorem dX9_firstRule_127 : decode cX9_firstRule 127 = .ok (.aload_n 0, 1) := by decide +kernel
theorem dX9_firstRule_128 : decode cX9_firstRule 128 = .ok (.getfield 34, 3) := by decide +kernel
theorem dX9_firstRule_131 : decode cX9_firstRule 131 = .ok (.bipush 6, 2) := by decide +kernel
theorem dX9_firstRule_133 : decode cX9_firstRule 133 = .ok (.aload_n 1, 1) := by decide +kernel
theorem dX9_firstRule_134 : decode cX9_firstRule 134 = .ok (.invokevirtual 106, 3) := by decide +kernel
theorem dX9_firstRule_137 : decode cX9_firstRule 137 = .ok (.iastore, 1) := by decide +kernel
theorem dX9_firstRule_138 : decode cX9_firstRule 138 = .ok (.aload_n 2, 1) := by decide +kernel
theorem dX9_firstRule_139 : decode cX9_firstRule 139 = .ok (.aload_n 0, 1) := by decide +kernel
theorem dX9_firstRule_140 : decode cX9_firstRule 140 = .ok (.getfield 34, 3) := by decide +kernel
theorem dX9_firstRule_143 : decode cX9_firstRule 143 = .ok (.invokevirtual 112, 3) := by decide +kernel
theorem dX9_firstRule_146 : decode cX9_firstRule 146 = .ok (.ireturn, 1) := by decide +kernel
theorem dX9_flyFor_0 : decode cX9_flyFor 0 = .ok (.iconst 0, 1) := by decide +kernel
theorem dX9_flyFor_1 : decode cX9_flyFor 1 = .ok (.istore 4, 2) := by decide +kernel
theorem dX9_flyFor_3 : decode cX9_flyFor 3 = .ok (.iconst 0, 1) := by decide +kernel
theorem dX9_flyFor_4 : decode cX9_flyFor 4 = .ok (.istore 5, 2) := by decide +kernel
theorem dX9_flyFor_6 : decode cX9_flyFor 6 = .ok (.iload 4, 2) := by decide +kernel
theorem dX9_flyFor_8 : decode cX9_flyFor 8 = .ok (.iload_n 1, 1) := by decide +kernel
theorem dX9_flyFor_9 : decode cX9_flyFor 9 = .ok (.if_icmp .ge 26, 3) := by decide +kernel
theorem dX9_flyFor_12 : decode cX9_flyFor 12 = .ok (.iload 5, 2) := by decide +kernel
theorem dX9_flyFor_14 : decode cX9_flyFor 14 = .ok (.ifCond .ne 21, 3) := by decide +kernel
theorem dX9_flyFor_17 : decode cX9_flyFor 17 = .ok (.aload_n 0, 1) := by decide +kernel
theorem dX9_flyFor_18 : decode cX9_flyFor 18 = .ok (.aload_n 2, 1) := by decide +kernel
theorem dX9_flyFor_19 : decode cX9_flyFor 19 = .ok (.aload_n 3, 1) := by decide +kernel
theorem dX9_flyFor_20 : decode cX9_flyFor 20 = .ok (.invokevirtual 118, 3) := by decide +kernel
theorem dX9_flyFor_23 : decode cX9_flyFor 23 = .ok (.iinc 4 1, 3) := by decide +kernel
theorem dX9_flyFor_26 : decode cX9_flyFor 26 = .ok (.aload_n 0, 1) := by decide +kernel
theorem dX9_flyFor_27 : decode cX9_flyFor 27 = .ok (.invokevirtual 122, 3) := by decide +kernel
theorem dX9_flyFor_30 : decode cX9_flyFor 30 = .ok (.istore 5, 2) := by decide +kernel
theorem dX9_flyFor_32 : decode cX9_flyFor 32 = .ok (.goto (-26), 3) := by decide +kernel
theorem dX9_flyFor_35 : decode cX9_flyFor 35 = .ok (.iload 4, 2) := by decide +kernel
theorem dX9_flyFor_37 : decode cX9_flyFor 37 = .ok (.ireturn, 1) := by decide +kernel
theorem dX9_flyDay_0 : decode cX9_flyDay 0 = .ok (.aload_n 1, 1) := by decide +kernel
theorem dX9_flyDay_1 : decode cX9_flyDay 1 = .ok (.invokevirtual 126, 3) := by decide +kernel
theorem dX9_flyDay_4 : decode cX9_flyDay 4 = .ok (.istore_n 3, 1) := by decide +kernel
theorem dX9_flyDay_5 : decode cX9_flyDay 5 = .ok (.aload_n 0, 1) := by decide +kernel
theorem dX9_flyDay_6 : decode cX9_flyDay 6 = .ok (.aload_n 1, 1) := by decide +kernel
theorem dX9_flyDay_7 : decode cX9_flyDay 7 = .ok (.aload_n 2, 1) := by decide +kernel
theorem dX9_flyDay_8 : decode cX9_flyDay 8 = .ok (.iload_n 3, 1) := by decide +kernel
theorem dX9_flyDay_9 : decode cX9_flyDay 9 = .ok (.invokevirtual 129, 3) := by decide +kernel
theorem dX9_flyDay_12 : decode cX9_flyDay 12 = .ok (.istore 4, 2) := by decide +kernel
theorem dX9_flyDay_14 : decode cX9_flyDay 14 = .ok (.iload 4, 2) := by decide +kernel
theorem dX9_flyDay_16 : decode cX9_flyDay 16 = .ok (.iconst (-1), 1) := by decide +kernel
theorem dX9_flyDay_17 : decode cX9_flyDay 17 = .ok (.if_icmp .ne 7, 3) := by decide +kernel
theorem dX9_flyDay_20 : decode cX9_flyDay 20 = .ok (.iconst 1, 1) := by decide +kernel
theorem dX9_flyDay_21 : decode cX9_flyDay 21 = .ok (.goto 9, 3) := by decide +kernel
theorem dX9_flyDay_24 : decode cX9_flyDay 24 = .ok (.aload_n 2, 1) := by decide +kernel
theorem dX9_flyDay_25 : decode cX9_flyDay 25 = .ok (.iload 4, 2) := by decide +kernel
theorem dX9_flyDay_27 : decode cX9_flyDay 27 = .ok (.invokevirtual 133, 3) := by decide +kernel
theorem dX9_flyDay_30 : decode cX9_flyDay 30 = .ok (.istore 5, 2) := by decide +kernel
theorem dX9_flyDay_32 : decode cX9_flyDay 32 = .ok (.aload_n 0, 1) := by decide +kernel
theorem dX9_flyDay_33 : decode cX9_flyDay 33 = .ok (.getfield 9, 3) := by decide +kernel
theorem dX9_flyDay_36 : decode cX9_flyDay 36 = .ok (.iload 5, 2) := by decide +kernel
theorem dX9_flyDay_38 : decode cX9_flyDay 38 = .ok (.iload_n 3, 1) := by decide +kernel
theorem dX9_flyDay_39 : decode cX9_flyDay 39 = .ok (.invokestatic 89, 3) := by decide +kernel
theorem dX9_flyDay_42 : decode cX9_flyDay 42 = .ok (.iconst 0, 1) := by decide +kernel
theorem dX9_flyDay_43 : decode cX9_flyDay 43 = .ok (.sipush 255, 3) := by decide +kernel
theorem dX9_flyDay_46 : decode cX9_flyDay 46 = .ok (.invokestatic 43, 3) := by decide +kernel
theorem dX9_flyDay_49 : decode cX9_flyDay 49 = .ok (.ifCond .ne 6, 3) := by decide +kernel
theorem dX9_flyDay_52 : decode cX9_flyDay 52 = .ok (.iconst 1, 1) := by decide +kernel
theorem dX9_flyDay_53 : decode cX9_flyDay 53 = .ok (.istore 5, 2) := by decide +kernel
theorem dX9_flyDay_55 : decode cX9_flyDay 55 = .ok (.aload_n 0, 1) := by decide +kernel
theorem dX9_flyDay_56 : decode cX9_flyDay 56 = .ok (.aload_n 0, 1) := by decide +kernel
theorem dX9_flyDay_57 : decode cX9_flyDay 57 = .ok (.getfield 55, 3) := by decide +kernel
theorem dX9_flyDay_60 : decode cX9_flyDay 60 = .ok (.aload_n 0, 1) := by decide +kernel
theorem dX9_flyDay_61 : decode cX9_flyDay 61 = .ok (.getfield 9, 3) := by decide +kernel
theorem dX9_flyDay_64 : decode cX9_flyDay 64 = .ok (.invokestatic 68, 3) := by decide +kernel
theorem dX9_flyDay_67 : decode cX9_flyDay 67 = .ok (.iadd, 1) := by decide +kernel
theorem dX9_flyDay_68 : decode cX9_flyDay 68 = .ok (.bipush 72, 2) := by decide +kernel
theorem dX9_flyDay_70 : decode cX9_flyDay 70 = .ok (.irem, 1) := by decide +kernel
theorem dX9_flyDay_71 : decode cX9_flyDay 71 = .ok (.putfield 55, 3) := by decide +kernel
theorem dX9_flyDay_74 : decode cX9_flyDay 74 = .ok (.aload_n 0, 1) := by decide +kernel
theorem dX9_flyDay_75 : decode cX9_flyDay 75 = .ok (.aload_n 0, 1) := by decide +kernel
theorem dX9_flyDay_76 : decode cX9_flyDay 76 = .ok (.getfield 9, 3) := by decide +kernel
theorem dX9_flyDay_79 : decode cX9_flyDay 79 = .ok (.iload 5, 2) := by decide +kernel
theorem dX9_flyDay_81 : decode cX9_flyDay 81 = .ok (.iload_n 3, 1) := by decide +kernel
theorem dX9_flyDay_82 : decode cX9_flyDay 82 = .ok (.invokestatic 89, 3) := by decide +kernel
theorem dX9_flyDay_85 : decode cX9_flyDay 85 = .ok (.putfield 9, 3) := by decide +kernel
theorem dX9_flyDay_88 : decode cX9_flyDay 88 = .ok (.aload_n 0, 1) := by decide +kernel
theorem dX9_flyDay_89 : decode cX9_flyDay 89 = .ok (.aload_n 1, 1) := by decide +kernel
theorem dX9_flyDay_90 : decode cX9_flyDay 90 = .ok (.invokevirtual 136, 3) := by decide +kernel
theorem dX9_flyDay_93 : decode cX9_flyDay 93 = .ok (.iconst 0, 1) := by decide +kernel
theorem dX9_flyDay_94 : decode cX9_flyDay 94 = .ok (.istore 6, 2) := by decide +kernel
theorem dX9_flyDay_96 : decode cX9_flyDay 96 = .ok (.iload 6, 2) := by decide +kernel
theorem dX9_flyDay_98 : decode cX9_flyDay 98 = .ok (.aload_n 1, 1) := by decide +kernel
theorem dX9_flyDay_99 : decode cX9_flyDay 99 = .ok (.getfield 140, 3) := by decide +kernel
theorem dX9_flyDay_102 : decode cX9_flyDay 102 = .ok (.if_icmp .ge 53, 3) := by decide +kernel
theorem dX9_flyDay_105 : decode cX9_flyDay 105 = .ok (.aload_n 1, 1) := by decide +kernel
theorem dX9_flyDay_106 : decode cX9_flyDay 106 = .ok (.getfield 143, 3) := by decide +kernel
theorem dX9_flyDay_109 : decode cX9_flyDay 109 = .ok (.iload 6, 2) := by decide +kernel
theorem dX9_flyDay_111 : decode cX9_flyDay 111 = .ok (.aaload, 1) := by decide +kernel
theorem dX9_flyDay_112 : decode cX9_flyDay 112 = .ok (.getfield 147, 3) := by decide +kernel
theorem dX9_flyDay_115 : decode cX9_flyDay 115 = .ok (.ifCond .ne 34, 3) := by decide +kernel
theorem dX9_flyDay_118 : decode cX9_flyDay 118 = .ok (.aload_n 1, 1) := by decide +kernel
theorem dX9_flyDay_119 : decode cX9_flyDay 119 = .ok (.getfield 143, 3) := by decide +kernel
theorem dX9_flyDay_122 : decode cX9_flyDay 122 = .ok (.iload 6, 2) := by decide +kernel
theorem dX9_flyDay_124 : decode cX9_flyDay 124 = .ok (.aaload, 1) := by decide +kernel
theorem dX9_flyDay_125 : decode cX9_flyDay 125 = .ok (.aload_n 0, 1) := by decide +kernel
theorem dX9_flyDay_126 : decode cX9_flyDay 126 = .ok (.getfield 9, 3) := by decide +kernel
theorem dX9_flyDay_129 : decode cX9_flyDay 129 = .ok (.aload_n 0, 1) := by decide +kernel
theorem dX9_flyDay_130 : decode cX9_flyDay 130 = .ok (.getfield 52, 3) := by decide +kernel
theorem dX9_flyDay_133 : decode cX9_flyDay 133 = .ok (.bipush 10, 2) := by decide +kernel
theorem dX9_flyDay_135 : decode cX9_flyDay 135 = .ok (.irem, 1) := by decide +kernel
theorem dX9_flyDay_136 : decode cX9_flyDay 136 = .ok (.bipush 9, 2) := by decide +kernel
theorem dX9_flyDay_138 : decode cX9_flyDay 138 = .ok (.if_icmp .ne 7, 3) := by decide +kernel
theorem dX9_flyDay_141 : decode cX9_flyDay 141 = .ok (.iconst 1, 1) := by decide +kernel
theorem dX9_flyDay_142 : decode cX9_flyDay 142 = .ok (.goto 4, 3) := by decide +kernel
theorem dX9_flyDay_145 : decode cX9_flyDay 145 = .ok (.iconst 0, 1) := by decide +kernel
theorem dX9_flyDay_146 : decode cX9_flyDay 146 = .ok (.invokevirtual 153, 3) := by decide +kernel
theorem dX9_flyDay_149 : decode cX9_flyDay 149 = .ok (.iinc 6 1, 3) := by decide +kernel
theorem dX9_flyDay_152 : decode cX9_flyDay 152 = .ok (.goto (-56), 3) := by decide +kernel
theorem dX9_flyDay_155 : decode cX9_flyDay 155 = .ok (.aload_n 0, 1) := by decide +kernel
theorem dX9_flyDay_156 : decode cX9_flyDay 156 = .ok (.iload 5, 2) := by decide +kernel
theorem dX9_flyDay_158 : decode cX9_flyDay 158 = .ok (.iload_n 3, 1) := by decide +kernel
theorem dX9_flyDay_159 : decode cX9_flyDay 159 = .ok (.invokevirtual 157, 3) := by decide +kernel
theorem dX9_flyDay_162 : decode cX9_flyDay 162 = .ok (.aload_n 0, 1) := by decide +kernel
theorem dX9_flyDay_163 : decode cX9_flyDay 163 = .ok (.dup, 1) := by decide +kernel
theorem dX9_flyDay_164 : decode cX9_flyDay 164 = .ok (.getfield 52, 3) := by decide +kernel
theorem dX9_flyDay_167 : decode cX9_flyDay 167 = .ok (.iconst 1, 1) := by decide +kernel
theorem dX9_flyDay_168 : decode cX9_flyDay 168 = .ok (.iadd, 1) := by decide +kernel
theorem dX9_flyDay_169 : decode cX9_flyDay 169 = .ok (.putfield 52, 3) := by decide +kernel
theorem dX9_flyDay_172 : decode cX9_flyDay 172 = .ok (.return_, 1) := by decide +kernel
theorem dX9_tearByDust_0 : decode cX9_tearByDust 0 = .ok (.iconst 0, 1) := by decide +kernel
theorem dX9_tearByDust_1 : decode cX9_tearByDust 1 = .ok (.istore_n 2, 1) := by decide +kernel
theorem dX9_tearByDust_2 : decode cX9_tearByDust 2 = .ok (.iload_n 2, 1) := by decide +kernel
theorem dX9_tearByDust_3 : decode cX9_tearByDust 3 = .ok (.aload_n 0, 1) := by decide +kernel
theorem dX9_tearByDust_4 : decode cX9_tearByDust 4 = .ok (.getfield 92, 3) := by decide +kernel
theorem dX9_tearByDust_7 : decode cX9_tearByDust 7 = .ok (.if_icmp .ge 50, 3) := by decide +kernel
theorem dX9_tearByDust_10 : decode cX9_tearByDust 10 = .ok (.aload_n 0, 1) := by decide +kernel
theorem dX9_tearByDust_11 : decode cX9_tearByDust 11 = .ok (.getfield 28, 3) := by decide +kernel
theorem dX9_tearByDust_14 : decode cX9_tearByDust 14 = .ok (.iload_n 2, 1) := by decide +kernel
theorem dX9_tearByDust_15 : decode cX9_tearByDust 15 = .ok (.iaload, 1) := by decide +kernel
theorem dX9_tearByDust_16 : decode cX9_tearByDust 16 = .ok (.aload_n 0, 1) := by decide +kernel
theorem dX9_tearByDust_17 : decode cX9_tearByDust 17 = .ok (.getfield 52, 3) := by decide +kernel
theorem dX9_tearByDust_20 : decode cX9_tearByDust 20 = .ok (.if_icmp .ne 31, 3) := by decide +kernel
theorem dX9_tearByDust_23 : decode cX9_tearByDust 23 = .ok (.aload_n 1, 1) := by decide +kernel
theorem dX9_tearByDust_24 : decode cX9_tearByDust 24 = .ok (.aload_n 0, 1) := by decide +kernel
theorem dX9_tearByDust_25 : decode cX9_tearByDust 25 = .ok (.getfield 24, 3) := by decide +kernel
theorem dX9_tearByDust_28 : decode cX9_tearByDust 28 = .ok (.iload_n 2, 1) := by decide +kernel
theorem dX9_tearByDust_29 : decode cX9_tearByDust 29 = .ok (.iaload, 1) := by decide +kernel
theorem dX9_tearByDust_30 : decode cX9_tearByDust 30 = .ok (.invokevirtual 161, 3) := by decide +kernel
theorem dX9_tearByDust_33 : decode cX9_tearByDust 33 = .ok (.ifCond .eq 18, 3) := by decide +kernel
theorem dX9_tearByDust_36 : decode cX9_tearByDust 36 = .ok (.aload_n 1, 1) := by decide +kernel
theorem dX9_tearByDust_37 : decode cX9_tearByDust 37 = .ok (.getfield 143, 3) := by decide +kernel
theorem dX9_tearByDust_40 : decode cX9_tearByDust 40 = .ok (.aload_n 0, 1) := by decide +kernel
theorem dX9_tearByDust_41 : decode cX9_tearByDust 41 = .ok (.getfield 24, 3) := by decide +kernel
theorem dX9_tearByDust_44 : decode cX9_tearByDust 44 = .ok (.iload_n 2, 1) := by decide +kernel
theorem dX9_tearByDust_45 : decode cX9_tearByDust 45 = .ok (.iaload, 1) := by decide +kernel
theorem dX9_tearByDust_46 : decode cX9_tearByDust 46 = .ok (.aaload, 1) := by decide +kernel
theorem dX9_tearByDust_47 : decode cX9_tearByDust 47 = .ok (.iconst 1, 1) := by decide +kernel
theorem dX9_tearByDust_48 : decode cX9_tearByDust 48 = .ok (.putfield 147, 3) := by decide +kernel
theorem dX9_tearByDust_51 : decode cX9_tearByDust 51 = .ok (.iinc 2 1, 3) := by decide +kernel
theorem dX9_tearByDust_54 : decode cX9_tearByDust 54 = .ok (.goto (-52), 3) := by decide +kernel
theorem dX9_tearByDust_57 : decode cX9_tearByDust 57 = .ok (.return_, 1) := by decide +kernel
theorem dX9_takeNote_0 : decode cX9_takeNote 0 = .ok (.iconst 4, 1) := by decide +kernel
theorem dX9_takeNote_1 : decode cX9_takeNote 1 = .ok (.aload_n 0, 1) := by decide +kernel
theorem dX9_takeNote_2 : decode cX9_takeNote 2 = .ok (.getfield 52, 3) := by decide +kernel
theorem dX9_takeNote_5 : decode cX9_takeNote 5 = .ok (.bipush 64, 2) := by decide +kernel
theorem dX9_takeNote_7 : decode cX9_takeNote 7 = .ok (.irem, 1) := by decide +kernel
theorem dX9_takeNote_8 : decode cX9_takeNote 8 = .ok (.imul, 1) := by decide +kernel
theorem dX9_takeNote_9 : decode cX9_takeNote 9 = .ok (.istore_n 3, 1) := by decide +kernel
theorem dX9_takeNote_10 : decode cX9_takeNote 10 = .ok (.aload_n 0, 1) := by decide +kernel
theorem dX9_takeNote_11 : decode cX9_takeNote 11 = .ok (.getfield 31, 3) := by decide +kernel
theorem dX9_takeNote_14 : decode cX9_takeNote 14 = .ok (.iload_n 3, 1) := by decide +kernel
theorem dX9_takeNote_15 : decode cX9_takeNote 15 = .ok (.iload_n 1, 1) := by decide +kernel
theorem dX9_takeNote_16 : decode cX9_takeNote 16 = .ok (.iastore, 1) := by decide +kernel
theorem dX9_takeNote_17 : decode cX9_takeNote 17 = .ok (.aload_n 0, 1) := by decide +kernel
theorem dX9_takeNote_18 : decode cX9_takeNote 18 = .ok (.getfield 31, 3) := by decide +kernel
theorem dX9_takeNote_21 : decode cX9_takeNote 21 = .ok (.iload_n 3, 1) := by decide +kernel
theorem dX9_takeNote_22 : decode cX9_takeNote 22 = .ok (.iconst 1, 1) := by decide +kernel
theorem dX9_takeNote_23 : decode cX9_takeNote 23 = .ok (.iadd, 1) := by decide +kernel
theorem dX9_takeNote_24 : decode cX9_takeNote 24 = .ok (.aload_n 0, 1) := by decide +kernel
theorem dX9_takeNote_25 : decode cX9_takeNote 25 = .ok (.getfield 9, 3) := by decide +kernel
theorem dX9_takeNote_28 : decode cX9_takeNote 28 = .ok (.iastore, 1) := by decide +kernel
theorem dX9_takeNote_29 : decode cX9_takeNote 29 = .ok (.aload_n 0, 1) := by decide +kernel
theorem dX9_takeNote_30 : decode cX9_takeNote 30 = .ok (.getfield 31, 3) := by decide +kernel
theorem dX9_takeNote_33 : decode cX9_takeNote 33 = .ok (.iload_n 3, 1) := by decide +kernel
theorem dX9_takeNote_34 : decode cX9_takeNote 34 = .ok (.iconst 2, 1) := by decide +kernel
theorem dX9_takeNote_35 : decode cX9_takeNote 35 = .ok (.iadd, 1) := by decide +kernel
theorem dX9_takeNote_36 : decode cX9_takeNote 36 = .ok (.aload_n 0, 1) := by decide +kernel
theorem dX9_takeNote_37 : decode cX9_takeNote 37 = .ok (.getfield 55, 3) := by decide +kernel
theorem dX9_takeNote_40 : decode cX9_takeNote 40 = .ok (.iastore, 1) := by decide +kernel
theorem dX9_takeNote_41 : decode cX9_takeNote 41 = .ok (.aload_n 0, 1) := by decide +kernel
theorem dX9_takeNote_42 : decode cX9_takeNote 42 = .ok (.getfield 31, 3) := by decide +kernel
theorem dX9_takeNote_45 : decode cX9_takeNote 45 = .ok (.iload_n 3, 1) := by decide +kernel
theorem dX9_takeNote_46 : decode cX9_takeNote 46 = .ok (.iconst 3, 1) := by decide +kernel
theorem dX9_takeNote_47 : decode cX9_takeNote 47 = .ok (.iadd, 1) := by decide +kernel
theorem dX9_takeNote_48 : decode cX9_takeNote 48 = .ok (.iload_n 2, 1) := by decide +kernel
theorem dX9_takeNote_49 : decode cX9_takeNote 49 = .ok (.iastore, 1) := by decide +kernel
theorem dX9_takeNote_50 : decode cX9_takeNote 50 = .ok (.return_, 1) := by decide +kernel
theorem dX9_noteOf_0 : decode cX9_noteOf 0 = .ok (.iload_n 1, 1) := by decide +kernel
theorem dX9_noteOf_1 : decode cX9_noteOf 1 = .ok (.iconst 0, 1) := by decide +kernel
theorem dX9_noteOf_2 : decode cX9_noteOf 2 = .ok (.aload_n 0, 1) := by decide +kernel
theorem dX9_noteOf_3 : decode cX9_noteOf 3 = .ok (.getfield 52, 3) := by decide +kernel
theorem dX9_noteOf_6 : decode cX9_noteOf 6 = .ok (.bipush 64, 2) := by decide +kernel
theorem dX9_noteOf_8 : decode cX9_noteOf 8 = .ok (.isub, 1) := by decide +kernel
theorem dX9_noteOf_9 : decode cX9_noteOf 9 = .ok (.invokestatic 164, 3) := by decide +kernel
theorem dX9_noteOf_12 : decode cX9_noteOf 12 = .ok (.if_icmp .lt 15, 3) := by decide +kernel
theorem dX9_noteOf_15 : decode cX9_noteOf 15 = .ok (.iload_n 1, 1) := by decide +kernel
theorem dX9_noteOf_16 : decode cX9_noteOf 16 = .ok (.aload_n 0, 1) := by decide +kernel
theorem dX9_noteOf_17 : decode cX9_noteOf 17 = .ok (.getfield 52, 3) := by decide +kernel
theorem dX9_noteOf_20 : decode cX9_noteOf 20 = .ok (.if_icmp .ge 7, 3) := by decide +kernel
theorem dX9_noteOf_23 : decode cX9_noteOf 23 = .ok (.iconst 1, 1) := by decide +kernel
theorem dX9_noteOf_24 : decode cX9_noteOf 24 = .ok (.goto 4, 3) := by decide +kernel
theorem dX9_noteOf_27 : decode cX9_noteOf 27 = .ok (.iconst 0, 1) := by decide +kernel
theorem dX9_noteOf_28 : decode cX9_noteOf 28 = .ok (.istore_n 3, 1) := by decide +kernel
theorem dX9_noteOf_29 : decode cX9_noteOf 29 = .ok (.iload_n 3, 1) := by decide +kernel
theorem dX9_noteOf_30 : decode cX9_noteOf 30 = .ok (.ifCond .eq 19, 3) := by decide +kernel
theorem dX9_noteOf_33 : decode cX9_noteOf 33 = .ok (.aload_n 0, 1) := by decide +kernel
theorem dX9_noteOf_34 : decode cX9_noteOf 34 = .ok (.getfield 31, 3) := by decide +kernel
theorem dX9_noteOf_37 : decode cX9_noteOf 37 = .ok (.iconst 4, 1) := by decide +kernel
theorem dX9_noteOf_38 : decode cX9_noteOf 38 = .ok (.iload_n 1, 1) := by decide +kernel
theorem dX9_noteOf_39 : decode cX9_noteOf 39 = .ok (.bipush 64, 2) := by decide +kernel
theorem dX9_noteOf_41 : decode cX9_noteOf 41 = .ok (.irem, 1) := by decide +kernel
theorem dX9_noteOf_42 : decode cX9_noteOf 42 = .ok (.imul, 1) := by decide +kernel
theorem dX9_noteOf_43 : decode cX9_noteOf 43 = .ok (.iload_n 2, 1) := by decide +kernel
theorem dX9_noteOf_44 : decode cX9_noteOf 44 = .ok (.iadd, 1) := by decide +kernel
theorem dX9_noteOf_45 : decode cX9_noteOf 45 = .ok (.iaload, 1) := by decide +kernel
theorem dX9_noteOf_46 : decode cX9_noteOf 46 = .ok (.goto 4, 3) := by decide +kernel
theorem dX9_noteOf_49 : decode cX9_noteOf 49 = .ok (.iconst (-1), 1) := by decide +kernel
theorem dX9_noteOf_50 : decode cX9_noteOf 50 = .ok (.ireturn, 1) := by decide +kernel
theorem dX10_init_0 : decode cX10_init 0 = .ok (.aload_n 0, 1) := by decide +kernel
theorem dX10_init_1 : decode cX10_init 1 = .ok (.invokespecial 1, 3) := by decide +kernel
theorem dX10_init_4 : decode cX10_init 4 = .ok (.aload_n 0, 1) := by decide +kernel
theorem dX10_init_5 : decode cX10_init 5 = .ok (.iload_n 1, 1) := by decide +kernel
theorem dX10_init_6 : decode cX10_init 6 = .ok (.putfield 7, 3) := by decide +kernel
theorem dX10_init_9 : decode cX10_init 9 = .ok (.aload_n 0, 1) := by decide +kernel
theorem dX10_init_10 : decode cX10_init 10 = .ok (.iload_n 2, 1) := by decide +kernel
theorem dX10_init_11 : decode cX10_init 11 = .ok (.putfield 13, 3) := by decide +kernel
theorem dX10_init_14 : decode cX10_init 14 = .ok (.aload_n 0, 1) := by decide +kernel
theorem dX10_init_15 : decode cX10_init 15 = .ok (.iload_n 3, 1) := by decide +kernel
theorem dX10_init_16 : decode cX10_init 16 = .ok (.putfield 16, 3) := by decide +kernel
theorem dX10_init_19 : decode cX10_init 19 = .ok (.return_, 1) := by decide +kernel
theorem dX10_angleOn_0 : decode cX10_angleOn 0 = .ok (.aload_n 0, 1) := by decide +kernel
theorem dX10_angleOn_1 : decode cX10_angleOn 1 = .ok (.getfield 13, 3) := by decide +kernel
theorem dX10_angleOn_4 : decode cX10_angleOn 4 = .ok (.aload_n 0, 1) := by decide +kernel
theorem dX10_angleOn_5 : decode cX10_angleOn 5 = .ok (.getfield 16, 3) := by decide +kernel
theorem dX10_angleOn_8 : decode cX10_angleOn 8 = .ok (.iload_n 1, 1) := by decide +kernel
theorem dX10_angleOn_9 : decode cX10_angleOn 9 = .ok (.imul, 1) := by decide +kernel
theorem dX10_angleOn_10 : decode cX10_angleOn 10 = .ok (.iadd, 1) := by decide +kernel
theorem dX10_angleOn_11 : decode cX10_angleOn 11 = .ok (.bipush 72, 2) := by decide +kernel
theorem dX10_angleOn_13 : decode cX10_angleOn 13 = .ok (.irem, 1) := by decide +kernel
theorem dX10_angleOn_14 : decode cX10_angleOn 14 = .ok (.ireturn, 1) := by decide +kernel
theorem dX10_aheadOn_0 : decode cX10_aheadOn 0 = .ok (.iload_n 2, 1) := by decide +kernel
theorem dX10_aheadOn_1 : decode cX10_aheadOn 1 = .ok (.aload_n 0, 1) := by decide +kernel
theorem dX10_aheadOn_2 : decode cX10_aheadOn 2 = .ok (.iload_n 1, 1) := by decide +kernel
theorem dX10_aheadOn_3 : decode cX10_aheadOn 3 = .ok (.invokevirtual 21, 3) := by decide +kernel
theorem dX10_aheadOn_6 : decode cX10_aheadOn 6 = .ok (.isub, 1) := by decide +kernel
theorem dX10_aheadOn_7 : decode cX10_aheadOn 7 = .ok (.bipush 72, 2) := by decide +kernel
theorem dX10_aheadOn_9 : decode cX10_aheadOn 9 = .ok (.invokestatic 25, 3) := by decide +kernel
theorem dX10_aheadOn_12 : decode cX10_aheadOn 12 = .ok (.ireturn, 1) := by decide +kernel
theorem dX10_chartFor_0 : decode cX10_chartFor 0 = .ok (.aload_n 0, 1) := by decide +kernel
theorem dX10_chartFor_1 : decode cX10_chartFor 1 = .ok (.getfield 31, 3) := by decide +kernel
theorem dX10_chartFor_4 : decode cX10_chartFor 4 = .ok (.ifnonnull 22, 3) := by decide +kernel
theorem dX10_chartFor_7 : decode cX10_chartFor 7 = .ok (.aload_n 0, 1) := by decide +kernel
theorem dX10_chartFor_8 : decode cX10_chartFor 8 = .ok (.new 35, 3) := by decide +kernel
theorem dX10_chartFor_11 : decode cX10_chartFor 11 = .ok (.dup, 1) := by decide +kernel
theorem dX10_chartFor_12 : decode cX10_chartFor 12 = .ok (.aload_n 0, 1) := by decide +kernel
theorem dX10_chartFor_13 : decode cX10_chartFor 13 = .ok (.getfield 7, 3) := by decide +kernel
theorem dX10_chartFor_16 : decode cX10_chartFor 16 = .ok (.aload_n 0, 1) := by decide +kernel
theorem dX10_chartFor_17 : decode cX10_chartFor 17 = .ok (.getfield 16, 3) := by decide +kernel
theorem dX10_chartFor_20 : decode cX10_chartFor 20 = .ok (.invokespecial 37, 3) := by decide +kernel
theorem dX10_chartFor_23 : decode cX10_chartFor 23 = .ok (.putfield 31, 3) := by decide +kernel
theorem dX10_chartFor_26 : decode cX10_chartFor 26 = .ok (.aload_n 0, 1) := by decide +kernel
theorem dX10_chartFor_27 : decode cX10_chartFor 27 = .ok (.getfield 31, 3) := by decide +kernel
theorem dX10_chartFor_30 : decode cX10_chartFor 30 = .ok (.iload_n 1, 1) := by decide +kernel
theorem dX10_chartFor_31 : decode cX10_chartFor 31 = .ok (.invokevirtual 40, 3) := by decide +kernel
theorem dX10_chartFor_34 : decode cX10_chartFor 34 = .ok (.aload_n 0, 1) := by decide +kernel
theorem dX10_chartFor_35 : decode cX10_chartFor 35 = .ok (.getfield 31, 3) := by decide +kernel
theorem dX10_chartFor_38 : decode cX10_chartFor 38 = .ok (.areturn, 1) := by decide +kernel
theorem dX11_init_0 : decode cX11_init 0 = .ok (.aload_n 0, 1) := by decide +kernel
theorem dX11_init_1 : decode cX11_init 1 = .ok (.invokespecial 3, 3) := by decide +kernel
theorem dX11_init_4 : decode cX11_init 4 = .ok (.aload_n 0, 1) := by decide +kernel
theorem dX11_init_5 : decode cX11_init 5 = .ok (.new 9, 3) := by decide +kernel
theorem dX11_init_8 : decode cX11_init 8 = .ok (.dup, 1) := by decide +kernel
theorem dX11_init_9 : decode cX11_init 9 = .ok (.invokespecial 11, 3) := by decide +kernel
theorem dX11_init_12 : decode cX11_init 12 = .ok (.putfield 12, 3) := by decide +kernel
theorem dX11_init_15 : decode cX11_init 15 = .ok (.aload_n 0, 1) := by decide +kernel
theorem dX11_init_16 : decode cX11_init 16 = .ok (.new 16, 3) := by decide +kernel
theorem dX11_init_19 : decode cX11_init 19 = .ok (.dup, 1) := by decide +kernel
theorem dX11_init_20 : decode cX11_init 20 = .ok (.invokespecial 18, 3) := by decide +kernel
theorem dX11_init_23 : decode cX11_init 23 = .ok (.putfield 19, 3) := by decide +kernel
theorem dX11_init_26 : decode cX11_init 26 = .ok (.aload_n 0, 1) := by decide +kernel
theorem dX11_init_27 : decode cX11_init 27 = .ok (.new 23, 3) := by decide +kernel
theorem dX11_init_30 : decode cX11_init 30 = .ok (.dup, 1) := by decide +kernel
theorem dX11_init_31 : decode cX11_init 31 = .ok (.invokespecial 25, 3) := by decide +kernel
theorem dX11_init_34 : decode cX11_init 34 = .ok (.putfield 26, 3) := by decide +kernel
theorem dX11_init_37 : decode cX11_init 37 = .ok (.aload_n 0, 1) := by decide +kernel
theorem dX11_init_38 : decode cX11_init 38 = .ok (.new 30, 3) := by decide +kernel
theorem dX11_init_41 : decode cX11_init 41 = .ok (.dup, 1) := by decide +kernel
theorem dX11_init_42 : decode cX11_init 42 = .ok (.invokespecial 32, 3) := by decide +kernel
theorem dX11_init_45 : decode cX11_init 45 = .ok (.putfield 33, 3) := by decide +kernel
theorem dX11_init_48 : decode cX11_init 48 = .ok (.aload_n 0, 1) := by decide +kernel
theorem dX11_init_49 : decode cX11_init 49 = .ok (.new 37, 3) := by decide +kernel
theorem dX11_init_52 : decode cX11_init 52 = .ok (.dup, 1) := by decide +kernel
theorem dX11_init_53 : decode cX11_init 53 = .ok (.invokespecial 39, 3) := by decide +kernel
theorem dX11_init_56 : decode cX11_init 56 = .ok (.putfield 40, 3) := by decide +kernel
theorem dX11_init_59 : decode cX11_init 59 = .ok (.aload_n 0, 1) := by decide +kernel
theorem dX11_init_60 : decode cX11_init 60 = .ok (.new 44, 3) := by decide +kernel
theorem dX11_init_63 : decode cX11_init 63 = .ok (.dup, 1) := by decide +kernel
theorem dX11_init_64 : decode cX11_init 64 = .ok (.invokespecial 46, 3) := by decide +kernel
theorem dX11_init_67 : decode cX11_init 67 = .ok (.putfield 47, 3) := by decide +kernel
theorem dX11_init_70 : decode cX11_init 70 = .ok (.aload_n 0, 1) := by decide +kernel
theorem dX11_init_71 : decode cX11_init 71 = .ok (.new 51, 3) := by decide +kernel
theorem dX11_init_74 : decode cX11_init 74 = .ok (.dup, 1) := by decide +kernel
theorem dX11_init_75 : decode cX11_init 75 = .ok (.invokespecial 53, 3) := by decide +kernel
theorem dX11_init_78 : decode cX11_init 78 = .ok (.putfield 54, 3) := by decide +kernel
theorem dX11_init_81 : decode cX11_init 81 = .ok (.aload_n 0, 1) := by decide +kernel
theorem dX11_init_82 : decode cX11_init 82 = .ok (.new 58, 3) := by decide +kernel
theorem dX11_init_85 : decode cX11_init 85 = .ok (.dup, 1) := by decide +kernel
theorem dX11_init_86 : decode cX11_init 86 = .ok (.invokespecial 60, 3) := by decide +kernel
theorem dX11_init_89 : decode cX11_init 89 = .ok (.putfield 61, 3) := by decide +kernel
theorem dX11_init_92 : decode cX11_init 92 = .ok (.return_, 1) := by decide +kernel
theorem dX11_strip_0 : decode cX11_strip 0 = .ok (.iload_n 1, 1) := by decide +kernel
theorem dX11_strip_1 : decode cX11_strip 1 = .ok (.iconst 2, 1) := by decide +kernel
theorem dX11_strip_2 : decode cX11_strip 2 = .ok (.bipush 8, 2) := by decide +kernel
theorem dX11_strip_4 : decode cX11_strip 4 = .ok (.invokestatic 65, 3) := by decide +kernel
theorem dX11_strip_7 : decode cX11_strip 7 = .ok (.ifCond .eq 15, 3) := by decide +kernel
theorem dX11_strip_10 : decode cX11_strip 10 = .ok (.iload_n 2, 1) := by decide +kernel
theorem dX11_strip_11 : decode cX11_strip 11 = .ok (.iload_n 1, 1) := by decide +kernel
theorem dX11_strip_12 : decode cX11_strip 12 = .ok (.iconst 1, 1) := by decide +kernel
theorem dX11_strip_13 : decode cX11_strip 13 = .ok (.isub, 1) := by decide +kernel
theorem dX11_strip_14 : decode cX11_strip 14 = .ok (.iushr, 1) := by decide +kernel
theorem dX11_strip_15 : decode cX11_strip 15 = .ok (.ifCond .ne 7, 3) := by decide +kernel
theorem dX11_strip_18 : decode cX11_strip 18 = .ok (.iconst 1, 1) := by decide +kernel
theorem dX11_strip_19 : decode cX11_strip 19 = .ok (.goto 4, 3) := by decide +kernel
theorem dX11_strip_22 : decode cX11_strip 22 = .ok (.iconst 0, 1) := by decide +kernel
theorem dX11_strip_23 : decode cX11_strip 23 = .ok (.invokestatic 69, 3) := by decide +kernel
theorem dX11_strip_26 : decode cX11_strip 26 = .ok (.aload_n 0, 1) := by decide +kernel
theorem dX11_strip_27 : decode cX11_strip 27 = .ok (.getfield 12, 3) := by decide +kernel
theorem dX11_strip_30 : decode cX11_strip 30 = .ok (.iload_n 1, 1) := by decide +kernel
theorem dX11_strip_31 : decode cX11_strip 31 = .ok (.iload_n 2, 1) := by decide +kernel
theorem dX11_strip_32 : decode cX11_strip 32 = .ok (.invokevirtual 73, 3) := by decide +kernel
theorem dX11_strip_35 : decode cX11_strip 35 = .ok (.ireturn, 1) := by decide +kernel
theorem dX11_layer_0 : decode cX11_layer 0 = .ok (.iload_n 1, 1) := by decide +kernel
theorem dX11_layer_1 : decode cX11_layer 1 = .ok (.iconst 0, 1) := by decide +kernel
theorem dX11_layer_2 : decode cX11_layer 2 = .ok (.aload_n 0, 1) := by decide +kernel
theorem dX11_layer_3 : decode cX11_layer 3 = .ok (.getfield 12, 3) := by decide +kernel
theorem dX11_layer_6 : decode cX11_layer 6 = .ok (.getfield 77, 3) := by decide +kernel
theorem dX11_layer_9 : decode cX11_layer 9 = .ok (.iconst 1, 1) := by decide +kernel
theorem dX11_layer_10 : decode cX11_layer 10 = .ok (.isub, 1) := by decide +kernel
theorem dX11_layer_11 : decode cX11_layer 11 = .ok (.invokestatic 65, 3) := by decide +kernel
theorem dX11_layer_14 : decode cX11_layer 14 = .ok (.ifCond .eq 15, 3) := by decide +kernel
theorem dX11_layer_17 : decode cX11_layer 17 = .ok (.aload_n 0, 1) := by decide +kernel
theorem dX11_layer_18 : decode cX11_layer 18 = .ok (.getfield 12, 3) := by decide +kernel
theorem dX11_layer_21 : decode cX11_layer 21 = .ok (.getfield 81, 3) := by decide +kernel
theorem dX11_layer_24 : decode cX11_layer 24 = .ok (.iload_n 1, 1) := by decide +kernel
theorem dX11_layer_25 : decode cX11_layer 25 = .ok (.iaload, 1) := by decide +kernel
theorem dX11_layer_26 : decode cX11_layer 26 = .ok (.goto 4, 3) := by decide +kernel
theorem dX11_layer_29 : decode cX11_layer 29 = .ok (.iconst (-1), 1) := by decide +kernel
theorem dX11_layer_30 : decode cX11_layer 30 = .ok (.ireturn, 1) := by decide +kernel
theorem dX11_lies_0 : decode cX11_lies 0 = .ok (.aload_n 0, 1) := by decide +kernel
theorem dX11_lies_1 : decode cX11_lies 1 = .ok (.getfield 12, 3) := by decide +kernel
theorem dX11_lies_4 : decode cX11_lies 4 = .ok (.getfield 77, 3) := by decide +kernel
theorem dX11_lies_7 : decode cX11_lies 7 = .ok (.ifCond .le 7, 3) := by decide +kernel
theorem dX11_lies_10 : decode cX11_lies 10 = .ok (.iconst 1, 1) := by decide +kernel
theorem dX11_lies_11 : decode cX11_lies 11 = .ok (.goto 4, 3) := by decide +kernel
theorem dX11_lies_14 : decode cX11_lies 14 = .ok (.iconst 0, 1) := by decide +kernel
theorem dX11_lies_15 : decode cX11_lies 15 = .ok (.invokestatic 85, 3) := by decide +kernel
theorem dX11_lies_18 : decode cX11_lies 18 = .ok (.aload_n 0, 1) := by decide +kernel
theorem dX11_lies_19 : decode cX11_lies 19 = .ok (.getfield 12, 3) := by decide +kernel
theorem dX11_lies_22 : decode cX11_lies 22 = .ok (.iload_n 1, 1) := by decide +kernel
theorem dX11_lies_23 : decode cX11_lies 23 = .ok (.invokevirtual 88, 3) := by decide +kernel
theorem dX11_lies_26 : decode cX11_lies 26 = .ok (.invokestatic 69, 3) := by decide +kernel
theorem dX11_lies_29 : decode cX11_lies 29 = .ok (.aload_n 0, 1) := by decide +kernel
theorem dX11_lies_30 : decode cX11_lies 30 = .ok (.getfield 12, 3) := by decide +kernel
theorem dX11_lies_33 : decode cX11_lies 33 = .ok (.iload_n 1, 1) := by decide +kernel
theorem dX11_lies_34 : decode cX11_lies 34 = .ok (.invokevirtual 92, 3) := by decide +kernel
theorem dX11_lies_37 : decode cX11_lies 37 = .ok (.ireturn, 1) := by decide +kernel
theorem dX11_clear_0 : decode cX11_clear 0 = .ok (.aload_n 0, 1) := by decide +kernel
theorem dX11_clear_1 : decode cX11_clear 1 = .ok (.getfield 12, 3) := by decide +kernel
theorem dX11_clear_4 : decode cX11_clear 4 = .ok (.getfield 77, 3) := by decide +kernel
theorem dX11_clear_7 : decode cX11_clear 7 = .ok (.ifCond .le 7, 3) := by decide +kernel
theorem dX11_clear_10 : decode cX11_clear 10 = .ok (.iconst 1, 1) := by decide +kernel
theorem dX11_clear_11 : decode cX11_clear 11 = .ok (.goto 4, 3) := by decide +kernel
theorem dX11_clear_14 : decode cX11_clear 14 = .ok (.iconst 0, 1) := by decide +kernel
theorem dX11_clear_15 : decode cX11_clear 15 = .ok (.invokestatic 85, 3) := by decide +kernel
theorem dX11_clear_18 : decode cX11_clear 18 = .ok (.iload_n 1, 1) := by decide +kernel
theorem dX11_clear_19 : decode cX11_clear 19 = .ok (.iconst 0, 1) := by decide +kernel
theorem dX11_clear_20 : decode cX11_clear 20 = .ok (.aload_n 0, 1) := by decide +kernel
theorem dX11_clear_21 : decode cX11_clear 21 = .ok (.getfield 12, 3) := by decide +kernel
theorem dX11_clear_24 : decode cX11_clear 24 = .ok (.getfield 77, 3) := by decide +kernel
theorem dX11_clear_27 : decode cX11_clear 27 = .ok (.iconst 2, 1) := by decide +kernel
theorem dX11_clear_28 : decode cX11_clear 28 = .ok (.isub, 1) := by decide +kernel
theorem dX11_clear_29 : decode cX11_clear 29 = .ok (.invokestatic 65, 3) := by decide +kernel
theorem dX11_clear_32 : decode cX11_clear 32 = .ok (.invokestatic 95, 3) := by decide +kernel
theorem dX11_clear_35 : decode cX11_clear 35 = .ok (.aload_n 0, 1) := by decide +kernel
theorem dX11_clear_36 : decode cX11_clear 36 = .ok (.getfield 12, 3) := by decide +kernel
theorem dX11_clear_39 : decode cX11_clear 39 = .ok (.iload_n 1, 1) := by decide +kernel
theorem dX11_clear_40 : decode cX11_clear 40 = .ok (.aload_n 0, 1) := by decide +kernel
theorem dX11_clear_41 : decode cX11_clear 41 = .ok (.getfield 12, 3) := by decide +kernel
theorem dX11_clear_44 : decode cX11_clear 44 = .ok (.getfield 98, 3) := by decide +kernel
theorem dX11_clear_47 : decode cX11_clear 47 = .ok (.invokevirtual 101, 3) := by decide +kernel
theorem dX11_clear_50 : decode cX11_clear 50 = .ok (.ifCond .ne 7, 3) := by decide +kernel
theorem dX11_clear_53 : decode cX11_clear 53 = .ok (.iconst 1, 1) := by decide +kernel
theorem dX11_clear_54 : decode cX11_clear 54 = .ok (.goto 4, 3) := by decide +kernel
theorem dX11_clear_57 : decode cX11_clear 57 = .ok (.iconst 0, 1) := by decide +kernel
theorem dX11_clear_58 : decode cX11_clear 58 = .ok (.invokestatic 69, 3) := by decide +kernel
theorem dX11_clear_61 : decode cX11_clear 61 = .ok (.aload_n 0, 1) := by decide +kernel
theorem dX11_clear_62 : decode cX11_clear 62 = .ok (.getfield 12, 3) := by decide +kernel
theorem dX11_clear_65 : decode cX11_clear 65 = .ok (.iload_n 1, 1) := by decide +kernel
theorem dX11_clear_66 : decode cX11_clear 66 = .ok (.aload_n 0, 1) := by decide +kernel
theorem dX11_clear_67 : decode cX11_clear 67 = .ok (.getfield 12, 3) := by decide +kernel
theorem dX11_clear_70 : decode cX11_clear 70 = .ok (.getfield 98, 3) := by decide +kernel
theorem dX11_clear_73 : decode cX11_clear 73 = .ok (.invokevirtual 105, 3) := by decide +kernel
theorem dX11_clear_76 : decode cX11_clear 76 = .ok (.ireturn, 1) := by decide +kernel
theorem dX11_open_0 : decode cX11_open 0 = .ok (.aload_n 0, 1) := by decide +kernel
theorem dX11_open_1 : decode cX11_open 1 = .ok (.getfield 12, 3) := by decide +kernel
theorem dX11_open_4 : decode cX11_open 4 = .ok (.getfield 77, 3) := by decide +kernel
theorem dX11_open_7 : decode cX11_open 7 = .ok (.ifCond .le 7, 3) := by decide +kernel
theorem dX11_open_10 : decode cX11_open 10 = .ok (.iconst 1, 1) := by decide +kernel
theorem dX11_open_11 : decode cX11_open 11 = .ok (.goto 4, 3) := by decide +kernel
theorem dX11_open_14 : decode cX11_open 14 = .ok (.iconst 0, 1) := by decide +kernel
theorem dX11_open_15 : decode cX11_open 15 = .ok (.invokestatic 85, 3) := by decide +kernel
theorem dX11_open_18 : decode cX11_open 18 = .ok (.iload_n 1, 1) := by decide +kernel
theorem dX11_open_19 : decode cX11_open 19 = .ok (.iconst 0, 1) := by decide +kernel
theorem dX11_open_20 : decode cX11_open 20 = .ok (.aload_n 0, 1) := by decide +kernel
theorem dX11_open_21 : decode cX11_open 21 = .ok (.getfield 12, 3) := by decide +kernel
theorem dX11_open_24 : decode cX11_open 24 = .ok (.getfield 77, 3) := by decide +kernel
theorem dX11_open_27 : decode cX11_open 27 = .ok (.iconst 2, 1) := by decide +kernel
theorem dX11_open_28 : decode cX11_open 28 = .ok (.isub, 1) := by decide +kernel
theorem dX11_open_29 : decode cX11_open 29 = .ok (.invokestatic 65, 3) := by decide +kernel
theorem dX11_open_32 : decode cX11_open 32 = .ok (.invokestatic 95, 3) := by decide +kernel
theorem dX11_open_35 : decode cX11_open 35 = .ok (.aload_n 0, 1) := by decide +kernel
theorem dX11_open_36 : decode cX11_open 36 = .ok (.getfield 12, 3) := by decide +kernel
theorem dX11_open_39 : decode cX11_open 39 = .ok (.iload_n 1, 1) := by decide +kernel
theorem dX11_open_40 : decode cX11_open 40 = .ok (.invokevirtual 108, 3) := by decide +kernel
theorem dX11_open_43 : decode cX11_open 43 = .ok (.ireturn, 1) := by decide +kernel
theorem dX11_orders_0 : decode cX11_orders 0 = .ok (.aload_n 0, 1) := by decide +kernel
theorem dX11_orders_1 : decode cX11_orders 1 = .ok (.getfield 12, 3) := by decide +kernel
theorem dX11_orders_4 : decode cX11_orders 4 = .ok (.getfield 77, 3) := by decide +kernel
theorem dX11_orders_7 : decode cX11_orders 7 = .ok (.ifCond .le 7, 3) := by decide +kernel
theorem dX11_orders_10 : decode cX11_orders 10 = .ok (.iconst 1, 1) := by decide +kernel
theorem dX11_orders_11 : decode cX11_orders 11 = .ok (.goto 4, 3) := by decide +kernel
theorem dX11_orders_14 : decode cX11_orders 14 = .ok (.iconst 0, 1) := by decide +kernel
theorem dX11_orders_15 : decode cX11_orders 15 = .ok (.invokestatic 85, 3) := by decide +kernel
theorem dX11_orders_18 : decode cX11_orders 18 = .ok (.aload_n 0, 1) := by decide +kernel
theorem dX11_orders_19 : decode cX11_orders 19 = .ok (.getfield 12, 3) := by decide +kernel
theorem dX11_orders_22 : decode cX11_orders 22 = .ok (.invokevirtual 112, 3) := by decide +kernel
theorem dX11_orders_25 : decode cX11_orders 25 = .ok (.ireturn, 1) := by decide +kernel
theorem dX11_safe_0 : decode cX11_safe 0 = .ok (.aload_n 0, 1) := by decide +kernel
theorem dX11_safe_1 : decode cX11_safe 1 = .ok (.getfield 12, 3) := by decide +kernel
theorem dX11_safe_4 : decode cX11_safe 4 = .ok (.getfield 77, 3) := by decide +kernel
theorem dX11_safe_7 : decode cX11_safe 7 = .ok (.ifCond .le 7, 3) := by decide +kernel
theorem dX11_safe_10 : decode cX11_safe 10 = .ok (.iconst 1, 1) := by decide +kernel
theorem dX11_safe_11 : decode cX11_safe 11 = .ok (.goto 4, 3) := by decide +kernel
theorem dX11_safe_14 : decode cX11_safe 14 = .ok (.iconst 0, 1) := by decide +kernel
theorem dX11_safe_15 : decode cX11_safe 15 = .ok (.invokestatic 85, 3) := by decide +kernel
theorem dX11_safe_18 : decode cX11_safe 18 = .ok (.aload_n 0, 1) := by decide +kernel
theorem dX11_safe_19 : decode cX11_safe 19 = .ok (.getfield 12, 3) := by decide +kernel
theorem dX11_safe_22 : decode cX11_safe 22 = .ok (.iload_n 1, 1) := by decide +kernel
theorem dX11_safe_23 : decode cX11_safe 23 = .ok (.invokevirtual 116, 3) := by decide +kernel
theorem dX11_safe_26 : decode cX11_safe 26 = .ok (.ireturn, 1) := by decide +kernel
theorem dX11_panel_0 : decode cX11_panel 0 = .ok (.iload_n 1, 1) := by decide +kernel
theorem dX11_panel_1 : decode cX11_panel 1 = .ok (.iload_n 2, 1) := by decide +kernel
theorem dX11_panel_2 : decode cX11_panel 2 = .ok (.invokestatic 119, 3) := by decide +kernel
theorem dX11_panel_5 : decode cX11_panel 5 = .ok (.ifCond .eq 28, 3) := by decide +kernel
theorem dX11_panel_8 : decode cX11_panel 8 = .ok (.iload_n 3, 1) := by decide +kernel
theorem dX11_panel_9 : decode cX11_panel 9 = .ok (.iconst 1, 1) := by decide +kernel
theorem dX11_panel_10 : decode cX11_panel 10 = .ok (.sipush 1000, 3) := by decide +kernel
theorem dX11_panel_13 : decode cX11_panel 13 = .ok (.invokestatic 65, 3) := by decide +kernel
theorem dX11_panel_16 : decode cX11_panel 16 = .ok (.ifCond .eq 17, 3) := by decide +kernel
theorem dX11_panel_19 : decode cX11_panel 19 = .ok (.iload 4, 2) := by decide +kernel
theorem dX11_panel_21 : decode cX11_panel 21 = .ok (.iload 5, 2) := by decide +kernel
theorem dX11_panel_23 : decode cX11_panel 23 = .ok (.invokestatic 122, 3) := by decide +kernel
theorem dX11_panel_26 : decode cX11_panel 26 = .ok (.ifCond .eq 7, 3) := by decide +kernel
theorem dX11_panel_29 : decode cX11_panel 29 = .ok (.iconst 1, 1) := by decide +kernel
theorem dX11_panel_30 : decode cX11_panel 30 = .ok (.goto 4, 3) := by decide +kernel
theorem dX11_panel_33 : decode cX11_panel 33 = .ok (.iconst 0, 1) := by decide +kernel
theorem dX11_panel_34 : decode cX11_panel 34 = .ok (.invokestatic 69, 3) := by decide +kernel
theorem dX11_panel_37 : decode cX11_panel 37 = .ok (.aload_n 0, 1) := by decide +kernel
theorem dX11_panel_38 : decode cX11_panel 38 = .ok (.getfield 19, 3) := by decide +kernel
theorem dX11_panel_41 : decode cX11_panel 41 = .ok (.iload_n 1, 1) := by decide +kernel
theorem dX11_panel_42 : decode cX11_panel 42 = .ok (.iload_n 2, 1) := by decide +kernel
theorem dX11_panel_43 : decode cX11_panel 43 = .ok (.iload_n 3, 1) := by decide +kernel
theorem dX11_panel_44 : decode cX11_panel 44 = .ok (.iload 4, 2) := by decide +kernel
theorem dX11_panel_46 : decode cX11_panel 46 = .ok (.iload 5, 2) := by decide +kernel
theorem dX11_panel_48 : decode cX11_panel 48 = .ok (.invokevirtual 125, 3) := by decide +kernel
theorem dX11_panel_51 : decode cX11_panel 51 = .ok (.ireturn, 1) := by decide +kernel
theorem dX11_of_0 : decode cX11_of 0 = .ok (.aload_n 0, 1) := by decide +kernel
theorem dX11_of_1 : decode cX11_of 1 = .ok (.getfield 19, 3) := by decide +kernel
theorem dX11_of_4 : decode cX11_of 4 = .ok (.iload_n 1, 1) := by decide +kernel
theorem dX11_of_5 : decode cX11_of 5 = .ok (.invokevirtual 129, 3) := by decide +kernel
theorem dX11_of_8 : decode cX11_of 8 = .ok (.invokestatic 132, 3) := by decide +kernel
theorem dX11_of_11 : decode cX11_of 11 = .ok (.iload_n 2, 1) := by decide +kernel
theorem dX11_of_12 : decode cX11_of 12 = .ok (.iconst 0, 1) := by decide +kernel
theorem dX11_of_13 : decode cX11_of 13 = .ok (.iconst 4, 1) := by decide +kernel
theorem dX11_of_14 : decode cX11_of 14 = .ok (.invokestatic 65, 3) := by decide +kernel
theorem dX11_of_17 : decode cX11_of 17 = .ok (.invokestatic 69, 3) := by decide +kernel
theorem dX11_of_20 : decode cX11_of 20 = .ok (.aload_n 0, 1) := by decide +kernel
theorem dX11_of_21 : decode cX11_of 21 = .ok (.getfield 19, 3) := by decide +kernel
theorem dX11_of_24 : decode cX11_of 24 = .ok (.getfield 135, 3) := by decide +kernel
theorem dX11_of_27 : decode cX11_of 27 = .ok (.iload_n 1, 1) := by decide +kernel
theorem dX11_of_28 : decode cX11_of 28 = .ok (.aaload, 1) := by decide +kernel
theorem dX11_of_29 : decode cX11_of 29 = .ok (.iload_n 2, 1) := by decide +kernel
theorem dX11_of_30 : decode cX11_of 30 = .ok (.invokevirtual 139, 3) := by decide +kernel
theorem dX11_of_33 : decode cX11_of 33 = .ok (.ireturn, 1) := by decide +kernel
theorem dX11_tear_0 : decode cX11_tear 0 = .ok (.aload_n 0, 1) := by decide +kernel
theorem dX11_tear_1 : decode cX11_tear 1 = .ok (.getfield 19, 3) := by decide +kernel
theorem dX11_tear_4 : decode cX11_tear 4 = .ok (.iload_n 1, 1) := by decide +kernel
theorem dX11_tear_5 : decode cX11_tear 5 = .ok (.invokevirtual 129, 3) := by decide +kernel
theorem dX11_tear_8 : decode cX11_tear 8 = .ok (.invokestatic 132, 3) := by decide +kernel
theorem dX11_tear_11 : decode cX11_tear 11 = .ok (.aload_n 0, 1) := by decide +kernel
theorem dX11_tear_12 : decode cX11_tear 12 = .ok (.getfield 19, 3) := by decide +kernel
theorem dX11_tear_15 : decode cX11_tear 15 = .ok (.getfield 135, 3) := by decide +kernel
theorem dX11_tear_18 : decode cX11_tear 18 = .ok (.iload_n 1, 1) := by decide +kernel
theorem dX11_tear_19 : decode cX11_tear 19 = .ok (.aaload, 1) := by decide +kernel
theorem dX11_tear_20 : decode cX11_tear 20 = .ok (.getfield 144, 3) := by decide +kernel
theorem dX11_tear_23 : decode cX11_tear 23 = .ok (.istore_n 2, 1) := by decide +kernel
theorem dX11_tear_24 : decode cX11_tear 24 = .ok (.aload_n 0, 1) := by decide +kernel
theorem dX11_tear_25 : decode cX11_tear 25 = .ok (.getfield 19, 3) := by decide +kernel
theorem dX11_tear_28 : decode cX11_tear 28 = .ok (.getfield 135, 3) := by decide +kernel
theorem dX11_tear_31 : decode cX11_tear 31 = .ok (.iload_n 1, 1) := by decide +kernel
theorem dX11_tear_32 : decode cX11_tear 32 = .ok (.aaload, 1) := by decide +kernel
theorem dX11_tear_33 : decode cX11_tear 33 = .ok (.iconst 1, 1) := by decide +kernel
theorem dX11_tear_34 : decode cX11_tear 34 = .ok (.putfield 144, 3) := by decide +kernel
theorem dX11_tear_37 : decode cX11_tear 37 = .ok (.iload_n 2, 1) := by decide +kernel
theorem dX11_tear_38 : decode cX11_tear 38 = .ok (.ireturn, 1) := by decide +kernel
theorem dX11_flap_0 : decode cX11_flap 0 = .ok (.aload_n 0, 1) := by decide +kernel
theorem dX11_flap_1 : decode cX11_flap 1 = .ok (.getfield 19, 3) := by decide +kernel
theorem dX11_flap_4 : decode cX11_flap 4 = .ok (.iload_n 1, 1) := by decide +kernel
theorem dX11_flap_5 : decode cX11_flap 5 = .ok (.invokevirtual 129, 3) := by decide +kernel
theorem dX11_flap_8 : decode cX11_flap 8 = .ok (.invokestatic 132, 3) := by decide +kernel
theorem dX11_flap_11 : decode cX11_flap 11 = .ok (.aload_n 0, 1) := by decide +kernel
theorem dX11_flap_12 : decode cX11_flap 12 = .ok (.getfield 19, 3) := by decide +kernel
theorem dX11_flap_15 : decode cX11_flap 15 = .ok (.iload_n 1, 1) := by decide +kernel
theorem dX11_flap_16 : decode cX11_flap 16 = .ok (.invokevirtual 148, 3) := by decide +kernel
theorem dX11_flap_19 : decode cX11_flap 19 = .ok (.ireturn, 1) := by decide +kernel
theorem dX11_bend_0 : decode cX11_bend 0 = .ok (.aload_n 0, 1) := by decide +kernel
theorem dX11_bend_1 : decode cX11_bend 1 = .ok (.getfield 19, 3) := by decide +kernel
theorem dX11_bend_4 : decode cX11_bend 4 = .ok (.iload_n 1, 1) := by decide +kernel
theorem dX11_bend_5 : decode cX11_bend 5 = .ok (.invokevirtual 151, 3) := by decide +kernel
theorem dX11_bend_8 : decode cX11_bend 8 = .ok (.invokestatic 95, 3) := by decide +kernel
theorem dX11_bend_11 : decode cX11_bend 11 = .ok (.iload_n 2, 1) := by decide +kernel
theorem dX11_bend_12 : decode cX11_bend 12 = .ok (.bipush (-2), 2) := by decide +kernel
theorem dX11_bend_14 : decode cX11_bend 14 = .ok (.iconst 2, 1) := by decide +kernel
theorem dX11_bend_15 : decode cX11_bend 15 = .ok (.invokestatic 65, 3) := by decide +kernel
theorem dX11_bend_18 : decode cX11_bend 18 = .ok (.invokestatic 69, 3) := by decide +kernel
theorem dX11_bend_21 : decode cX11_bend 21 = .ok (.aload_n 0, 1) := by decide +kernel
theorem dX11_bend_22 : decode cX11_bend 22 = .ok (.getfield 19, 3) := by decide +kernel
theorem dX11_bend_25 : decode cX11_bend 25 = .ok (.getfield 154, 3) := by decide +kernel
theorem dX11_bend_28 : decode cX11_bend 28 = .ok (.iload_n 1, 1) := by decide +kernel
theorem dX11_bend_29 : decode cX11_bend 29 = .ok (.aaload, 1) := by decide +kernel
theorem dX11_bend_30 : decode cX11_bend 30 = .ok (.astore_n 3, 1) := by decide +kernel
theorem dX11_bend_31 : decode cX11_bend 31 = .ok (.aload_n 3, 1) := by decide +kernel
theorem dX11_bend_32 : decode cX11_bend 32 = .ok (.getfield 157, 3) := by decide +kernel
theorem dX11_bend_35 : decode cX11_bend 35 = .ok (.istore 4, 2) := by decide +kernel
theorem dX11_bend_37 : decode cX11_bend 37 = .ok (.aload_n 3, 1) := by decide +kernel
theorem dX11_bend_38 : decode cX11_bend 38 = .ok (.getfield 160, 3) := by decide +kernel
theorem dX11_bend_41 : decode cX11_bend 41 = .ok (.ifCond .eq 6, 3) := by decide +kernel
theorem dX11_bend_44 : decode cX11_bend 44 = .ok (.bipush (-3), 2) := by decide +kernel
theorem dX11_bend_46 : decode cX11_bend 46 = .ok (.ireturn, 1) := by decide +kernel
theorem dX11_bend_47 : decode cX11_bend 47 = .ok (.aload_n 3, 1) := by decide +kernel
theorem dX11_bend_48 : decode cX11_bend 48 = .ok (.iload_n 2, 1) := by decide +kernel
theorem dX11_bend_49 : decode cX11_bend 49 = .ok (.putfield 157, 3) := by decide +kernel
theorem dX11_bend_52 : decode cX11_bend 52 = .ok (.iload 4, 2) := by decide +kernel
theorem dX11_bend_54 : decode cX11_bend 54 = .ok (.ireturn, 1) := by decide +kernel
theorem dX11_stuck_0 : decode cX11_stuck 0 = .ok (.aload_n 0, 1) := by decide +kernel
theorem dX11_stuck_1 : decode cX11_stuck 1 = .ok (.getfield 19, 3) := by decide +kernel
theorem dX11_stuck_4 : decode cX11_stuck 4 = .ok (.iload_n 1, 1) := by decide +kernel
theorem dX11_stuck_5 : decode cX11_stuck 5 = .ok (.invokevirtual 151, 3) := by decide +kernel
theorem dX11_stuck_8 : decode cX11_stuck 8 = .ok (.invokestatic 95, 3) := by decide +kernel
theorem dX11_stuck_11 : decode cX11_stuck 11 = .ok (.aload_n 0, 1) := by decide +kernel
theorem dX11_stuck_12 : decode cX11_stuck 12 = .ok (.getfield 19, 3) := by decide +kernel
theorem dX11_stuck_15 : decode cX11_stuck 15 = .ok (.getfield 154, 3) := by decide +kernel
theorem dX11_stuck_18 : decode cX11_stuck 18 = .ok (.iload_n 1, 1) := by decide +kernel
theorem dX11_stuck_19 : decode cX11_stuck 19 = .ok (.aaload, 1) := by decide +kernel
theorem dX11_stuck_20 : decode cX11_stuck 20 = .ok (.getfield 160, 3) := by decide +kernel
theorem dX11_stuck_23 : decode cX11_stuck 23 = .ok (.istore_n 3, 1) := by decide +kernel
theorem dX11_stuck_24 : decode cX11_stuck 24 = .ok (.aload_n 0, 1) := by decide +kernel
theorem dX11_stuck_25 : decode cX11_stuck 25 = .ok (.getfield 19, 3) := by decide +kernel
theorem dX11_stuck_28 : decode cX11_stuck 28 = .ok (.getfield 154, 3) := by decide +kernel
theorem dX11_stuck_31 : decode cX11_stuck 31 = .ok (.iload_n 1, 1) := by decide +kernel
theorem dX11_stuck_32 : decode cX11_stuck 32 = .ok (.aaload, 1) := by decide +kernel
theorem dX11_stuck_33 : decode cX11_stuck 33 = .ok (.iload_n 2, 1) := by decide +kernel
theorem dX11_stuck_34 : decode cX11_stuck 34 = .ok (.putfield 160, 3) := by decide +kernel
theorem dX11_stuck_37 : decode cX11_stuck 37 = .ok (.iload_n 3, 1) := by decide +kernel
theorem dX11_stuck_38 : decode cX11_stuck 38 = .ok (.ireturn, 1) := by decide +kernel
theorem dX11_weights_0 : decode cX11_weights 0 = .ok (.iload_n 1, 1) := by decide +kernel
theorem dX11_weights_1 : decode cX11_weights 1 = .ok (.iload_n 2, 1) := by decide +kernel
theorem dX11_weights_2 : decode cX11_weights 2 = .ok (.invokestatic 119, 3) := by decide +kernel
theorem dX11_weights_5 : decode cX11_weights 5 = .ok (.invokestatic 69, 3) := by decide +kernel
theorem dX11_weights_8 : decode cX11_weights 8 = .ok (.aload_n 0, 1) := by decide +kernel
theorem dX11_weights_9 : decode cX11_weights 9 = .ok (.getfield 19, 3) := by decide +kernel
theorem dX11_weights_12 : decode cX11_weights 12 = .ok (.iload_n 1, 1) := by decide +kernel
theorem dX11_weights_13 : decode cX11_weights 13 = .ok (.putfield 163, 3) := by decide +kernel
theorem dX11_weights_16 : decode cX11_weights 16 = .ok (.aload_n 0, 1) := by decide +kernel
theorem dX11_weights_17 : decode cX11_weights 17 = .ok (.getfield 19, 3) := by decide +kernel
theorem dX11_weights_20 : decode cX11_weights 20 = .ok (.iload_n 2, 1) := by decide +kernel
theorem dX11_weights_21 : decode cX11_weights 21 = .ok (.putfield 166, 3) := by decide +kernel
theorem dX11_weights_24 : decode cX11_weights 24 = .ok (.return_, 1) := by decide +kernel
theorem dX11_push_0 : decode cX11_push 0 = .ok (.iload_n 1, 1) := by decide +kernel
theorem dX11_push_1 : decode cX11_push 1 = .ok (.invokestatic 169, 3) := by decide +kernel
theorem dX11_push_4 : decode cX11_push 4 = .ok (.ifCond .eq 16, 3) := by decide +kernel
theorem dX11_push_7 : decode cX11_push 7 = .ok (.iload_n 2, 1) := by decide +kernel
theorem dX11_push_8 : decode cX11_push 8 = .ok (.iconst 0, 1) := by decide +kernel
theorem dX11_push_9 : decode cX11_push 9 = .ok (.iconst 1, 1) := by decide +kernel
theorem dX11_push_10 : decode cX11_push 10 = .ok (.invokestatic 65, 3) := by decide +kernel
theorem dX11_push_13 : decode cX11_push 13 = .ok (.ifCond .eq 7, 3) := by decide +kernel
theorem dX11_push_16 : decode cX11_push 16 = .ok (.iconst 1, 1) := by decide +kernel
theorem dX11_push_17 : decode cX11_push 17 = .ok (.goto 4, 3) := by decide +kernel
theorem dX11_push_20 : decode cX11_push 20 = .ok (.iconst 0, 1) := by decide +kernel
theorem dX11_push_21 : decode cX11_push 21 = .ok (.invokestatic 69, 3) := by decide +kernel
theorem dX11_push_24 : decode cX11_push 24 = .ok (.iload_n 2, 1) := by decide +kernel
theorem dX11_push_25 : decode cX11_push 25 = .ok (.ifCond .ne 14, 3) := by decide +kernel
theorem dX11_push_28 : decode cX11_push 28 = .ok (.aload_n 0, 1) := by decide +kernel
theorem dX11_push_29 : decode cX11_push 29 = .ok (.getfield 19, 3) := by decide +kernel
theorem dX11_push_32 : decode cX11_push 32 = .ok (.iload_n 1, 1) := by decide +kernel
theorem dX11_push_33 : decode cX11_push 33 = .ok (.invokevirtual 172, 3) := by decide +kernel
theorem dX11_push_36 : decode cX11_push 36 = .ok (.goto 11, 3) := by decide +kernel
theorem dX11_push_39 : decode cX11_push 39 = .ok (.aload_n 0, 1) := by decide +kernel
theorem dX11_push_40 : decode cX11_push 40 = .ok (.getfield 19, 3) := by decide +kernel
theorem dX11_push_43 : decode cX11_push 43 = .ok (.iload_n 1, 1) := by decide +kernel
theorem dX11_push_44 : decode cX11_push 44 = .ok (.invokevirtual 175, 3) := by decide +kernel
theorem dX11_push_47 : decode cX11_push 47 = .ok (.ireturn, 1) := by decide +kernel
theorem dX11_turn_0 : decode cX11_turn 0 = .ok (.iload_n 1, 1) := by decide +kernel
theorem dX11_turn_1 : decode cX11_turn 1 = .ok (.invokestatic 169, 3) := by decide +kernel
theorem dX11_turn_4 : decode cX11_turn 4 = .ok (.ifCond .eq 16, 3) := by decide +kernel
theorem dX11_turn_7 : decode cX11_turn 7 = .ok (.iload_n 2, 1) := by decide +kernel
theorem dX11_turn_8 : decode cX11_turn 8 = .ok (.iconst 0, 1) := by decide +kernel
theorem dX11_turn_9 : decode cX11_turn 9 = .ok (.iconst 1, 1) := by decide +kernel
theorem dX11_turn_10 : decode cX11_turn 10 = .ok (.invokestatic 65, 3) := by decide +kernel
theorem dX11_turn_13 : decode cX11_turn 13 = .ok (.ifCond .eq 7, 3) := by decide +kernel
theorem dX11_turn_16 : decode cX11_turn 16 = .ok (.iconst 1, 1) := by decide +kernel
theorem dX11_turn_17 : decode cX11_turn 17 = .ok (.goto 4, 3) := by decide +kernel
theorem dX11_turn_20 : decode cX11_turn 20 = .ok (.iconst 0, 1) := by decide +kernel
theorem dX11_turn_21 : decode cX11_turn 21 = .ok (.invokestatic 69, 3) := by decide +kernel
theorem dX11_turn_24 : decode cX11_turn 24 = .ok (.aload_n 0, 1) := by decide +kernel
theorem dX11_turn_25 : decode cX11_turn 25 = .ok (.getfield 19, 3) := by decide +kernel
theorem dX11_turn_28 : decode cX11_turn 28 = .ok (.iload_n 1, 1) := by decide +kernel
theorem dX11_turn_29 : decode cX11_turn 29 = .ok (.iload_n 2, 1) := by decide +kernel
theorem dX11_turn_30 : decode cX11_turn 30 = .ok (.invokevirtual 178, 3) := by decide +kernel
theorem dX11_turn_33 : decode cX11_turn 33 = .ok (.ireturn, 1) := by decide +kernel
theorem dX11_trim_0 : decode cX11_trim 0 = .ok (.iload_n 1, 1) := by decide +kernel
theorem dX11_trim_1 : decode cX11_trim 1 = .ok (.invokestatic 169, 3) := by decide +kernel
theorem dX11_trim_4 : decode cX11_trim 4 = .ok (.ifCond .eq 16, 3) := by decide +kernel
theorem dX11_trim_7 : decode cX11_trim 7 = .ok (.iload_n 2, 1) := by decide +kernel
theorem dX11_trim_8 : decode cX11_trim 8 = .ok (.iconst (-1), 1) := by decide +kernel
theorem dX11_trim_9 : decode cX11_trim 9 = .ok (.iconst 3, 1) := by decide +kernel
theorem dX11_trim_10 : decode cX11_trim 10 = .ok (.invokestatic 65, 3) := by decide +kernel
theorem dX11_trim_13 : decode cX11_trim 13 = .ok (.ifCond .eq 7, 3) := by decide +kernel
theorem dX11_trim_16 : decode cX11_trim 16 = .ok (.iconst 1, 1) := by decide +kernel
theorem dX11_trim_17 : decode cX11_trim 17 = .ok (.goto 4, 3) := by decide +kernel
theorem dX11_trim_20 : decode cX11_trim 20 = .ok (.iconst 0, 1) := by decide +kernel
theorem dX11_trim_21 : decode cX11_trim 21 = .ok (.invokestatic 69, 3) := by decide +kernel
theorem dX11_trim_24 : decode cX11_trim 24 = .ok (.iload_n 2, 1) := by decide +kernel
theorem dX11_trim_25 : decode cX11_trim 25 = .ok (.aload_n 0, 1) := by decide +kernel
theorem dX11_trim_26 : decode cX11_trim 26 = .ok (.getfield 19, 3) := by decide +kernel
theorem dX11_trim_29 : decode cX11_trim 29 = .ok (.getfield 181, 3) := by decide +kernel
theorem dX11_trim_32 : decode cX11_trim 32 = .ok (.if_icmp .lt 6, 3) := by decide +kernel
theorem dX11_trim_35 : decode cX11_trim 35 = .ok (.bipush (-3), 2) := by decide +kernel
theorem dX11_trim_37 : decode cX11_trim 37 = .ok (.ireturn, 1) := by decide +kernel
theorem dX11_trim_38 : decode cX11_trim 38 = .ok (.aload_n 0, 1) := by decide +kernel
theorem dX11_trim_39 : decode cX11_trim 39 = .ok (.getfield 19, 3) := by decide +kernel
theorem dX11_trim_42 : decode cX11_trim 42 = .ok (.iload_n 1, 1) := by decide +kernel
theorem dX11_trim_43 : decode cX11_trim 43 = .ok (.invokevirtual 184, 3) := by decide +kernel
theorem dX11_trim_46 : decode cX11_trim 46 = .ok (.istore_n 3, 1) := by decide +kernel
theorem dX11_trim_47 : decode cX11_trim 47 = .ok (.iload_n 2, 1) := by decide +kernel
theorem dX11_trim_48 : decode cX11_trim 48 = .ok (.ifCond .ge 7, 3) := by decide +kernel
theorem dX11_trim_51 : decode cX11_trim 51 = .ok (.iload_n 3, 1) := by decide +kernel
theorem dX11_trim_52 : decode cX11_trim 52 = .ok (.goto 12, 3) := by decide +kernel
theorem dX11_trim_55 : decode cX11_trim 55 = .ok (.aload_n 0, 1) := by decide +kernel
theorem dX11_trim_56 : decode cX11_trim 56 = .ok (.getfield 19, 3) := by decide +kernel
theorem dX11_trim_59 : decode cX11_trim 59 = .ok (.getfield 187, 3) := by decide +kernel
theorem dX11_trim_62 : decode cX11_trim 62 = .ok (.iload_n 2, 1) := by decide +kernel
theorem dX11_trim_63 : decode cX11_trim 63 = .ok (.iaload, 1) := by decide +kernel
theorem dX11_trim_64 : decode cX11_trim 64 = .ok (.ireturn, 1) := by decide +kernel
theorem dX11_world_0 : decode cX11_world 0 = .ok (.iload_n 1, 1) := by decide +kernel
theorem dX11_world_1 : decode cX11_world 1 = .ok (.iconst 0, 1) := by decide +kernel
theorem dX11_world_2 : decode cX11_world 2 = .ok (.sipush 255, 3) := by decide +kernel
theorem dX11_world_5 : decode cX11_world 5 = .ok (.invokestatic 65, 3) := by decide +kernel
theorem dX11_world_8 : decode cX11_world 8 = .ok (.ifCond .eq 27, 3) := by decide +kernel
theorem dX11_world_11 : decode cX11_world 11 = .ok (.iload_n 2, 1) := by decide +kernel
theorem dX11_world_12 : decode cX11_world 12 = .ok (.iconst 0, 1) := by decide +kernel
theorem dX11_world_13 : decode cX11_world 13 = .ok (.bipush 71, 2) := by decide +kernel
theorem dX11_world_15 : decode cX11_world 15 = .ok (.invokestatic 65, 3) := by decide +kernel
theorem dX11_world_18 : decode cX11_world 18 = .ok (.ifCond .eq 17, 3) := by decide +kernel
theorem dX11_world_21 : decode cX11_world 21 = .ok (.iload_n 3, 1) := by decide +kernel
theorem dX11_world_22 : decode cX11_world 22 = .ok (.iconst 0, 1) := by decide +kernel
theorem dX11_world_23 : decode cX11_world 23 = .ok (.bipush 10, 2) := by decide +kernel
theorem dX11_world_25 : decode cX11_world 25 = .ok (.invokestatic 65, 3) := by decide +kernel
theorem dX11_world_28 : decode cX11_world 28 = .ok (.ifCond .eq 7, 3) := by decide +kernel
theorem dX11_world_31 : decode cX11_world 31 = .ok (.iconst 1, 1) := by decide +kernel
theorem dX11_world_32 : decode cX11_world 32 = .ok (.goto 4, 3) := by decide +kernel
theorem dX11_world_35 : decode cX11_world 35 = .ok (.iconst 0, 1) := by decide +kernel
theorem dX11_world_36 : decode cX11_world 36 = .ok (.invokestatic 69, 3) := by decide +kernel
theorem dX11_world_39 : decode cX11_world 39 = .ok (.aload_n 0, 1) := by decide +kernel
theorem dX11_world_40 : decode cX11_world 40 = .ok (.getfield 26, 3) := by decide +kernel
theorem dX11_world_43 : decode cX11_world 43 = .ok (.iload_n 1, 1) := by decide +kernel
theorem dX11_world_44 : decode cX11_world 44 = .ok (.iload_n 2, 1) := by decide +kernel
theorem dX11_world_45 : decode cX11_world 45 = .ok (.iload_n 3, 1) := by decide +kernel
theorem dX11_world_46 : decode cX11_world 46 = .ok (.invokevirtual 190, 3) := by decide +kernel
theorem dX11_world_49 : decode cX11_world 49 = .ok (.ireturn, 1) := by decide +kernel
theorem dX11_angle_0 : decode cX11_angle 0 = .ok (.aload_n 0, 1) := by decide +kernel
theorem dX11_angle_1 : decode cX11_angle 1 = .ok (.getfield 26, 3) := by decide +kernel
theorem dX11_angle_4 : decode cX11_angle 4 = .ok (.iload_n 1, 1) := by decide +kernel
theorem dX11_angle_5 : decode cX11_angle 5 = .ok (.invokevirtual 194, 3) := by decide +kernel
theorem dX11_angle_8 : decode cX11_angle 8 = .ok (.invokestatic 95, 3) := by decide +kernel
theorem dX11_angle_11 : decode cX11_angle 11 = .ok (.iload_n 2, 1) := by decide +kernel
theorem dX11_angle_12 : decode cX11_angle 12 = .ok (.iconst 0, 1) := by decide +kernel
theorem dX11_angle_13 : decode cX11_angle 13 = .ok (.sipush 3000, 3) := by decide +kernel
theorem dX11_angle_16 : decode cX11_angle 16 = .ok (.invokestatic 65, 3) := by decide +kernel
theorem dX11_angle_19 : decode cX11_angle 19 = .ok (.invokestatic 69, 3) := by decide +kernel
theorem dX11_angle_22 : decode cX11_angle 22 = .ok (.aload_n 0, 1) := by decide +kernel
theorem dX11_angle_23 : decode cX11_angle 23 = .ok (.getfield 26, 3) := by decide +kernel
theorem dX11_angle_26 : decode cX11_angle 26 = .ok (.getfield 197, 3) := by decide +kernel
theorem dX11_angle_29 : decode cX11_angle 29 = .ok (.iload_n 1, 1) := by decide +kernel
theorem dX11_angle_30 : decode cX11_angle 30 = .ok (.aaload, 1) := by decide +kernel
theorem dX11_angle_31 : decode cX11_angle 31 = .ok (.iload_n 2, 1) := by decide +kernel
theorem dX11_angle_32 : decode cX11_angle 32 = .ok (.invokevirtual 201, 3) := by decide +kernel
theorem dX11_angle_35 : decode cX11_angle 35 = .ok (.ireturn, 1) := by decide +kernel
theorem dX11_least_0 : decode cX11_least 0 = .ok (.aload_n 0, 1) := by decide +kernel
theorem dX11_least_1 : decode cX11_least 1 = .ok (.getfield 26, 3) := by decide +kernel
theorem dX11_least_4 : decode cX11_least 4 = .ok (.iload_n 1, 1) := by decide +kernel
theorem dX11_least_5 : decode cX11_least 5 = .ok (.invokevirtual 194, 3) := by decide +kernel
theorem dX11_least_8 : decode cX11_least 8 = .ok (.invokestatic 95, 3) := by decide +kernel
theorem dX11_least_11 : decode cX11_least 11 = .ok (.iload_n 2, 1) := by decide +kernel
theorem dX11_least_12 : decode cX11_least 12 = .ok (.iconst (-1), 1) := by decide +kernel
theorem dX11_least_13 : decode cX11_least 13 = .ok (.bipush 39, 2) := by decide +kernel
theorem dX11_least_15 : decode cX11_least 15 = .ok (.invokestatic 65, 3) := by decide +kernel
theorem dX11_least_18 : decode cX11_least 18 = .ok (.invokestatic 69, 3) := by decide +kernel
theorem dX11_least_21 : decode cX11_least 21 = .ok (.aload_n 0, 1) := by decide +kernel
theorem dX11_least_22 : decode cX11_least 22 = .ok (.getfield 19, 3) := by decide +kernel
theorem dX11_least_25 : decode cX11_least 25 = .ok (.invokevirtual 208, 3) := by decide +kernel
theorem dX11_least_28 : decode cX11_least 28 = .ok (.istore_n 3, 1) := by decide +kernel
theorem dX11_least_29 : decode cX11_least 29 = .ok (.iload_n 2, 1) := by decide +kernel
theorem dX11_least_30 : decode cX11_least 30 = .ok (.ifCond .ge 16, 3) := by decide +kernel
theorem dX11_least_33 : decode cX11_least 33 = .ok (.aload_n 0, 1) := by decide +kernel
theorem dX11_least_34 : decode cX11_least 34 = .ok (.getfield 26, 3) := by decide +kernel
theorem dX11_least_37 : decode cX11_least 37 = .ok (.iload_n 1, 1) := by decide +kernel
theorem dX11_least_38 : decode cX11_least 38 = .ok (.iconst 0, 1) := by decide +kernel
theorem dX11_least_39 : decode cX11_least 39 = .ok (.iload_n 3, 1) := by decide +kernel
theorem dX11_least_40 : decode cX11_least 40 = .ok (.invokevirtual 211, 3) := by decide +kernel
theorem dX11_least_43 : decode cX11_least 43 = .ok (.goto 13, 3) := by decide +kernel
theorem dX11_least_46 : decode cX11_least 46 = .ok (.aload_n 0, 1) := by decide +kernel
theorem dX11_least_47 : decode cX11_least 47 = .ok (.getfield 26, 3) := by decide +kernel
theorem dX11_least_50 : decode cX11_least 50 = .ok (.iload_n 1, 1) := by decide +kernel
theorem dX11_least_51 : decode cX11_least 51 = .ok (.iload_n 2, 1) := by decide +kernel
theorem dX11_least_52 : decode cX11_least 52 = .ok (.iload_n 3, 1) := by decide +kernel
theorem dX11_least_53 : decode cX11_least 53 = .ok (.invokevirtual 214, 3) := by decide +kernel
theorem dX11_least_56 : decode cX11_least 56 = .ok (.ireturn, 1) := by decide +kernel
theorem dX11_goal_0 : decode cX11_goal 0 = .ok (.iload_n 1, 1) := by decide +kernel
theorem dX11_goal_1 : decode cX11_goal 1 = .ok (.iconst (-1), 1) := by decide +kernel
theorem dX11_goal_2 : decode cX11_goal 2 = .ok (.if_icmp .eq 14, 3) := by decide +kernel
theorem dX11_goal_5 : decode cX11_goal 5 = .ok (.aload_n 0, 1) := by decide +kernel
theorem dX11_goal_6 : decode cX11_goal 6 = .ok (.getfield 26, 3) := by decide +kernel
theorem dX11_goal_9 : decode cX11_goal 9 = .ok (.iload_n 1, 1) := by decide +kernel
theorem dX11_goal_10 : decode cX11_goal 10 = .ok (.invokevirtual 194, 3) := by decide +kernel
theorem dX11_goal_13 : decode cX11_goal 13 = .ok (.ifCond .eq 7, 3) := by decide +kernel
theorem dX11_goal_16 : decode cX11_goal 16 = .ok (.iconst 1, 1) := by decide +kernel
theorem dX11_goal_17 : decode cX11_goal 17 = .ok (.goto 4, 3) := by decide +kernel
theorem dX11_goal_20 : decode cX11_goal 20 = .ok (.iconst 0, 1) := by decide +kernel
theorem dX11_goal_21 : decode cX11_goal 21 = .ok (.invokestatic 95, 3) := by decide +kernel
theorem dX11_goal_24 : decode cX11_goal 24 = .ok (.aload_n 0, 1) := by decide +kernel
theorem dX11_goal_25 : decode cX11_goal 25 = .ok (.getfield 26, 3) := by decide +kernel
theorem dX11_goal_28 : decode cX11_goal 28 = .ok (.getfield 217, 3) := by decide +kernel
theorem dX11_goal_31 : decode cX11_goal 31 = .ok (.istore_n 2, 1) := by decide +kernel
theorem dX11_goal_32 : decode cX11_goal 32 = .ok (.aload_n 0, 1) := by decide +kernel
theorem dX11_goal_33 : decode cX11_goal 33 = .ok (.getfield 26, 3) := by decide +kernel
theorem dX11_goal_36 : decode cX11_goal 36 = .ok (.iload_n 1, 1) := by decide +kernel
theorem dX11_goal_37 : decode cX11_goal 37 = .ok (.putfield 217, 3) := by decide +kernel
theorem dX11_goal_40 : decode cX11_goal 40 = .ok (.iload_n 2, 1) := by decide +kernel
theorem dX11_goal_41 : decode cX11_goal 41 = .ok (.ireturn, 1) := by decide +kernel
theorem dX11_feed_0 : decode cX11_feed 0 = .ok (.aload_n 0, 1) := by decide +kernel
theorem dX11_feed_1 : decode cX11_feed 1 = .ok (.getfield 33, 3) := by decide +kernel
theorem dX11_feed_4 : decode cX11_feed 4 = .ok (.invokevirtual 220, 3) := by decide +kernel
theorem dX11_feed_7 : decode cX11_feed 7 = .ok (.ifCond .ne 5, 3) := by decide +kernel
theorem dX11_feed_10 : decode cX11_feed 10 = .ok (.iconst (-1), 1) := by decide +kernel
theorem dX11_feed_11 : decode cX11_feed 11 = .ok (.ireturn, 1) := by decide +kernel
theorem dX11_feed_12 : decode cX11_feed 12 = .ok (.aload_n 0, 1) := by decide +kernel
theorem dX11_feed_13 : decode cX11_feed 13 = .ok (.getfield 33, 3) := by decide +kernel
theorem dX11_feed_16 : decode cX11_feed 16 = .ok (.iload_n 1, 1) := by decide +kernel
theorem dX11_feed_17 : decode cX11_feed 17 = .ok (.invokevirtual 224, 3) := by decide +kernel
theorem dX11_feed_20 : decode cX11_feed 20 = .ok (.aload_n 0, 1) := by decide +kernel
theorem dX11_feed_21 : decode cX11_feed 21 = .ok (.getfield 33, 3) := by decide +kernel
theorem dX11_feed_24 : decode cX11_feed 24 = .ok (.iload_n 2, 1) := by decide +kernel
theorem dX11_feed_25 : decode cX11_feed 25 = .ok (.invokevirtual 224, 3) := by decide +kernel
theorem dX11_feed_28 : decode cX11_feed 28 = .ok (.aload_n 0, 1) := by decide +kernel
theorem dX11_feed_29 : decode cX11_feed 29 = .ok (.getfield 33, 3) := by decide +kernel
theorem dX11_feed_32 : decode cX11_feed 32 = .ok (.iload_n 3, 1) := by decide +kernel
theorem dX11_feed_33 : decode cX11_feed 33 = .ok (.invokevirtual 224, 3) := by decide +kernel
theorem dX11_feed_36 : decode cX11_feed 36 = .ok (.aload_n 0, 1) := by decide +kernel
theorem dX11_feed_37 : decode cX11_feed 37 = .ok (.getfield 33, 3) := by decide +kernel
theorem dX11_feed_40 : decode cX11_feed 40 = .ok (.iload 4, 2) := by decide +kernel
theorem dX11_feed_42 : decode cX11_feed 42 = .ok (.invokevirtual 224, 3) := by decide +kernel
theorem dX11_feed_45 : decode cX11_feed 45 = .ok (.aload_n 0, 1) := by decide +kernel
theorem dX11_feed_46 : decode cX11_feed 46 = .ok (.getfield 33, 3) := by decide +kernel
theorem dX11_feed_49 : decode cX11_feed 49 = .ok (.iload 5, 2) := by decide +kernel
theorem dX11_feed_51 : decode cX11_feed 51 = .ok (.invokevirtual 224, 3) := by decide +kernel
theorem dX11_feed_54 : decode cX11_feed 54 = .ok (.aload_n 0, 1) := by decide +kernel
theorem dX11_feed_55 : decode cX11_feed 55 = .ok (.getfield 33, 3) := by decide +kernel
theorem dX11_feed_58 : decode cX11_feed 58 = .ok (.getfield 228, 3) := by decide +kernel
theorem dX11_feed_61 : decode cX11_feed 61 = .ok (.ireturn, 1) := by decide +kernel
theorem dX11_rules_0 : decode cX11_rules 0 = .ok (.iload_n 1, 1) := by decide +kernel
theorem dX11_rules_1 : decode cX11_rules 1 = .ok (.iconst 0, 1) := by decide +kernel
theorem dX11_rules_2 : decode cX11_rules 2 = .ok (.aload_n 0, 1) := by decide +kernel
theorem dX11_rules_3 : decode cX11_rules 3 = .ok (.getfield 33, 3) := by decide +kernel
theorem dX11_rules_6 : decode cX11_rules 6 = .ok (.getfield 228, 3) := by decide +kernel
theorem dX11_rules_9 : decode cX11_rules 9 = .ok (.invokestatic 65, 3) := by decide +kernel
theorem dX11_rules_12 : decode cX11_rules 12 = .ok (.invokestatic 69, 3) := by decide +kernel
theorem dX11_rules_15 : decode cX11_rules 15 = .ok (.aload_n 0, 1) := by decide +kernel
theorem dX11_rules_16 : decode cX11_rules 16 = .ok (.getfield 33, 3) := by decide +kernel
theorem dX11_rules_19 : decode cX11_rules 19 = .ok (.iload_n 1, 1) := by decide +kernel
theorem dX11_rules_20 : decode cX11_rules 20 = .ok (.invokevirtual 231, 3) := by decide +kernel
theorem dX11_rules_23 : decode cX11_rules 23 = .ok (.aload_n 0, 1) := by decide +kernel
theorem dX11_rules_24 : decode cX11_rules 24 = .ok (.getfield 33, 3) := by decide +kernel
theorem dX11_rules_27 : decode cX11_rules 27 = .ok (.getfield 234, 3) := by decide +kernel
theorem dX11_rules_30 : decode cX11_rules 30 = .ok (.ifCond .eq 14, 3) := by decide +kernel
theorem dX11_rules_33 : decode cX11_rules 33 = .ok (.aload_n 0, 1) := by decide +kernel
theorem dX11_rules_34 : decode cX11_rules 34 = .ok (.getfield 33, 3) := by decide +kernel
theorem dX11_rules_37 : decode cX11_rules 37 = .ok (.getfield 234, 3) := by decide +kernel
theorem dX11_rules_40 : decode cX11_rules 40 = .ok (.bipush 10, 2) := by decide +kernel
theorem dX11_rules_42 : decode cX11_rules 42 = .ok (.isub, 1) := by decide +kernel
theorem dX11_rules_43 : decode cX11_rules 43 = .ok (.ireturn, 1) := by decide +kernel
theorem dX11_rules_44 : decode cX11_rules 44 = .ok (.aload_n 0, 1) := by decide +kernel
theorem dX11_rules_45 : decode cX11_rules 45 = .ok (.getfield 61, 3) := by decide +kernel
theorem dX11_rules_48 : decode cX11_rules 48 = .ok (.astore_n 2, 1) := by decide +kernel
theorem dX11_rules_49 : decode cX11_rules 49 = .ok (.aload_n 0, 1) := by decide +kernel
theorem dX11_rules_50 : decode cX11_rules 50 = .ok (.aload_n 0, 1) := by decide +kernel
theorem dX11_rules_51 : decode cX11_rules 51 = .ok (.getfield 33, 3) := by decide +kernel
theorem dX11_rules_54 : decode cX11_rules 54 = .ok (.getfield 237, 3) := by decide +kernel
theorem dX11_rules_57 : decode cX11_rules 57 = .ok (.putfield 61, 3) := by decide +kernel
theorem dX11_rules_60 : decode cX11_rules 60 = .ok (.aload_n 0, 1) := by decide +kernel
theorem dX11_rules_61 : decode cX11_rules 61 = .ok (.getfield 33, 3) := by decide +kernel
theorem dX11_rules_64 : decode cX11_rules 64 = .ok (.aload_n 2, 1) := by decide +kernel
theorem dX11_rules_65 : decode cX11_rules 65 = .ok (.putfield 237, 3) := by decide +kernel
theorem dX11_rules_68 : decode cX11_rules 68 = .ok (.aload_n 0, 1) := by decide +kernel
theorem dX11_rules_69 : decode cX11_rules 69 = .ok (.getfield 61, 3) := by decide +kernel
theorem dX11_rules_72 : decode cX11_rules 72 = .ok (.getfield 240, 3) := by decide +kernel
theorem dX11_rules_75 : decode cX11_rules 75 = .ok (.ireturn, 1) := by decide +kernel
theorem dX11_fault_0 : decode cX11_fault 0 = .ok (.aload_n 0, 1) := by decide +kernel
theorem dX11_fault_1 : decode cX11_fault 1 = .ok (.getfield 33, 3) := by decide +kernel
theorem dX11_fault_4 : decode cX11_fault 4 = .ok (.getfield 243, 3) := by decide +kernel
theorem dX11_fault_7 : decode cX11_fault 7 = .ok (.ireturn, 1) := by decide +kernel
theorem dX11_asks_0 : decode cX11_asks 0 = .ok (.aload_n 0, 1) := by decide +kernel
theorem dX11_asks_1 : decode cX11_asks 1 = .ok (.getfield 26, 3) := by decide +kernel
theorem dX11_asks_4 : decode cX11_asks 4 = .ok (.aload_n 0, 1) := by decide +kernel
theorem dX11_asks_5 : decode cX11_asks 5 = .ok (.getfield 19, 3) := by decide +kernel
theorem dX11_asks_8 : decode cX11_asks 8 = .ok (.aload_n 0, 1) := by decide +kernel
theorem dX11_asks_9 : decode cX11_asks 9 = .ok (.getfield 61, 3) := by decide +kernel
theorem dX11_asks_12 : decode cX11_asks 12 = .ok (.aload_n 0, 1) := by decide +kernel
theorem dX11_asks_13 : decode cX11_asks 13 = .ok (.getfield 19, 3) := by decide +kernel
theorem dX11_asks_16 : decode cX11_asks 16 = .ok (.invokevirtual 208, 3) := by decide +kernel
theorem dX11_asks_19 : decode cX11_asks 19 = .ok (.invokevirtual 246, 3) := by decide +kernel
theorem dX11_asks_22 : decode cX11_asks 22 = .ok (.istore_n 1, 1) := by decide +kernel
theorem dX11_asks_23 : decode cX11_asks 23 = .ok (.iload_n 1, 1) := by decide +kernel
theorem dX11_asks_24 : decode cX11_asks 24 = .ok (.iconst (-1), 1) := by decide +kernel
theorem dX11_asks_25 : decode cX11_asks 25 = .ok (.if_icmp .ne 8, 3) := by decide +kernel
theorem dX11_asks_28 : decode cX11_asks 28 = .ok (.bipush (-9), 2) := by decide +kernel
theorem dX11_asks_30 : decode cX11_asks 30 = .ok (.goto 16, 3) := by decide +kernel
theorem dX11_asks_33 : decode cX11_asks 33 = .ok (.bipush 10, 2) := by decide +kernel
theorem dX11_asks_35 : decode cX11_asks 35 = .ok (.iload_n 1, 1) := by decide +kernel
theorem dX11_asks_36 : decode cX11_asks 36 = .ok (.imul, 1) := by decide +kernel
theorem dX11_asks_37 : decode cX11_asks 37 = .ok (.aload_n 0, 1) := by decide +kernel
theorem dX11_asks_38 : decode cX11_asks 38 = .ok (.getfield 61, 3) := by decide +kernel
theorem dX11_asks_41 : decode cX11_asks 41 = .ok (.iload_n 1, 1) := by decide +kernel
theorem dX11_asks_42 : decode cX11_asks 42 = .ok (.invokevirtual 250, 3) := by decide +kernel
theorem dX11_asks_45 : decode cX11_asks 45 = .ok (.iadd, 1) := by decide +kernel
theorem dX11_asks_46 : decode cX11_asks 46 = .ok (.ireturn, 1) := by decide +kernel
theorem dX11_dust_0 : decode cX11_dust 0 = .ok (.aload_n 0, 1) := by decide +kernel
theorem dX11_dust_1 : decode cX11_dust 1 = .ok (.getfield 19, 3) := by decide +kernel
theorem dX11_dust_4 : decode cX11_dust 4 = .ok (.iload_n 1, 1) := by decide +kernel
theorem dX11_dust_5 : decode cX11_dust 5 = .ok (.invokevirtual 129, 3) := by decide +kernel
theorem dX11_dust_8 : decode cX11_dust 8 = .ok (.invokestatic 132, 3) := by decide +kernel
theorem dX11_dust_11 : decode cX11_dust 11 = .ok (.iload_n 2, 1) := by decide +kernel
theorem dX11_dust_12 : decode cX11_dust 12 = .ok (.iconst 0, 1) := by decide +kernel
theorem dX11_dust_13 : decode cX11_dust 13 = .ok (.sipush 1999, 3) := by decide +kernel
theorem dX11_dust_16 : decode cX11_dust 16 = .ok (.invokestatic 65, 3) := by decide +kernel
theorem dX11_dust_19 : decode cX11_dust 19 = .ok (.ifCond .eq 18, 3) := by decide +kernel
theorem dX11_dust_22 : decode cX11_dust 22 = .ok (.iload_n 2, 1) := by decide +kernel
theorem dX11_dust_23 : decode cX11_dust 23 = .ok (.aload_n 0, 1) := by decide +kernel
theorem dX11_dust_24 : decode cX11_dust 24 = .ok (.getfield 26, 3) := by decide +kernel
theorem dX11_dust_27 : decode cX11_dust 27 = .ok (.getfield 253, 3) := by decide +kernel
theorem dX11_dust_30 : decode cX11_dust 30 = .ok (.if_icmp .lt 7, 3) := by decide +kernel
theorem dX11_dust_33 : decode cX11_dust 33 = .ok (.iconst 1, 1) := by decide +kernel
theorem dX11_dust_34 : decode cX11_dust 34 = .ok (.goto 4, 3) := by decide +kernel
theorem dX11_dust_37 : decode cX11_dust 37 = .ok (.iconst 0, 1) := by decide +kernel
theorem dX11_dust_38 : decode cX11_dust 38 = .ok (.invokestatic 69, 3) := by decide +kernel
theorem dX11_dust_41 : decode cX11_dust 41 = .ok (.aload_n 0, 1) := by decide +kernel
theorem dX11_dust_42 : decode cX11_dust 42 = .ok (.getfield 26, 3) := by decide +kernel
theorem dX11_dust_45 : decode cX11_dust 45 = .ok (.iload_n 1, 1) := by decide +kernel
theorem dX11_dust_46 : decode cX11_dust 46 = .ok (.iload_n 2, 1) := by decide +kernel
theorem dX11_dust_47 : decode cX11_dust 47 = .ok (.invokevirtual 256, 3) := by decide +kernel
theorem dX11_dust_50 : decode cX11_dust 50 = .ok (.ireturn, 1) := by decide +kernel
theorem dX11_fly_0 : decode cX11_fly 0 = .ok (.iload_n 1, 1) := by decide +kernel
theorem dX11_fly_1 : decode cX11_fly 1 = .ok (.iconst 0, 1) := by decide +kernel
theorem dX11_fly_2 : decode cX11_fly 2 = .ok (.sipush 200, 3) := by decide +kernel
theorem dX11_fly_5 : decode cX11_fly 5 = .ok (.invokestatic 65, 3) := by decide +kernel
theorem dX11_fly_8 : decode cX11_fly 8 = .ok (.invokestatic 69, 3) := by decide +kernel
theorem dX11_fly_11 : decode cX11_fly 11 = .ok (.aload_n 0, 1) := by decide +kernel
theorem dX11_fly_12 : decode cX11_fly 12 = .ok (.getfield 26, 3) := by decide +kernel
theorem dX11_fly_15 : decode cX11_fly 15 = .ok (.getfield 253, 3) := by decide +kernel
theorem dX11_fly_18 : decode cX11_fly 18 = .ok (.iload_n 1, 1) := by decide +kernel
theorem dX11_fly_19 : decode cX11_fly 19 = .ok (.iadd, 1) := by decide +kernel
theorem dX11_fly_20 : decode cX11_fly 20 = .ok (.sipush 2000, 3) := by decide +kernel
theorem dX11_fly_23 : decode cX11_fly 23 = .ok (.if_icmp .gt 7, 3) := by decide +kernel
theorem dX11_fly_26 : decode cX11_fly 26 = .ok (.iconst 1, 1) := by decide +kernel
theorem dX11_fly_27 : decode cX11_fly 27 = .ok (.goto 4, 3) := by decide +kernel
theorem dX11_fly_30 : decode cX11_fly 30 = .ok (.iconst 0, 1) := by decide +kernel
theorem dX11_fly_31 : decode cX11_fly 31 = .ok (.invokestatic 85, 3) := by decide +kernel
theorem dX11_fly_34 : decode cX11_fly 34 = .ok (.aload_n 0, 1) := by decide +kernel
theorem dX11_fly_35 : decode cX11_fly 35 = .ok (.getfield 26, 3) := by decide +kernel
theorem dX11_fly_38 : decode cX11_fly 38 = .ok (.iload_n 1, 1) := by decide +kernel
theorem dX11_fly_39 : decode cX11_fly 39 = .ok (.aload_n 0, 1) := by decide +kernel
theorem dX11_fly_40 : decode cX11_fly 40 = .ok (.getfield 19, 3) := by decide +kernel
theorem dX11_fly_43 : decode cX11_fly 43 = .ok (.aload_n 0, 1) := by decide +kernel
theorem dX11_fly_44 : decode cX11_fly 44 = .ok (.getfield 61, 3) := by decide +kernel
theorem dX11_fly_47 : decode cX11_fly 47 = .ok (.invokevirtual 259, 3) := by decide +kernel
theorem dX11_fly_50 : decode cX11_fly 50 = .ok (.ireturn, 1) := by decide +kernel
theorem dX11_note_0 : decode cX11_note 0 = .ok (.iload_n 2, 1) := by decide +kernel
theorem dX11_note_1 : decode cX11_note 1 = .ok (.iconst 0, 1) := by decide +kernel
theorem dX11_note_2 : decode cX11_note 2 = .ok (.iconst 3, 1) := by decide +kernel
theorem dX11_note_3 : decode cX11_note 3 = .ok (.invokestatic 65, 3) := by decide +kernel
theorem dX11_note_6 : decode cX11_note 6 = .ok (.invokestatic 69, 3) := by decide +kernel
theorem dX11_note_9 : decode cX11_note 9 = .ok (.aload_n 0, 1) := by decide +kernel
theorem dX11_note_10 : decode cX11_note 10 = .ok (.getfield 26, 3) := by decide +kernel
theorem dX11_note_13 : decode cX11_note 13 = .ok (.iload_n 1, 1) := by decide +kernel
theorem dX11_note_14 : decode cX11_note 14 = .ok (.iload_n 2, 1) := by decide +kernel
theorem dX11_note_15 : decode cX11_note 15 = .ok (.invokevirtual 263, 3) := by decide +kernel
theorem dX11_note_18 : decode cX11_note 18 = .ok (.ireturn, 1) := by decide +kernel
theorem dX11_coat_0 : decode cX11_coat 0 = .ok (.iload_n 1, 1) := by decide +kernel
theorem dX11_coat_1 : decode cX11_coat 1 = .ok (.iload_n 2, 1) := by decide +kernel
theorem dX11_coat_2 : decode cX11_coat 2 = .ok (.invokestatic 122, 3) := by decide +kernel
theorem dX11_coat_5 : decode cX11_coat 5 = .ok (.invokestatic 69, 3) := by decide +kernel
theorem dX11_coat_8 : decode cX11_coat 8 = .ok (.aload_n 0, 1) := by decide +kernel
theorem dX11_coat_9 : decode cX11_coat 9 = .ok (.getfield 40, 3) := by decide +kernel
theorem dX11_coat_12 : decode cX11_coat 12 = .ok (.iload_n 1, 1) := by decide +kernel
theorem dX11_coat_13 : decode cX11_coat 13 = .ok (.iload_n 2, 1) := by decide +kernel
theorem dX11_coat_14 : decode cX11_coat 14 = .ok (.invokevirtual 266, 3) := by decide +kernel
theorem dX11_coat_17 : decode cX11_coat 17 = .ok (.ireturn, 1) := by decide +kernel
theorem dX11_sight_0 : decode cX11_sight 0 = .ok (.iload_n 1, 1) := by decide +kernel
theorem dX11_sight_1 : decode cX11_sight 1 = .ok (.invokestatic 169, 3) := by decide +kernel
theorem dX11_sight_4 : decode cX11_sight 4 = .ok (.ifCond .eq 29, 3) := by decide +kernel
theorem dX11_sight_7 : decode cX11_sight 7 = .ok (.iload_n 2, 1) := by decide +kernel
theorem dX11_sight_8 : decode cX11_sight 8 = .ok (.iconst 0, 1) := by decide +kernel
theorem dX11_sight_9 : decode cX11_sight 9 = .ok (.ldc_w 269, 3) := by decide +kernel
theorem dX11_sight_12 : decode cX11_sight 12 = .ok (.invokestatic 65, 3) := by decide +kernel
theorem dX11_sight_15 : decode cX11_sight 15 = .ok (.ifCond .eq 18, 3) := by decide +kernel
theorem dX11_sight_18 : decode cX11_sight 18 = .ok (.iload_n 3, 1) := by decide +kernel
theorem dX11_sight_19 : decode cX11_sight 19 = .ok (.iconst 0, 1) := by decide +kernel
theorem dX11_sight_20 : decode cX11_sight 20 = .ok (.sipush 10000, 3) := by decide +kernel
theorem dX11_sight_23 : decode cX11_sight 23 = .ok (.invokestatic 65, 3) := by decide +kernel
theorem dX11_sight_26 : decode cX11_sight 26 = .ok (.ifCond .eq 7, 3) := by decide +kernel
theorem dX11_sight_29 : decode cX11_sight 29 = .ok (.iconst 1, 1) := by decide +kernel
theorem dX11_sight_30 : decode cX11_sight 30 = .ok (.goto 4, 3) := by decide +kernel
theorem dX11_sight_33 : decode cX11_sight 33 = .ok (.iconst 0, 1) := by decide +kernel
theorem dX11_sight_34 : decode cX11_sight 34 = .ok (.invokestatic 69, 3) := by decide +kernel
theorem dX11_sight_37 : decode cX11_sight 37 = .ok (.aload_n 0, 1) := by decide +kernel
theorem dX11_sight_38 : decode cX11_sight 38 = .ok (.getfield 40, 3) := by decide +kernel
theorem dX11_sight_41 : decode cX11_sight 41 = .ok (.iload_n 1, 1) := by decide +kernel
theorem dX11_sight_42 : decode cX11_sight 42 = .ok (.iload_n 2, 1) := by decide +kernel
theorem dX11_sight_43 : decode cX11_sight 43 = .ok (.iload_n 3, 1) := by decide +kernel
theorem dX11_sight_44 : decode cX11_sight 44 = .ok (.invokevirtual 270, 3) := by decide +kernel
theorem dX11_sight_47 : decode cX11_sight 47 = .ok (.ireturn, 1) := by decide +kernel
theorem dX11_fits_0 : decode cX11_fits 0 = .ok (.aload_n 0, 1) := by decide +kernel
theorem dX11_fits_1 : decode cX11_fits 1 = .ok (.iload_n 1, 1) := by decide +kernel
theorem dX11_fits_2 : decode cX11_fits 2 = .ok (.invokevirtual 273, 3) := by decide +kernel
theorem dX11_fits_5 : decode cX11_fits 5 = .ok (.invokestatic 69, 3) := by decide +kernel
theorem dX11_fits_8 : decode cX11_fits 8 = .ok (.aload_n 0, 1) := by decide +kernel
theorem dX11_fits_9 : decode cX11_fits 9 = .ok (.getfield 40, 3) := by decide +kernel
theorem dX11_fits_12 : decode cX11_fits 12 = .ok (.aload_n 0, 1) := by decide +kernel
theorem dX11_fits_13 : decode cX11_fits 13 = .ok (.getfield 19, 3) := by decide +kernel
theorem dX11_fits_16 : decode cX11_fits 16 = .ok (.iload_n 1, 1) := by decide +kernel
theorem dX11_fits_17 : decode cX11_fits 17 = .ok (.invokevirtual 276, 3) := by decide +kernel
theorem dX11_fits_20 : decode cX11_fits 20 = .ok (.ireturn, 1) := by decide +kernel
theorem dX11_fit_0 : decode cX11_fit 0 = .ok (.aload_n 0, 1) := by decide +kernel
theorem dX11_fit_1 : decode cX11_fit 1 = .ok (.iload_n 1, 1) := by decide +kernel
theorem dX11_fit_2 : decode cX11_fit 2 = .ok (.invokevirtual 273, 3) := by decide +kernel
theorem dX11_fit_5 : decode cX11_fit 5 = .ok (.invokestatic 69, 3) := by decide +kernel
theorem dX11_fit_8 : decode cX11_fit 8 = .ok (.iload_n 2, 1) := by decide +kernel
theorem dX11_fit_9 : decode cX11_fit 9 = .ok (.iconst 0, 1) := by decide +kernel
theorem dX11_fit_10 : decode cX11_fit 10 = .ok (.iload_n 1, 1) := by decide +kernel
theorem dX11_fit_11 : decode cX11_fit 11 = .ok (.iconst 1, 1) := by decide +kernel
theorem dX11_fit_12 : decode cX11_fit 12 = .ok (.isub, 1) := by decide +kernel
theorem dX11_fit_13 : decode cX11_fit 13 = .ok (.invokestatic 65, 3) := by decide +kernel
theorem dX11_fit_16 : decode cX11_fit 16 = .ok (.ifCond .eq 30, 3) := by decide +kernel
theorem dX11_fit_19 : decode cX11_fit 19 = .ok (.aload_n 0, 1) := by decide +kernel
theorem dX11_fit_20 : decode cX11_fit 20 = .ok (.getfield 40, 3) := by decide +kernel
theorem dX11_fit_23 : decode cX11_fit 23 = .ok (.aload_n 0, 1) := by decide +kernel
theorem dX11_fit_24 : decode cX11_fit 24 = .ok (.getfield 19, 3) := by decide +kernel
theorem dX11_fit_27 : decode cX11_fit 27 = .ok (.iload_n 1, 1) := by decide +kernel
theorem dX11_fit_28 : decode cX11_fit 28 = .ok (.invokevirtual 276, 3) := by decide +kernel
theorem dX11_fit_31 : decode cX11_fit 31 = .ok (.ifCond .le 15, 3) := by decide +kernel
theorem dX11_fit_34 : decode cX11_fit 34 = .ok (.aload_n 0, 1) := by decide +kernel
theorem dX11_fit_35 : decode cX11_fit 35 = .ok (.getfield 40, 3) := by decide +kernel
theorem dX11_fit_38 : decode cX11_fit 38 = .ok (.iconst 0, 1) := by decide +kernel
theorem dX11_fit_39 : decode cX11_fit 39 = .ok (.iload_n 2, 1) := by decide +kernel
theorem dX11_fit_40 : decode cX11_fit 40 = .ok (.invokevirtual 280, 3) := by decide +kernel
theorem dX11_fit_43 : decode cX11_fit 43 = .ok (.goto 4, 3) := by decide +kernel
theorem dX11_fit_46 : decode cX11_fit 46 = .ok (.iconst (-1), 1) := by decide +kernel
theorem dX11_fit_47 : decode cX11_fit 47 = .ok (.ireturn, 1) := by decide +kernel
theorem dX11_shows_0 : decode cX11_shows 0 = .ok (.aload_n 0, 1) := by decide +kernel
theorem dX11_shows_1 : decode cX11_shows 1 = .ok (.iload_n 1, 1) := by decide +kernel
theorem dX11_shows_2 : decode cX11_shows 2 = .ok (.invokevirtual 273, 3) := by decide +kernel
theorem dX11_shows_5 : decode cX11_shows 5 = .ok (.invokestatic 69, 3) := by decide +kernel
theorem dX11_shows_8 : decode cX11_shows 8 = .ok (.aload_n 0, 1) := by decide +kernel
theorem dX11_shows_9 : decode cX11_shows 9 = .ok (.getfield 40, 3) := by decide +kernel
theorem dX11_shows_12 : decode cX11_shows 12 = .ok (.aload_n 0, 1) := by decide +kernel
theorem dX11_shows_13 : decode cX11_shows 13 = .ok (.getfield 19, 3) := by decide +kernel
theorem dX11_shows_16 : decode cX11_shows 16 = .ok (.iload_n 1, 1) := by decide +kernel
theorem dX11_shows_17 : decode cX11_shows 17 = .ok (.invokevirtual 276, 3) := by decide +kernel
theorem dX11_shows_20 : decode cX11_shows 20 = .ok (.ifCond .le 14, 3) := by decide +kernel
theorem dX11_shows_23 : decode cX11_shows 23 = .ok (.aload_n 0, 1) := by decide +kernel
theorem dX11_shows_24 : decode cX11_shows 24 = .ok (.getfield 40, 3) := by decide +kernel
theorem dX11_shows_27 : decode cX11_shows 27 = .ok (.iload_n 1, 1) := by decide +kernel
theorem dX11_shows_28 : decode cX11_shows 28 = .ok (.invokevirtual 283, 3) := by decide +kernel
theorem dX11_shows_31 : decode cX11_shows 31 = .ok (.goto 5, 3) := by decide +kernel
theorem dX11_shows_34 : decode cX11_shows 34 = .ok (.bipush (-9), 2) := by decide +kernel
theorem dX11_shows_36 : decode cX11_shows 36 = .ok (.ireturn, 1) := by decide +kernel
theorem dX11_knot_0 : decode cX11_knot 0 = .ok (.iload_n 1, 1) := by decide +kernel
theorem dX11_knot_1 : decode cX11_knot 1 = .ok (.bipush (-5), 2) := by decide +kernel
theorem dX11_knot_3 : decode cX11_knot 3 = .ok (.iconst 5, 1) := by decide +kernel
theorem dX11_knot_4 : decode cX11_knot 4 = .ok (.invokestatic 65, 3) := by decide +kernel
theorem dX11_knot_7 : decode cX11_knot 7 = .ok (.ifCond .eq 17, 3) := by decide +kernel
theorem dX11_knot_10 : decode cX11_knot 10 = .ok (.iload_n 2, 1) := by decide +kernel
theorem dX11_knot_11 : decode cX11_knot 11 = .ok (.bipush (-5), 2) := by decide +kernel
theorem dX11_knot_13 : decode cX11_knot 13 = .ok (.iconst 5, 1) := by decide +kernel
theorem dX11_knot_14 : decode cX11_knot 14 = .ok (.invokestatic 65, 3) := by decide +kernel
theorem dX11_knot_17 : decode cX11_knot 17 = .ok (.ifCond .eq 7, 3) := by decide +kernel
theorem dX11_knot_20 : decode cX11_knot 20 = .ok (.iconst 1, 1) := by decide +kernel
theorem dX11_knot_21 : decode cX11_knot 21 = .ok (.goto 4, 3) := by decide +kernel
theorem dX11_knot_24 : decode cX11_knot 24 = .ok (.iconst 0, 1) := by decide +kernel
theorem dX11_knot_25 : decode cX11_knot 25 = .ok (.invokestatic 69, 3) := by decide +kernel
theorem dX11_knot_28 : decode cX11_knot 28 = .ok (.aload_n 0, 1) := by decide +kernel
theorem dX11_knot_29 : decode cX11_knot 29 = .ok (.getfield 47, 3) := by decide +kernel
theorem dX11_knot_32 : decode cX11_knot 32 = .ok (.iload_n 1, 1) := by decide +kernel
theorem dX11_knot_33 : decode cX11_knot 33 = .ok (.iload_n 2, 1) := by decide +kernel
theorem dX11_knot_34 : decode cX11_knot 34 = .ok (.iload_n 3, 1) := by decide +kernel
theorem dX11_knot_35 : decode cX11_knot 35 = .ok (.invokevirtual 286, 3) := by decide +kernel
theorem dX11_knot_38 : decode cX11_knot 38 = .ok (.ireturn, 1) := by decide +kernel
theorem dX11_pull_0 : decode cX11_pull 0 = .ok (.aload_n 0, 1) := by decide +kernel
theorem dX11_pull_1 : decode cX11_pull 1 = .ok (.getfield 47, 3) := by decide +kernel
theorem dX11_pull_4 : decode cX11_pull 4 = .ok (.iload_n 1, 1) := by decide +kernel
theorem dX11_pull_5 : decode cX11_pull 5 = .ok (.invokevirtual 290, 3) := by decide +kernel
theorem dX11_pull_8 : decode cX11_pull 8 = .ok (.invokestatic 95, 3) := by decide +kernel
theorem dX11_pull_11 : decode cX11_pull 11 = .ok (.iload_n 2, 1) := by decide +kernel
theorem dX11_pull_12 : decode cX11_pull 12 = .ok (.bipush (-100), 2) := by decide +kernel
theorem dX11_pull_14 : decode cX11_pull 14 = .ok (.bipush 100, 2) := by decide +kernel
theorem dX11_pull_16 : decode cX11_pull 16 = .ok (.invokestatic 65, 3) := by decide +kernel
theorem dX11_pull_19 : decode cX11_pull 19 = .ok (.ifCond .eq 18, 3) := by decide +kernel
theorem dX11_pull_22 : decode cX11_pull 22 = .ok (.iload_n 3, 1) := by decide +kernel
theorem dX11_pull_23 : decode cX11_pull 23 = .ok (.bipush (-100), 2) := by decide +kernel
theorem dX11_pull_25 : decode cX11_pull 25 = .ok (.bipush 100, 2) := by decide +kernel
theorem dX11_pull_27 : decode cX11_pull 27 = .ok (.invokestatic 65, 3) := by decide +kernel
theorem dX11_pull_30 : decode cX11_pull 30 = .ok (.ifCond .eq 7, 3) := by decide +kernel
theorem dX11_pull_33 : decode cX11_pull 33 = .ok (.iconst 1, 1) := by decide +kernel
theorem dX11_pull_34 : decode cX11_pull 34 = .ok (.goto 4, 3) := by decide +kernel
theorem dX11_pull_37 : decode cX11_pull 37 = .ok (.iconst 0, 1) := by decide +kernel
theorem dX11_pull_38 : decode cX11_pull 38 = .ok (.invokestatic 69, 3) := by decide +kernel
theorem dX11_pull_41 : decode cX11_pull 41 = .ok (.aload_n 0, 1) := by decide +kernel
theorem dX11_pull_42 : decode cX11_pull 42 = .ok (.getfield 47, 3) := by decide +kernel
theorem dX11_pull_45 : decode cX11_pull 45 = .ok (.iload_n 1, 1) := by decide +kernel
theorem dX11_pull_46 : decode cX11_pull 46 = .ok (.iload_n 2, 1) := by decide +kernel
theorem dX11_pull_47 : decode cX11_pull 47 = .ok (.iload_n 3, 1) := by decide +kernel
theorem dX11_pull_48 : decode cX11_pull 48 = .ok (.invokevirtual 293, 3) := by decide +kernel
theorem dX11_pull_51 : decode cX11_pull 51 = .ok (.return_, 1) := by decide +kernel
theorem dX11_string_0 : decode cX11_string 0 = .ok (.aload_n 0, 1) := by decide +kernel
theorem dX11_string_1 : decode cX11_string 1 = .ok (.getfield 47, 3) := by decide +kernel
theorem dX11_string_4 : decode cX11_string 4 = .ok (.iload_n 1, 1) := by decide +kernel
theorem dX11_string_5 : decode cX11_string 5 = .ok (.invokevirtual 290, 3) := by decide +kernel
theorem dX11_string_8 : decode cX11_string 8 = .ok (.ifCond .eq 18, 3) := by decide +kernel
theorem dX11_string_11 : decode cX11_string 11 = .ok (.aload_n 0, 1) := by decide +kernel
theorem dX11_string_12 : decode cX11_string 12 = .ok (.getfield 47, 3) := by decide +kernel
theorem dX11_string_15 : decode cX11_string 15 = .ok (.iload_n 2, 1) := by decide +kernel
theorem dX11_string_16 : decode cX11_string 16 = .ok (.invokevirtual 290, 3) := by decide +kernel
theorem dX11_string_19 : decode cX11_string 19 = .ok (.ifCond .eq 7, 3) := by decide +kernel
theorem dX11_string_22 : decode cX11_string 22 = .ok (.iconst 1, 1) := by decide +kernel
theorem dX11_string_23 : decode cX11_string 23 = .ok (.goto 4, 3) := by decide +kernel
theorem dX11_string_26 : decode cX11_string 26 = .ok (.iconst 0, 1) := by decide +kernel
theorem dX11_string_27 : decode cX11_string 27 = .ok (.invokestatic 95, 3) := by decide +kernel
theorem dX11_string_30 : decode cX11_string 30 = .ok (.iload_n 1, 1) := by decide +kernel
theorem dX11_string_31 : decode cX11_string 31 = .ok (.iload_n 2, 1) := by decide +kernel
theorem dX11_string_32 : decode cX11_string 32 = .ok (.if_icmp .eq 7, 3) := by decide +kernel
theorem dX11_string_35 : decode cX11_string 35 = .ok (.iconst 1, 1) := by decide +kernel
theorem dX11_string_36 : decode cX11_string 36 = .ok (.goto 4, 3) := by decide +kernel
theorem dX11_string_39 : decode cX11_string 39 = .ok (.iconst 0, 1) := by decide +kernel
theorem dX11_string_40 : decode cX11_string 40 = .ok (.invokestatic 69, 3) := by decide +kernel
theorem dX11_string_43 : decode cX11_string 43 = .ok (.aload_n 0, 1) := by decide +kernel
theorem dX11_string_44 : decode cX11_string 44 = .ok (.getfield 47, 3) := by decide +kernel
theorem dX11_string_47 : decode cX11_string 47 = .ok (.iload_n 1, 1) := by decide +kernel
theorem dX11_string_48 : decode cX11_string 48 = .ok (.iload_n 2, 1) := by decide +kernel
theorem dX11_string_49 : decode cX11_string 49 = .ok (.invokevirtual 297, 3) := by decide +kernel
theorem dX11_string_52 : decode cX11_string 52 = .ok (.ireturn, 1) := by decide +kernel
theorem dX11_hangs_0 : decode cX11_hangs 0 = .ok (.aload_n 0, 1) := by decide +kernel
theorem dX11_hangs_1 : decode cX11_hangs 1 = .ok (.getfield 47, 3) := by decide +kernel
theorem dX11_hangs_4 : decode cX11_hangs 4 = .ok (.invokevirtual 300, 3) := by decide +kernel
theorem dX11_hangs_7 : decode cX11_hangs 7 = .ok (.aload_n 0, 1) := by decide +kernel
theorem dX11_hangs_8 : decode cX11_hangs 8 = .ok (.getfield 47, 3) := by decide +kernel
theorem dX11_hangs_11 : decode cX11_hangs 11 = .ok (.getfield 303, 3) := by decide +kernel
theorem dX11_hangs_14 : decode cX11_hangs 14 = .ok (.ireturn, 1) := by decide +kernel
theorem dX11_slack_0 : decode cX11_slack 0 = .ok (.aload_n 0, 1) := by decide +kernel
theorem dX11_slack_1 : decode cX11_slack 1 = .ok (.getfield 47, 3) := by decide +kernel
theorem dX11_slack_4 : decode cX11_slack 4 = .ok (.iload_n 1, 1) := by decide +kernel
theorem dX11_slack_5 : decode cX11_slack 5 = .ok (.invokevirtual 306, 3) := by decide +kernel
theorem dX11_slack_8 : decode cX11_slack 8 = .ok (.invokestatic 95, 3) := by decide +kernel
theorem dX11_slack_11 : decode cX11_slack 11 = .ok (.aload_n 0, 1) := by decide +kernel
theorem dX11_slack_12 : decode cX11_slack 12 = .ok (.getfield 47, 3) := by decide +kernel
theorem dX11_slack_15 : decode cX11_slack 15 = .ok (.invokevirtual 300, 3) := by decide +kernel
theorem dX11_slack_18 : decode cX11_slack 18 = .ok (.aload_n 0, 1) := by decide +kernel
theorem dX11_slack_19 : decode cX11_slack 19 = .ok (.getfield 47, 3) := by decide +kernel
theorem dX11_slack_22 : decode cX11_slack 22 = .ok (.getfield 309, 3) := by decide +kernel
theorem dX11_slack_25 : decode cX11_slack 25 = .ok (.iload_n 1, 1) := by decide +kernel
theorem dX11_slack_26 : decode cX11_slack 26 = .ok (.ishr, 1) := by decide +kernel
theorem dX11_slack_27 : decode cX11_slack 27 = .ok (.iconst 1, 1) := by decide +kernel
theorem dX11_slack_28 : decode cX11_slack 28 = .ok (.iand, 1) := by decide +kernel
theorem dX11_slack_29 : decode cX11_slack 29 = .ok (.iconst 1, 1) := by decide +kernel
theorem dX11_slack_30 : decode cX11_slack 30 = .ok (.if_icmp .ne 7, 3) := by decide +kernel
theorem dX11_slack_33 : decode cX11_slack 33 = .ok (.iconst 1, 1) := by decide +kernel
theorem dX11_slack_34 : decode cX11_slack 34 = .ok (.goto 4, 3) := by decide +kernel
theorem dX11_slack_37 : decode cX11_slack 37 = .ok (.iconst 0, 1) := by decide +kernel
theorem dX11_slack_38 : decode cX11_slack 38 = .ok (.ireturn, 1) := by decide +kernel
theorem dX11_taut_0 : decode cX11_taut 0 = .ok (.aload_n 0, 1) := by decide +kernel
theorem dX11_taut_1 : decode cX11_taut 1 = .ok (.getfield 47, 3) := by decide +kernel
theorem dX11_taut_4 : decode cX11_taut 4 = .ok (.iload_n 1, 1) := by decide +kernel
theorem dX11_taut_5 : decode cX11_taut 5 = .ok (.invokevirtual 306, 3) := by decide +kernel
theorem dX11_taut_8 : decode cX11_taut 8 = .ok (.invokestatic 95, 3) := by decide +kernel
theorem dX11_taut_11 : decode cX11_taut 11 = .ok (.aload_n 0, 1) := by decide +kernel
theorem dX11_taut_12 : decode cX11_taut 12 = .ok (.getfield 47, 3) := by decide +kernel
theorem dX11_taut_15 : decode cX11_taut 15 = .ok (.invokevirtual 300, 3) := by decide +kernel
theorem dX11_taut_18 : decode cX11_taut 18 = .ok (.aload_n 0, 1) := by decide +kernel
theorem dX11_taut_19 : decode cX11_taut 19 = .ok (.getfield 47, 3) := by decide +kernel
theorem dX11_taut_22 : decode cX11_taut 22 = .ok (.getfield 312, 3) := by decide +kernel
theorem dX11_taut_25 : decode cX11_taut 25 = .ok (.iload_n 1, 1) := by decide +kernel
theorem dX11_taut_26 : decode cX11_taut 26 = .ok (.ishr, 1) := by decide +kernel
theorem dX11_taut_27 : decode cX11_taut 27 = .ok (.iconst 1, 1) := by decide +kernel
theorem dX11_taut_28 : decode cX11_taut 28 = .ok (.iand, 1) := by decide +kernel
theorem dX11_taut_29 : decode cX11_taut 29 = .ok (.iconst 1, 1) := by decide +kernel
theorem dX11_taut_30 : decode cX11_taut 30 = .ok (.if_icmp .ne 7, 3) := by decide +kernel
theorem dX11_taut_33 : decode cX11_taut 33 = .ok (.iconst 1, 1) := by decide +kernel
theorem dX11_taut_34 : decode cX11_taut 34 = .ok (.goto 4, 3) := by decide +kernel
theorem dX11_taut_37 : decode cX11_taut 37 = .ok (.iconst 0, 1) := by decide +kernel
theorem dX11_taut_38 : decode cX11_taut 38 = .ok (.ireturn, 1) := by decide +kernel
theorem dX11_ease_0 : decode cX11_ease 0 = .ok (.iload_n 1, 1) := by decide +kernel
theorem dX11_ease_1 : decode cX11_ease 1 = .ok (.iconst 0, 1) := by decide +kernel
theorem dX11_ease_2 : decode cX11_ease 2 = .ok (.iconst 1, 1) := by decide +kernel
theorem dX11_ease_3 : decode cX11_ease 3 = .ok (.invokestatic 65, 3) := by decide +kernel
theorem dX11_ease_6 : decode cX11_ease 6 = .ok (.invokestatic 69, 3) := by decide +kernel
theorem dX11_ease_9 : decode cX11_ease 9 = .ok (.aload_n 0, 1) := by decide +kernel
theorem dX11_ease_10 : decode cX11_ease 10 = .ok (.getfield 47, 3) := by decide +kernel
theorem dX11_ease_13 : decode cX11_ease 13 = .ok (.invokevirtual 300, 3) := by decide +kernel
theorem dX11_ease_16 : decode cX11_ease 16 = .ok (.aload_n 0, 1) := by decide +kernel
theorem dX11_ease_17 : decode cX11_ease 17 = .ok (.getfield 47, 3) := by decide +kernel
theorem dX11_ease_20 : decode cX11_ease 20 = .ok (.getfield 303, 3) := by decide +kernel
theorem dX11_ease_23 : decode cX11_ease 23 = .ok (.ifCond .ne 7, 3) := by decide +kernel
theorem dX11_ease_26 : decode cX11_ease 26 = .ok (.ldc2_w 315, 3) := by decide +kernel
theorem dX11_ease_29 : decode cX11_ease 29 = .ok (.lreturn, 1) := by decide +kernel
theorem dX11_ease_30 : decode cX11_ease 30 = .ok (.iload_n 1, 1) := by decide +kernel
theorem dX11_ease_31 : decode cX11_ease 31 = .ok (.ifCond .ne 13, 3) := by decide +kernel
theorem dX11_ease_34 : decode cX11_ease 34 = .ok (.aload_n 0, 1) := by decide +kernel
theorem dX11_ease_35 : decode cX11_ease 35 = .ok (.getfield 47, 3) := by decide +kernel
theorem dX11_ease_38 : decode cX11_ease 38 = .ok (.getfield 317, 3) := by decide +kernel
theorem dX11_ease_41 : decode cX11_ease 41 = .ok (.goto 10, 3) := by decide +kernel
theorem dX11_ease_44 : decode cX11_ease 44 = .ok (.aload_n 0, 1) := by decide +kernel
theorem dX11_ease_45 : decode cX11_ease 45 = .ok (.getfield 47, 3) := by decide +kernel
theorem dX11_ease_48 : decode cX11_ease 48 = .ok (.getfield 321, 3) := by decide +kernel
theorem dX11_ease_51 : decode cX11_ease 51 = .ok (.lreturn, 1) := by decide +kernel
theorem dX11_cut_0 : decode cX11_cut 0 = .ok (.aload_n 0, 1) := by decide +kernel
theorem dX11_cut_1 : decode cX11_cut 1 = .ok (.getfield 47, 3) := by decide +kernel
theorem dX11_cut_4 : decode cX11_cut 4 = .ok (.invokevirtual 324, 3) := by decide +kernel
theorem dX11_cut_7 : decode cX11_cut 7 = .ok (.ireturn, 1) := by decide +kernel
theorem dX11_offer_0 : decode cX11_offer 0 = .ok (.iload_n 1, 1) := by decide +kernel
theorem dX11_offer_1 : decode cX11_offer 1 = .ok (.iload_n 2, 1) := by decide +kernel
theorem dX11_offer_2 : decode cX11_offer 2 = .ok (.invokestatic 119, 3) := by decide +kernel
theorem dX11_offer_5 : decode cX11_offer 5 = .ok (.ifCond .eq 29, 3) := by decide +kernel
theorem dX11_offer_8 : decode cX11_offer 8 = .ok (.iload_n 3, 1) := by decide +kernel
theorem dX11_offer_9 : decode cX11_offer 9 = .ok (.iconst 0, 1) := by decide +kernel
theorem dX11_offer_10 : decode cX11_offer 10 = .ok (.sipush 1000, 3) := by decide +kernel
theorem dX11_offer_13 : decode cX11_offer 13 = .ok (.invokestatic 65, 3) := by decide +kernel
theorem dX11_offer_16 : decode cX11_offer 16 = .ok (.ifCond .eq 18, 3) := by decide +kernel
theorem dX11_offer_19 : decode cX11_offer 19 = .ok (.iload 4, 2) := by decide +kernel
theorem dX11_offer_21 : decode cX11_offer 21 = .ok (.iconst 0, 1) := by decide +kernel
theorem dX11_offer_22 : decode cX11_offer 22 = .ok (.bipush 100, 2) := by decide +kernel
theorem dX11_offer_24 : decode cX11_offer 24 = .ok (.invokestatic 65, 3) := by decide +kernel
theorem dX11_offer_27 : decode cX11_offer 27 = .ok (.ifCond .eq 7, 3) := by decide +kernel
theorem dX11_offer_30 : decode cX11_offer 30 = .ok (.iconst 1, 1) := by decide +kernel
theorem dX11_offer_31 : decode cX11_offer 31 = .ok (.goto 4, 3) := by decide +kernel
theorem dX11_offer_34 : decode cX11_offer 34 = .ok (.iconst 0, 1) := by decide +kernel
theorem dX11_offer_35 : decode cX11_offer 35 = .ok (.invokestatic 69, 3) := by decide +kernel
theorem dX11_offer_38 : decode cX11_offer 38 = .ok (.aload_n 0, 1) := by decide +kernel
theorem dX11_offer_39 : decode cX11_offer 39 = .ok (.getfield 54, 3) := by decide +kernel
theorem dX11_offer_42 : decode cX11_offer 42 = .ok (.iload_n 1, 1) := by decide +kernel
theorem dX11_offer_43 : decode cX11_offer 43 = .ok (.iload_n 2, 1) := by decide +kernel
theorem dX11_offer_44 : decode cX11_offer 44 = .ok (.iload_n 3, 1) := by decide +kernel
theorem dX11_offer_45 : decode cX11_offer 45 = .ok (.iload 4, 2) := by decide +kernel
theorem dX11_offer_47 : decode cX11_offer 47 = .ok (.invokevirtual 327, 3) := by decide +kernel
theorem dX11_offer_50 : decode cX11_offer 50 = .ok (.ireturn, 1) := by decide +kernel
theorem dX11_sheet_0 : decode cX11_sheet 0 = .ok (.iload_n 1, 1) := by decide +kernel
theorem dX11_sheet_1 : decode cX11_sheet 1 = .ok (.iconst 0, 1) := by decide +kernel
theorem dX11_sheet_2 : decode cX11_sheet 2 = .ok (.sipush 1200, 3) := by decide +kernel
theorem dX11_sheet_5 : decode cX11_sheet 5 = .ok (.invokestatic 65, 3) := by decide +kernel
theorem dX11_sheet_8 : decode cX11_sheet 8 = .ok (.ifCond .eq 27, 3) := by decide +kernel
theorem dX11_sheet_11 : decode cX11_sheet 11 = .ok (.iload_n 2, 1) := by decide +kernel
theorem dX11_sheet_12 : decode cX11_sheet 12 = .ok (.iconst 0, 1) := by decide +kernel
theorem dX11_sheet_13 : decode cX11_sheet 13 = .ok (.ldc_w 269, 3) := by decide +kernel
theorem dX11_sheet_16 : decode cX11_sheet 16 = .ok (.invokestatic 65, 3) := by decide +kernel
theorem dX11_sheet_19 : decode cX11_sheet 19 = .ok (.ifCond .eq 16, 3) := by decide +kernel
theorem dX11_sheet_22 : decode cX11_sheet 22 = .ok (.iload_n 3, 1) := by decide +kernel
theorem dX11_sheet_23 : decode cX11_sheet 23 = .ok (.iconst 0, 1) := by decide +kernel
theorem dX11_sheet_24 : decode cX11_sheet 24 = .ok (.iconst 4, 1) := by decide +kernel
theorem dX11_sheet_25 : decode cX11_sheet 25 = .ok (.invokestatic 65, 3) := by decide +kernel
theorem dX11_sheet_28 : decode cX11_sheet 28 = .ok (.ifCond .eq 7, 3) := by decide +kernel
theorem dX11_sheet_31 : decode cX11_sheet 31 = .ok (.iconst 1, 1) := by decide +kernel
theorem dX11_sheet_32 : decode cX11_sheet 32 = .ok (.goto 4, 3) := by decide +kernel
theorem dX11_sheet_35 : decode cX11_sheet 35 = .ok (.iconst 0, 1) := by decide +kernel
theorem dX11_sheet_36 : decode cX11_sheet 36 = .ok (.invokestatic 69, 3) := by decide +kernel
theorem dX11_sheet_39 : decode cX11_sheet 39 = .ok (.aload_n 0, 1) := by decide +kernel
theorem dX11_sheet_40 : decode cX11_sheet 40 = .ok (.getfield 54, 3) := by decide +kernel
theorem dX11_sheet_43 : decode cX11_sheet 43 = .ok (.iload_n 1, 1) := by decide +kernel
theorem dX11_sheet_44 : decode cX11_sheet 44 = .ok (.iload_n 2, 1) := by decide +kernel
theorem dX11_sheet_45 : decode cX11_sheet 45 = .ok (.invokevirtual 331, 3) := by decide +kernel
theorem dX11_sheet_48 : decode cX11_sheet 48 = .ok (.aload_n 0, 1) := by decide +kernel
theorem dX11_sheet_49 : decode cX11_sheet 49 = .ok (.getfield 54, 3) := by decide +kernel
theorem dX11_sheet_52 : decode cX11_sheet 52 = .ok (.getfield 335, 3) := by decide +kernel
theorem dX11_sheet_55 : decode cX11_sheet 55 = .ok (.iload_n 3, 1) := by decide +kernel
theorem dX11_sheet_56 : decode cX11_sheet 56 = .ok (.iaload, 1) := by decide +kernel
theorem dX11_sheet_57 : decode cX11_sheet 57 = .ok (.ireturn, 1) := by decide +kernel
theorem dX11_late_0 : decode cX11_late 0 = .ok (.aload_n 0, 1) := by decide +kernel
theorem dX11_late_1 : decode cX11_late 1 = .ok (.getfield 26, 3) := by decide +kernel
theorem dX11_late_4 : decode cX11_late 4 = .ok (.iload_n 1, 1) := by decide +kernel
theorem dX11_late_5 : decode cX11_late 5 = .ok (.invokevirtual 194, 3) := by decide +kernel
theorem dX11_late_8 : decode cX11_late 8 = .ok (.invokestatic 95, 3) := by decide +kernel
theorem dX11_late_11 : decode cX11_late 11 = .ok (.iload_n 2, 1) := by decide +kernel
theorem dX11_late_12 : decode cX11_late 12 = .ok (.iconst 0, 1) := by decide +kernel
theorem dX11_late_13 : decode cX11_late 13 = .ok (.bipush 20, 2) := by decide +kernel
theorem dX11_late_15 : decode cX11_late 15 = .ok (.invokestatic 65, 3) := by decide +kernel
theorem dX11_late_18 : decode cX11_late 18 = .ok (.invokestatic 69, 3) := by decide +kernel
theorem dX11_late_21 : decode cX11_late 21 = .ok (.aload_n 0, 1) := by decide +kernel
theorem dX11_late_22 : decode cX11_late 22 = .ok (.getfield 26, 3) := by decide +kernel
theorem dX11_late_25 : decode cX11_late 25 = .ok (.iload_n 1, 1) := by decide +kernel
theorem dX11_late_26 : decode cX11_late 26 = .ok (.iload_n 2, 1) := by decide +kernel
theorem dX11_late_27 : decode cX11_late 27 = .ok (.aload_n 0, 1) := by decide +kernel
theorem dX11_late_28 : decode cX11_late 28 = .ok (.getfield 19, 3) := by decide +kernel
theorem dX11_late_31 : decode cX11_late 31 = .ok (.invokevirtual 208, 3) := by decide +kernel
theorem dX11_late_34 : decode cX11_late 34 = .ok (.invokevirtual 338, 3) := by decide +kernel
theorem dX11_late_37 : decode cX11_late 37 = .ok (.ireturn, 1) := by decide +kernel
theorem dX11_window_0 : decode cX11_window 0 = .ok (.aload_n 0, 1) := by decide +kernel
theorem dX11_window_1 : decode cX11_window 1 = .ok (.getfield 26, 3) := by decide +kernel
theorem dX11_window_4 : decode cX11_window 4 = .ok (.iload_n 1, 1) := by decide +kernel
theorem dX11_window_5 : decode cX11_window 5 = .ok (.invokevirtual 194, 3) := by decide +kernel
theorem dX11_window_8 : decode cX11_window 8 = .ok (.invokestatic 95, 3) := by decide +kernel
theorem dX11_window_11 : decode cX11_window 11 = .ok (.aload_n 0, 1) := by decide +kernel
theorem dX11_window_12 : decode cX11_window 12 = .ok (.getfield 26, 3) := by decide +kernel
theorem dX11_window_15 : decode cX11_window 15 = .ok (.iload_n 1, 1) := by decide +kernel
theorem dX11_window_16 : decode cX11_window 16 = .ok (.aload_n 0, 1) := by decide +kernel
theorem dX11_window_17 : decode cX11_window 17 = .ok (.getfield 19, 3) := by decide +kernel
theorem dX11_window_20 : decode cX11_window 20 = .ok (.invokevirtual 208, 3) := by decide +kernel
theorem dX11_window_23 : decode cX11_window 23 = .ok (.invokevirtual 341, 3) := by decide +kernel
theorem dX11_window_26 : decode cX11_window 26 = .ok (.ireturn, 1) := by decide +kernel
theorem dX11_count_0 : decode cX11_count 0 = .ok (.iload_n 1, 1) := by decide +kernel
theorem dX11_count_1 : decode cX11_count 1 = .ok (.tableswitch 252 0 17 #[87, 95, 103, 111, 119, 127, 135, 143, 151, 169, 177, 193, 201, 209, 217, 228, 236, 244], 87) := by decide +kernel
theorem dX11_count_88 : decode cX11_count 88 = .ok (.aload_n 0, 1) := by decide +kernel
theorem dX11_count_89 : decode cX11_count 89 = .ok (.getfield 26, 3) := by decide +kernel
theorem dX11_count_92 : decode cX11_count 92 = .ok (.getfield 253, 3) := by decide +kernel
theorem dX11_count_95 : decode cX11_count 95 = .ok (.ireturn, 1) := by decide +kernel
theorem dX11_count_96 : decode cX11_count 96 = .ok (.aload_n 0, 1) := by decide +kernel
theorem dX11_count_97 : decode cX11_count 97 = .ok (.getfield 26, 3) := by decide +kernel
theorem dX11_count_100 : decode cX11_count 100 = .ok (.getfield 344, 3) := by decide +kernel
theorem dX11_count_103 : decode cX11_count 103 = .ok (.ireturn, 1) := by decide +kernel
theorem dX11_count_104 : decode cX11_count 104 = .ok (.aload_n 0, 1) := by decide +kernel
theorem dX11_count_105 : decode cX11_count 105 = .ok (.getfield 26, 3) := by decide +kernel
theorem dX11_count_108 : decode cX11_count 108 = .ok (.getfield 347, 3) := by decide +kernel
theorem dX11_count_111 : decode cX11_count 111 = .ok (.ireturn, 1) := by decide +kernel
theorem dX11_count_112 : decode cX11_count 112 = .ok (.aload_n 0, 1) := by decide +kernel
theorem dX11_count_113 : decode cX11_count 113 = .ok (.getfield 19, 3) := by decide +kernel
theorem dX11_count_116 : decode cX11_count 116 = .ok (.getfield 350, 3) := by decide +kernel
theorem dX11_count_119 : decode cX11_count 119 = .ok (.ireturn, 1) := by decide +kernel
theorem dX11_count_120 : decode cX11_count 120 = .ok (.aload_n 0, 1) := by decide +kernel
theorem dX11_count_121 : decode cX11_count 121 = .ok (.getfield 19, 3) := by decide +kernel
theorem dX11_count_124 : decode cX11_count 124 = .ok (.getfield 181, 3) := by decide +kernel
theorem dX11_count_127 : decode cX11_count 127 = .ok (.ireturn, 1) := by decide +kernel
theorem dX11_count_128 : decode cX11_count 128 = .ok (.aload_n 0, 1) := by decide +kernel
theorem dX11_count_129 : decode cX11_count 129 = .ok (.getfield 26, 3) := by decide +kernel
theorem dX11_count_132 : decode cX11_count 132 = .ok (.getfield 353, 3) := by decide +kernel
theorem dX11_count_135 : decode cX11_count 135 = .ok (.ireturn, 1) := by decide +kernel
theorem dX11_count_136 : decode cX11_count 136 = .ok (.aload_n 0, 1) := by decide +kernel
theorem dX11_count_137 : decode cX11_count 137 = .ok (.getfield 61, 3) := by decide +kernel
theorem dX11_count_140 : decode cX11_count 140 = .ok (.getfield 240, 3) := by decide +kernel
theorem dX11_count_143 : decode cX11_count 143 = .ok (.ireturn, 1) := by decide +kernel
theorem dX11_count_144 : decode cX11_count 144 = .ok (.aload_n 0, 1) := by decide +kernel
theorem dX11_count_145 : decode cX11_count 145 = .ok (.getfield 19, 3) := by decide +kernel
theorem dX11_count_148 : decode cX11_count 148 = .ok (.invokevirtual 208, 3) := by decide +kernel
theorem dX11_count_151 : decode cX11_count 151 = .ok (.ireturn, 1) := by decide +kernel
theorem dX11_count_152 : decode cX11_count 152 = .ok (.aload_n 0, 1) := by decide +kernel
theorem dX11_count_153 : decode cX11_count 153 = .ok (.getfield 26, 3) := by decide +kernel
theorem dX11_count_156 : decode cX11_count 156 = .ok (.getfield 344, 3) := by decide +kernel
theorem dX11_count_159 : decode cX11_count 159 = .ok (.aload_n 0, 1) := by decide +kernel
theorem dX11_count_160 : decode cX11_count 160 = .ok (.getfield 19, 3) := by decide +kernel
theorem dX11_count_163 : decode cX11_count 163 = .ok (.invokevirtual 208, 3) := by decide +kernel
theorem dX11_count_166 : decode cX11_count 166 = .ok (.invokestatic 356, 3) := by decide +kernel
theorem dX11_count_169 : decode cX11_count 169 = .ok (.ireturn, 1) := by decide +kernel
theorem dX11_count_170 : decode cX11_count 170 = .ok (.aload_n 0, 1) := by decide +kernel
theorem dX11_count_171 : decode cX11_count 171 = .ok (.getfield 33, 3) := by decide +kernel
theorem dX11_count_174 : decode cX11_count 174 = .ok (.getfield 228, 3) := by decide +kernel
theorem dX11_count_177 : decode cX11_count 177 = .ok (.ireturn, 1) := by decide +kernel
theorem dX11_count_178 : decode cX11_count 178 = .ok (.aload_n 0, 1) := by decide +kernel
theorem dX11_count_179 : decode cX11_count 179 = .ok (.getfield 26, 3) := by decide +kernel
theorem dX11_count_182 : decode cX11_count 182 = .ok (.invokevirtual 359, 3) := by decide +kernel
theorem dX11_count_185 : decode cX11_count 185 = .ok (.ifCond .eq 7, 3) := by decide +kernel
theorem dX11_count_188 : decode cX11_count 188 = .ok (.iconst 1, 1) := by decide +kernel
theorem dX11_count_189 : decode cX11_count 189 = .ok (.goto 4, 3) := by decide +kernel
theorem dX11_count_192 : decode cX11_count 192 = .ok (.iconst 0, 1) := by decide +kernel
theorem dX11_count_193 : decode cX11_count 193 = .ok (.ireturn, 1) := by decide +kernel
theorem dX11_count_194 : decode cX11_count 194 = .ok (.aload_n 0, 1) := by decide +kernel
theorem dX11_count_195 : decode cX11_count 195 = .ok (.getfield 40, 3) := by decide +kernel
theorem dX11_count_198 : decode cX11_count 198 = .ok (.getfield 362, 3) := by decide +kernel
theorem dX11_count_201 : decode cX11_count 201 = .ok (.ireturn, 1) := by decide +kernel
theorem dX11_count_202 : decode cX11_count 202 = .ok (.aload_n 0, 1) := by decide +kernel
theorem dX11_count_203 : decode cX11_count 203 = .ok (.getfield 40, 3) := by decide +kernel
theorem dX11_count_206 : decode cX11_count 206 = .ok (.getfield 365, 3) := by decide +kernel
theorem dX11_count_209 : decode cX11_count 209 = .ok (.ireturn, 1) := by decide +kernel
theorem dX11_count_210 : decode cX11_count 210 = .ok (.aload_n 0, 1) := by decide +kernel
theorem dX11_count_211 : decode cX11_count 211 = .ok (.getfield 26, 3) := by decide +kernel
theorem dX11_count_214 : decode cX11_count 214 = .ok (.getfield 368, 3) := by decide +kernel
theorem dX11_count_217 : decode cX11_count 217 = .ok (.ireturn, 1) := by decide +kernel
theorem dX11_count_218 : decode cX11_count 218 = .ok (.aload_n 0, 1) := by decide +kernel
theorem dX11_count_219 : decode cX11_count 219 = .ok (.getfield 12, 3) := by decide +kernel
theorem dX11_count_222 : decode cX11_count 222 = .ok (.getfield 98, 3) := by decide +kernel
theorem dX11_count_225 : decode cX11_count 225 = .ok (.invokestatic 371, 3) := by decide +kernel
theorem dX11_count_228 : decode cX11_count 228 = .ok (.ireturn, 1) := by decide +kernel
theorem dX11_count_229 : decode cX11_count 229 = .ok (.aload_n 0, 1) := by decide +kernel
theorem dX11_count_230 : decode cX11_count 230 = .ok (.getfield 47, 3) := by decide +kernel
theorem dX11_count_233 : decode cX11_count 233 = .ok (.getfield 376, 3) := by decide +kernel
theorem dX11_count_236 : decode cX11_count 236 = .ok (.ireturn, 1) := by decide +kernel
theorem dX11_count_237 : decode cX11_count 237 = .ok (.aload_n 0, 1) := by decide +kernel
theorem dX11_count_238 : decode cX11_count 238 = .ok (.getfield 47, 3) := by decide +kernel
theorem dX11_count_241 : decode cX11_count 241 = .ok (.getfield 379, 3) := by decide +kernel
theorem dX11_count_244 : decode cX11_count 244 = .ok (.ireturn, 1) := by decide +kernel
theorem dX11_count_245 : decode cX11_count 245 = .ok (.aload_n 0, 1) := by decide +kernel
theorem dX11_count_246 : decode cX11_count 246 = .ok (.getfield 54, 3) := by decide +kernel
theorem dX11_count_249 : decode cX11_count 249 = .ok (.getfield 382, 3) := by decide +kernel
theorem dX11_count_252 : decode cX11_count 252 = .ok (.ireturn, 1) := by decide +kernel
theorem dX11_count_253 : decode cX11_count 253 = .ok (.iconst (-1), 1) := by decide +kernel
theorem dX11_count_254 : decode cX11_count 254 = .ok (.ireturn, 1) := by decide +kernel
theorem dX11_needArgument_0 : decode cX11_needArgument 0 = .ok (.iload_n 0, 1) := by decide +kernel
