theorem dX0_init_0 : decode cX0_init 0 = .ok (.aload_n 0, 1) := by decide +kernel
theorem dX0_init_1 : decode cX0_init 1 = .ok (.invokespecial 1, 3) := by decide +kernel
theorem dX0_init_4 : decode cX0_init 4 = .ok (.aload_n 0, 1) := by decide +kernel
theorem dX0_init_5 : decode cX0_init 5 = .ok (.bipush 12, 2) := by decide +kernel
theorem dX0_init_7 : decode cX0_init 7 = .ok (.newarray .int, 2) := by decide +kernel
theorem dX0_init_9 : decode cX0_init 9 = .ok (.putfield 9, 3) := by decide +kernel
theorem dX0_init_12 : decode cX0_init 12 = .ok (.aload_n 0, 1) := by decide +kernel
theorem dX0_init_13 : decode cX0_init 13 = .ok (.bipush 12, 2) := by decide +kernel
theorem dX0_init_15 : decode cX0_init 15 = .ok (.newarray .int, 2) := by decide +kernel
theorem dX0_init_17 : decode cX0_init 17 = .ok (.putfield 13, 3) := by decide +kernel
theorem dX0_init_20 : decode cX0_init 20 = .ok (.aload_n 0, 1) := by decide +kernel
theorem dX0_init_21 : decode cX0_init 21 = .ok (.bipush 12, 2) := by decide +kernel
theorem dX0_init_23 : decode cX0_init 23 = .ok (.newarray .int, 2) := by decide +kernel
theorem dX0_init_25 : decode cX0_init 25 = .ok (.putfield 16, 3) := by decide +kernel
theorem dX0_init_28 : decode cX0_init 28 = .ok (.aload_n 0, 1) := by decide +kernel
theorem dX0_init_29 : decode cX0_init 29 = .ok (.bipush 12, 2) := by decide +kernel
theorem dX0_init_31 : decode cX0_init 31 = .ok (.newarray .int, 2) := by decide +kernel
theorem dX0_init_33 : decode cX0_init 33 = .ok (.putfield 19, 3) := by decide +kernel
theorem dX0_init_36 : decode cX0_init 36 = .ok (.aload_n 0, 1) := by decide +kernel
theorem dX0_init_37 : decode cX0_init 37 = .ok (.iconst 5, 1) := by decide +kernel
theorem dX0_init_38 : decode cX0_init 38 = .ok (.newarray .int, 2) := by decide +kernel
theorem dX0_init_40 : decode cX0_init 40 = .ok (.putfield 22, 3) := by decide +kernel
theorem dX0_init_43 : decode cX0_init 43 = .ok (.aload_n 0, 1) := by decide +kernel
theorem dX0_init_44 : decode cX0_init 44 = .ok (.iconst 5, 1) := by decide +kernel
theorem dX0_init_45 : decode cX0_init 45 = .ok (.newarray .int, 2) := by decide +kernel
theorem dX0_init_47 : decode cX0_init 47 = .ok (.putfield 25, 3) := by decide +kernel
theorem dX0_init_50 : decode cX0_init 50 = .ok (.return_, 1) := by decide +kernel
theorem dX0_addOffer_0 : decode cX0_addOffer 0 = .ok (.aload_n 0, 1) := by decide +kernel
theorem dX0_addOffer_1 : decode cX0_addOffer 1 = .ok (.getfield 28, 3) := by decide +kernel
theorem dX0_addOffer_4 : decode cX0_addOffer 4 = .ok (.bipush 12, 2) := by decide +kernel
theorem dX0_addOffer_6 : decode cX0_addOffer 6 = .ok (.if_icmp .ne 5, 3) := by decide +kernel
theorem dX0_addOffer_9 : decode cX0_addOffer 9 = .ok (.iconst (-1), 1) := by decide +kernel
theorem dX0_addOffer_10 : decode cX0_addOffer 10 = .ok (.ireturn, 1) := by decide +kernel
theorem dX0_addOffer_11 : decode cX0_addOffer 11 = .ok (.aload_n 0, 1) := by decide +kernel
theorem dX0_addOffer_12 : decode cX0_addOffer 12 = .ok (.getfield 9, 3) := by decide +kernel
theorem dX0_addOffer_15 : decode cX0_addOffer 15 = .ok (.aload_n 0, 1) := by decide +kernel
theorem dX0_addOffer_16 : decode cX0_addOffer 16 = .ok (.getfield 28, 3) := by decide +kernel
theorem dX0_addOffer_19 : decode cX0_addOffer 19 = .ok (.iload_n 1, 1) := by decide +kernel
theorem dX0_addOffer_20 : decode cX0_addOffer 20 = .ok (.iastore, 1) := by decide +kernel
theorem dX0_addOffer_21 : decode cX0_addOffer 21 = .ok (.aload_n 0, 1) := by decide +kernel
theorem dX0_addOffer_22 : decode cX0_addOffer 22 = .ok (.getfield 13, 3) := by decide +kernel
theorem dX0_addOffer_25 : decode cX0_addOffer 25 = .ok (.aload_n 0, 1) := by decide +kernel
theorem dX0_addOffer_26 : decode cX0_addOffer 26 = .ok (.getfield 28, 3) := by decide +kernel
theorem dX0_addOffer_29 : decode cX0_addOffer 29 = .ok (.iload_n 2, 1) := by decide +kernel
theorem dX0_addOffer_30 : decode cX0_addOffer 30 = .ok (.iastore, 1) := by decide +kernel
theorem dX0_addOffer_31 : decode cX0_addOffer 31 = .ok (.aload_n 0, 1) := by decide +kernel
theorem dX0_addOffer_32 : decode cX0_addOffer 32 = .ok (.getfield 16, 3) := by decide +kernel
theorem dX0_addOffer_35 : decode cX0_addOffer 35 = .ok (.aload_n 0, 1) := by decide +kernel
theorem dX0_addOffer_36 : decode cX0_addOffer 36 = .ok (.getfield 28, 3) := by decide +kernel
theorem dX0_addOffer_39 : decode cX0_addOffer 39 = .ok (.iload_n 3, 1) := by decide +kernel
theorem dX0_addOffer_40 : decode cX0_addOffer 40 = .ok (.iastore, 1) := by decide +kernel
theorem dX0_addOffer_41 : decode cX0_addOffer 41 = .ok (.aload_n 0, 1) := by decide +kernel
theorem dX0_addOffer_42 : decode cX0_addOffer 42 = .ok (.getfield 19, 3) := by decide +kernel
theorem dX0_addOffer_45 : decode cX0_addOffer 45 = .ok (.aload_n 0, 1) := by decide +kernel
theorem dX0_addOffer_46 : decode cX0_addOffer 46 = .ok (.getfield 28, 3) := by decide +kernel
theorem dX0_addOffer_49 : decode cX0_addOffer 49 = .ok (.iload 4, 2) := by decide +kernel
theorem dX0_addOffer_51 : decode cX0_addOffer 51 = .ok (.iastore, 1) := by decide +kernel
theorem dX0_addOffer_52 : decode cX0_addOffer 52 = .ok (.aload_n 0, 1) := by decide +kernel
theorem dX0_addOffer_53 : decode cX0_addOffer 53 = .ok (.dup, 1) := by decide +kernel
theorem dX0_addOffer_54 : decode cX0_addOffer 54 = .ok (.getfield 28, 3) := by decide +kernel
theorem dX0_addOffer_57 : decode cX0_addOffer 57 = .ok (.dup_x1, 1) := by decide +kernel
theorem dX0_addOffer_58 : decode cX0_addOffer 58 = .ok (.iconst 1, 1) := by decide +kernel
theorem dX0_addOffer_59 : decode cX0_addOffer 59 = .ok (.iadd, 1) := by decide +kernel
theorem dX0_addOffer_60 : decode cX0_addOffer 60 = .ok (.putfield 28, 3) := by decide +kernel
theorem dX0_addOffer_63 : decode cX0_addOffer 63 = .ok (.ireturn, 1) := by decide +kernel
theorem dX0_findBest_0 : decode cX0_findBest 0 = .ok (.iconst 0, 1) := by decide +kernel
theorem dX0_findBest_1 : decode cX0_findBest 1 = .ok (.istore_n 3, 1) := by decide +kernel
theorem dX0_findBest_2 : decode cX0_findBest 2 = .ok (.iload_n 3, 1) := by decide +kernel
theorem dX0_findBest_3 : decode cX0_findBest 3 = .ok (.aload_n 0, 1) := by decide +kernel
theorem dX0_findBest_4 : decode cX0_findBest 4 = .ok (.getfield 22, 3) := by decide +kernel
theorem dX0_findBest_7 : decode cX0_findBest 7 = .ok (.arraylength, 1) := by decide +kernel
theorem dX0_findBest_8 : decode cX0_findBest 8 = .ok (.if_icmp .ge 23, 3) := by decide +kernel
theorem dX0_findBest_11 : decode cX0_findBest 11 = .ok (.aload_n 0, 1) := by decide +kernel
theorem dX0_findBest_12 : decode cX0_findBest 12 = .ok (.getfield 22, 3) := by decide +kernel
theorem dX0_findBest_15 : decode cX0_findBest 15 = .ok (.iload_n 3, 1) := by decide +kernel
theorem dX0_findBest_16 : decode cX0_findBest 16 = .ok (.iconst 0, 1) := by decide +kernel
theorem dX0_findBest_17 : decode cX0_findBest 17 = .ok (.iastore, 1) := by decide +kernel
theorem dX0_findBest_18 : decode cX0_findBest 18 = .ok (.aload_n 0, 1) := by decide +kernel
theorem dX0_findBest_19 : decode cX0_findBest 19 = .ok (.getfield 25, 3) := by decide +kernel
theorem dX0_findBest_22 : decode cX0_findBest 22 = .ok (.iload_n 3, 1) := by decide +kernel
theorem dX0_findBest_23 : decode cX0_findBest 23 = .ok (.iconst 0, 1) := by decide +kernel
theorem dX0_findBest_24 : decode cX0_findBest 24 = .ok (.iastore, 1) := by decide +kernel
theorem dX0_findBest_25 : decode cX0_findBest 25 = .ok (.iinc 3 1, 3) := by decide +kernel
theorem dX0_findBest_28 : decode cX0_findBest 28 = .ok (.goto (-26), 3) := by decide +kernel
theorem dX0_findBest_31 : decode cX0_findBest 31 = .ok (.iconst 1, 1) := by decide +kernel
theorem dX0_findBest_32 : decode cX0_findBest 32 = .ok (.istore_n 3, 1) := by decide +kernel
theorem dX0_findBest_33 : decode cX0_findBest 33 = .ok (.iload_n 3, 1) := by decide +kernel
theorem dX0_findBest_34 : decode cX0_findBest 34 = .ok (.iconst 1, 1) := by decide +kernel
theorem dX0_findBest_35 : decode cX0_findBest 35 = .ok (.aload_n 0, 1) := by decide +kernel
theorem dX0_findBest_36 : decode cX0_findBest 36 = .ok (.getfield 28, 3) := by decide +kernel
theorem dX0_findBest_39 : decode cX0_findBest 39 = .ok (.ishl, 1) := by decide +kernel
theorem dX0_findBest_40 : decode cX0_findBest 40 = .ok (.if_icmp .ge 90, 3) := by decide +kernel
theorem dX0_findBest_43 : decode cX0_findBest 43 = .ok (.aload_n 0, 1) := by decide +kernel
theorem dX0_findBest_44 : decode cX0_findBest 44 = .ok (.iload_n 3, 1) := by decide +kernel
theorem dX0_findBest_45 : decode cX0_findBest 45 = .ok (.invokestatic 32, 3) := by decide +kernel
theorem dX0_findBest_48 : decode cX0_findBest 48 = .ok (.invokevirtual 38, 3) := by decide +kernel
theorem dX0_findBest_51 : decode cX0_findBest 51 = .ok (.aload_n 0, 1) := by decide +kernel
theorem dX0_findBest_52 : decode cX0_findBest 52 = .ok (.getfield 25, 3) := by decide +kernel
theorem dX0_findBest_55 : decode cX0_findBest 55 = .ok (.iconst 3, 1) := by decide +kernel
theorem dX0_findBest_56 : decode cX0_findBest 56 = .ok (.iaload, 1) := by decide +kernel
theorem dX0_findBest_57 : decode cX0_findBest 57 = .ok (.invokestatic 42, 3) := by decide +kernel
theorem dX0_findBest_60 : decode cX0_findBest 60 = .ok (.iload_n 2, 1) := by decide +kernel
theorem dX0_findBest_61 : decode cX0_findBest 61 = .ok (.if_icmp .gt 20, 3) := by decide +kernel
theorem dX0_findBest_64 : decode cX0_findBest 64 = .ok (.aload_n 0, 1) := by decide +kernel
theorem dX0_findBest_65 : decode cX0_findBest 65 = .ok (.getfield 25, 3) := by decide +kernel
theorem dX0_findBest_68 : decode cX0_findBest 68 = .ok (.iconst 4, 1) := by decide +kernel
theorem dX0_findBest_69 : decode cX0_findBest 69 = .ok (.iaload, 1) := by decide +kernel
theorem dX0_findBest_70 : decode cX0_findBest 70 = .ok (.invokestatic 42, 3) := by decide +kernel
theorem dX0_findBest_73 : decode cX0_findBest 73 = .ok (.iload_n 2, 1) := by decide +kernel
theorem dX0_findBest_74 : decode cX0_findBest 74 = .ok (.if_icmp .gt 7, 3) := by decide +kernel
theorem dX0_findBest_77 : decode cX0_findBest 77 = .ok (.iconst 1, 1) := by decide +kernel
theorem dX0_findBest_78 : decode cX0_findBest 78 = .ok (.goto 4, 3) := by decide +kernel
theorem dX0_findBest_81 : decode cX0_findBest 81 = .ok (.iconst 0, 1) := by decide +kernel
theorem dX0_findBest_82 : decode cX0_findBest 82 = .ok (.istore 4, 2) := by decide +kernel
theorem dX0_findBest_84 : decode cX0_findBest 84 = .ok (.aload_n 0, 1) := by decide +kernel
theorem dX0_findBest_85 : decode cX0_findBest 85 = .ok (.getfield 25, 3) := by decide +kernel
theorem dX0_findBest_88 : decode cX0_findBest 88 = .ok (.iconst 2, 1) := by decide +kernel
theorem dX0_findBest_89 : decode cX0_findBest 89 = .ok (.iaload, 1) := by decide +kernel
theorem dX0_findBest_90 : decode cX0_findBest 90 = .ok (.iload_n 1, 1) := by decide +kernel
theorem dX0_findBest_91 : decode cX0_findBest 91 = .ok (.if_icmp .gt 33, 3) := by decide +kernel
theorem dX0_findBest_94 : decode cX0_findBest 94 = .ok (.iload 4, 2) := by decide +kernel
theorem dX0_findBest_96 : decode cX0_findBest 96 = .ok (.ifCond .eq 28, 3) := by decide +kernel
theorem dX0_findBest_99 : decode cX0_findBest 99 = .ok (.aload_n 0, 1) := by decide +kernel
theorem dX0_findBest_100 : decode cX0_findBest 100 = .ok (.invokevirtual 47, 3) := by decide +kernel
theorem dX0_findBest_103 : decode cX0_findBest 103 = .ok (.ifCond .eq 21, 3) := by decide +kernel
theorem dX0_findBest_106 : decode cX0_findBest 106 = .ok (.aload_n 0, 1) := by decide +kernel
theorem dX0_findBest_107 : decode cX0_findBest 107 = .ok (.getfield 25, 3) := by decide +kernel
theorem dX0_findBest_110 : decode cX0_findBest 110 = .ok (.iconst 0, 1) := by decide +kernel
theorem dX0_findBest_111 : decode cX0_findBest 111 = .ok (.aload_n 0, 1) := by decide +kernel
theorem dX0_findBest_112 : decode cX0_findBest 112 = .ok (.getfield 22, 3) := by decide +kernel
theorem dX0_findBest_115 : decode cX0_findBest 115 = .ok (.iconst 0, 1) := by decide +kernel
theorem dX0_findBest_116 : decode cX0_findBest 116 = .ok (.aload_n 0, 1) := by decide +kernel
theorem dX0_findBest_117 : decode cX0_findBest 117 = .ok (.getfield 22, 3) := by decide +kernel
theorem dX0_findBest_120 : decode cX0_findBest 120 = .ok (.arraylength, 1) := by decide +kernel
theorem dX0_findBest_121 : decode cX0_findBest 121 = .ok (.invokestatic 51, 3) := by decide +kernel
theorem dX0_findBest_124 : decode cX0_findBest 124 = .ok (.iinc 3 1, 3) := by decide +kernel
theorem dX0_findBest_127 : decode cX0_findBest 127 = .ok (.goto (-94), 3) := by decide +kernel
theorem dX0_findBest_130 : decode cX0_findBest 130 = .ok (.return_, 1) := by decide +kernel
theorem dX0_change_0 : decode cX0_change 0 = .ok (.iload_n 1, 1) := by decide +kernel
theorem dX0_change_1 : decode cX0_change 1 = .ok (.iconst 0, 1) := by decide +kernel
theorem dX0_change_2 : decode cX0_change 2 = .ok (.aload_n 0, 1) := by decide +kernel
theorem dX0_change_3 : decode cX0_change 3 = .ok (.getfield 28, 3) := by decide +kernel
theorem dX0_change_6 : decode cX0_change 6 = .ok (.iconst 1, 1) := by decide +kernel
theorem dX0_change_7 : decode cX0_change 7 = .ok (.isub, 1) := by decide +kernel
theorem dX0_change_8 : decode cX0_change 8 = .ok (.invokestatic 57, 3) := by decide +kernel
theorem dX0_change_11 : decode cX0_change 11 = .ok (.ifCond .ne 4, 3) := by decide +kernel
theorem dX0_change_14 : decode cX0_change 14 = .ok (.return_, 1) := by decide +kernel
theorem dX0_change_15 : decode cX0_change 15 = .ok (.aload_n 0, 1) := by decide +kernel
theorem dX0_change_16 : decode cX0_change 16 = .ok (.getfield 25, 3) := by decide +kernel
theorem dX0_change_19 : decode cX0_change 19 = .ok (.iconst 0, 1) := by decide +kernel
theorem dX0_change_20 : decode cX0_change 20 = .ok (.dup2, 1) := by decide +kernel
theorem dX0_change_21 : decode cX0_change 21 = .ok (.iaload, 1) := by decide +kernel
theorem dX0_change_22 : decode cX0_change 22 = .ok (.iconst 1, 1) := by decide +kernel
theorem dX0_change_23 : decode cX0_change 23 = .ok (.iload_n 1, 1) := by decide +kernel
theorem dX0_change_24 : decode cX0_change 24 = .ok (.ishl, 1) := by decide +kernel
theorem dX0_change_25 : decode cX0_change 25 = .ok (.ixor, 1) := by decide +kernel
theorem dX0_change_26 : decode cX0_change 26 = .ok (.iastore, 1) := by decide +kernel
theorem dX0_change_27 : decode cX0_change 27 = .ok (.aload_n 0, 1) := by decide +kernel
theorem dX0_change_28 : decode cX0_change 28 = .ok (.getfield 25, 3) := by decide +kernel
theorem dX0_change_31 : decode cX0_change 31 = .ok (.iconst 0, 1) := by decide +kernel
theorem dX0_change_32 : decode cX0_change 32 = .ok (.iaload, 1) := by decide +kernel
theorem dX0_change_33 : decode cX0_change 33 = .ok (.iload_n 1, 1) := by decide +kernel
theorem dX0_change_34 : decode cX0_change 34 = .ok (.ishr, 1) := by decide +kernel
theorem dX0_change_35 : decode cX0_change 35 = .ok (.iconst 1, 1) := by decide +kernel
theorem dX0_change_36 : decode cX0_change 36 = .ok (.iand, 1) := by decide +kernel
theorem dX0_change_37 : decode cX0_change 37 = .ok (.iconst 1, 1) := by decide +kernel
theorem dX0_change_38 : decode cX0_change 38 = .ok (.if_icmp .ne 7, 3) := by decide +kernel
theorem dX0_change_41 : decode cX0_change 41 = .ok (.iconst 1, 1) := by decide +kernel
theorem dX0_change_42 : decode cX0_change 42 = .ok (.goto 4, 3) := by decide +kernel
theorem dX0_change_45 : decode cX0_change 45 = .ok (.iconst (-1), 1) := by decide +kernel
theorem dX0_change_46 : decode cX0_change 46 = .ok (.istore_n 2, 1) := by decide +kernel
theorem dX0_change_47 : decode cX0_change 47 = .ok (.aload_n 0, 1) := by decide +kernel
theorem dX0_change_48 : decode cX0_change 48 = .ok (.getfield 25, 3) := by decide +kernel
theorem dX0_change_51 : decode cX0_change 51 = .ok (.iconst 1, 1) := by decide +kernel
theorem dX0_change_52 : decode cX0_change 52 = .ok (.dup2, 1) := by decide +kernel
theorem dX0_change_53 : decode cX0_change 53 = .ok (.iaload, 1) := by decide +kernel
theorem dX0_change_54 : decode cX0_change 54 = .ok (.iload_n 2, 1) := by decide +kernel
theorem dX0_change_55 : decode cX0_change 55 = .ok (.aload_n 0, 1) := by decide +kernel
theorem dX0_change_56 : decode cX0_change 56 = .ok (.getfield 16, 3) := by decide +kernel
theorem dX0_change_59 : decode cX0_change 59 = .ok (.iload_n 1, 1) := by decide +kernel
theorem dX0_change_60 : decode cX0_change 60 = .ok (.iaload, 1) := by decide +kernel
theorem dX0_change_61 : decode cX0_change 61 = .ok (.imul, 1) := by decide +kernel
theorem dX0_change_62 : decode cX0_change 62 = .ok (.iadd, 1) := by decide +kernel
theorem dX0_change_63 : decode cX0_change 63 = .ok (.iastore, 1) := by decide +kernel
theorem dX0_change_64 : decode cX0_change 64 = .ok (.aload_n 0, 1) := by decide +kernel
theorem dX0_change_65 : decode cX0_change 65 = .ok (.getfield 25, 3) := by decide +kernel
theorem dX0_change_68 : decode cX0_change 68 = .ok (.iconst 2, 1) := by decide +kernel
theorem dX0_change_69 : decode cX0_change 69 = .ok (.dup2, 1) := by decide +kernel
theorem dX0_change_70 : decode cX0_change 70 = .ok (.iaload, 1) := by decide +kernel
theorem dX0_change_71 : decode cX0_change 71 = .ok (.iload_n 2, 1) := by decide +kernel
theorem dX0_change_72 : decode cX0_change 72 = .ok (.aload_n 0, 1) := by decide +kernel
theorem dX0_change_73 : decode cX0_change 73 = .ok (.getfield 19, 3) := by decide +kernel
theorem dX0_change_76 : decode cX0_change 76 = .ok (.iload_n 1, 1) := by decide +kernel
theorem dX0_change_77 : decode cX0_change 77 = .ok (.iaload, 1) := by decide +kernel
theorem dX0_change_78 : decode cX0_change 78 = .ok (.imul, 1) := by decide +kernel
theorem dX0_change_79 : decode cX0_change 79 = .ok (.iadd, 1) := by decide +kernel
theorem dX0_change_80 : decode cX0_change 80 = .ok (.iastore, 1) := by decide +kernel
theorem dX0_change_81 : decode cX0_change 81 = .ok (.aload_n 0, 1) := by decide +kernel
theorem dX0_change_82 : decode cX0_change 82 = .ok (.getfield 25, 3) := by decide +kernel
theorem dX0_change_85 : decode cX0_change 85 = .ok (.iconst 3, 1) := by decide +kernel
theorem dX0_change_86 : decode cX0_change 86 = .ok (.dup2, 1) := by decide +kernel
theorem dX0_change_87 : decode cX0_change 87 = .ok (.iaload, 1) := by decide +kernel
theorem dX0_change_88 : decode cX0_change 88 = .ok (.iload_n 2, 1) := by decide +kernel
theorem dX0_change_89 : decode cX0_change 89 = .ok (.aload_n 0, 1) := by decide +kernel
theorem dX0_change_90 : decode cX0_change 90 = .ok (.getfield 16, 3) := by decide +kernel
theorem dX0_change_93 : decode cX0_change 93 = .ok (.iload_n 1, 1) := by decide +kernel
theorem dX0_change_94 : decode cX0_change 94 = .ok (.iaload, 1) := by decide +kernel
theorem dX0_change_95 : decode cX0_change 95 = .ok (.imul, 1) := by decide +kernel
theorem dX0_change_96 : decode cX0_change 96 = .ok (.aload_n 0, 1) := by decide +kernel
theorem dX0_change_97 : decode cX0_change 97 = .ok (.getfield 9, 3) := by decide +kernel
theorem dX0_change_100 : decode cX0_change 100 = .ok (.iload_n 1, 1) := by decide +kernel
theorem dX0_change_101 : decode cX0_change 101 = .ok (.iaload, 1) := by decide +kernel
theorem dX0_change_102 : decode cX0_change 102 = .ok (.imul, 1) := by decide +kernel
theorem dX0_change_103 : decode cX0_change 103 = .ok (.iadd, 1) := by decide +kernel
theorem dX0_change_104 : decode cX0_change 104 = .ok (.iastore, 1) := by decide +kernel
theorem dX0_change_105 : decode cX0_change 105 = .ok (.aload_n 0, 1) := by decide +kernel
theorem dX0_change_106 : decode cX0_change 106 = .ok (.getfield 25, 3) := by decide +kernel
theorem dX0_change_109 : decode cX0_change 109 = .ok (.iconst 4, 1) := by decide +kernel
theorem dX0_change_110 : decode cX0_change 110 = .ok (.dup2, 1) := by decide +kernel
theorem dX0_change_111 : decode cX0_change 111 = .ok (.iaload, 1) := by decide +kernel
theorem dX0_change_112 : decode cX0_change 112 = .ok (.iload_n 2, 1) := by decide +kernel
theorem dX0_change_113 : decode cX0_change 113 = .ok (.aload_n 0, 1) := by decide +kernel
theorem dX0_change_114 : decode cX0_change 114 = .ok (.getfield 16, 3) := by decide +kernel
theorem dX0_change_117 : decode cX0_change 117 = .ok (.iload_n 1, 1) := by decide +kernel
theorem dX0_change_118 : decode cX0_change 118 = .ok (.iaload, 1) := by decide +kernel
theorem dX0_change_119 : decode cX0_change 119 = .ok (.imul, 1) := by decide +kernel
theorem dX0_change_120 : decode cX0_change 120 = .ok (.aload_n 0, 1) := by decide +kernel
theorem dX0_change_121 : decode cX0_change 121 = .ok (.getfield 13, 3) := by decide +kernel
theorem dX0_change_124 : decode cX0_change 124 = .ok (.iload_n 1, 1) := by decide +kernel
theorem dX0_change_125 : decode cX0_change 125 = .ok (.iaload, 1) := by decide +kernel
theorem dX0_change_126 : decode cX0_change 126 = .ok (.imul, 1) := by decide +kernel
theorem dX0_change_127 : decode cX0_change 127 = .ok (.iadd, 1) := by decide +kernel
theorem dX0_change_128 : decode cX0_change 128 = .ok (.iastore, 1) := by decide +kernel
theorem dX0_change_129 : decode cX0_change 129 = .ok (.return_, 1) := by decide +kernel
theorem dX0_isBetter_0 : decode cX0_isBetter 0 = .ok (.aload_n 0, 1) := by decide +kernel
theorem dX0_isBetter_1 : decode cX0_isBetter 1 = .ok (.getfield 25, 3) := by decide +kernel
theorem dX0_isBetter_4 : decode cX0_isBetter 4 = .ok (.iconst 1, 1) := by decide +kernel
theorem dX0_isBetter_5 : decode cX0_isBetter 5 = .ok (.iaload, 1) := by decide +kernel
theorem dX0_isBetter_6 : decode cX0_isBetter 6 = .ok (.aload_n 0, 1) := by decide +kernel
theorem dX0_isBetter_7 : decode cX0_isBetter 7 = .ok (.getfield 22, 3) := by decide +kernel
theorem dX0_isBetter_10 : decode cX0_isBetter 10 = .ok (.iconst 1, 1) := by decide +kernel
theorem dX0_isBetter_11 : decode cX0_isBetter 11 = .ok (.iaload, 1) := by decide +kernel
theorem dX0_isBetter_12 : decode cX0_isBetter 12 = .ok (.if_icmp .eq 24, 3) := by decide +kernel
theorem dX0_isBetter_15 : decode cX0_isBetter 15 = .ok (.aload_n 0, 1) := by decide +kernel
theorem dX0_isBetter_16 : decode cX0_isBetter 16 = .ok (.getfield 25, 3) := by decide +kernel
theorem dX0_isBetter_19 : decode cX0_isBetter 19 = .ok (.iconst 1, 1) := by decide +kernel
theorem dX0_isBetter_20 : decode cX0_isBetter 20 = .ok (.iaload, 1) := by decide +kernel
theorem dX0_isBetter_21 : decode cX0_isBetter 21 = .ok (.aload_n 0, 1) := by decide +kernel
theorem dX0_isBetter_22 : decode cX0_isBetter 22 = .ok (.getfield 22, 3) := by decide +kernel
theorem dX0_isBetter_25 : decode cX0_isBetter 25 = .ok (.iconst 1, 1) := by decide +kernel
theorem dX0_isBetter_26 : decode cX0_isBetter 26 = .ok (.iaload, 1) := by decide +kernel
theorem dX0_isBetter_27 : decode cX0_isBetter 27 = .ok (.if_icmp .le 7, 3) := by decide +kernel
theorem dX0_isBetter_30 : decode cX0_isBetter 30 = .ok (.iconst 1, 1) := by decide +kernel
theorem dX0_isBetter_31 : decode cX0_isBetter 31 = .ok (.goto 4, 3) := by decide +kernel
theorem dX0_isBetter_34 : decode cX0_isBetter 34 = .ok (.iconst 0, 1) := by decide +kernel
theorem dX0_isBetter_35 : decode cX0_isBetter 35 = .ok (.ireturn, 1) := by decide +kernel
theorem dX0_isBetter_36 : decode cX0_isBetter 36 = .ok (.aload_n 0, 1) := by decide +kernel
theorem dX0_isBetter_37 : decode cX0_isBetter 37 = .ok (.getfield 25, 3) := by decide +kernel
theorem dX0_isBetter_40 : decode cX0_isBetter 40 = .ok (.iconst 2, 1) := by decide +kernel
theorem dX0_isBetter_41 : decode cX0_isBetter 41 = .ok (.iaload, 1) := by decide +kernel
theorem dX0_isBetter_42 : decode cX0_isBetter 42 = .ok (.aload_n 0, 1) := by decide +kernel
theorem dX0_isBetter_43 : decode cX0_isBetter 43 = .ok (.getfield 22, 3) := by decide +kernel
theorem dX0_isBetter_46 : decode cX0_isBetter 46 = .ok (.iconst 2, 1) := by decide +kernel
theorem dX0_isBetter_47 : decode cX0_isBetter 47 = .ok (.iaload, 1) := by decide +kernel
theorem dX0_isBetter_48 : decode cX0_isBetter 48 = .ok (.if_icmp .eq 24, 3) := by decide +kernel
theorem dX0_isBetter_51 : decode cX0_isBetter 51 = .ok (.aload_n 0, 1) := by decide +kernel
theorem dX0_isBetter_52 : decode cX0_isBetter 52 = .ok (.getfield 25, 3) := by decide +kernel
theorem dX0_isBetter_55 : decode cX0_isBetter 55 = .ok (.iconst 2, 1) := by decide +kernel
theorem dX0_isBetter_56 : decode cX0_isBetter 56 = .ok (.iaload, 1) := by decide +kernel
theorem dX0_isBetter_57 : decode cX0_isBetter 57 = .ok (.aload_n 0, 1) := by decide +kernel
theorem dX0_isBetter_58 : decode cX0_isBetter 58 = .ok (.getfield 22, 3) := by decide +kernel
theorem dX0_isBetter_61 : decode cX0_isBetter 61 = .ok (.iconst 2, 1) := by decide +kernel
theorem dX0_isBetter_62 : decode cX0_isBetter 62 = .ok (.iaload, 1) := by decide +kernel
theorem dX0_isBetter_63 : decode cX0_isBetter 63 = .ok (.if_icmp .ge 7, 3) := by decide +kernel
theorem dX0_isBetter_66 : decode cX0_isBetter 66 = .ok (.iconst 1, 1) := by decide +kernel
theorem dX0_isBetter_67 : decode cX0_isBetter 67 = .ok (.goto 4, 3) := by decide +kernel
theorem dX0_isBetter_70 : decode cX0_isBetter 70 = .ok (.iconst 0, 1) := by decide +kernel
theorem dX0_isBetter_71 : decode cX0_isBetter 71 = .ok (.ireturn, 1) := by decide +kernel
theorem dX0_isBetter_72 : decode cX0_isBetter 72 = .ok (.aload_n 0, 1) := by decide +kernel
theorem dX0_isBetter_73 : decode cX0_isBetter 73 = .ok (.getfield 25, 3) := by decide +kernel
theorem dX0_isBetter_76 : decode cX0_isBetter 76 = .ok (.iconst 0, 1) := by decide +kernel
theorem dX0_isBetter_77 : decode cX0_isBetter 77 = .ok (.iaload, 1) := by decide +kernel
theorem dX0_isBetter_78 : decode cX0_isBetter 78 = .ok (.aload_n 0, 1) := by decide +kernel
theorem dX0_isBetter_79 : decode cX0_isBetter 79 = .ok (.getfield 22, 3) := by decide +kernel
theorem dX0_isBetter_82 : decode cX0_isBetter 82 = .ok (.iconst 0, 1) := by decide +kernel
theorem dX0_isBetter_83 : decode cX0_isBetter 83 = .ok (.iaload, 1) := by decide +kernel
theorem dX0_isBetter_84 : decode cX0_isBetter 84 = .ok (.ixor, 1) := by decide +kernel
theorem dX0_isBetter_85 : decode cX0_isBetter 85 = .ok (.istore_n 1, 1) := by decide +kernel
theorem dX0_isBetter_86 : decode cX0_isBetter 86 = .ok (.aload_n 0, 1) := by decide +kernel
theorem dX0_isBetter_87 : decode cX0_isBetter 87 = .ok (.getfield 25, 3) := by decide +kernel
theorem dX0_isBetter_90 : decode cX0_isBetter 90 = .ok (.iconst 0, 1) := by decide +kernel
theorem dX0_isBetter_91 : decode cX0_isBetter 91 = .ok (.iaload, 1) := by decide +kernel
theorem dX0_isBetter_92 : decode cX0_isBetter 92 = .ok (.iload_n 1, 1) := by decide +kernel
theorem dX0_isBetter_93 : decode cX0_isBetter 93 = .ok (.iand, 1) := by decide +kernel
theorem dX0_isBetter_94 : decode cX0_isBetter 94 = .ok (.iload_n 1, 1) := by decide +kernel
theorem dX0_isBetter_95 : decode cX0_isBetter 95 = .ok (.ineg, 1) := by decide +kernel
theorem dX0_isBetter_96 : decode cX0_isBetter 96 = .ok (.iand, 1) := by decide +kernel
theorem dX0_isBetter_97 : decode cX0_isBetter 97 = .ok (.ifCond .eq 7, 3) := by decide +kernel
theorem dX0_isBetter_100 : decode cX0_isBetter 100 = .ok (.iconst 1, 1) := by decide +kernel
theorem dX0_isBetter_101 : decode cX0_isBetter 101 = .ok (.goto 4, 3) := by decide +kernel
theorem dX0_isBetter_104 : decode cX0_isBetter 104 = .ok (.iconst 0, 1) := by decide +kernel
theorem dX0_isBetter_105 : decode cX0_isBetter 105 = .ok (.ireturn, 1) := by decide +kernel
theorem dX1_init_0 : decode cX1_init 0 = .ok (.aload_n 0, 1) := by decide +kernel
theorem dX1_init_1 : decode cX1_init 1 = .ok (.invokespecial 7, 3) := by decide +kernel
theorem dX1_init_4 : decode cX1_init 4 = .ok (.aload_n 0, 1) := by decide +kernel
theorem dX1_init_5 : decode cX1_init 5 = .ok (.iconst (-1), 1) := by decide +kernel
theorem dX1_init_6 : decode cX1_init 6 = .ok (.putfield 13, 3) := by decide +kernel
theorem dX1_init_9 : decode cX1_init 9 = .ok (.aload_n 0, 1) := by decide +kernel
theorem dX1_init_10 : decode cX1_init 10 = .ok (.sipush 20992, 3) := by decide +kernel
theorem dX1_init_13 : decode cX1_init 13 = .ok (.newarray .long, 2) := by decide +kernel
theorem dX1_init_15 : decode cX1_init 15 = .ok (.putfield 17, 3) := by decide +kernel
theorem dX1_init_18 : decode cX1_init 18 = .ok (.aload_n 0, 1) := by decide +kernel
theorem dX1_init_19 : decode cX1_init 19 = .ok (.iload_n 2, 1) := by decide +kernel
theorem dX1_init_20 : decode cX1_init 20 = .ok (.putfield 21, 3) := by decide +kernel
theorem dX1_init_23 : decode cX1_init 23 = .ok (.iconst 0, 1) := by decide +kernel
theorem dX1_init_24 : decode cX1_init 24 = .ok (.iload_n 1, 1) := by decide +kernel
theorem dX1_init_25 : decode cX1_init 25 = .ok (.iconst 4, 1) := by decide +kernel
theorem dX1_init_26 : decode cX1_init 26 = .ok (.isub, 1) := by decide +kernel
theorem dX1_init_27 : decode cX1_init 27 = .ok (.invokestatic 24, 3) := by decide +kernel
theorem dX1_init_30 : decode cX1_init 30 = .ok (.istore_n 3, 1) := by decide +kernel
theorem dX1_init_31 : decode cX1_init 31 = .ok (.sipush 255, 3) := by decide +kernel
theorem dX1_init_34 : decode cX1_init 34 = .ok (.iload_n 1, 1) := by decide +kernel
theorem dX1_init_35 : decode cX1_init 35 = .ok (.iconst 4, 1) := by decide +kernel
theorem dX1_init_36 : decode cX1_init 36 = .ok (.iadd, 1) := by decide +kernel
theorem dX1_init_37 : decode cX1_init 37 = .ok (.invokestatic 30, 3) := by decide +kernel
theorem dX1_init_40 : decode cX1_init 40 = .ok (.istore 4, 2) := by decide +kernel
theorem dX1_init_42 : decode cX1_init 42 = .ok (.iload_n 3, 1) := by decide +kernel
theorem dX1_init_43 : decode cX1_init 43 = .ok (.istore 5, 2) := by decide +kernel
theorem dX1_init_45 : decode cX1_init 45 = .ok (.iload 5, 2) := by decide +kernel
theorem dX1_init_47 : decode cX1_init 47 = .ok (.iload 4, 2) := by decide +kernel
theorem dX1_init_49 : decode cX1_init 49 = .ok (.if_icmp .gt 35, 3) := by decide +kernel
theorem dX1_init_52 : decode cX1_init 52 = .ok (.aload_n 0, 1) := by decide +kernel
theorem dX1_init_53 : decode cX1_init 53 = .ok (.getfield 17, 3) := by decide +kernel
theorem dX1_init_56 : decode cX1_init 56 = .ok (.iconst 2, 1) := by decide +kernel
theorem dX1_init_57 : decode cX1_init 57 = .ok (.iload 5, 2) := by decide +kernel
theorem dX1_init_59 : decode cX1_init 59 = .ok (.imul, 1) := by decide +kernel
theorem dX1_init_60 : decode cX1_init 60 = .ok (.ldc2_w 33, 3) := by decide +kernel
theorem dX1_init_63 : decode cX1_init 63 = .ok (.lastore, 1) := by decide +kernel
theorem dX1_init_64 : decode cX1_init 64 = .ok (.aload_n 0, 1) := by decide +kernel
theorem dX1_init_65 : decode cX1_init 65 = .ok (.getfield 17, 3) := by decide +kernel
theorem dX1_init_68 : decode cX1_init 68 = .ok (.iconst 2, 1) := by decide +kernel
theorem dX1_init_69 : decode cX1_init 69 = .ok (.iload 5, 2) := by decide +kernel
theorem dX1_init_71 : decode cX1_init 71 = .ok (.imul, 1) := by decide +kernel
theorem dX1_init_72 : decode cX1_init 72 = .ok (.iconst 1, 1) := by decide +kernel
theorem dX1_init_73 : decode cX1_init 73 = .ok (.iadd, 1) := by decide +kernel
theorem dX1_init_74 : decode cX1_init 74 = .ok (.ldc2_w 35, 3) := by decide +kernel
theorem dX1_init_77 : decode cX1_init 77 = .ok (.lastore, 1) := by decide +kernel
theorem dX1_init_78 : decode cX1_init 78 = .ok (.iinc 5 1, 3) := by decide +kernel
theorem dX1_init_81 : decode cX1_init 81 = .ok (.goto (-36), 3) := by decide +kernel
theorem dX1_init_84 : decode cX1_init 84 = .ok (.return_, 1) := by decide +kernel
theorem dX1_isMet_0 : decode cX1_isMet 0 = .ok (.iload_n 1, 1) := by decide +kernel
theorem dX1_isMet_1 : decode cX1_isMet 1 = .ok (.iconst 2, 1) := by decide +kernel
theorem dX1_isMet_2 : decode cX1_isMet 2 = .ok (.if_icmp .le 9, 3) := by decide +kernel
theorem dX1_isMet_5 : decode cX1_isMet 5 = .ok (.iload_n 1, 1) := by decide +kernel
theorem dX1_isMet_6 : decode cX1_isMet 6 = .ok (.bipush 70, 2) := by decide +kernel
theorem dX1_isMet_8 : decode cX1_isMet 8 = .ok (.if_icmp .lt 7, 3) := by decide +kernel
theorem dX1_isMet_11 : decode cX1_isMet 11 = .ok (.iconst 1, 1) := by decide +kernel
theorem dX1_isMet_12 : decode cX1_isMet 12 = .ok (.goto 4, 3) := by decide +kernel
theorem dX1_isMet_15 : decode cX1_isMet 15 = .ok (.iconst 0, 1) := by decide +kernel
theorem dX1_isMet_16 : decode cX1_isMet 16 = .ok (.istore_n 2, 1) := by decide +kernel
theorem dX1_isMet_17 : decode cX1_isMet 17 = .ok (.iload_n 2, 1) := by decide +kernel
theorem dX1_isMet_18 : decode cX1_isMet 18 = .ok (.ifCond .eq 15, 3) := by decide +kernel
theorem dX1_isMet_21 : decode cX1_isMet 21 = .ok (.iload_n 0, 1) := by decide +kernel
theorem dX1_isMet_22 : decode cX1_isMet 22 = .ok (.invokestatic 37, 3) := by decide +kernel
theorem dX1_isMet_25 : decode cX1_isMet 25 = .ok (.iconst 4, 1) := by decide +kernel
theorem dX1_isMet_26 : decode cX1_isMet 26 = .ok (.if_icmp .gt 7, 3) := by decide +kernel
theorem dX1_isMet_29 : decode cX1_isMet 29 = .ok (.iconst 1, 1) := by decide +kernel
theorem dX1_isMet_30 : decode cX1_isMet 30 = .ok (.goto 4, 3) := by decide +kernel
theorem dX1_isMet_33 : decode cX1_isMet 33 = .ok (.iconst 0, 1) := by decide +kernel
theorem dX1_isMet_34 : decode cX1_isMet 34 = .ok (.ireturn, 1) := by decide +kernel
theorem dX1_fitTo_0 : decode cX1_fitTo 0 = .ok (.aload_n 0, 1) := by decide +kernel
theorem dX1_fitTo_1 : decode cX1_fitTo 1 = .ok (.getfield 13, 3) := by decide +kernel
theorem dX1_fitTo_4 : decode cX1_fitTo 4 = .ok (.iload_n 1, 1) := by decide +kernel
theorem dX1_fitTo_5 : decode cX1_fitTo 5 = .ok (.if_icmp .eq 13, 3) := by decide +kernel
theorem dX1_fitTo_8 : decode cX1_fitTo 8 = .ok (.aload_n 0, 1) := by decide +kernel
theorem dX1_fitTo_9 : decode cX1_fitTo 9 = .ok (.iload_n 1, 1) := by decide +kernel
theorem dX1_fitTo_10 : decode cX1_fitTo 10 = .ok (.putfield 13, 3) := by decide +kernel
theorem dX1_fitTo_13 : decode cX1_fitTo 13 = .ok (.aload_n 0, 1) := by decide +kernel
theorem dX1_fitTo_14 : decode cX1_fitTo 14 = .ok (.iconst 1, 1) := by decide +kernel
theorem dX1_fitTo_15 : decode cX1_fitTo 15 = .ok (.putfield 41, 3) := by decide +kernel
theorem dX1_fitTo_18 : decode cX1_fitTo 18 = .ok (.return_, 1) := by decide +kernel
theorem dX1_fewestFrom_0 : decode cX1_fewestFrom 0 = .ok (.iconst 0, 1) := by decide +kernel
theorem dX1_fewestFrom_1 : decode cX1_fewestFrom 1 = .ok (.istore_n 3, 1) := by decide +kernel
theorem dX1_fewestFrom_2 : decode cX1_fewestFrom 2 = .ok (.iload_n 3, 1) := by decide +kernel
theorem dX1_fewestFrom_3 : decode cX1_fewestFrom 3 = .ok (.bipush 40, 2) := by decide +kernel
theorem dX1_fewestFrom_5 : decode cX1_fewestFrom 5 = .ok (.if_icmp .gt 21, 3) := by decide +kernel
theorem dX1_fewestFrom_8 : decode cX1_fewestFrom 8 = .ok (.aload_n 0, 1) := by decide +kernel
theorem dX1_fewestFrom_9 : decode cX1_fewestFrom 9 = .ok (.iload_n 3, 1) := by decide +kernel
theorem dX1_fewestFrom_10 : decode cX1_fewestFrom 10 = .ok (.iload_n 1, 1) := by decide +kernel
theorem dX1_fewestFrom_11 : decode cX1_fewestFrom 11 = .ok (.iload_n 2, 1) := by decide +kernel
theorem dX1_fewestFrom_12 : decode cX1_fewestFrom 12 = .ok (.invokevirtual 44, 3) := by decide +kernel
theorem dX1_fewestFrom_15 : decode cX1_fewestFrom 15 = .ok (.ifCond .eq 5, 3) := by decide +kernel
theorem dX1_fewestFrom_18 : decode cX1_fewestFrom 18 = .ok (.iload_n 3, 1) := by decide +kernel
theorem dX1_fewestFrom_19 : decode cX1_fewestFrom 19 = .ok (.ireturn, 1) := by decide +kernel
theorem dX1_fewestFrom_20 : decode cX1_fewestFrom 20 = .ok (.iinc 3 1, 3) := by decide +kernel
theorem dX1_fewestFrom_23 : decode cX1_fewestFrom 23 = .ok (.goto (-21), 3) := by decide +kernel
theorem dX1_fewestFrom_26 : decode cX1_fewestFrom 26 = .ok (.iconst (-1), 1) := by decide +kernel
theorem dX1_fewestFrom_27 : decode cX1_fewestFrom 27 = .ok (.ireturn, 1) := by decide +kernel
theorem dX1_firstSteer_0 : decode cX1_firstSteer 0 = .ok (.iconst 0, 1) := by decide +kernel
theorem dX1_firstSteer_1 : decode cX1_firstSteer 1 = .ok (.istore 4, 2) := by decide +kernel
theorem dX1_firstSteer_3 : decode cX1_firstSteer 3 = .ok (.aload_n 0, 1) := by decide +kernel
theorem dX1_firstSteer_4 : decode cX1_firstSteer 4 = .ok (.iload_n 1, 1) := by decide +kernel
theorem dX1_firstSteer_5 : decode cX1_firstSteer 5 = .ok (.iload_n 2, 1) := by decide +kernel
theorem dX1_firstSteer_6 : decode cX1_firstSteer 6 = .ok (.invokevirtual 48, 3) := by decide +kernel
theorem dX1_firstSteer_9 : decode cX1_firstSteer 9 = .ok (.istore 5, 2) := by decide +kernel
theorem dX1_firstSteer_11 : decode cX1_firstSteer 11 = .ok (.iload 4, 2) := by decide +kernel
theorem dX1_firstSteer_13 : decode cX1_firstSteer 13 = .ok (.iconst 2, 1) := by decide +kernel
theorem dX1_firstSteer_14 : decode cX1_firstSteer 14 = .ok (.if_icmp .ge 31, 3) := by decide +kernel
theorem dX1_firstSteer_17 : decode cX1_firstSteer 17 = .ok (.aload_n 0, 1) := by decide +kernel
theorem dX1_firstSteer_18 : decode cX1_firstSteer 18 = .ok (.iload_n 3, 1) := by decide +kernel
theorem dX1_firstSteer_19 : decode cX1_firstSteer 19 = .ok (.iconst 1, 1) := by decide +kernel
theorem dX1_firstSteer_20 : decode cX1_firstSteer 20 = .ok (.isub, 1) := by decide +kernel
theorem dX1_firstSteer_21 : decode cX1_firstSteer 21 = .ok (.iload_n 1, 1) := by decide +kernel
theorem dX1_firstSteer_22 : decode cX1_firstSteer 22 = .ok (.iload 4, 2) := by decide +kernel
theorem dX1_firstSteer_24 : decode cX1_firstSteer 24 = .ok (.aload_n 0, 1) := by decide +kernel
theorem dX1_firstSteer_25 : decode cX1_firstSteer 25 = .ok (.getfield 13, 3) := by decide +kernel
theorem dX1_firstSteer_28 : decode cX1_firstSteer 28 = .ok (.invokestatic 51, 3) := by decide +kernel
theorem dX1_firstSteer_31 : decode cX1_firstSteer 31 = .ok (.iload 5, 2) := by decide +kernel
theorem dX1_firstSteer_33 : decode cX1_firstSteer 33 = .ok (.invokevirtual 44, 3) := by decide +kernel
theorem dX1_firstSteer_36 : decode cX1_firstSteer 36 = .ok (.ifCond .ne 9, 3) := by decide +kernel
theorem dX1_firstSteer_39 : decode cX1_firstSteer 39 = .ok (.iinc 4 1, 3) := by decide +kernel
theorem dX1_firstSteer_42 : decode cX1_firstSteer 42 = .ok (.goto (-31), 3) := by decide +kernel
theorem dX1_firstSteer_45 : decode cX1_firstSteer 45 = .ok (.iload 4, 2) := by decide +kernel
theorem dX1_firstSteer_47 : decode cX1_firstSteer 47 = .ok (.ireturn, 1) := by decide +kernel
theorem dX1_aheadBehind_0 : decode cX1_aheadBehind 0 = .ok (.iload_n 2, 1) := by decide +kernel
theorem dX1_aheadBehind_1 : decode cX1_aheadBehind 1 = .ok (.iload_n 1, 1) := by decide +kernel
theorem dX1_aheadBehind_2 : decode cX1_aheadBehind 2 = .ok (.invokestatic 55, 3) := by decide +kernel
theorem dX1_aheadBehind_5 : decode cX1_aheadBehind 5 = .ok (.iadd, 1) := by decide +kernel
theorem dX1_aheadBehind_6 : decode cX1_aheadBehind 6 = .ok (.aload_n 0, 1) := by decide +kernel
theorem dX1_aheadBehind_7 : decode cX1_aheadBehind 7 = .ok (.getfield 21, 3) := by decide +kernel
theorem dX1_aheadBehind_10 : decode cX1_aheadBehind 10 = .ok (.isub, 1) := by decide +kernel
theorem dX1_aheadBehind_11 : decode cX1_aheadBehind 11 = .ok (.bipush 72, 2) := by decide +kernel
theorem dX1_aheadBehind_13 : decode cX1_aheadBehind 13 = .ok (.invokestatic 58, 3) := by decide +kernel
theorem dX1_aheadBehind_16 : decode cX1_aheadBehind 16 = .ok (.ireturn, 1) := by decide +kernel
theorem dX1_isIn_0 : decode cX1_isIn 0 = .ok (.iload_n 1, 1) := by decide +kernel
theorem dX1_isIn_1 : decode cX1_isIn 1 = .ok (.iconst 0, 1) := by decide +kernel
theorem dX1_isIn_2 : decode cX1_isIn 2 = .ok (.bipush 40, 2) := by decide +kernel
theorem dX1_isIn_4 : decode cX1_isIn 4 = .ok (.invokestatic 61, 3) := by decide +kernel
theorem dX1_isIn_7 : decode cX1_isIn 7 = .ok (.ifCond .eq 14, 3) := by decide +kernel
theorem dX1_isIn_10 : decode cX1_isIn 10 = .ok (.iload_n 2, 1) := by decide +kernel
theorem dX1_isIn_11 : decode cX1_isIn 11 = .ok (.iconst 0, 1) := by decide +kernel
theorem dX1_isIn_12 : decode cX1_isIn 12 = .ok (.sipush 255, 3) := by decide +kernel
theorem dX1_isIn_15 : decode cX1_isIn 15 = .ok (.invokestatic 61, 3) := by decide +kernel
theorem dX1_isIn_18 : decode cX1_isIn 18 = .ok (.ifCond .ne 5, 3) := by decide +kernel
theorem dX1_isIn_21 : decode cX1_isIn 21 = .ok (.iconst 0, 1) := by decide +kernel
theorem dX1_isIn_22 : decode cX1_isIn 22 = .ok (.ireturn, 1) := by decide +kernel
theorem dX1_isIn_23 : decode cX1_isIn 23 = .ok (.aload_n 0, 1) := by decide +kernel
theorem dX1_isIn_24 : decode cX1_isIn 24 = .ok (.getfield 41, 3) := by decide +kernel
theorem dX1_isIn_27 : decode cX1_isIn 27 = .ok (.iload_n 1, 1) := by decide +kernel
theorem dX1_isIn_28 : decode cX1_isIn 28 = .ok (.if_icmp .gt 24, 3) := by decide +kernel
theorem dX1_isIn_31 : decode cX1_isIn 31 = .ok (.aload_n 0, 1) := by decide +kernel
theorem dX1_isIn_32 : decode cX1_isIn 32 = .ok (.aload_n 0, 1) := by decide +kernel
theorem dX1_isIn_33 : decode cX1_isIn 33 = .ok (.getfield 41, 3) := by decide +kernel
theorem dX1_isIn_36 : decode cX1_isIn 36 = .ok (.invokevirtual 64, 3) := by decide +kernel
theorem dX1_isIn_39 : decode cX1_isIn 39 = .ok (.aload_n 0, 1) := by decide +kernel
theorem dX1_isIn_40 : decode cX1_isIn 40 = .ok (.dup, 1) := by decide +kernel
theorem dX1_isIn_41 : decode cX1_isIn 41 = .ok (.getfield 41, 3) := by decide +kernel
theorem dX1_isIn_44 : decode cX1_isIn 44 = .ok (.iconst 1, 1) := by decide +kernel
theorem dX1_isIn_45 : decode cX1_isIn 45 = .ok (.iadd, 1) := by decide +kernel
theorem dX1_isIn_46 : decode cX1_isIn 46 = .ok (.putfield 41, 3) := by decide +kernel
theorem dX1_isIn_49 : decode cX1_isIn 49 = .ok (.goto (-26), 3) := by decide +kernel
theorem dX1_isIn_52 : decode cX1_isIn 52 = .ok (.iload_n 1, 1) := by decide +kernel
theorem dX1_isIn_53 : decode cX1_isIn 53 = .ok (.sipush 512, 3) := by decide +kernel
theorem dX1_isIn_56 : decode cX1_isIn 56 = .ok (.imul, 1) := by decide +kernel
theorem dX1_isIn_57 : decode cX1_isIn 57 = .ok (.iconst 2, 1) := by decide +kernel
theorem dX1_isIn_58 : decode cX1_isIn 58 = .ok (.iload_n 2, 1) := by decide +kernel
theorem dX1_isIn_59 : decode cX1_isIn 59 = .ok (.imul, 1) := by decide +kernel
theorem dX1_isIn_60 : decode cX1_isIn 60 = .ok (.iadd, 1) := by decide +kernel
theorem dX1_isIn_61 : decode cX1_isIn 61 = .ok (.istore 4, 2) := by decide +kernel
theorem dX1_isIn_63 : decode cX1_isIn 63 = .ok (.iload_n 3, 1) := by decide +kernel
theorem dX1_isIn_64 : decode cX1_isIn 64 = .ok (.bipush 36, 2) := by decide +kernel
theorem dX1_isIn_66 : decode cX1_isIn 66 = .ok (.if_icmp .ge 27, 3) := by decide +kernel
theorem dX1_isIn_69 : decode cX1_isIn 69 = .ok (.aload_n 0, 1) := by decide +kernel
theorem dX1_isIn_70 : decode cX1_isIn 70 = .ok (.getfield 17, 3) := by decide +kernel
theorem dX1_isIn_73 : decode cX1_isIn 73 = .ok (.iload 4, 2) := by decide +kernel
theorem dX1_isIn_75 : decode cX1_isIn 75 = .ok (.laload, 1) := by decide +kernel
theorem dX1_isIn_76 : decode cX1_isIn 76 = .ok (.iload_n 3, 1) := by decide +kernel
theorem dX1_isIn_77 : decode cX1_isIn 77 = .ok (.lshr, 1) := by decide +kernel
theorem dX1_isIn_78 : decode cX1_isIn 78 = .ok (.lconst 1, 1) := by decide +kernel
theorem dX1_isIn_79 : decode cX1_isIn 79 = .ok (.land, 1) := by decide +kernel
theorem dX1_isIn_80 : decode cX1_isIn 80 = .ok (.lconst 1, 1) := by decide +kernel
theorem dX1_isIn_81 : decode cX1_isIn 81 = .ok (.lcmp, 1) := by decide +kernel
theorem dX1_isIn_82 : decode cX1_isIn 82 = .ok (.ifCond .ne 7, 3) := by decide +kernel
theorem dX1_isIn_85 : decode cX1_isIn 85 = .ok (.iconst 1, 1) := by decide +kernel
theorem dX1_isIn_86 : decode cX1_isIn 86 = .ok (.goto 33, 3) := by decide +kernel
theorem dX1_isIn_89 : decode cX1_isIn 89 = .ok (.iconst 0, 1) := by decide +kernel
theorem dX1_isIn_90 : decode cX1_isIn 90 = .ok (.goto 29, 3) := by decide +kernel
theorem dX1_isIn_93 : decode cX1_isIn 93 = .ok (.aload_n 0, 1) := by decide +kernel
theorem dX1_isIn_94 : decode cX1_isIn 94 = .ok (.getfield 17, 3) := by decide +kernel
theorem dX1_isIn_97 : decode cX1_isIn 97 = .ok (.iload 4, 2) := by decide +kernel
theorem dX1_isIn_99 : decode cX1_isIn 99 = .ok (.iconst 1, 1) := by decide +kernel
theorem dX1_isIn_100 : decode cX1_isIn 100 = .ok (.iadd, 1) := by decide +kernel
theorem dX1_isIn_101 : decode cX1_isIn 101 = .ok (.laload, 1) := by decide +kernel
theorem dX1_isIn_102 : decode cX1_isIn 102 = .ok (.iload_n 3, 1) := by decide +kernel
theorem dX1_isIn_103 : decode cX1_isIn 103 = .ok (.bipush 36, 2) := by decide +kernel
theorem dX1_isIn_105 : decode cX1_isIn 105 = .ok (.isub, 1) := by decide +kernel
theorem dX1_isIn_106 : decode cX1_isIn 106 = .ok (.lshr, 1) := by decide +kernel
theorem dX1_isIn_107 : decode cX1_isIn 107 = .ok (.lconst 1, 1) := by decide +kernel
theorem dX1_isIn_108 : decode cX1_isIn 108 = .ok (.land, 1) := by decide +kernel
theorem dX1_isIn_109 : decode cX1_isIn 109 = .ok (.lconst 1, 1) := by decide +kernel
theorem dX1_isIn_110 : decode cX1_isIn 110 = .ok (.lcmp, 1) := by decide +kernel
theorem dX1_isIn_111 : decode cX1_isIn 111 = .ok (.ifCond .ne 7, 3) := by decide +kernel
theorem dX1_isIn_114 : decode cX1_isIn 114 = .ok (.iconst 1, 1) := by decide +kernel
theorem dX1_isIn_115 : decode cX1_isIn 115 = .ok (.goto 4, 3) := by decide +kernel
theorem dX1_isIn_118 : decode cX1_isIn 118 = .ok (.iconst 0, 1) := by decide +kernel
theorem dX1_isIn_119 : decode cX1_isIn 119 = .ok (.ireturn, 1) := by decide +kernel
theorem dX1_workLayer_0 : decode cX1_workLayer 0 = .ok (.iload_n 1, 1) := by decide +kernel
theorem dX1_workLayer_1 : decode cX1_workLayer 1 = .ok (.iconst 1, 1) := by decide +kernel
theorem dX1_workLayer_2 : decode cX1_workLayer 2 = .ok (.isub, 1) := by decide +kernel
theorem dX1_workLayer_3 : decode cX1_workLayer 3 = .ok (.sipush 512, 3) := by decide +kernel
theorem dX1_workLayer_6 : decode cX1_workLayer 6 = .ok (.imul, 1) := by decide +kernel
theorem dX1_workLayer_7 : decode cX1_workLayer 7 = .ok (.istore_n 2, 1) := by decide +kernel
theorem dX1_workLayer_8 : decode cX1_workLayer 8 = .ok (.iconst 0, 1) := by decide +kernel
theorem dX1_workLayer_9 : decode cX1_workLayer 9 = .ok (.istore_n 3, 1) := by decide +kernel
theorem dX1_workLayer_10 : decode cX1_workLayer 10 = .ok (.iload_n 3, 1) := by decide +kernel
theorem dX1_workLayer_11 : decode cX1_workLayer 11 = .ok (.sipush 255, 3) := by decide +kernel
theorem dX1_workLayer_14 : decode cX1_workLayer 14 = .ok (.if_icmp .gt 172, 3) := by decide +kernel
theorem dX1_workLayer_17 : decode cX1_workLayer 17 = .ok (.iload_n 3, 1) := by decide +kernel
theorem dX1_workLayer_18 : decode cX1_workLayer 18 = .ok (.aload_n 0, 1) := by decide +kernel
theorem dX1_workLayer_19 : decode cX1_workLayer 19 = .ok (.getfield 13, 3) := by decide +kernel
theorem dX1_workLayer_22 : decode cX1_workLayer 22 = .ok (.invokestatic 68, 3) := by decide +kernel
theorem dX1_workLayer_25 : decode cX1_workLayer 25 = .ok (.istore 4, 2) := by decide +kernel
theorem dX1_workLayer_27 : decode cX1_workLayer 27 = .ok (.aload_n 0, 1) := by decide +kernel
theorem dX1_workLayer_28 : decode cX1_workLayer 28 = .ok (.getfield 17, 3) := by decide +kernel
theorem dX1_workLayer_31 : decode cX1_workLayer 31 = .ok (.iload_n 2, 1) := by decide +kernel
theorem dX1_workLayer_32 : decode cX1_workLayer 32 = .ok (.iconst 2, 1) := by decide +kernel
theorem dX1_workLayer_33 : decode cX1_workLayer 33 = .ok (.iload_n 3, 1) := by decide +kernel
theorem dX1_workLayer_34 : decode cX1_workLayer 34 = .ok (.imul, 1) := by decide +kernel
theorem dX1_workLayer_35 : decode cX1_workLayer 35 = .ok (.iadd, 1) := by decide +kernel
theorem dX1_workLayer_36 : decode cX1_workLayer 36 = .ok (.laload, 1) := by decide +kernel
theorem dX1_workLayer_37 : decode cX1_workLayer 37 = .ok (.lstore 5, 2) := by decide +kernel
theorem dX1_workLayer_39 : decode cX1_workLayer 39 = .ok (.aload_n 0, 1) := by decide +kernel
theorem dX1_workLayer_40 : decode cX1_workLayer 40 = .ok (.getfield 17, 3) := by decide +kernel
theorem dX1_workLayer_43 : decode cX1_workLayer 43 = .ok (.iload_n 2, 1) := by decide +kernel
theorem dX1_workLayer_44 : decode cX1_workLayer 44 = .ok (.iconst 2, 1) := by decide +kernel
theorem dX1_workLayer_45 : decode cX1_workLayer 45 = .ok (.iload_n 3, 1) := by decide +kernel
theorem dX1_workLayer_46 : decode cX1_workLayer 46 = .ok (.imul, 1) := by decide +kernel
theorem dX1_workLayer_47 : decode cX1_workLayer 47 = .ok (.iadd, 1) := by decide +kernel
theorem dX1_workLayer_48 : decode cX1_workLayer 48 = .ok (.iconst 1, 1) := by decide +kernel
theorem dX1_workLayer_49 : decode cX1_workLayer 49 = .ok (.iadd, 1) := by decide +kernel
theorem dX1_workLayer_50 : decode cX1_workLayer 50 = .ok (.laload, 1) := by decide +kernel
theorem dX1_workLayer_51 : decode cX1_workLayer 51 = .ok (.lstore 7, 2) := by decide +kernel
theorem dX1_workLayer_53 : decode cX1_workLayer 53 = .ok (.iload_n 3, 1) := by decide +kernel
theorem dX1_workLayer_54 : decode cX1_workLayer 54 = .ok (.iload 4, 2) := by decide +kernel
theorem dX1_workLayer_56 : decode cX1_workLayer 56 = .ok (.if_icmp .lt 41, 3) := by decide +kernel
theorem dX1_workLayer_59 : decode cX1_workLayer 59 = .ok (.lload 5, 2) := by decide +kernel
theorem dX1_workLayer_61 : decode cX1_workLayer 61 = .ok (.aload_n 0, 1) := by decide +kernel
theorem dX1_workLayer_62 : decode cX1_workLayer 62 = .ok (.getfield 17, 3) := by decide +kernel
theorem dX1_workLayer_65 : decode cX1_workLayer 65 = .ok (.iload_n 2, 1) := by decide +kernel
theorem dX1_workLayer_66 : decode cX1_workLayer 66 = .ok (.iconst 2, 1) := by decide +kernel
theorem dX1_workLayer_67 : decode cX1_workLayer 67 = .ok (.iload_n 3, 1) := by decide +kernel
theorem dX1_workLayer_68 : decode cX1_workLayer 68 = .ok (.iload 4, 2) := by decide +kernel
theorem dX1_workLayer_70 : decode cX1_workLayer 70 = .ok (.isub, 1) := by decide +kernel
theorem dX1_workLayer_71 : decode cX1_workLayer 71 = .ok (.imul, 1) := by decide +kernel
theorem dX1_workLayer_72 : decode cX1_workLayer 72 = .ok (.iadd, 1) := by decide +kernel
theorem dX1_workLayer_73 : decode cX1_workLayer 73 = .ok (.laload, 1) := by decide +kernel
theorem dX1_workLayer_74 : decode cX1_workLayer 74 = .ok (.lor, 1) := by decide +kernel
theorem dX1_workLayer_75 : decode cX1_workLayer 75 = .ok (.lstore 5, 2) := by decide +kernel
theorem dX1_workLayer_77 : decode cX1_workLayer 77 = .ok (.lload 7, 2) := by decide +kernel
theorem dX1_workLayer_79 : decode cX1_workLayer 79 = .ok (.aload_n 0, 1) := by decide +kernel
theorem dX1_workLayer_80 : decode cX1_workLayer 80 = .ok (.getfield 17, 3) := by decide +kernel
theorem dX1_workLayer_83 : decode cX1_workLayer 83 = .ok (.iload_n 2, 1) := by decide +kernel
theorem dX1_workLayer_84 : decode cX1_workLayer 84 = .ok (.iconst 2, 1) := by decide +kernel
theorem dX1_workLayer_85 : decode cX1_workLayer 85 = .ok (.iload_n 3, 1) := by decide +kernel
theorem dX1_workLayer_86 : decode cX1_workLayer 86 = .ok (.iload 4, 2) := by decide +kernel
theorem dX1_workLayer_88 : decode cX1_workLayer 88 = .ok (.isub, 1) := by decide +kernel
theorem dX1_workLayer_89 : decode cX1_workLayer 89 = .ok (.imul, 1) := by decide +kernel
theorem dX1_workLayer_90 : decode cX1_workLayer 90 = .ok (.iadd, 1) := by decide +kernel
theorem dX1_workLayer_91 : decode cX1_workLayer 91 = .ok (.iconst 1, 1) := by decide +kernel
theorem dX1_workLayer_92 : decode cX1_workLayer 92 = .ok (.iadd, 1) := by decide +kernel
theorem dX1_workLayer_93 : decode cX1_workLayer 93 = .ok (.laload, 1) := by decide +kernel
theorem dX1_workLayer_94 : decode cX1_workLayer 94 = .ok (.lor, 1) := by decide +kernel
theorem dX1_workLayer_95 : decode cX1_workLayer 95 = .ok (.lstore 7, 2) := by decide +kernel
theorem dX1_workLayer_97 : decode cX1_workLayer 97 = .ok (.iload_n 3, 1) := by decide +kernel
theorem dX1_workLayer_98 : decode cX1_workLayer 98 = .ok (.iload 4, 2) := by decide +kernel
theorem dX1_workLayer_100 : decode cX1_workLayer 100 = .ok (.iadd, 1) := by decide +kernel
theorem dX1_workLayer_101 : decode cX1_workLayer 101 = .ok (.sipush 255, 3) := by decide +kernel
theorem dX1_workLayer_104 : decode cX1_workLayer 104 = .ok (.if_icmp .gt 41, 3) := by decide +kernel
theorem dX1_workLayer_107 : decode cX1_workLayer 107 = .ok (.lload 5, 2) := by decide +kernel
theorem dX1_workLayer_109 : decode cX1_workLayer 109 = .ok (.aload_n 0, 1) := by decide +kernel
theorem dX1_workLayer_110 : decode cX1_workLayer 110 = .ok (.getfield 17, 3) := by decide +kernel
theorem dX1_workLayer_113 : decode cX1_workLayer 113 = .ok (.iload_n 2, 1) := by decide +kernel
theorem dX1_workLayer_114 : decode cX1_workLayer 114 = .ok (.iconst 2, 1) := by decide +kernel
theorem dX1_workLayer_115 : decode cX1_workLayer 115 = .ok (.iload_n 3, 1) := by decide +kernel
theorem dX1_workLayer_116 : decode cX1_workLayer 116 = .ok (.iload 4, 2) := by decide +kernel
theorem dX1_workLayer_118 : decode cX1_workLayer 118 = .ok (.iadd, 1) := by decide +kernel
theorem dX1_workLayer_119 : decode cX1_workLayer 119 = .ok (.imul, 1) := by decide +kernel
theorem dX1_workLayer_120 : decode cX1_workLayer 120 = .ok (.iadd, 1) := by decide +kernel
theorem dX1_workLayer_121 : decode cX1_workLayer 121 = .ok (.laload, 1) := by decide +kernel
theorem dX1_workLayer_122 : decode cX1_workLayer 122 = .ok (.lor, 1) := by decide +kernel
theorem dX1_workLayer_123 : decode cX1_workLayer 123 = .ok (.lstore 5, 2) := by decide +kernel
theorem dX1_workLayer_125 : decode cX1_workLayer 125 = .ok (.lload 7, 2) := by decide +kernel
theorem dX1_workLayer_127 : decode cX1_workLayer 127 = .ok (.aload_n 0, 1) := by decide +kernel
theorem dX1_workLayer_128 : decode cX1_workLayer 128 = .ok (.getfield 17, 3) := by decide +kernel
theorem dX1_workLayer_131 : decode cX1_workLayer 131 = .ok (.iload_n 2, 1) := by decide +kernel
theorem dX1_workLayer_132 : decode cX1_workLayer 132 = .ok (.iconst 2, 1) := by decide +kernel
theorem dX1_workLayer_133 : decode cX1_workLayer 133 = .ok (.iload_n 3, 1) := by decide +kernel
theorem dX1_workLayer_134 : decode cX1_workLayer 134 = .ok (.iload 4, 2) := by decide +kernel
theorem dX1_workLayer_136 : decode cX1_workLayer 136 = .ok (.iadd, 1) := by decide +kernel
theorem dX1_workLayer_137 : decode cX1_workLayer 137 = .ok (.imul, 1) := by decide +kernel
theorem dX1_workLayer_138 : decode cX1_workLayer 138 = .ok (.iadd, 1) := by decide +kernel
theorem dX1_workLayer_139 : decode cX1_workLayer 139 = .ok (.iconst 1, 1) := by decide +kernel
theorem dX1_workLayer_140 : decode cX1_workLayer 140 = .ok (.iadd, 1) := by decide +kernel
theorem dX1_workLayer_141 : decode cX1_workLayer 141 = .ok (.laload, 1) := by decide +kernel
theorem dX1_workLayer_142 : decode cX1_workLayer 142 = .ok (.lor, 1) := by decide +kernel
theorem dX1_workLayer_143 : decode cX1_workLayer 143 = .ok (.lstore 7, 2) := by decide +kernel
theorem dX1_workLayer_145 : decode cX1_workLayer 145 = .ok (.aload_n 0, 1) := by decide +kernel
theorem dX1_workLayer_146 : decode cX1_workLayer 146 = .ok (.getfield 21, 3) := by decide +kernel
theorem dX1_workLayer_149 : decode cX1_workLayer 149 = .ok (.iload_n 3, 1) := by decide +kernel
theorem dX1_workLayer_150 : decode cX1_workLayer 150 = .ok (.invokestatic 55, 3) := by decide +kernel
theorem dX1_workLayer_153 : decode cX1_workLayer 153 = .ok (.isub, 1) := by decide +kernel
theorem dX1_workLayer_154 : decode cX1_workLayer 154 = .ok (.bipush 72, 2) := by decide +kernel
theorem dX1_workLayer_156 : decode cX1_workLayer 156 = .ok (.invokestatic 58, 3) := by decide +kernel
theorem dX1_workLayer_159 : decode cX1_workLayer 159 = .ok (.istore 9, 2) := by decide +kernel
theorem dX1_workLayer_161 : decode cX1_workLayer 161 = .ok (.aload_n 0, 1) := by decide +kernel
theorem dX1_workLayer_162 : decode cX1_workLayer 162 = .ok (.iload_n 1, 1) := by decide +kernel
theorem dX1_workLayer_163 : decode cX1_workLayer 163 = .ok (.sipush 512, 3) := by decide +kernel
theorem dX1_workLayer_166 : decode cX1_workLayer 166 = .ok (.imul, 1) := by decide +kernel
theorem dX1_workLayer_167 : decode cX1_workLayer 167 = .ok (.iconst 2, 1) := by decide +kernel
theorem dX1_workLayer_168 : decode cX1_workLayer 168 = .ok (.iload_n 3, 1) := by decide +kernel
theorem dX1_workLayer_169 : decode cX1_workLayer 169 = .ok (.imul, 1) := by decide +kernel
theorem dX1_workLayer_170 : decode cX1_workLayer 170 = .ok (.iadd, 1) := by decide +kernel
theorem dX1_workLayer_171 : decode cX1_workLayer 171 = .ok (.lload 5, 2) := by decide +kernel
theorem dX1_workLayer_173 : decode cX1_workLayer 173 = .ok (.lload 7, 2) := by decide +kernel
theorem dX1_workLayer_175 : decode cX1_workLayer 175 = .ok (.iload 9, 2) := by decide +kernel
theorem dX1_workLayer_177 : decode cX1_workLayer 177 = .ok (.invokevirtual 71, 3) := by decide +kernel
theorem dX1_workLayer_180 : decode cX1_workLayer 180 = .ok (.iinc 3 1, 3) := by decide +kernel
theorem dX1_workLayer_183 : decode cX1_workLayer 183 = .ok (.goto (-173), 3) := by decide +kernel
theorem dX1_workLayer_186 : decode cX1_workLayer 186 = .ok (.return_, 1) := by decide +kernel
theorem dX1_storeTurned_0 : decode cX1_storeTurned 0 = .ok (.iload 6, 2) := by decide +kernel
theorem dX1_storeTurned_2 : decode cX1_storeTurned 2 = .ok (.bipush 36, 2) := by decide +kernel
theorem dX1_storeTurned_4 : decode cX1_storeTurned 4 = .ok (.if_icmp .lt 7, 3) := by decide +kernel
theorem dX1_storeTurned_7 : decode cX1_storeTurned 7 = .ok (.iconst 1, 1) := by decide +kernel
theorem dX1_storeTurned_8 : decode cX1_storeTurned 8 = .ok (.goto 4, 3) := by decide +kernel
theorem dX1_storeTurned_11 : decode cX1_storeTurned 11 = .ok (.iconst 0, 1) := by decide +kernel
theorem dX1_storeTurned_12 : decode cX1_storeTurned 12 = .ok (.istore 7, 2) := by decide +kernel
theorem dX1_storeTurned_14 : decode cX1_storeTurned 14 = .ok (.iload 7, 2) := by decide +kernel
theorem dX1_storeTurned_16 : decode cX1_storeTurned 16 = .ok (.ifCond .eq 11, 3) := by decide +kernel
theorem dX1_storeTurned_19 : decode cX1_storeTurned 19 = .ok (.iload 6, 2) := by decide +kernel
theorem dX1_storeTurned_21 : decode cX1_storeTurned 21 = .ok (.bipush 36, 2) := by decide +kernel
theorem dX1_storeTurned_23 : decode cX1_storeTurned 23 = .ok (.isub, 1) := by decide +kernel
theorem dX1_storeTurned_24 : decode cX1_storeTurned 24 = .ok (.goto 5, 3) := by decide +kernel
theorem dX1_storeTurned_27 : decode cX1_storeTurned 27 = .ok (.iload 6, 2) := by decide +kernel
theorem dX1_storeTurned_29 : decode cX1_storeTurned 29 = .ok (.istore 8, 2) := by decide +kernel
theorem dX1_storeTurned_31 : decode cX1_storeTurned 31 = .ok (.iload 7, 2) := by decide +kernel
theorem dX1_storeTurned_33 : decode cX1_storeTurned 33 = .ok (.ifCond .eq 8, 3) := by decide +kernel
theorem dX1_storeTurned_36 : decode cX1_storeTurned 36 = .ok (.lload 4, 2) := by decide +kernel
theorem dX1_storeTurned_38 : decode cX1_storeTurned 38 = .ok (.goto 4, 3) := by decide +kernel
theorem dX1_storeTurned_41 : decode cX1_storeTurned 41 = .ok (.lload_n 2, 1) := by decide +kernel
theorem dX1_storeTurned_42 : decode cX1_storeTurned 42 = .ok (.lstore 9, 2) := by decide +kernel
theorem dX1_storeTurned_44 : decode cX1_storeTurned 44 = .ok (.iload 7, 2) := by decide +kernel
theorem dX1_storeTurned_46 : decode cX1_storeTurned 46 = .ok (.ifCond .eq 7, 3) := by decide +kernel
theorem dX1_storeTurned_49 : decode cX1_storeTurned 49 = .ok (.lload_n 2, 1) := by decide +kernel
theorem dX1_storeTurned_50 : decode cX1_storeTurned 50 = .ok (.goto 5, 3) := by decide +kernel
theorem dX1_storeTurned_53 : decode cX1_storeTurned 53 = .ok (.lload 4, 2) := by decide +kernel
theorem dX1_storeTurned_55 : decode cX1_storeTurned 55 = .ok (.lstore 11, 2) := by decide +kernel
theorem dX1_storeTurned_57 : decode cX1_storeTurned 57 = .ok (.aload_n 0, 1) := by decide +kernel
theorem dX1_storeTurned_58 : decode cX1_storeTurned 58 = .ok (.getfield 17, 3) := by decide +kernel
theorem dX1_storeTurned_61 : decode cX1_storeTurned 61 = .ok (.iload_n 1, 1) := by decide +kernel
theorem dX1_storeTurned_62 : decode cX1_storeTurned 62 = .ok (.lload 9, 2) := by decide +kernel
theorem dX1_storeTurned_64 : decode cX1_storeTurned 64 = .ok (.iload 8, 2) := by decide +kernel
theorem dX1_storeTurned_66 : decode cX1_storeTurned 66 = .ok (.lshl, 1) := by decide +kernel
theorem dX1_storeTurned_67 : decode cX1_storeTurned 67 = .ok (.lload 11, 2) := by decide +kernel
theorem dX1_storeTurned_69 : decode cX1_storeTurned 69 = .ok (.bipush 36, 2) := by decide +kernel
theorem dX1_storeTurned_71 : decode cX1_storeTurned 71 = .ok (.iload 8, 2) := by decide +kernel
theorem dX1_storeTurned_73 : decode cX1_storeTurned 73 = .ok (.isub, 1) := by decide +kernel
theorem dX1_storeTurned_74 : decode cX1_storeTurned 74 = .ok (.lushr, 1) := by decide +kernel
theorem dX1_storeTurned_75 : decode cX1_storeTurned 75 = .ok (.lor, 1) := by decide +kernel
theorem dX1_storeTurned_76 : decode cX1_storeTurned 76 = .ok (.ldc2_w 75, 3) := by decide +kernel
theorem dX1_storeTurned_79 : decode cX1_storeTurned 79 = .ok (.land, 1) := by decide +kernel
theorem dX1_storeTurned_80 : decode cX1_storeTurned 80 = .ok (.lastore, 1) := by decide +kernel
theorem dX1_storeTurned_81 : decode cX1_storeTurned 81 = .ok (.aload_n 0, 1) := by decide +kernel
theorem dX1_storeTurned_82 : decode cX1_storeTurned 82 = .ok (.getfield 17, 3) := by decide +kernel
theorem dX1_storeTurned_85 : decode cX1_storeTurned 85 = .ok (.iload_n 1, 1) := by decide +kernel
theorem dX1_storeTurned_86 : decode cX1_storeTurned 86 = .ok (.iconst 1, 1) := by decide +kernel
theorem dX1_storeTurned_87 : decode cX1_storeTurned 87 = .ok (.iadd, 1) := by decide +kernel
theorem dX1_storeTurned_88 : decode cX1_storeTurned 88 = .ok (.lload 11, 2) := by decide +kernel
theorem dX1_storeTurned_90 : decode cX1_storeTurned 90 = .ok (.iload 8, 2) := by decide +kernel
theorem dX1_storeTurned_92 : decode cX1_storeTurned 92 = .ok (.lshl, 1) := by decide +kernel
theorem dX1_storeTurned_93 : decode cX1_storeTurned 93 = .ok (.lload 9, 2) := by decide +kernel
theorem dX1_storeTurned_95 : decode cX1_storeTurned 95 = .ok (.bipush 36, 2) := by decide +kernel
theorem dX1_storeTurned_97 : decode cX1_storeTurned 97 = .ok (.iload 8, 2) := by decide +kernel
theorem dX1_storeTurned_99 : decode cX1_storeTurned 99 = .ok (.isub, 1) := by decide +kernel
theorem dX1_storeTurned_100 : decode cX1_storeTurned 100 = .ok (.lushr, 1) := by decide +kernel
theorem dX1_storeTurned_101 : decode cX1_storeTurned 101 = .ok (.lor, 1) := by decide +kernel
theorem dX1_storeTurned_102 : decode cX1_storeTurned 102 = .ok (.ldc2_w 75, 3) := by decide +kernel
theorem dX1_storeTurned_105 : decode cX1_storeTurned 105 = .ok (.land, 1) := by decide +kernel
theorem dX1_storeTurned_106 : decode cX1_storeTurned 106 = .ok (.lastore, 1) := by decide +kernel
theorem dX1_storeTurned_107 : decode cX1_storeTurned 107 = .ok (.return_, 1) := by decide +kernel
theorem dX2_init_0 : decode cX2_init 0 = .ok (.aload_n 0, 1) := by decide +kernel
theorem dX2_init_1 : decode cX2_init 1 = .ok (.invokespecial 3, 3) := by decide +kernel
theorem dX2_init_4 : decode cX2_init 4 = .ok (.aload_n 0, 1) := by decide +kernel
theorem dX2_init_5 : decode cX2_init 5 = .ok (.bipush 8, 2) := by decide +kernel
theorem dX2_init_7 : decode cX2_init 7 = .ok (.newarray .int, 2) := by decide +kernel
theorem dX2_init_9 : decode cX2_init 9 = .ok (.putfield 11, 3) := by decide +kernel
theorem dX2_init_12 : decode cX2_init 12 = .ok (.aload_n 0, 1) := by decide +kernel
theorem dX2_init_13 : decode cX2_init 13 = .ok (.bipush 8, 2) := by decide +kernel
theorem dX2_init_15 : decode cX2_init 15 = .ok (.newarray .int, 2) := by decide +kernel
theorem dX2_init_17 : decode cX2_init 17 = .ok (.putfield 15, 3) := by decide +kernel
theorem dX2_init_20 : decode cX2_init 20 = .ok (.aload_n 0, 1) := by decide +kernel
theorem dX2_init_21 : decode cX2_init 21 = .ok (.bipush 8, 2) := by decide +kernel
theorem dX2_init_23 : decode cX2_init 23 = .ok (.newarray .int, 2) := by decide +kernel
theorem dX2_init_25 : decode cX2_init 25 = .ok (.putfield 18, 3) := by decide +kernel
theorem dX2_init_28 : decode cX2_init 28 = .ok (.aload_n 0, 1) := by decide +kernel
theorem dX2_init_29 : decode cX2_init 29 = .ok (.sipush 128, 3) := by decide +kernel
theorem dX2_init_32 : decode cX2_init 32 = .ok (.newarray .int, 2) := by decide +kernel
theorem dX2_init_34 : decode cX2_init 34 = .ok (.putfield 21, 3) := by decide +kernel
theorem dX2_init_37 : decode cX2_init 37 = .ok (.return_, 1) := by decide +kernel
theorem dX2_tell_0 : decode cX2_tell 0 = .ok (.aload_n 0, 1) := by decide +kernel
theorem dX2_tell_1 : decode cX2_tell 1 = .ok (.iload_n 1, 1) := by decide +kernel
theorem dX2_tell_2 : decode cX2_tell 2 = .ok (.putfield 24, 3) := by decide +kernel
theorem dX2_tell_5 : decode cX2_tell 5 = .ok (.aload_n 0, 1) := by decide +kernel
theorem dX2_tell_6 : decode cX2_tell 6 = .ok (.iload_n 2, 1) := by decide +kernel
theorem dX2_tell_7 : decode cX2_tell 7 = .ok (.putfield 28, 3) := by decide +kernel
theorem dX2_tell_10 : decode cX2_tell 10 = .ok (.aload_n 0, 1) := by decide +kernel
theorem dX2_tell_11 : decode cX2_tell 11 = .ok (.iconst 0, 1) := by decide +kernel
theorem dX2_tell_12 : decode cX2_tell 12 = .ok (.putfield 31, 3) := by decide +kernel
theorem dX2_tell_15 : decode cX2_tell 15 = .ok (.aload_n 0, 1) := by decide +kernel
theorem dX2_tell_16 : decode cX2_tell 16 = .ok (.iconst 0, 1) := by decide +kernel
theorem dX2_tell_17 : decode cX2_tell 17 = .ok (.putfield 34, 3) := by decide +kernel
theorem dX2_tell_20 : decode cX2_tell 20 = .ok (.aload_n 0, 1) := by decide +kernel
theorem dX2_tell_21 : decode cX2_tell 21 = .ok (.iconst 0, 1) := by decide +kernel
theorem dX2_tell_22 : decode cX2_tell 22 = .ok (.iconst 0, 1) := by decide +kernel
theorem dX2_tell_23 : decode cX2_tell 23 = .ok (.iconst 0, 1) := by decide +kernel
theorem dX2_tell_24 : decode cX2_tell 24 = .ok (.iconst 0, 1) := by decide +kernel
theorem dX2_tell_25 : decode cX2_tell 25 = .ok (.invokevirtual 37, 3) := by decide +kernel
theorem dX2_tell_28 : decode cX2_tell 28 = .ok (.aload_n 0, 1) := by decide +kernel
theorem dX2_tell_29 : decode cX2_tell 29 = .ok (.getfield 34, 3) := by decide +kernel
theorem dX2_tell_32 : decode cX2_tell 32 = .ok (.ireturn, 1) := by decide +kernel
theorem dX2_pileFrom_0 : decode cX2_pileFrom 0 = .ok (.iload_n 1, 1) := by decide +kernel
theorem dX2_pileFrom_1 : decode cX2_pileFrom 1 = .ok (.aload_n 0, 1) := by decide +kernel
theorem dX2_pileFrom_2 : decode cX2_pileFrom 2 = .ok (.getfield 24, 3) := by decide +kernel
theorem dX2_pileFrom_5 : decode cX2_pileFrom 5 = .ok (.if_icmp .lt 8, 3) := by decide +kernel
theorem dX2_pileFrom_8 : decode cX2_pileFrom 8 = .ok (.aload_n 0, 1) := by decide +kernel
theorem dX2_pileFrom_9 : decode cX2_pileFrom 9 = .ok (.invokevirtual 41, 3) := by decide +kernel
theorem dX2_pileFrom_12 : decode cX2_pileFrom 12 = .ok (.return_, 1) := by decide +kernel
theorem dX2_pileFrom_13 : decode cX2_pileFrom 13 = .ok (.iconst 0, 1) := by decide +kernel
theorem dX2_pileFrom_14 : decode cX2_pileFrom 14 = .ok (.istore 5, 2) := by decide +kernel
theorem dX2_pileFrom_16 : decode cX2_pileFrom 16 = .ok (.iload 5, 2) := by decide +kernel
theorem dX2_pileFrom_18 : decode cX2_pileFrom 18 = .ok (.aload_n 0, 1) := by decide +kernel
theorem dX2_pileFrom_19 : decode cX2_pileFrom 19 = .ok (.getfield 24, 3) := by decide +kernel
theorem dX2_pileFrom_22 : decode cX2_pileFrom 22 = .ok (.if_icmp .ge 87, 3) := by decide +kernel
theorem dX2_pileFrom_25 : decode cX2_pileFrom 25 = .ok (.aload_n 0, 1) := by decide +kernel
theorem dX2_pileFrom_26 : decode cX2_pileFrom 26 = .ok (.iload 5, 2) := by decide +kernel
theorem dX2_pileFrom_28 : decode cX2_pileFrom 28 = .ok (.iload_n 2, 1) := by decide +kernel
theorem dX2_pileFrom_29 : decode cX2_pileFrom 29 = .ok (.invokevirtual 44, 3) := by decide +kernel
theorem dX2_pileFrom_32 : decode cX2_pileFrom 32 = .ok (.ifCond .eq 71, 3) := by decide +kernel
theorem dX2_pileFrom_35 : decode cX2_pileFrom 35 = .ok (.aload_n 0, 1) := by decide +kernel
theorem dX2_pileFrom_36 : decode cX2_pileFrom 36 = .ok (.iload_n 3, 1) := by decide +kernel
theorem dX2_pileFrom_37 : decode cX2_pileFrom 37 = .ok (.iload 5, 2) := by decide +kernel
theorem dX2_pileFrom_39 : decode cX2_pileFrom 39 = .ok (.invokestatic 48, 3) := by decide +kernel
theorem dX2_pileFrom_42 : decode cX2_pileFrom 42 = .ok (.iload 5, 2) := by decide +kernel
theorem dX2_pileFrom_44 : decode cX2_pileFrom 44 = .ok (.iload_n 2, 1) := by decide +kernel
theorem dX2_pileFrom_45 : decode cX2_pileFrom 45 = .ok (.invokevirtual 52, 3) := by decide +kernel
theorem dX2_pileFrom_48 : decode cX2_pileFrom 48 = .ok (.istore 6, 2) := by decide +kernel
theorem dX2_pileFrom_50 : decode cX2_pileFrom 50 = .ok (.aload_n 0, 1) := by decide +kernel
theorem dX2_pileFrom_51 : decode cX2_pileFrom 51 = .ok (.iload 4, 2) := by decide +kernel
theorem dX2_pileFrom_53 : decode cX2_pileFrom 53 = .ok (.iload 5, 2) := by decide +kernel
theorem dX2_pileFrom_55 : decode cX2_pileFrom 55 = .ok (.invokestatic 56, 3) := by decide +kernel
theorem dX2_pileFrom_58 : decode cX2_pileFrom 58 = .ok (.iload 5, 2) := by decide +kernel
theorem dX2_pileFrom_60 : decode cX2_pileFrom 60 = .ok (.iload_n 2, 1) := by decide +kernel
theorem dX2_pileFrom_61 : decode cX2_pileFrom 61 = .ok (.invokevirtual 52, 3) := by decide +kernel
theorem dX2_pileFrom_64 : decode cX2_pileFrom 64 = .ok (.istore 7, 2) := by decide +kernel
theorem dX2_pileFrom_66 : decode cX2_pileFrom 66 = .ok (.iload 6, 2) := by decide +kernel
theorem dX2_pileFrom_68 : decode cX2_pileFrom 68 = .ok (.iconst (-1), 1) := by decide +kernel
theorem dX2_pileFrom_69 : decode cX2_pileFrom 69 = .ok (.if_icmp .eq 34, 3) := by decide +kernel
theorem dX2_pileFrom_72 : decode cX2_pileFrom 72 = .ok (.iload 7, 2) := by decide +kernel
theorem dX2_pileFrom_74 : decode cX2_pileFrom 74 = .ok (.iconst (-1), 1) := by decide +kernel
theorem dX2_pileFrom_75 : decode cX2_pileFrom 75 = .ok (.if_icmp .eq 28, 3) := by decide +kernel
theorem dX2_pileFrom_78 : decode cX2_pileFrom 78 = .ok (.aload_n 0, 1) := by decide +kernel
theorem dX2_pileFrom_79 : decode cX2_pileFrom 79 = .ok (.getfield 18, 3) := by decide +kernel
theorem dX2_pileFrom_82 : decode cX2_pileFrom 82 = .ok (.iload_n 1, 1) := by decide +kernel
theorem dX2_pileFrom_83 : decode cX2_pileFrom 83 = .ok (.iload 5, 2) := by decide +kernel
theorem dX2_pileFrom_85 : decode cX2_pileFrom 85 = .ok (.iastore, 1) := by decide +kernel
theorem dX2_pileFrom_86 : decode cX2_pileFrom 86 = .ok (.aload_n 0, 1) := by decide +kernel
theorem dX2_pileFrom_87 : decode cX2_pileFrom 87 = .ok (.iload_n 1, 1) := by decide +kernel
theorem dX2_pileFrom_88 : decode cX2_pileFrom 88 = .ok (.iconst 1, 1) := by decide +kernel
theorem dX2_pileFrom_89 : decode cX2_pileFrom 89 = .ok (.iadd, 1) := by decide +kernel
theorem dX2_pileFrom_90 : decode cX2_pileFrom 90 = .ok (.iload_n 2, 1) := by decide +kernel
theorem dX2_pileFrom_91 : decode cX2_pileFrom 91 = .ok (.iconst 1, 1) := by decide +kernel
theorem dX2_pileFrom_92 : decode cX2_pileFrom 92 = .ok (.iload 5, 2) := by decide +kernel
theorem dX2_pileFrom_94 : decode cX2_pileFrom 94 = .ok (.ishl, 1) := by decide +kernel
theorem dX2_pileFrom_95 : decode cX2_pileFrom 95 = .ok (.ior, 1) := by decide +kernel
theorem dX2_pileFrom_96 : decode cX2_pileFrom 96 = .ok (.iload 6, 2) := by decide +kernel
theorem dX2_pileFrom_98 : decode cX2_pileFrom 98 = .ok (.iload 7, 2) := by decide +kernel
theorem dX2_pileFrom_100 : decode cX2_pileFrom 100 = .ok (.invokevirtual 37, 3) := by decide +kernel
theorem dX2_pileFrom_103 : decode cX2_pileFrom 103 = .ok (.iinc 5 1, 3) := by decide +kernel
theorem dX2_pileFrom_106 : decode cX2_pileFrom 106 = .ok (.goto (-90), 3) := by decide +kernel
theorem dX2_pileFrom_109 : decode cX2_pileFrom 109 = .ok (.return_, 1) := by decide +kernel
theorem dX2_takeTrial_0 : decode cX2_takeTrial 0 = .ok (.aload_n 0, 1) := by decide +kernel
theorem dX2_takeTrial_1 : decode cX2_takeTrial 1 = .ok (.getfield 34, 3) := by decide +kernel
theorem dX2_takeTrial_4 : decode cX2_takeTrial 4 = .ok (.ifCond .ne 43, 3) := by decide +kernel
theorem dX2_takeTrial_7 : decode cX2_takeTrial 7 = .ok (.iconst 0, 1) := by decide +kernel
theorem dX2_takeTrial_8 : decode cX2_takeTrial 8 = .ok (.istore_n 1, 1) := by decide +kernel
theorem dX2_takeTrial_9 : decode cX2_takeTrial 9 = .ok (.iload_n 1, 1) := by decide +kernel
theorem dX2_takeTrial_10 : decode cX2_takeTrial 10 = .ok (.aload_n 0, 1) := by decide +kernel
theorem dX2_takeTrial_11 : decode cX2_takeTrial 11 = .ok (.getfield 24, 3) := by decide +kernel
theorem dX2_takeTrial_14 : decode cX2_takeTrial 14 = .ok (.if_icmp .ge 33, 3) := by decide +kernel
theorem dX2_takeTrial_17 : decode cX2_takeTrial 17 = .ok (.aload_n 0, 1) := by decide +kernel
theorem dX2_takeTrial_18 : decode cX2_takeTrial 18 = .ok (.getfield 11, 3) := by decide +kernel
theorem dX2_takeTrial_21 : decode cX2_takeTrial 21 = .ok (.iload_n 1, 1) := by decide +kernel
theorem dX2_takeTrial_22 : decode cX2_takeTrial 22 = .ok (.aload_n 0, 1) := by decide +kernel
theorem dX2_takeTrial_23 : decode cX2_takeTrial 23 = .ok (.getfield 18, 3) := by decide +kernel
theorem dX2_takeTrial_26 : decode cX2_takeTrial 26 = .ok (.iload_n 1, 1) := by decide +kernel
theorem dX2_takeTrial_27 : decode cX2_takeTrial 27 = .ok (.iaload, 1) := by decide +kernel
theorem dX2_takeTrial_28 : decode cX2_takeTrial 28 = .ok (.iastore, 1) := by decide +kernel
theorem dX2_takeTrial_29 : decode cX2_takeTrial 29 = .ok (.aload_n 0, 1) := by decide +kernel
theorem dX2_takeTrial_30 : decode cX2_takeTrial 30 = .ok (.getfield 15, 3) := by decide +kernel
theorem dX2_takeTrial_33 : decode cX2_takeTrial 33 = .ok (.aload_n 0, 1) := by decide +kernel
theorem dX2_takeTrial_34 : decode cX2_takeTrial 34 = .ok (.getfield 18, 3) := by decide +kernel
theorem dX2_takeTrial_37 : decode cX2_takeTrial 37 = .ok (.iload_n 1, 1) := by decide +kernel
theorem dX2_takeTrial_38 : decode cX2_takeTrial 38 = .ok (.iaload, 1) := by decide +kernel
theorem dX2_takeTrial_39 : decode cX2_takeTrial 39 = .ok (.iload_n 1, 1) := by decide +kernel
theorem dX2_takeTrial_40 : decode cX2_takeTrial 40 = .ok (.iastore, 1) := by decide +kernel
theorem dX2_takeTrial_41 : decode cX2_takeTrial 41 = .ok (.iinc 1 1, 3) := by decide +kernel
theorem dX2_takeTrial_44 : decode cX2_takeTrial 44 = .ok (.goto (-35), 3) := by decide +kernel
theorem dX2_takeTrial_47 : decode cX2_takeTrial 47 = .ok (.aload_n 0, 1) := by decide +kernel
theorem dX2_takeTrial_48 : decode cX2_takeTrial 48 = .ok (.dup, 1) := by decide +kernel
theorem dX2_takeTrial_49 : decode cX2_takeTrial 49 = .ok (.getfield 34, 3) := by decide +kernel
theorem dX2_takeTrial_52 : decode cX2_takeTrial 52 = .ok (.iconst 1, 1) := by decide +kernel
theorem dX2_takeTrial_53 : decode cX2_takeTrial 53 = .ok (.iadd, 1) := by decide +kernel
theorem dX2_takeTrial_54 : decode cX2_takeTrial 54 = .ok (.putfield 34, 3) := by decide +kernel
theorem dX2_takeTrial_57 : decode cX2_takeTrial 57 = .ok (.return_, 1) := by decide +kernel
theorem dX2_evenCrease_0 : decode cX2_evenCrease 0 = .ok (.iload_n 0, 1) := by decide +kernel
theorem dX2_evenCrease_1 : decode cX2_evenCrease 1 = .ok (.iconst 2, 1) := by decide +kernel
theorem dX2_evenCrease_2 : decode cX2_evenCrease 2 = .ok (.irem, 1) := by decide +kernel
theorem dX2_evenCrease_3 : decode cX2_evenCrease 3 = .ok (.ifCond .ne 7, 3) := by decide +kernel
theorem dX2_evenCrease_6 : decode cX2_evenCrease 6 = .ok (.iload_n 0, 1) := by decide +kernel
theorem dX2_evenCrease_7 : decode cX2_evenCrease 7 = .ok (.goto 6, 3) := by decide +kernel
theorem dX2_evenCrease_10 : decode cX2_evenCrease 10 = .ok (.iload_n 0, 1) := by decide +kernel
theorem dX2_evenCrease_11 : decode cX2_evenCrease 11 = .ok (.iconst 1, 1) := by decide +kernel
theorem dX2_evenCrease_12 : decode cX2_evenCrease 12 = .ok (.isub, 1) := by decide +kernel
theorem dX2_evenCrease_13 : decode cX2_evenCrease 13 = .ok (.ireturn, 1) := by decide +kernel
theorem dX2_oddCrease_0 : decode cX2_oddCrease 0 = .ok (.iload_n 0, 1) := by decide +kernel
theorem dX2_oddCrease_1 : decode cX2_oddCrease 1 = .ok (.iconst 2, 1) := by decide +kernel
theorem dX2_oddCrease_2 : decode cX2_oddCrease 2 = .ok (.irem, 1) := by decide +kernel
theorem dX2_oddCrease_3 : decode cX2_oddCrease 3 = .ok (.ifCond .ne 9, 3) := by decide +kernel
theorem dX2_oddCrease_6 : decode cX2_oddCrease 6 = .ok (.iload_n 0, 1) := by decide +kernel
theorem dX2_oddCrease_7 : decode cX2_oddCrease 7 = .ok (.iconst 1, 1) := by decide +kernel
theorem dX2_oddCrease_8 : decode cX2_oddCrease 8 = .ok (.isub, 1) := by decide +kernel
theorem dX2_oddCrease_9 : decode cX2_oddCrease 9 = .ok (.goto 4, 3) := by decide +kernel
theorem dX2_oddCrease_12 : decode cX2_oddCrease 12 = .ok (.iload_n 0, 1) := by decide +kernel
theorem dX2_oddCrease_13 : decode cX2_oddCrease 13 = .ok (.ireturn, 1) := by decide +kernel
theorem dX2_rises_0 : decode cX2_rises 0 = .ok (.aload_n 0, 1) := by decide +kernel
theorem dX2_rises_1 : decode cX2_rises 1 = .ok (.getfield 28, 3) := by decide +kernel
theorem dX2_rises_4 : decode cX2_rises 4 = .ok (.iload_n 1, 1) := by decide +kernel
theorem dX2_rises_5 : decode cX2_rises 5 = .ok (.ishr, 1) := by decide +kernel
theorem dX2_rises_6 : decode cX2_rises 6 = .ok (.iconst 1, 1) := by decide +kernel
theorem dX2_rises_7 : decode cX2_rises 7 = .ok (.iand, 1) := by decide +kernel
theorem dX2_rises_8 : decode cX2_rises 8 = .ok (.iconst 1, 1) := by decide +kernel
theorem dX2_rises_9 : decode cX2_rises 9 = .ok (.if_icmp .ne 7, 3) := by decide +kernel
theorem dX2_rises_12 : decode cX2_rises 12 = .ok (.iconst 1, 1) := by decide +kernel
theorem dX2_rises_13 : decode cX2_rises 13 = .ok (.goto 4, 3) := by decide +kernel
theorem dX2_rises_16 : decode cX2_rises 16 = .ok (.iconst 0, 1) := by decide +kernel
theorem dX2_rises_17 : decode cX2_rises 17 = .ok (.istore_n 2, 1) := by decide +kernel
theorem dX2_rises_18 : decode cX2_rises 18 = .ok (.iload_n 2, 1) := by decide +kernel
theorem dX2_rises_19 : decode cX2_rises 19 = .ok (.iload_n 1, 1) := by decide +kernel
theorem dX2_rises_20 : decode cX2_rises 20 = .ok (.iconst 2, 1) := by decide +kernel
theorem dX2_rises_21 : decode cX2_rises 21 = .ok (.irem, 1) := by decide +kernel
theorem dX2_rises_22 : decode cX2_rises 22 = .ok (.ifCond .ne 7, 3) := by decide +kernel
theorem dX2_rises_25 : decode cX2_rises 25 = .ok (.iconst 1, 1) := by decide +kernel
theorem dX2_rises_26 : decode cX2_rises 26 = .ok (.goto 4, 3) := by decide +kernel
theorem dX2_rises_29 : decode cX2_rises 29 = .ok (.iconst 0, 1) := by decide +kernel
theorem dX2_rises_30 : decode cX2_rises 30 = .ok (.if_icmp .ne 7, 3) := by decide +kernel
theorem dX2_rises_33 : decode cX2_rises 33 = .ok (.iconst 1, 1) := by decide +kernel
theorem dX2_rises_34 : decode cX2_rises 34 = .ok (.goto 4, 3) := by decide +kernel
theorem dX2_rises_37 : decode cX2_rises 37 = .ok (.iconst 0, 1) := by decide +kernel
theorem dX2_rises_38 : decode cX2_rises 38 = .ok (.ireturn, 1) := by decide +kernel
theorem dX2_mayCome_0 : decode cX2_mayCome 0 = .ok (.iload_n 2, 1) := by decide +kernel
theorem dX2_mayCome_1 : decode cX2_mayCome 1 = .ok (.iload_n 1, 1) := by decide +kernel
theorem dX2_mayCome_2 : decode cX2_mayCome 2 = .ok (.ishr, 1) := by decide +kernel
theorem dX2_mayCome_3 : decode cX2_mayCome 3 = .ok (.iconst 1, 1) := by decide +kernel
theorem dX2_mayCome_4 : decode cX2_mayCome 4 = .ok (.iand, 1) := by decide +kernel
theorem dX2_mayCome_5 : decode cX2_mayCome 5 = .ok (.iconst 1, 1) := by decide +kernel
theorem dX2_mayCome_6 : decode cX2_mayCome 6 = .ok (.if_icmp .ne 5, 3) := by decide +kernel
theorem dX2_mayCome_9 : decode cX2_mayCome 9 = .ok (.iconst 0, 1) := by decide +kernel
theorem dX2_mayCome_10 : decode cX2_mayCome 10 = .ok (.ireturn, 1) := by decide +kernel
theorem dX2_mayCome_11 : decode cX2_mayCome 11 = .ok (.iload_n 1, 1) := by decide +kernel
theorem dX2_mayCome_12 : decode cX2_mayCome 12 = .ok (.ifCond .le 18, 3) := by decide +kernel
theorem dX2_mayCome_15 : decode cX2_mayCome 15 = .ok (.iload_n 2, 1) := by decide +kernel
theorem dX2_mayCome_16 : decode cX2_mayCome 16 = .ok (.iload_n 1, 1) := by decide +kernel
theorem dX2_mayCome_17 : decode cX2_mayCome 17 = .ok (.iconst 1, 1) := by decide +kernel
theorem dX2_mayCome_18 : decode cX2_mayCome 18 = .ok (.isub, 1) := by decide +kernel
theorem dX2_mayCome_19 : decode cX2_mayCome 19 = .ok (.ishr, 1) := by decide +kernel
theorem dX2_mayCome_20 : decode cX2_mayCome 20 = .ok (.iconst 1, 1) := by decide +kernel
theorem dX2_mayCome_21 : decode cX2_mayCome 21 = .ok (.iand, 1) := by decide +kernel
theorem dX2_mayCome_22 : decode cX2_mayCome 22 = .ok (.iconst 1, 1) := by decide +kernel
theorem dX2_mayCome_23 : decode cX2_mayCome 23 = .ok (.if_icmp .ne 7, 3) := by decide +kernel
theorem dX2_mayCome_26 : decode cX2_mayCome 26 = .ok (.iconst 1, 1) := by decide +kernel
theorem dX2_mayCome_27 : decode cX2_mayCome 27 = .ok (.goto 4, 3) := by decide +kernel
theorem dX2_mayCome_30 : decode cX2_mayCome 30 = .ok (.iconst 0, 1) := by decide +kernel
theorem dX2_mayCome_31 : decode cX2_mayCome 31 = .ok (.istore_n 3, 1) := by decide +kernel
theorem dX2_mayCome_32 : decode cX2_mayCome 32 = .ok (.iload_n 2, 1) := by decide +kernel
theorem dX2_mayCome_33 : decode cX2_mayCome 33 = .ok (.iload_n 1, 1) := by decide +kernel
theorem dX2_mayCome_34 : decode cX2_mayCome 34 = .ok (.iconst 1, 1) := by decide +kernel
theorem dX2_mayCome_35 : decode cX2_mayCome 35 = .ok (.iadd, 1) := by decide +kernel
theorem dX2_mayCome_36 : decode cX2_mayCome 36 = .ok (.ishr, 1) := by decide +kernel
theorem dX2_mayCome_37 : decode cX2_mayCome 37 = .ok (.iconst 1, 1) := by decide +kernel
theorem dX2_mayCome_38 : decode cX2_mayCome 38 = .ok (.iand, 1) := by decide +kernel
theorem dX2_mayCome_39 : decode cX2_mayCome 39 = .ok (.iconst 1, 1) := by decide +kernel
theorem dX2_mayCome_40 : decode cX2_mayCome 40 = .ok (.if_icmp .ne 7, 3) := by decide +kernel
theorem dX2_mayCome_43 : decode cX2_mayCome 43 = .ok (.iconst 1, 1) := by decide +kernel
theorem dX2_mayCome_44 : decode cX2_mayCome 44 = .ok (.goto 4, 3) := by decide +kernel
theorem dX2_mayCome_47 : decode cX2_mayCome 47 = .ok (.iconst 0, 1) := by decide +kernel
theorem dX2_mayCome_48 : decode cX2_mayCome 48 = .ok (.istore 4, 2) := by decide +kernel
theorem dX2_mayCome_50 : decode cX2_mayCome 50 = .ok (.iload_n 1, 1) := by decide +kernel
theorem dX2_mayCome_51 : decode cX2_mayCome 51 = .ok (.ifCond .eq 14, 3) := by decide +kernel
theorem dX2_mayCome_54 : decode cX2_mayCome 54 = .ok (.iload_n 3, 1) := by decide +kernel
theorem dX2_mayCome_55 : decode cX2_mayCome 55 = .ok (.aload_n 0, 1) := by decide +kernel
theorem dX2_mayCome_56 : decode cX2_mayCome 56 = .ok (.iload_n 1, 1) := by decide +kernel
theorem dX2_mayCome_57 : decode cX2_mayCome 57 = .ok (.iconst 1, 1) := by decide +kernel
theorem dX2_mayCome_58 : decode cX2_mayCome 58 = .ok (.isub, 1) := by decide +kernel
theorem dX2_mayCome_59 : decode cX2_mayCome 59 = .ok (.invokevirtual 59, 3) := by decide +kernel
theorem dX2_mayCome_62 : decode cX2_mayCome 62 = .ok (.if_icmp .ne 7, 3) := by decide +kernel
theorem dX2_mayCome_65 : decode cX2_mayCome 65 = .ok (.iconst 1, 1) := by decide +kernel
theorem dX2_mayCome_66 : decode cX2_mayCome 66 = .ok (.goto 4, 3) := by decide +kernel
theorem dX2_mayCome_69 : decode cX2_mayCome 69 = .ok (.iconst 0, 1) := by decide +kernel
theorem dX2_mayCome_70 : decode cX2_mayCome 70 = .ok (.istore 5, 2) := by decide +kernel
theorem dX2_mayCome_72 : decode cX2_mayCome 72 = .ok (.iload_n 1, 1) := by decide +kernel
theorem dX2_mayCome_73 : decode cX2_mayCome 73 = .ok (.aload_n 0, 1) := by decide +kernel
theorem dX2_mayCome_74 : decode cX2_mayCome 74 = .ok (.getfield 24, 3) := by decide +kernel
theorem dX2_mayCome_77 : decode cX2_mayCome 77 = .ok (.iconst 1, 1) := by decide +kernel
theorem dX2_mayCome_78 : decode cX2_mayCome 78 = .ok (.isub, 1) := by decide +kernel
theorem dX2_mayCome_79 : decode cX2_mayCome 79 = .ok (.if_icmp .eq 13, 3) := by decide +kernel
theorem dX2_mayCome_82 : decode cX2_mayCome 82 = .ok (.iload 4, 2) := by decide +kernel
theorem dX2_mayCome_84 : decode cX2_mayCome 84 = .ok (.aload_n 0, 1) := by decide +kernel
theorem dX2_mayCome_85 : decode cX2_mayCome 85 = .ok (.iload_n 1, 1) := by decide +kernel
theorem dX2_mayCome_86 : decode cX2_mayCome 86 = .ok (.invokevirtual 59, 3) := by decide +kernel
theorem dX2_mayCome_89 : decode cX2_mayCome 89 = .ok (.if_icmp .eq 7, 3) := by decide +kernel
theorem dX2_mayCome_92 : decode cX2_mayCome 92 = .ok (.iconst 1, 1) := by decide +kernel
theorem dX2_mayCome_93 : decode cX2_mayCome 93 = .ok (.goto 4, 3) := by decide +kernel
theorem dX2_mayCome_96 : decode cX2_mayCome 96 = .ok (.iconst 0, 1) := by decide +kernel
theorem dX2_mayCome_97 : decode cX2_mayCome 97 = .ok (.istore 6, 2) := by decide +kernel
theorem dX2_mayCome_99 : decode cX2_mayCome 99 = .ok (.iload 5, 2) := by decide +kernel
theorem dX2_mayCome_101 : decode cX2_mayCome 101 = .ok (.ifCond .eq 12, 3) := by decide +kernel
theorem dX2_mayCome_104 : decode cX2_mayCome 104 = .ok (.iload 6, 2) := by decide +kernel
theorem dX2_mayCome_106 : decode cX2_mayCome 106 = .ok (.ifCond .eq 7, 3) := by decide +kernel
theorem dX2_mayCome_109 : decode cX2_mayCome 109 = .ok (.iconst 1, 1) := by decide +kernel
theorem dX2_mayCome_110 : decode cX2_mayCome 110 = .ok (.goto 4, 3) := by decide +kernel
theorem dX2_mayCome_113 : decode cX2_mayCome 113 = .ok (.iconst 0, 1) := by decide +kernel
theorem dX2_mayCome_114 : decode cX2_mayCome 114 = .ok (.ireturn, 1) := by decide +kernel
theorem dX2_sideWith_0 : decode cX2_sideWith 0 = .ok (.iload_n 2, 1) := by decide +kernel
theorem dX2_sideWith_1 : decode cX2_sideWith 1 = .ok (.ifCond .lt 13, 3) := by decide +kernel
theorem dX2_sideWith_4 : decode cX2_sideWith 4 = .ok (.iload_n 2, 1) := by decide +kernel
theorem dX2_sideWith_5 : decode cX2_sideWith 5 = .ok (.aload_n 0, 1) := by decide +kernel
theorem dX2_sideWith_6 : decode cX2_sideWith 6 = .ok (.getfield 24, 3) := by decide +kernel
theorem dX2_sideWith_9 : decode cX2_sideWith 9 = .ok (.iconst 1, 1) := by decide +kernel
theorem dX2_sideWith_10 : decode cX2_sideWith 10 = .ok (.isub, 1) := by decide +kernel
theorem dX2_sideWith_11 : decode cX2_sideWith 11 = .ok (.if_icmp .lt 5, 3) := by decide +kernel
theorem dX2_sideWith_14 : decode cX2_sideWith 14 = .ok (.iload_n 1, 1) := by decide +kernel
theorem dX2_sideWith_15 : decode cX2_sideWith 15 = .ok (.ireturn, 1) := by decide +kernel
theorem dX2_sideWith_16 : decode cX2_sideWith 16 = .ok (.iload_n 3, 1) := by decide +kernel
theorem dX2_sideWith_17 : decode cX2_sideWith 17 = .ok (.iload_n 2, 1) := by decide +kernel
theorem dX2_sideWith_18 : decode cX2_sideWith 18 = .ok (.if_icmp .ne 9, 3) := by decide +kernel
theorem dX2_sideWith_21 : decode cX2_sideWith 21 = .ok (.iload_n 2, 1) := by decide +kernel
theorem dX2_sideWith_22 : decode cX2_sideWith 22 = .ok (.iconst 1, 1) := by decide +kernel
theorem dX2_sideWith_23 : decode cX2_sideWith 23 = .ok (.iadd, 1) := by decide +kernel
theorem dX2_sideWith_24 : decode cX2_sideWith 24 = .ok (.goto 4, 3) := by decide +kernel
theorem dX2_sideWith_27 : decode cX2_sideWith 27 = .ok (.iload_n 2, 1) := by decide +kernel
theorem dX2_sideWith_28 : decode cX2_sideWith 28 = .ok (.istore 5, 2) := by decide +kernel
theorem dX2_sideWith_30 : decode cX2_sideWith 30 = .ok (.iload 4, 2) := by decide +kernel
theorem dX2_sideWith_32 : decode cX2_sideWith 32 = .ok (.iload 5, 2) := by decide +kernel
theorem dX2_sideWith_34 : decode cX2_sideWith 34 = .ok (.ishr, 1) := by decide +kernel
theorem dX2_sideWith_35 : decode cX2_sideWith 35 = .ok (.iconst 1, 1) := by decide +kernel
theorem dX2_sideWith_36 : decode cX2_sideWith 36 = .ok (.iand, 1) := by decide +kernel
theorem dX2_sideWith_37 : decode cX2_sideWith 37 = .ok (.ifCond .ne 11, 3) := by decide +kernel
theorem dX2_sideWith_40 : decode cX2_sideWith 40 = .ok (.iload_n 1, 1) := by decide +kernel
theorem dX2_sideWith_41 : decode cX2_sideWith 41 = .ok (.iconst 4, 1) := by decide +kernel
theorem dX2_sideWith_42 : decode cX2_sideWith 42 = .ok (.ishl, 1) := by decide +kernel
theorem dX2_sideWith_43 : decode cX2_sideWith 43 = .ok (.iload_n 2, 1) := by decide +kernel
theorem dX2_sideWith_44 : decode cX2_sideWith 44 = .ok (.iconst 1, 1) := by decide +kernel
theorem dX2_sideWith_45 : decode cX2_sideWith 45 = .ok (.iadd, 1) := by decide +kernel
theorem dX2_sideWith_46 : decode cX2_sideWith 46 = .ok (.ior, 1) := by decide +kernel
theorem dX2_sideWith_47 : decode cX2_sideWith 47 = .ok (.ireturn, 1) := by decide +kernel
theorem dX2_sideWith_48 : decode cX2_sideWith 48 = .ok (.iload_n 1, 1) := by decide +kernel
theorem dX2_sideWith_49 : decode cX2_sideWith 49 = .ok (.bipush 15, 2) := by decide +kernel
theorem dX2_sideWith_51 : decode cX2_sideWith 51 = .ok (.iand, 1) := by decide +kernel
theorem dX2_sideWith_52 : decode cX2_sideWith 52 = .ok (.iload_n 2, 1) := by decide +kernel
theorem dX2_sideWith_53 : decode cX2_sideWith 53 = .ok (.iconst 1, 1) := by decide +kernel
theorem dX2_sideWith_54 : decode cX2_sideWith 54 = .ok (.iadd, 1) := by decide +kernel
theorem dX2_sideWith_55 : decode cX2_sideWith 55 = .ok (.if_icmp .ne 9, 3) := by decide +kernel
theorem dX2_sideWith_58 : decode cX2_sideWith 58 = .ok (.iload_n 1, 1) := by decide +kernel
theorem dX2_sideWith_59 : decode cX2_sideWith 59 = .ok (.iconst 4, 1) := by decide +kernel
theorem dX2_sideWith_60 : decode cX2_sideWith 60 = .ok (.iushr, 1) := by decide +kernel
theorem dX2_sideWith_61 : decode cX2_sideWith 61 = .ok (.goto 4, 3) := by decide +kernel
theorem dX2_sideWith_64 : decode cX2_sideWith 64 = .ok (.iconst (-1), 1) := by decide +kernel
theorem dX2_sideWith_65 : decode cX2_sideWith 65 = .ok (.ireturn, 1) := by decide +kernel
theorem dX2_isRowOfParts_0 : decode cX2_isRowOfParts 0 = .ok (.iload_n 1, 1) := by decide +kernel
theorem dX2_isRowOfParts_1 : decode cX2_isRowOfParts 1 = .ok (.iconst 3, 1) := by decide +kernel
theorem dX2_isRowOfParts_2 : decode cX2_isRowOfParts 2 = .ok (.aload_n 0, 1) := by decide +kernel
theorem dX2_isRowOfParts_3 : decode cX2_isRowOfParts 3 = .ok (.getfield 24, 3) := by decide +kernel
theorem dX2_isRowOfParts_6 : decode cX2_isRowOfParts 6 = .ok (.imul, 1) := by decide +kernel
theorem dX2_isRowOfParts_7 : decode cX2_isRowOfParts 7 = .ok (.iushr, 1) := by decide +kernel
theorem dX2_isRowOfParts_8 : decode cX2_isRowOfParts 8 = .ok (.ifCond .eq 5, 3) := by decide +kernel
theorem dX2_isRowOfParts_11 : decode cX2_isRowOfParts 11 = .ok (.iconst 0, 1) := by decide +kernel
theorem dX2_isRowOfParts_12 : decode cX2_isRowOfParts 12 = .ok (.ireturn, 1) := by decide +kernel
theorem dX2_isRowOfParts_13 : decode cX2_isRowOfParts 13 = .ok (.iconst 0, 1) := by decide +kernel
theorem dX2_isRowOfParts_14 : decode cX2_isRowOfParts 14 = .ok (.istore_n 2, 1) := by decide +kernel
theorem dX2_isRowOfParts_15 : decode cX2_isRowOfParts 15 = .ok (.iconst 0, 1) := by decide +kernel
theorem dX2_isRowOfParts_16 : decode cX2_isRowOfParts 16 = .ok (.istore_n 3, 1) := by decide +kernel
theorem dX2_isRowOfParts_17 : decode cX2_isRowOfParts 17 = .ok (.iload_n 3, 1) := by decide +kernel
theorem dX2_isRowOfParts_18 : decode cX2_isRowOfParts 18 = .ok (.aload_n 0, 1) := by decide +kernel
theorem dX2_isRowOfParts_19 : decode cX2_isRowOfParts 19 = .ok (.getfield 24, 3) := by decide +kernel
theorem dX2_isRowOfParts_22 : decode cX2_isRowOfParts 22 = .ok (.if_icmp .ge 22, 3) := by decide +kernel
theorem dX2_isRowOfParts_25 : decode cX2_isRowOfParts 25 = .ok (.iload_n 2, 1) := by decide +kernel
theorem dX2_isRowOfParts_26 : decode cX2_isRowOfParts 26 = .ok (.iconst 1, 1) := by decide +kernel
theorem dX2_isRowOfParts_27 : decode cX2_isRowOfParts 27 = .ok (.iload_n 1, 1) := by decide +kernel
theorem dX2_isRowOfParts_28 : decode cX2_isRowOfParts 28 = .ok (.iconst 3, 1) := by decide +kernel
theorem dX2_isRowOfParts_29 : decode cX2_isRowOfParts 29 = .ok (.iload_n 3, 1) := by decide +kernel
theorem dX2_isRowOfParts_30 : decode cX2_isRowOfParts 30 = .ok (.imul, 1) := by decide +kernel
theorem dX2_isRowOfParts_31 : decode cX2_isRowOfParts 31 = .ok (.ishr, 1) := by decide +kernel
theorem dX2_isRowOfParts_32 : decode cX2_isRowOfParts 32 = .ok (.bipush 7, 2) := by decide +kernel
theorem dX2_isRowOfParts_34 : decode cX2_isRowOfParts 34 = .ok (.iand, 1) := by decide +kernel
theorem dX2_isRowOfParts_35 : decode cX2_isRowOfParts 35 = .ok (.ishl, 1) := by decide +kernel
theorem dX2_isRowOfParts_36 : decode cX2_isRowOfParts 36 = .ok (.ior, 1) := by decide +kernel
theorem dX2_isRowOfParts_37 : decode cX2_isRowOfParts 37 = .ok (.istore_n 2, 1) := by decide +kernel
theorem dX2_isRowOfParts_38 : decode cX2_isRowOfParts 38 = .ok (.iinc 3 1, 3) := by decide +kernel
theorem dX2_isRowOfParts_41 : decode cX2_isRowOfParts 41 = .ok (.goto (-24), 3) := by decide +kernel
theorem dX2_isRowOfParts_44 : decode cX2_isRowOfParts 44 = .ok (.iload_n 2, 1) := by decide +kernel
theorem dX2_isRowOfParts_45 : decode cX2_isRowOfParts 45 = .ok (.iconst 1, 1) := by decide +kernel
theorem dX2_isRowOfParts_46 : decode cX2_isRowOfParts 46 = .ok (.aload_n 0, 1) := by decide +kernel
theorem dX2_isRowOfParts_47 : decode cX2_isRowOfParts 47 = .ok (.getfield 24, 3) := by decide +kernel
theorem dX2_isRowOfParts_50 : decode cX2_isRowOfParts 50 = .ok (.ishl, 1) := by decide +kernel
theorem dX2_isRowOfParts_51 : decode cX2_isRowOfParts 51 = .ok (.iconst 1, 1) := by decide +kernel
theorem dX2_isRowOfParts_52 : decode cX2_isRowOfParts 52 = .ok (.isub, 1) := by decide +kernel
theorem dX2_isRowOfParts_53 : decode cX2_isRowOfParts 53 = .ok (.if_icmp .ne 7, 3) := by decide +kernel
theorem dX2_isRowOfParts_56 : decode cX2_isRowOfParts 56 = .ok (.iconst 1, 1) := by decide +kernel
theorem dX2_isRowOfParts_57 : decode cX2_isRowOfParts 57 = .ok (.goto 4, 3) := by decide +kernel
theorem dX2_isRowOfParts_60 : decode cX2_isRowOfParts 60 = .ok (.iconst 0, 1) := by decide +kernel
theorem dX2_isRowOfParts_61 : decode cX2_isRowOfParts 61 = .ok (.ireturn, 1) := by decide +kernel
theorem dX2_liesSo_0 : decode cX2_liesSo 0 = .ok (.iconst 0, 1) := by decide +kernel
theorem dX2_liesSo_1 : decode cX2_liesSo 1 = .ok (.istore_n 2, 1) := by decide +kernel
theorem dX2_liesSo_2 : decode cX2_liesSo 2 = .ok (.iconst 0, 1) := by decide +kernel
theorem dX2_liesSo_3 : decode cX2_liesSo 3 = .ok (.istore_n 3, 1) := by decide +kernel
theorem dX2_liesSo_4 : decode cX2_liesSo 4 = .ok (.iconst 0, 1) := by decide +kernel
theorem dX2_liesSo_5 : decode cX2_liesSo 5 = .ok (.istore 4, 2) := by decide +kernel
theorem dX2_liesSo_7 : decode cX2_liesSo 7 = .ok (.iconst 0, 1) := by decide +kernel
theorem dX2_liesSo_8 : decode cX2_liesSo 8 = .ok (.istore 5, 2) := by decide +kernel
theorem dX2_liesSo_10 : decode cX2_liesSo 10 = .ok (.iload 5, 2) := by decide +kernel
theorem dX2_liesSo_12 : decode cX2_liesSo 12 = .ok (.aload_n 0, 1) := by decide +kernel
theorem dX2_liesSo_13 : decode cX2_liesSo 13 = .ok (.getfield 24, 3) := by decide +kernel
theorem dX2_liesSo_16 : decode cX2_liesSo 16 = .ok (.if_icmp .ge 82, 3) := by decide +kernel
theorem dX2_liesSo_19 : decode cX2_liesSo 19 = .ok (.iload_n 1, 1) := by decide +kernel
theorem dX2_liesSo_20 : decode cX2_liesSo 20 = .ok (.iconst 3, 1) := by decide +kernel
theorem dX2_liesSo_21 : decode cX2_liesSo 21 = .ok (.iload 5, 2) := by decide +kernel
theorem dX2_liesSo_23 : decode cX2_liesSo 23 = .ok (.imul, 1) := by decide +kernel
theorem dX2_liesSo_24 : decode cX2_liesSo 24 = .ok (.ishr, 1) := by decide +kernel
theorem dX2_liesSo_25 : decode cX2_liesSo 25 = .ok (.bipush 7, 2) := by decide +kernel
theorem dX2_liesSo_27 : decode cX2_liesSo 27 = .ok (.iand, 1) := by decide +kernel
theorem dX2_liesSo_28 : decode cX2_liesSo 28 = .ok (.istore 6, 2) := by decide +kernel
theorem dX2_liesSo_30 : decode cX2_liesSo 30 = .ok (.aload_n 0, 1) := by decide +kernel
theorem dX2_liesSo_31 : decode cX2_liesSo 31 = .ok (.iload 6, 2) := by decide +kernel
theorem dX2_liesSo_33 : decode cX2_liesSo 33 = .ok (.iload_n 2, 1) := by decide +kernel
theorem dX2_liesSo_34 : decode cX2_liesSo 34 = .ok (.invokevirtual 44, 3) := by decide +kernel
theorem dX2_liesSo_37 : decode cX2_liesSo 37 = .ok (.ifCond .ne 5, 3) := by decide +kernel
theorem dX2_liesSo_40 : decode cX2_liesSo 40 = .ok (.iconst 0, 1) := by decide +kernel
theorem dX2_liesSo_41 : decode cX2_liesSo 41 = .ok (.ireturn, 1) := by decide +kernel
theorem dX2_liesSo_42 : decode cX2_liesSo 42 = .ok (.aload_n 0, 1) := by decide +kernel
theorem dX2_liesSo_43 : decode cX2_liesSo 43 = .ok (.iload_n 3, 1) := by decide +kernel
theorem dX2_liesSo_44 : decode cX2_liesSo 44 = .ok (.iload 6, 2) := by decide +kernel
theorem dX2_liesSo_46 : decode cX2_liesSo 46 = .ok (.invokestatic 48, 3) := by decide +kernel
theorem dX2_liesSo_49 : decode cX2_liesSo 49 = .ok (.iload 6, 2) := by decide +kernel
theorem dX2_liesSo_51 : decode cX2_liesSo 51 = .ok (.iload_n 2, 1) := by decide +kernel
theorem dX2_liesSo_52 : decode cX2_liesSo 52 = .ok (.invokevirtual 52, 3) := by decide +kernel
theorem dX2_liesSo_55 : decode cX2_liesSo 55 = .ok (.istore_n 3, 1) := by decide +kernel
theorem dX2_liesSo_56 : decode cX2_liesSo 56 = .ok (.aload_n 0, 1) := by decide +kernel
theorem dX2_liesSo_57 : decode cX2_liesSo 57 = .ok (.iload 4, 2) := by decide +kernel
theorem dX2_liesSo_59 : decode cX2_liesSo 59 = .ok (.iload 6, 2) := by decide +kernel
theorem dX2_liesSo_61 : decode cX2_liesSo 61 = .ok (.invokestatic 56, 3) := by decide +kernel
theorem dX2_liesSo_64 : decode cX2_liesSo 64 = .ok (.iload 6, 2) := by decide +kernel
theorem dX2_liesSo_66 : decode cX2_liesSo 66 = .ok (.iload_n 2, 1) := by decide +kernel
theorem dX2_liesSo_67 : decode cX2_liesSo 67 = .ok (.invokevirtual 52, 3) := by decide +kernel
theorem dX2_liesSo_70 : decode cX2_liesSo 70 = .ok (.istore 4, 2) := by decide +kernel
theorem dX2_liesSo_72 : decode cX2_liesSo 72 = .ok (.iload_n 3, 1) := by decide +kernel
theorem dX2_liesSo_73 : decode cX2_liesSo 73 = .ok (.iconst (-1), 1) := by decide +kernel
theorem dX2_liesSo_74 : decode cX2_liesSo 74 = .ok (.if_icmp .eq 9, 3) := by decide +kernel
theorem dX2_liesSo_77 : decode cX2_liesSo 77 = .ok (.iload 4, 2) := by decide +kernel
theorem dX2_liesSo_79 : decode cX2_liesSo 79 = .ok (.iconst (-1), 1) := by decide +kernel
theorem dX2_liesSo_80 : decode cX2_liesSo 80 = .ok (.if_icmp .ne 5, 3) := by decide +kernel
theorem dX2_liesSo_83 : decode cX2_liesSo 83 = .ok (.iconst 0, 1) := by decide +kernel
theorem dX2_liesSo_84 : decode cX2_liesSo 84 = .ok (.ireturn, 1) := by decide +kernel
theorem dX2_liesSo_85 : decode cX2_liesSo 85 = .ok (.iload_n 2, 1) := by decide +kernel
theorem dX2_liesSo_86 : decode cX2_liesSo 86 = .ok (.iconst 1, 1) := by decide +kernel
theorem dX2_liesSo_87 : decode cX2_liesSo 87 = .ok (.iload 6, 2) := by decide +kernel
theorem dX2_liesSo_89 : decode cX2_liesSo 89 = .ok (.ishl, 1) := by decide +kernel
theorem dX2_liesSo_90 : decode cX2_liesSo 90 = .ok (.ior, 1) := by decide +kernel
theorem dX2_liesSo_91 : decode cX2_liesSo 91 = .ok (.istore_n 2, 1) := by decide +kernel
theorem dX2_liesSo_92 : decode cX2_liesSo 92 = .ok (.iinc 5 1, 3) := by decide +kernel
theorem dX2_liesSo_95 : decode cX2_liesSo 95 = .ok (.goto (-85), 3) := by decide +kernel
theorem dX2_liesSo_98 : decode cX2_liesSo 98 = .ok (.iconst 1, 1) := by decide +kernel
theorem dX2_liesSo_99 : decode cX2_liesSo 99 = .ok (.ireturn, 1) := by decide +kernel
theorem dX2_isOpen_0 : decode cX2_isOpen 0 = .ok (.iload_n 2, 1) := by decide +kernel
theorem dX2_isOpen_1 : decode cX2_isOpen 1 = .ok (.iload_n 1, 1) := by decide +kernel
theorem dX2_isOpen_2 : decode cX2_isOpen 2 = .ok (.ishr, 1) := by decide +kernel
theorem dX2_isOpen_3 : decode cX2_isOpen 3 = .ok (.iconst 1, 1) := by decide +kernel
theorem dX2_isOpen_4 : decode cX2_isOpen 4 = .ok (.iand, 1) := by decide +kernel
theorem dX2_isOpen_5 : decode cX2_isOpen 5 = .ok (.iconst 1, 1) := by decide +kernel
theorem dX2_isOpen_6 : decode cX2_isOpen 6 = .ok (.if_icmp .ne 7, 3) := by decide +kernel
theorem dX2_isOpen_9 : decode cX2_isOpen 9 = .ok (.iconst 1, 1) := by decide +kernel
theorem dX2_isOpen_10 : decode cX2_isOpen 10 = .ok (.goto 4, 3) := by decide +kernel
theorem dX2_isOpen_13 : decode cX2_isOpen 13 = .ok (.iconst 0, 1) := by decide +kernel
theorem dX2_isOpen_14 : decode cX2_isOpen 14 = .ok (.ireturn, 1) := by decide +kernel
theorem dX2_isClear_0 : decode cX2_isClear 0 = .ok (.iload_n 1, 1) := by decide +kernel
theorem dX2_isClear_1 : decode cX2_isClear 1 = .ok (.istore_n 3, 1) := by decide +kernel
theorem dX2_isClear_2 : decode cX2_isClear 2 = .ok (.iload_n 3, 1) := by decide +kernel
theorem dX2_isClear_3 : decode cX2_isClear 3 = .ok (.ifCond .le 20, 3) := by decide +kernel
theorem dX2_isClear_6 : decode cX2_isClear 6 = .ok (.aload_n 0, 1) := by decide +kernel
theorem dX2_isClear_7 : decode cX2_isClear 7 = .ok (.iload_n 3, 1) := by decide +kernel
theorem dX2_isClear_8 : decode cX2_isClear 8 = .ok (.iconst 1, 1) := by decide +kernel
theorem dX2_isClear_9 : decode cX2_isClear 9 = .ok (.isub, 1) := by decide +kernel
theorem dX2_isClear_10 : decode cX2_isClear 10 = .ok (.iload_n 2, 1) := by decide +kernel
theorem dX2_isClear_11 : decode cX2_isClear 11 = .ok (.invokevirtual 63, 3) := by decide +kernel
theorem dX2_isClear_14 : decode cX2_isClear 14 = .ok (.ifCond .ne 9, 3) := by decide +kernel
theorem dX2_isClear_17 : decode cX2_isClear 17 = .ok (.iinc 3 (-1), 3) := by decide +kernel
theorem dX2_isClear_20 : decode cX2_isClear 20 = .ok (.goto (-18), 3) := by decide +kernel
theorem dX2_isClear_23 : decode cX2_isClear 23 = .ok (.iload_n 1, 1) := by decide +kernel
theorem dX2_isClear_24 : decode cX2_isClear 24 = .ok (.iconst 1, 1) := by decide +kernel
theorem dX2_isClear_25 : decode cX2_isClear 25 = .ok (.iadd, 1) := by decide +kernel
theorem dX2_isClear_26 : decode cX2_isClear 26 = .ok (.istore 4, 2) := by decide +kernel
theorem dX2_isClear_28 : decode cX2_isClear 28 = .ok (.iload 4, 2) := by decide +kernel
theorem dX2_isClear_30 : decode cX2_isClear 30 = .ok (.aload_n 0, 1) := by decide +kernel
theorem dX2_isClear_31 : decode cX2_isClear 31 = .ok (.getfield 24, 3) := by decide +kernel
theorem dX2_isClear_34 : decode cX2_isClear 34 = .ok (.iconst 1, 1) := by decide +kernel
theorem dX2_isClear_35 : decode cX2_isClear 35 = .ok (.isub, 1) := by decide +kernel
theorem dX2_isClear_36 : decode cX2_isClear 36 = .ok (.if_icmp .ge 19, 3) := by decide +kernel
theorem dX2_isClear_39 : decode cX2_isClear 39 = .ok (.aload_n 0, 1) := by decide +kernel
theorem dX2_isClear_40 : decode cX2_isClear 40 = .ok (.iload 4, 2) := by decide +kernel
theorem dX2_isClear_42 : decode cX2_isClear 42 = .ok (.iload_n 2, 1) := by decide +kernel
theorem dX2_isClear_43 : decode cX2_isClear 43 = .ok (.invokevirtual 63, 3) := by decide +kernel
theorem dX2_isClear_46 : decode cX2_isClear 46 = .ok (.ifCond .ne 9, 3) := by decide +kernel
theorem dX2_isClear_49 : decode cX2_isClear 49 = .ok (.iinc 4 1, 3) := by decide +kernel
theorem dX2_isClear_52 : decode cX2_isClear 52 = .ok (.goto (-24), 3) := by decide +kernel
theorem dX2_isClear_55 : decode cX2_isClear 55 = .ok (.aload_n 0, 1) := by decide +kernel
theorem dX2_isClear_56 : decode cX2_isClear 56 = .ok (.iload_n 3, 1) := by decide +kernel
theorem dX2_isClear_57 : decode cX2_isClear 57 = .ok (.iload_n 1, 1) := by decide +kernel
theorem dX2_isClear_58 : decode cX2_isClear 58 = .ok (.iload_n 1, 1) := by decide +kernel
theorem dX2_isClear_59 : decode cX2_isClear 59 = .ok (.iconst 1, 1) := by decide +kernel
theorem dX2_isClear_60 : decode cX2_isClear 60 = .ok (.iadd, 1) := by decide +kernel
theorem dX2_isClear_61 : decode cX2_isClear 61 = .ok (.iload 4, 2) := by decide +kernel
theorem dX2_isClear_63 : decode cX2_isClear 63 = .ok (.invokevirtual 66, 3) := by decide +kernel
theorem dX2_isClear_66 : decode cX2_isClear 66 = .ok (.ifCond .ne 17, 3) := by decide +kernel
theorem dX2_isClear_69 : decode cX2_isClear 69 = .ok (.aload_n 0, 1) := by decide +kernel
theorem dX2_isClear_70 : decode cX2_isClear 70 = .ok (.iload_n 1, 1) := by decide +kernel
theorem dX2_isClear_71 : decode cX2_isClear 71 = .ok (.iconst 1, 1) := by decide +kernel
theorem dX2_isClear_72 : decode cX2_isClear 72 = .ok (.iadd, 1) := by decide +kernel
theorem dX2_isClear_73 : decode cX2_isClear 73 = .ok (.iload 4, 2) := by decide +kernel
theorem dX2_isClear_75 : decode cX2_isClear 75 = .ok (.iload_n 3, 1) := by decide +kernel
theorem dX2_isClear_76 : decode cX2_isClear 76 = .ok (.iload_n 1, 1) := by decide +kernel
theorem dX2_isClear_77 : decode cX2_isClear 77 = .ok (.invokevirtual 66, 3) := by decide +kernel
theorem dX2_isClear_80 : decode cX2_isClear 80 = .ok (.ifCond .eq 7, 3) := by decide +kernel
theorem dX2_isClear_83 : decode cX2_isClear 83 = .ok (.iconst 1, 1) := by decide +kernel
theorem dX2_isClear_84 : decode cX2_isClear 84 = .ok (.goto 4, 3) := by decide +kernel
theorem dX2_isClear_87 : decode cX2_isClear 87 = .ok (.iconst 0, 1) := by decide +kernel
theorem dX2_isClear_88 : decode cX2_isClear 88 = .ok (.ireturn, 1) := by decide +kernel
theorem dX2_isAbove_0 : decode cX2_isAbove 0 = .ok (.bipush 8, 2) := by decide +kernel
theorem dX2_isAbove_2 : decode cX2_isAbove 2 = .ok (.istore 5, 2) := by decide +kernel
theorem dX2_isAbove_4 : decode cX2_isAbove 4 = .ok (.iload_n 1, 1) := by decide +kernel
theorem dX2_isAbove_5 : decode cX2_isAbove 5 = .ok (.istore 6, 2) := by decide +kernel
theorem dX2_isAbove_7 : decode cX2_isAbove 7 = .ok (.iload 6, 2) := by decide +kernel
theorem dX2_isAbove_9 : decode cX2_isAbove 9 = .ok (.iload_n 2, 1) := by decide +kernel
theorem dX2_isAbove_10 : decode cX2_isAbove 10 = .ok (.if_icmp .gt 23, 3) := by decide +kernel
theorem dX2_isAbove_13 : decode cX2_isAbove 13 = .ok (.iload 5, 2) := by decide +kernel
theorem dX2_isAbove_15 : decode cX2_isAbove 15 = .ok (.aload_n 0, 1) := by decide +kernel
theorem dX2_isAbove_16 : decode cX2_isAbove 16 = .ok (.getfield 15, 3) := by decide +kernel
theorem dX2_isAbove_19 : decode cX2_isAbove 19 = .ok (.iload 6, 2) := by decide +kernel
theorem dX2_isAbove_21 : decode cX2_isAbove 21 = .ok (.iaload, 1) := by decide +kernel
theorem dX2_isAbove_22 : decode cX2_isAbove 22 = .ok (.invokestatic 70, 3) := by decide +kernel
theorem dX2_isAbove_25 : decode cX2_isAbove 25 = .ok (.istore 5, 2) := by decide +kernel
theorem dX2_isAbove_27 : decode cX2_isAbove 27 = .ok (.iinc 6 1, 3) := by decide +kernel
theorem dX2_isAbove_30 : decode cX2_isAbove 30 = .ok (.goto (-23), 3) := by decide +kernel
theorem dX2_isAbove_33 : decode cX2_isAbove 33 = .ok (.iconst (-1), 1) := by decide +kernel
theorem dX2_isAbove_34 : decode cX2_isAbove 34 = .ok (.istore 6, 2) := by decide +kernel
theorem dX2_isAbove_36 : decode cX2_isAbove 36 = .ok (.iload_n 3, 1) := by decide +kernel
theorem dX2_isAbove_37 : decode cX2_isAbove 37 = .ok (.istore 7, 2) := by decide +kernel
theorem dX2_isAbove_39 : decode cX2_isAbove 39 = .ok (.iload 7, 2) := by decide +kernel
theorem dX2_isAbove_41 : decode cX2_isAbove 41 = .ok (.iload 4, 2) := by decide +kernel
theorem dX2_isAbove_43 : decode cX2_isAbove 43 = .ok (.if_icmp .gt 23, 3) := by decide +kernel
theorem dX2_isAbove_46 : decode cX2_isAbove 46 = .ok (.iload 6, 2) := by decide +kernel
theorem dX2_isAbove_48 : decode cX2_isAbove 48 = .ok (.aload_n 0, 1) := by decide +kernel
theorem dX2_isAbove_49 : decode cX2_isAbove 49 = .ok (.getfield 15, 3) := by decide +kernel
theorem dX2_isAbove_52 : decode cX2_isAbove 52 = .ok (.iload 7, 2) := by decide +kernel
theorem dX2_isAbove_54 : decode cX2_isAbove 54 = .ok (.iaload, 1) := by decide +kernel
theorem dX2_isAbove_55 : decode cX2_isAbove 55 = .ok (.invokestatic 76, 3) := by decide +kernel
theorem dX2_isAbove_58 : decode cX2_isAbove 58 = .ok (.istore 6, 2) := by decide +kernel
theorem dX2_isAbove_60 : decode cX2_isAbove 60 = .ok (.iinc 7 1, 3) := by decide +kernel
theorem dX2_isAbove_63 : decode cX2_isAbove 63 = .ok (.goto (-24), 3) := by decide +kernel
theorem dX2_isAbove_66 : decode cX2_isAbove 66 = .ok (.iload 5, 2) := by decide +kernel
theorem dX2_isAbove_68 : decode cX2_isAbove 68 = .ok (.iload 6, 2) := by decide +kernel
theorem dX2_isAbove_70 : decode cX2_isAbove 70 = .ok (.if_icmp .le 7, 3) := by decide +kernel
theorem dX2_isAbove_73 : decode cX2_isAbove 73 = .ok (.iconst 1, 1) := by decide +kernel
theorem dX2_isAbove_74 : decode cX2_isAbove 74 = .ok (.goto 4, 3) := by decide +kernel
theorem dX2_isAbove_77 : decode cX2_isAbove 77 = .ok (.iconst 0, 1) := by decide +kernel
theorem dX2_isAbove_78 : decode cX2_isAbove 78 = .ok (.ireturn, 1) := by decide +kernel
theorem dX2_tryOpening_0 : decode cX2_tryOpening 0 = .ok (.aload_n 0, 1) := by decide +kernel
theorem dX2_tryOpening_1 : decode cX2_tryOpening 1 = .ok (.iload_n 1, 1) := by decide +kernel
theorem dX2_tryOpening_2 : decode cX2_tryOpening 2 = .ok (.aload_n 0, 1) := by decide +kernel
theorem dX2_tryOpening_3 : decode cX2_tryOpening 3 = .ok (.getfield 31, 3) := by decide +kernel
theorem dX2_tryOpening_6 : decode cX2_tryOpening 6 = .ok (.invokevirtual 63, 3) := by decide +kernel
theorem dX2_tryOpening_9 : decode cX2_tryOpening 9 = .ok (.ifCond .eq 5, 3) := by decide +kernel
theorem dX2_tryOpening_12 : decode cX2_tryOpening 12 = .ok (.iconst (-1), 1) := by decide +kernel
theorem dX2_tryOpening_13 : decode cX2_tryOpening 13 = .ok (.ireturn, 1) := by decide +kernel
theorem dX2_tryOpening_14 : decode cX2_tryOpening 14 = .ok (.aload_n 0, 1) := by decide +kernel
theorem dX2_tryOpening_15 : decode cX2_tryOpening 15 = .ok (.iload_n 1, 1) := by decide +kernel
theorem dX2_tryOpening_16 : decode cX2_tryOpening 16 = .ok (.aload_n 0, 1) := by decide +kernel
theorem dX2_tryOpening_17 : decode cX2_tryOpening 17 = .ok (.getfield 31, 3) := by decide +kernel
theorem dX2_tryOpening_20 : decode cX2_tryOpening 20 = .ok (.invokevirtual 79, 3) := by decide +kernel
theorem dX2_tryOpening_23 : decode cX2_tryOpening 23 = .ok (.ifCond .ne 5, 3) := by decide +kernel
theorem dX2_tryOpening_26 : decode cX2_tryOpening 26 = .ok (.iconst 0, 1) := by decide +kernel
theorem dX2_tryOpening_27 : decode cX2_tryOpening 27 = .ok (.ireturn, 1) := by decide +kernel
theorem dX2_tryOpening_28 : decode cX2_tryOpening 28 = .ok (.aload_n 0, 1) := by decide +kernel
theorem dX2_tryOpening_29 : decode cX2_tryOpening 29 = .ok (.dup, 1) := by decide +kernel
theorem dX2_tryOpening_30 : decode cX2_tryOpening 30 = .ok (.getfield 31, 3) := by decide +kernel
theorem dX2_tryOpening_33 : decode cX2_tryOpening 33 = .ok (.iconst 1, 1) := by decide +kernel
theorem dX2_tryOpening_34 : decode cX2_tryOpening 34 = .ok (.iload_n 1, 1) := by decide +kernel
theorem dX2_tryOpening_35 : decode cX2_tryOpening 35 = .ok (.ishl, 1) := by decide +kernel
theorem dX2_tryOpening_36 : decode cX2_tryOpening 36 = .ok (.ior, 1) := by decide +kernel
theorem dX2_tryOpening_37 : decode cX2_tryOpening 37 = .ok (.putfield 31, 3) := by decide +kernel
theorem dX2_tryOpening_40 : decode cX2_tryOpening 40 = .ok (.iconst 1, 1) := by decide +kernel
theorem dX2_tryOpening_41 : decode cX2_tryOpening 41 = .ok (.ireturn, 1) := by decide +kernel
theorem dX2_countOrders_0 : decode cX2_countOrders 0 = .ok (.iconst 1, 1) := by decide +kernel
theorem dX2_countOrders_1 : decode cX2_countOrders 1 = .ok (.aload_n 0, 1) := by decide +kernel
theorem dX2_countOrders_2 : decode cX2_countOrders 2 = .ok (.getfield 24, 3) := by decide +kernel
theorem dX2_countOrders_5 : decode cX2_countOrders 5 = .ok (.iconst 1, 1) := by decide +kernel
theorem dX2_countOrders_6 : decode cX2_countOrders 6 = .ok (.isub, 1) := by decide +kernel
theorem dX2_countOrders_7 : decode cX2_countOrders 7 = .ok (.ishl, 1) := by decide +kernel
theorem dX2_countOrders_8 : decode cX2_countOrders 8 = .ok (.iconst 1, 1) := by decide +kernel
theorem dX2_countOrders_9 : decode cX2_countOrders 9 = .ok (.isub, 1) := by decide +kernel
theorem dX2_countOrders_10 : decode cX2_countOrders 10 = .ok (.istore_n 1, 1) := by decide +kernel
theorem dX2_countOrders_11 : decode cX2_countOrders 11 = .ok (.aload_n 0, 1) := by decide +kernel
theorem dX2_countOrders_12 : decode cX2_countOrders 12 = .ok (.getfield 21, 3) := by decide +kernel
theorem dX2_countOrders_15 : decode cX2_countOrders 15 = .ok (.iload_n 1, 1) := by decide +kernel
theorem dX2_countOrders_16 : decode cX2_countOrders 16 = .ok (.iconst 1, 1) := by decide +kernel
theorem dX2_countOrders_17 : decode cX2_countOrders 17 = .ok (.iastore, 1) := by decide +kernel
theorem dX2_countOrders_18 : decode cX2_countOrders 18 = .ok (.iload_n 1, 1) := by decide +kernel
theorem dX2_countOrders_19 : decode cX2_countOrders 19 = .ok (.iconst 1, 1) := by decide +kernel
theorem dX2_countOrders_20 : decode cX2_countOrders 20 = .ok (.isub, 1) := by decide +kernel
theorem dX2_countOrders_21 : decode cX2_countOrders 21 = .ok (.istore_n 2, 1) := by decide +kernel
theorem dX2_countOrders_22 : decode cX2_countOrders 22 = .ok (.iload_n 2, 1) := by decide +kernel
theorem dX2_countOrders_23 : decode cX2_countOrders 23 = .ok (.aload_n 0, 1) := by decide +kernel
theorem dX2_countOrders_24 : decode cX2_countOrders 24 = .ok (.getfield 31, 3) := by decide +kernel
theorem dX2_countOrders_27 : decode cX2_countOrders 27 = .ok (.if_icmp .lt 75, 3) := by decide +kernel
theorem dX2_countOrders_30 : decode cX2_countOrders 30 = .ok (.aload_n 0, 1) := by decide +kernel
theorem dX2_countOrders_31 : decode cX2_countOrders 31 = .ok (.getfield 21, 3) := by decide +kernel
theorem dX2_countOrders_34 : decode cX2_countOrders 34 = .ok (.iload_n 2, 1) := by decide +kernel
theorem dX2_countOrders_35 : decode cX2_countOrders 35 = .ok (.iconst 0, 1) := by decide +kernel
theorem dX2_countOrders_36 : decode cX2_countOrders 36 = .ok (.iastore, 1) := by decide +kernel
theorem dX2_countOrders_37 : decode cX2_countOrders 37 = .ok (.iconst 0, 1) := by decide +kernel
theorem dX2_countOrders_38 : decode cX2_countOrders 38 = .ok (.istore_n 3, 1) := by decide +kernel
theorem dX2_countOrders_39 : decode cX2_countOrders 39 = .ok (.iload_n 3, 1) := by decide +kernel
theorem dX2_countOrders_40 : decode cX2_countOrders 40 = .ok (.aload_n 0, 1) := by decide +kernel
theorem dX2_countOrders_41 : decode cX2_countOrders 41 = .ok (.getfield 24, 3) := by decide +kernel
theorem dX2_countOrders_44 : decode cX2_countOrders 44 = .ok (.iconst 1, 1) := by decide +kernel
theorem dX2_countOrders_45 : decode cX2_countOrders 45 = .ok (.isub, 1) := by decide +kernel
theorem dX2_countOrders_46 : decode cX2_countOrders 46 = .ok (.if_icmp .ge 50, 3) := by decide +kernel
theorem dX2_countOrders_49 : decode cX2_countOrders 49 = .ok (.iload_n 2, 1) := by decide +kernel
theorem dX2_countOrders_50 : decode cX2_countOrders 50 = .ok (.aload_n 0, 1) := by decide +kernel
theorem dX2_countOrders_51 : decode cX2_countOrders 51 = .ok (.getfield 31, 3) := by decide +kernel
theorem dX2_countOrders_54 : decode cX2_countOrders 54 = .ok (.iand, 1) := by decide +kernel
theorem dX2_countOrders_55 : decode cX2_countOrders 55 = .ok (.aload_n 0, 1) := by decide +kernel
theorem dX2_countOrders_56 : decode cX2_countOrders 56 = .ok (.getfield 31, 3) := by decide +kernel
theorem dX2_countOrders_59 : decode cX2_countOrders 59 = .ok (.if_icmp .ne 31, 3) := by decide +kernel
theorem dX2_countOrders_62 : decode cX2_countOrders 62 = .ok (.aload_n 0, 1) := by decide +kernel
theorem dX2_countOrders_63 : decode cX2_countOrders 63 = .ok (.iload_n 3, 1) := by decide +kernel
theorem dX2_countOrders_64 : decode cX2_countOrders 64 = .ok (.iload_n 2, 1) := by decide +kernel
theorem dX2_countOrders_65 : decode cX2_countOrders 65 = .ok (.invokevirtual 82, 3) := by decide +kernel
theorem dX2_countOrders_68 : decode cX2_countOrders 68 = .ok (.ifCond .eq 22, 3) := by decide +kernel
theorem dX2_countOrders_71 : decode cX2_countOrders 71 = .ok (.aload_n 0, 1) := by decide +kernel
theorem dX2_countOrders_72 : decode cX2_countOrders 72 = .ok (.getfield 21, 3) := by decide +kernel
theorem dX2_countOrders_75 : decode cX2_countOrders 75 = .ok (.iload_n 2, 1) := by decide +kernel
theorem dX2_countOrders_76 : decode cX2_countOrders 76 = .ok (.dup2, 1) := by decide +kernel
theorem dX2_countOrders_77 : decode cX2_countOrders 77 = .ok (.iaload, 1) := by decide +kernel
theorem dX2_countOrders_78 : decode cX2_countOrders 78 = .ok (.aload_n 0, 1) := by decide +kernel
theorem dX2_countOrders_79 : decode cX2_countOrders 79 = .ok (.getfield 21, 3) := by decide +kernel
theorem dX2_countOrders_82 : decode cX2_countOrders 82 = .ok (.iload_n 2, 1) := by decide +kernel
theorem dX2_countOrders_83 : decode cX2_countOrders 83 = .ok (.iconst 1, 1) := by decide +kernel
theorem dX2_countOrders_84 : decode cX2_countOrders 84 = .ok (.iload_n 3, 1) := by decide +kernel
theorem dX2_countOrders_85 : decode cX2_countOrders 85 = .ok (.ishl, 1) := by decide +kernel
theorem dX2_countOrders_86 : decode cX2_countOrders 86 = .ok (.ior, 1) := by decide +kernel
theorem dX2_countOrders_87 : decode cX2_countOrders 87 = .ok (.iaload, 1) := by decide +kernel
theorem dX2_countOrders_88 : decode cX2_countOrders 88 = .ok (.iadd, 1) := by decide +kernel
theorem dX2_countOrders_89 : decode cX2_countOrders 89 = .ok (.iastore, 1) := by decide +kernel
theorem dX2_countOrders_90 : decode cX2_countOrders 90 = .ok (.iinc 3 1, 3) := by decide +kernel
theorem dX2_countOrders_93 : decode cX2_countOrders 93 = .ok (.goto (-54), 3) := by decide +kernel
theorem dX2_countOrders_96 : decode cX2_countOrders 96 = .ok (.iinc 2 (-1), 3) := by decide +kernel
theorem dX2_countOrders_99 : decode cX2_countOrders 99 = .ok (.goto (-77), 3) := by decide +kernel
theorem dX2_countOrders_102 : decode cX2_countOrders 102 = .ok (.aload_n 0, 1) := by decide +kernel
theorem dX2_countOrders_103 : decode cX2_countOrders 103 = .ok (.getfield 21, 3) := by decide +kernel
theorem dX2_countOrders_106 : decode cX2_countOrders 106 = .ok (.aload_n 0, 1) := by decide +kernel
theorem dX2_countOrders_107 : decode cX2_countOrders 107 = .ok (.getfield 31, 3) := by decide +kernel
theorem dX2_countOrders_110 : decode cX2_countOrders 110 = .ok (.iaload, 1) := by decide +kernel
theorem dX2_countOrders_111 : decode cX2_countOrders 111 = .ok (.ireturn, 1) := by decide +kernel
theorem dX2_mayOpen_0 : decode cX2_mayOpen 0 = .ok (.aload_n 0, 1) := by decide +kernel
theorem dX2_mayOpen_1 : decode cX2_mayOpen 1 = .ok (.iload_n 1, 1) := by decide +kernel
theorem dX2_mayOpen_2 : decode cX2_mayOpen 2 = .ok (.iload_n 2, 1) := by decide +kernel
theorem dX2_mayOpen_3 : decode cX2_mayOpen 3 = .ok (.invokevirtual 63, 3) := by decide +kernel
theorem dX2_mayOpen_6 : decode cX2_mayOpen 6 = .ok (.ifCond .ne 16, 3) := by decide +kernel
theorem dX2_mayOpen_9 : decode cX2_mayOpen 9 = .ok (.aload_n 0, 1) := by decide +kernel
theorem dX2_mayOpen_10 : decode cX2_mayOpen 10 = .ok (.iload_n 1, 1) := by decide +kernel
theorem dX2_mayOpen_11 : decode cX2_mayOpen 11 = .ok (.iload_n 2, 1) := by decide +kernel
theorem dX2_mayOpen_12 : decode cX2_mayOpen 12 = .ok (.invokevirtual 79, 3) := by decide +kernel
theorem dX2_mayOpen_15 : decode cX2_mayOpen 15 = .ok (.ifCond .eq 7, 3) := by decide +kernel
theorem dX2_mayOpen_18 : decode cX2_mayOpen 18 = .ok (.iconst 1, 1) := by decide +kernel
theorem dX2_mayOpen_19 : decode cX2_mayOpen 19 = .ok (.goto 4, 3) := by decide +kernel
theorem dX2_mayOpen_22 : decode cX2_mayOpen 22 = .ok (.iconst 0, 1) := by decide +kernel
theorem dX2_mayOpen_23 : decode cX2_mayOpen 23 = .ok (.ireturn, 1) := by decide +kernel
theorem dX2_creaseOfFirstOrder_0 : decode cX2_creaseOfFirstOrder 0 = .ok (.aload_n 0, 1) := by decide +kernel
theorem dX2_creaseOfFirstOrder_1 : decode cX2_creaseOfFirstOrder 1 = .ok (.getfield 24, 3) := by decide +kernel
theorem dX2_creaseOfFirstOrder_4 : decode cX2_creaseOfFirstOrder 4 = .ok (.iconst 1, 1) := by decide +kernel
theorem dX2_creaseOfFirstOrder_5 : decode cX2_creaseOfFirstOrder 5 = .ok (.isub, 1) := by decide +kernel
theorem dX2_creaseOfFirstOrder_6 : decode cX2_creaseOfFirstOrder 6 = .ok (.aload_n 0, 1) := by decide +kernel
theorem dX2_creaseOfFirstOrder_7 : decode cX2_creaseOfFirstOrder 7 = .ok (.getfield 31, 3) := by decide +kernel
theorem dX2_creaseOfFirstOrder_10 : decode cX2_creaseOfFirstOrder 10 = .ok (.invokestatic 85, 3) := by decide +kernel
theorem dX2_creaseOfFirstOrder_13 : decode cX2_creaseOfFirstOrder 13 = .ok (.isub, 1) := by decide +kernel
theorem dX2_creaseOfFirstOrder_14 : decode cX2_creaseOfFirstOrder 14 = .ok (.istore_n 2, 1) := by decide +kernel
theorem dX2_creaseOfFirstOrder_15 : decode cX2_creaseOfFirstOrder 15 = .ok (.iload_n 1, 1) := by decide +kernel
theorem dX2_creaseOfFirstOrder_16 : decode cX2_creaseOfFirstOrder 16 = .ok (.ifCond .lt 15, 3) := by decide +kernel
theorem dX2_creaseOfFirstOrder_19 : decode cX2_creaseOfFirstOrder 19 = .ok (.iload_n 1, 1) := by decide +kernel
theorem dX2_creaseOfFirstOrder_20 : decode cX2_creaseOfFirstOrder 20 = .ok (.iload_n 2, 1) := by decide +kernel
theorem dX2_creaseOfFirstOrder_21 : decode cX2_creaseOfFirstOrder 21 = .ok (.if_icmp .ge 10, 3) := by decide +kernel
theorem dX2_creaseOfFirstOrder_24 : decode cX2_creaseOfFirstOrder 24 = .ok (.aload_n 0, 1) := by decide +kernel
theorem dX2_creaseOfFirstOrder_25 : decode cX2_creaseOfFirstOrder 25 = .ok (.invokevirtual 90, 3) := by decide +kernel
theorem dX2_creaseOfFirstOrder_28 : decode cX2_creaseOfFirstOrder 28 = .ok (.ifCond .ne 5, 3) := by decide +kernel
theorem dX2_creaseOfFirstOrder_31 : decode cX2_creaseOfFirstOrder 31 = .ok (.iconst (-1), 1) := by decide +kernel
theorem dX2_creaseOfFirstOrder_32 : decode cX2_creaseOfFirstOrder 32 = .ok (.ireturn, 1) := by decide +kernel
theorem dX2_creaseOfFirstOrder_33 : decode cX2_creaseOfFirstOrder 33 = .ok (.aload_n 0, 1) := by decide +kernel
theorem dX2_creaseOfFirstOrder_34 : decode cX2_creaseOfFirstOrder 34 = .ok (.getfield 31, 3) := by decide +kernel
theorem dX2_creaseOfFirstOrder_37 : decode cX2_creaseOfFirstOrder 37 = .ok (.istore_n 3, 1) := by decide +kernel
theorem dX2_creaseOfFirstOrder_38 : decode cX2_creaseOfFirstOrder 38 = .ok (.iconst (-1), 1) := by decide +kernel
theorem dX2_creaseOfFirstOrder_39 : decode cX2_creaseOfFirstOrder 39 = .ok (.istore 4, 2) := by decide +kernel
theorem dX2_creaseOfFirstOrder_41 : decode cX2_creaseOfFirstOrder 41 = .ok (.iconst 0, 1) := by decide +kernel
theorem dX2_creaseOfFirstOrder_42 : decode cX2_creaseOfFirstOrder 42 = .ok (.istore 5, 2) := by decide +kernel
theorem dX2_creaseOfFirstOrder_44 : decode cX2_creaseOfFirstOrder 44 = .ok (.iload 5, 2) := by decide +kernel
theorem dX2_creaseOfFirstOrder_46 : decode cX2_creaseOfFirstOrder 46 = .ok (.iload_n 1, 1) := by decide +kernel
theorem dX2_creaseOfFirstOrder_47 : decode cX2_creaseOfFirstOrder 47 = .ok (.if_icmp .gt 23, 3) := by decide +kernel
theorem dX2_creaseOfFirstOrder_50 : decode cX2_creaseOfFirstOrder 50 = .ok (.aload_n 0, 1) := by decide +kernel
theorem dX2_creaseOfFirstOrder_51 : decode cX2_creaseOfFirstOrder 51 = .ok (.iload_n 3, 1) := by decide +kernel
theorem dX2_creaseOfFirstOrder_52 : decode cX2_creaseOfFirstOrder 52 = .ok (.invokevirtual 94, 3) := by decide +kernel
theorem dX2_creaseOfFirstOrder_55 : decode cX2_creaseOfFirstOrder 55 = .ok (.istore 4, 2) := by decide +kernel
theorem dX2_creaseOfFirstOrder_57 : decode cX2_creaseOfFirstOrder 57 = .ok (.iload_n 3, 1) := by decide +kernel
theorem dX2_creaseOfFirstOrder_58 : decode cX2_creaseOfFirstOrder 58 = .ok (.iconst 1, 1) := by decide +kernel
theorem dX2_creaseOfFirstOrder_59 : decode cX2_creaseOfFirstOrder 59 = .ok (.iload 4, 2) := by decide +kernel
theorem dX2_creaseOfFirstOrder_61 : decode cX2_creaseOfFirstOrder 61 = .ok (.ishl, 1) := by decide +kernel
theorem dX2_creaseOfFirstOrder_62 : decode cX2_creaseOfFirstOrder 62 = .ok (.ior, 1) := by decide +kernel
theorem dX2_creaseOfFirstOrder_63 : decode cX2_creaseOfFirstOrder 63 = .ok (.istore_n 3, 1) := by decide +kernel
theorem dX2_creaseOfFirstOrder_64 : decode cX2_creaseOfFirstOrder 64 = .ok (.iinc 5 1, 3) := by decide +kernel
theorem dX2_creaseOfFirstOrder_67 : decode cX2_creaseOfFirstOrder 67 = .ok (.goto (-23), 3) := by decide +kernel
theorem dX2_creaseOfFirstOrder_70 : decode cX2_creaseOfFirstOrder 70 = .ok (.iload 4, 2) := by decide +kernel
theorem dX2_creaseOfFirstOrder_72 : decode cX2_creaseOfFirstOrder 72 = .ok (.ireturn, 1) := by decide +kernel
theorem dX2_firstSafe_0 : decode cX2_firstSafe 0 = .ok (.iconst 0, 1) := by decide +kernel
theorem dX2_firstSafe_1 : decode cX2_firstSafe 1 = .ok (.istore_n 2, 1) := by decide +kernel
theorem dX2_firstSafe_2 : decode cX2_firstSafe 2 = .ok (.iload_n 2, 1) := by decide +kernel
theorem dX2_firstSafe_3 : decode cX2_firstSafe 3 = .ok (.aload_n 0, 1) := by decide +kernel
theorem dX2_firstSafe_4 : decode cX2_firstSafe 4 = .ok (.getfield 24, 3) := by decide +kernel
theorem dX2_firstSafe_7 : decode cX2_firstSafe 7 = .ok (.iconst 2, 1) := by decide +kernel
theorem dX2_firstSafe_8 : decode cX2_firstSafe 8 = .ok (.isub, 1) := by decide +kernel
theorem dX2_firstSafe_9 : decode cX2_firstSafe 9 = .ok (.if_icmp .ge 31, 3) := by decide +kernel
theorem dX2_firstSafe_12 : decode cX2_firstSafe 12 = .ok (.aload_n 0, 1) := by decide +kernel
theorem dX2_firstSafe_13 : decode cX2_firstSafe 13 = .ok (.iload_n 2, 1) := by decide +kernel
theorem dX2_firstSafe_14 : decode cX2_firstSafe 14 = .ok (.iload_n 1, 1) := by decide +kernel
theorem dX2_firstSafe_15 : decode cX2_firstSafe 15 = .ok (.invokevirtual 82, 3) := by decide +kernel
theorem dX2_firstSafe_18 : decode cX2_firstSafe 18 = .ok (.ifCond .eq 16, 3) := by decide +kernel
theorem dX2_firstSafe_21 : decode cX2_firstSafe 21 = .ok (.aload_n 0, 1) := by decide +kernel
theorem dX2_firstSafe_22 : decode cX2_firstSafe 22 = .ok (.getfield 21, 3) := by decide +kernel
theorem dX2_firstSafe_25 : decode cX2_firstSafe 25 = .ok (.iload_n 1, 1) := by decide +kernel
theorem dX2_firstSafe_26 : decode cX2_firstSafe 26 = .ok (.iconst 1, 1) := by decide +kernel
theorem dX2_firstSafe_27 : decode cX2_firstSafe 27 = .ok (.iload_n 2, 1) := by decide +kernel
theorem dX2_firstSafe_28 : decode cX2_firstSafe 28 = .ok (.ishl, 1) := by decide +kernel
theorem dX2_firstSafe_29 : decode cX2_firstSafe 29 = .ok (.ior, 1) := by decide +kernel
theorem dX2_firstSafe_30 : decode cX2_firstSafe 30 = .ok (.iaload, 1) := by decide +kernel
theorem dX2_firstSafe_31 : decode cX2_firstSafe 31 = .ok (.ifCond .gt 9, 3) := by decide +kernel
theorem dX2_firstSafe_34 : decode cX2_firstSafe 34 = .ok (.iinc 2 1, 3) := by decide +kernel
theorem dX2_firstSafe_37 : decode cX2_firstSafe 37 = .ok (.goto (-35), 3) := by decide +kernel
theorem dX2_firstSafe_40 : decode cX2_firstSafe 40 = .ok (.iload_n 2, 1) := by decide +kernel
theorem dX2_firstSafe_41 : decode cX2_firstSafe 41 = .ok (.ireturn, 1) := by decide +kernel
theorem dX3_init_0 : decode cX3_init 0 = .ok (.aload_n 0, 1) := by decide +kernel
theorem dX3_init_1 : decode cX3_init 1 = .ok (.invokespecial 5, 3) := by decide +kernel
theorem dX3_init_4 : decode cX3_init 4 = .ok (.aload_n 0, 1) := by decide +kernel
theorem dX3_init_5 : decode cX3_init 5 = .ok (.iconst 5, 1) := by decide +kernel
theorem dX3_init_6 : decode cX3_init 6 = .ok (.newarray .int, 2) := by decide +kernel
theorem dX3_init_8 : decode cX3_init 8 = .ok (.putfield 13, 3) := by decide +kernel
theorem dX3_init_11 : decode cX3_init 11 = .ok (.aload_n 0, 1) := by decide +kernel
theorem dX3_init_12 : decode cX3_init 12 = .ok (.iconst 5, 1) := by decide +kernel
theorem dX3_init_13 : decode cX3_init 13 = .ok (.newarray .int, 2) := by decide +kernel
theorem dX3_init_15 : decode cX3_init 15 = .ok (.putfield 17, 3) := by decide +kernel
theorem dX3_init_18 : decode cX3_init 18 = .ok (.aload_n 0, 1) := by decide +kernel
theorem dX3_init_19 : decode cX3_init 19 = .ok (.bipush 6, 2) := by decide +kernel
theorem dX3_init_21 : decode cX3_init 21 = .ok (.newarray .int, 2) := by decide +kernel
theorem dX3_init_23 : decode cX3_init 23 = .ok (.putfield 20, 3) := by decide +kernel
theorem dX3_init_26 : decode cX3_init 26 = .ok (.aload_n 0, 1) := by decide +kernel
theorem dX3_init_27 : decode cX3_init 27 = .ok (.bipush 6, 2) := by decide +kernel
theorem dX3_init_29 : decode cX3_init 29 = .ok (.newarray .int, 2) := by decide +kernel
theorem dX3_init_31 : decode cX3_init 31 = .ok (.putfield 23, 3) := by decide +kernel
theorem dX3_init_34 : decode cX3_init 34 = .ok (.aload_n 0, 1) := by decide +kernel
theorem dX3_init_35 : decode cX3_init 35 = .ok (.bipush 6, 2) := by decide +kernel
theorem dX3_init_37 : decode cX3_init 37 = .ok (.newarray .int, 2) := by decide +kernel
theorem dX3_init_39 : decode cX3_init 39 = .ok (.putfield 26, 3) := by decide +kernel
theorem dX3_init_42 : decode cX3_init 42 = .ok (.aload_n 0, 1) := by decide +kernel
theorem dX3_init_43 : decode cX3_init 43 = .ok (.bipush 17, 2) := by decide +kernel
theorem dX3_init_45 : decode cX3_init 45 = .ok (.newarray .int, 2) := by decide +kernel
theorem dX3_init_47 : decode cX3_init 47 = .ok (.putfield 29, 3) := by decide +kernel
theorem dX3_init_50 : decode cX3_init 50 = .ok (.aload_n 0, 1) := by decide +kernel
theorem dX3_init_51 : decode cX3_init 51 = .ok (.sipush 340, 3) := by decide +kernel
theorem dX3_init_54 : decode cX3_init 54 = .ok (.newarray .int, 2) := by decide +kernel
theorem dX3_init_56 : decode cX3_init 56 = .ok (.putfield 32, 3) := by decide +kernel
theorem dX3_init_59 : decode cX3_init 59 = .ok (.aload_n 0, 1) := by decide +kernel
theorem dX3_init_60 : decode cX3_init 60 = .ok (.iconst 4, 1) := by decide +kernel
theorem dX3_init_61 : decode cX3_init 61 = .ok (.newarray .int, 2) := by decide +kernel
theorem dX3_init_63 : decode cX3_init 63 = .ok (.putfield 35, 3) := by decide +kernel
theorem dX3_init_66 : decode cX3_init 66 = .ok (.aload_n 0, 1) := by decide +kernel
theorem dX3_init_67 : decode cX3_init 67 = .ok (.iconst 4, 1) := by decide +kernel
theorem dX3_init_68 : decode cX3_init 68 = .ok (.newarray .int, 2) := by decide +kernel
theorem dX3_init_70 : decode cX3_init 70 = .ok (.putfield 38, 3) := by decide +kernel
theorem dX3_init_73 : decode cX3_init 73 = .ok (.aload_n 0, 1) := by decide +kernel
theorem dX3_init_74 : decode cX3_init 74 = .ok (.iconst 4, 1) := by decide +kernel
theorem dX3_init_75 : decode cX3_init 75 = .ok (.newarray .int, 2) := by decide +kernel
theorem dX3_init_77 : decode cX3_init 77 = .ok (.putfield 41, 3) := by decide +kernel
theorem dX3_init_80 : decode cX3_init 80 = .ok (.aload_n 0, 1) := by decide +kernel
theorem dX3_init_81 : decode cX3_init 81 = .ok (.sipush 625, 3) := by decide +kernel
theorem dX3_init_84 : decode cX3_init 84 = .ok (.newarray .int, 2) := by decide +kernel
theorem dX3_init_86 : decode cX3_init 86 = .ok (.putfield 44, 3) := by decide +kernel
theorem dX3_init_89 : decode cX3_init 89 = .ok (.aload_n 0, 1) := by decide +kernel
theorem dX3_init_90 : decode cX3_init 90 = .ok (.bipush 126, 2) := by decide +kernel
theorem dX3_init_92 : decode cX3_init 92 = .ok (.newarray .long, 2) := by decide +kernel
theorem dX3_init_94 : decode cX3_init 94 = .ok (.putfield 47, 3) := by decide +kernel
theorem dX3_init_97 : decode cX3_init 97 = .ok (.return_, 1) := by decide +kernel
theorem dX3_addCoat_0 : decode cX3_addCoat 0 = .ok (.aload_n 0, 1) := by decide +kernel
theorem dX3_addCoat_1 : decode cX3_addCoat 1 = .ok (.getfield 51, 3) := by decide +kernel
theorem dX3_addCoat_4 : decode cX3_addCoat 4 = .ok (.iconst 5, 1) := by decide +kernel
theorem dX3_addCoat_5 : decode cX3_addCoat 5 = .ok (.if_icmp .ne 5, 3) := by decide +kernel
theorem dX3_addCoat_8 : decode cX3_addCoat 8 = .ok (.iconst (-1), 1) := by decide +kernel
theorem dX3_addCoat_9 : decode cX3_addCoat 9 = .ok (.ireturn, 1) := by decide +kernel
theorem dX3_addCoat_10 : decode cX3_addCoat 10 = .ok (.aload_n 0, 1) := by decide +kernel
theorem dX3_addCoat_11 : decode cX3_addCoat 11 = .ok (.getfield 13, 3) := by decide +kernel
theorem dX3_addCoat_14 : decode cX3_addCoat 14 = .ok (.aload_n 0, 1) := by decide +kernel
theorem dX3_addCoat_15 : decode cX3_addCoat 15 = .ok (.getfield 51, 3) := by decide +kernel
theorem dX3_addCoat_18 : decode cX3_addCoat 18 = .ok (.iload_n 1, 1) := by decide +kernel
theorem dX3_addCoat_19 : decode cX3_addCoat 19 = .ok (.iastore, 1) := by decide +kernel
theorem dX3_addCoat_20 : decode cX3_addCoat 20 = .ok (.aload_n 0, 1) := by decide +kernel
theorem dX3_addCoat_21 : decode cX3_addCoat 21 = .ok (.getfield 17, 3) := by decide +kernel
theorem dX3_addCoat_24 : decode cX3_addCoat 24 = .ok (.aload_n 0, 1) := by decide +kernel
theorem dX3_addCoat_25 : decode cX3_addCoat 25 = .ok (.getfield 51, 3) := by decide +kernel
theorem dX3_addCoat_28 : decode cX3_addCoat 28 = .ok (.iload_n 2, 1) := by decide +kernel
theorem dX3_addCoat_29 : decode cX3_addCoat 29 = .ok (.iastore, 1) := by decide +kernel
theorem dX3_addCoat_30 : decode cX3_addCoat 30 = .ok (.aload_n 0, 1) := by decide +kernel
theorem dX3_addCoat_31 : decode cX3_addCoat 31 = .ok (.dup, 1) := by decide +kernel
theorem dX3_addCoat_32 : decode cX3_addCoat 32 = .ok (.getfield 51, 3) := by decide +kernel
theorem dX3_addCoat_35 : decode cX3_addCoat 35 = .ok (.dup_x1, 1) := by decide +kernel
theorem dX3_addCoat_36 : decode cX3_addCoat 36 = .ok (.iconst 1, 1) := by decide +kernel
theorem dX3_addCoat_37 : decode cX3_addCoat 37 = .ok (.iadd, 1) := by decide +kernel
theorem dX3_addCoat_38 : decode cX3_addCoat 38 = .ok (.putfield 51, 3) := by decide +kernel
theorem dX3_addCoat_41 : decode cX3_addCoat 41 = .ok (.ireturn, 1) := by decide +kernel
theorem dX3_addSight_0 : decode cX3_addSight 0 = .ok (.aload_n 0, 1) := by decide +kernel
theorem dX3_addSight_1 : decode cX3_addSight 1 = .ok (.getfield 55, 3) := by decide +kernel
theorem dX3_addSight_4 : decode cX3_addSight 4 = .ok (.bipush 6, 2) := by decide +kernel
theorem dX3_addSight_6 : decode cX3_addSight 6 = .ok (.if_icmp .ne 5, 3) := by decide +kernel
theorem dX3_addSight_9 : decode cX3_addSight 9 = .ok (.iconst (-1), 1) := by decide +kernel
theorem dX3_addSight_10 : decode cX3_addSight 10 = .ok (.ireturn, 1) := by decide +kernel
theorem dX3_addSight_11 : decode cX3_addSight 11 = .ok (.aload_n 0, 1) := by decide +kernel
theorem dX3_addSight_12 : decode cX3_addSight 12 = .ok (.getfield 20, 3) := by decide +kernel
theorem dX3_addSight_15 : decode cX3_addSight 15 = .ok (.aload_n 0, 1) := by decide +kernel
theorem dX3_addSight_16 : decode cX3_addSight 16 = .ok (.getfield 55, 3) := by decide +kernel
theorem dX3_addSight_19 : decode cX3_addSight 19 = .ok (.iload_n 1, 1) := by decide +kernel
theorem dX3_addSight_20 : decode cX3_addSight 20 = .ok (.iastore, 1) := by decide +kernel
theorem dX3_addSight_21 : decode cX3_addSight 21 = .ok (.aload_n 0, 1) := by decide +kernel
theorem dX3_addSight_22 : decode cX3_addSight 22 = .ok (.getfield 23, 3) := by decide +kernel
theorem dX3_addSight_25 : decode cX3_addSight 25 = .ok (.aload_n 0, 1) := by decide +kernel
theorem dX3_addSight_26 : decode cX3_addSight 26 = .ok (.getfield 55, 3) := by decide +kernel
theorem dX3_addSight_29 : decode cX3_addSight 29 = .ok (.iload_n 2, 1) := by decide +kernel
theorem dX3_addSight_30 : decode cX3_addSight 30 = .ok (.iastore, 1) := by decide +kernel
theorem dX3_addSight_31 : decode cX3_addSight 31 = .ok (.aload_n 0, 1) := by decide +kernel
theorem dX3_addSight_32 : decode cX3_addSight 32 = .ok (.getfield 26, 3) := by decide +kernel
theorem dX3_addSight_35 : decode cX3_addSight 35 = .ok (.aload_n 0, 1) := by decide +kernel
theorem dX3_addSight_36 : decode cX3_addSight 36 = .ok (.getfield 55, 3) := by decide +kernel
theorem dX3_addSight_39 : decode cX3_addSight 39 = .ok (.iload_n 3, 1) := by decide +kernel
theorem dX3_addSight_40 : decode cX3_addSight 40 = .ok (.iastore, 1) := by decide +kernel
theorem dX3_addSight_41 : decode cX3_addSight 41 = .ok (.aload_n 0, 1) := by decide +kernel
theorem dX3_addSight_42 : decode cX3_addSight 42 = .ok (.dup, 1) := by decide +kernel
theorem dX3_addSight_43 : decode cX3_addSight 43 = .ok (.getfield 55, 3) := by decide +kernel
theorem dX3_addSight_46 : decode cX3_addSight 46 = .ok (.iconst 1, 1) := by decide +kernel
theorem dX3_addSight_47 : decode cX3_addSight 47 = .ok (.iadd, 1) := by decide +kernel
theorem dX3_addSight_48 : decode cX3_addSight 48 = .ok (.putfield 55, 3) := by decide +kernel
theorem dX3_addSight_51 : decode cX3_addSight 51 = .ok (.aload_n 0, 1) := by decide +kernel
theorem dX3_addSight_52 : decode cX3_addSight 52 = .ok (.getfield 55, 3) := by decide +kernel
theorem dX3_addSight_55 : decode cX3_addSight 55 = .ok (.ireturn, 1) := by decide +kernel
theorem dX3_findFits_0 : decode cX3_findFits 0 = .ok (.aload_n 0, 1) := by decide +kernel
theorem dX3_findFits_1 : decode cX3_findFits 1 = .ok (.iconst 0, 1) := by decide +kernel
theorem dX3_findFits_2 : decode cX3_findFits 2 = .ok (.putfield 58, 3) := by decide +kernel
theorem dX3_findFits_5 : decode cX3_findFits 5 = .ok (.aload_n 0, 1) := by decide +kernel
theorem dX3_findFits_6 : decode cX3_findFits 6 = .ok (.aload_n 1, 1) := by decide +kernel
theorem dX3_findFits_7 : decode cX3_findFits 7 = .ok (.iload_n 2, 1) := by decide +kernel
theorem dX3_findFits_8 : decode cX3_findFits 8 = .ok (.invokevirtual 61, 3) := by decide +kernel
theorem dX3_findFits_11 : decode cX3_findFits 11 = .ok (.iconst 0, 1) := by decide +kernel
theorem dX3_findFits_12 : decode cX3_findFits 12 = .ok (.istore_n 3, 1) := by decide +kernel
theorem dX3_findFits_13 : decode cX3_findFits 13 = .ok (.iload_n 3, 1) := by decide +kernel
theorem dX3_findFits_14 : decode cX3_findFits 14 = .ok (.iload_n 2, 1) := by decide +kernel
theorem dX3_findFits_15 : decode cX3_findFits 15 = .ok (.if_icmp .ge 28, 3) := by decide +kernel
theorem dX3_findFits_18 : decode cX3_findFits 18 = .ok (.aload_n 0, 1) := by decide +kernel
theorem dX3_findFits_19 : decode cX3_findFits 19 = .ok (.getfield 35, 3) := by decide +kernel
theorem dX3_findFits_22 : decode cX3_findFits 22 = .ok (.iload_n 3, 1) := by decide +kernel
theorem dX3_findFits_23 : decode cX3_findFits 23 = .ok (.iconst 0, 1) := by decide +kernel
