theorem dX6_readRule_51 : decode cX6_readRule 51 = .ok (.aload_n 0, 1) := by decide +kernel
theorem dX6_readRule_52 : decode cX6_readRule 52 = .ok (.invokevirtual 50, 3) := by decide +kernel
theorem dX6_readRule_55 : decode cX6_readRule 55 = .ok (.aload_n 0, 1) := by decide +kernel
theorem dX6_readRule_56 : decode cX6_readRule 56 = .ok (.sipush 303, 3) := by decide +kernel
theorem dX6_readRule_59 : decode cX6_readRule 59 = .ok (.invokevirtual 73, 3) := by decide +kernel
theorem dX6_readRule_62 : decode cX6_readRule 62 = .ok (.aload_n 0, 1) := by decide +kernel
theorem dX6_readRule_63 : decode cX6_readRule 63 = .ok (.invokevirtual 76, 3) := by decide +kernel
theorem dX6_readRule_66 : decode cX6_readRule 66 = .ok (.aload_n 0, 1) := by decide +kernel
theorem dX6_readRule_67 : decode cX6_readRule 67 = .ok (.bipush 59, 2) := by decide +kernel
theorem dX6_readRule_69 : decode cX6_readRule 69 = .ok (.invokevirtual 73, 3) := by decide +kernel
theorem dX6_readRule_72 : decode cX6_readRule 72 = .ok (.aload_n 0, 1) := by decide +kernel
theorem dX6_readRule_73 : decode cX6_readRule 73 = .ok (.getfield 22, 3) := by decide +kernel
theorem dX6_readRule_76 : decode cX6_readRule 76 = .ok (.iload_n 1, 1) := by decide +kernel
theorem dX6_readRule_77 : decode cX6_readRule 77 = .ok (.invokevirtual 79, 3) := by decide +kernel
theorem dX6_readRule_80 : decode cX6_readRule 80 = .ok (.return_, 1) := by decide +kernel
theorem dX6_demand_0 : decode cX6_demand 0 = .ok (.aload_n 0, 1) := by decide +kernel
theorem dX6_demand_1 : decode cX6_demand 1 = .ok (.getfield 57, 3) := by decide +kernel
theorem dX6_demand_4 : decode cX6_demand 4 = .ok (.iload_n 1, 1) := by decide +kernel
theorem dX6_demand_5 : decode cX6_demand 5 = .ok (.if_icmp .eq 11, 3) := by decide +kernel
theorem dX6_demand_8 : decode cX6_demand 8 = .ok (.aload_n 0, 1) := by decide +kernel
theorem dX6_demand_9 : decode cX6_demand 9 = .ok (.iconst 1, 1) := by decide +kernel
theorem dX6_demand_10 : decode cX6_demand 10 = .ok (.invokevirtual 66, 3) := by decide +kernel
theorem dX6_demand_13 : decode cX6_demand 13 = .ok (.goto 14, 3) := by decide +kernel
theorem dX6_demand_16 : decode cX6_demand 16 = .ok (.aload_n 0, 1) := by decide +kernel
theorem dX6_demand_17 : decode cX6_demand 17 = .ok (.invokevirtual 53, 3) := by decide +kernel
theorem dX6_demand_20 : decode cX6_demand 20 = .ok (.ifCond .eq 7, 3) := by decide +kernel
theorem dX6_demand_23 : decode cX6_demand 23 = .ok (.aload_n 0, 1) := by decide +kernel
theorem dX6_demand_24 : decode cX6_demand 24 = .ok (.invokevirtual 50, 3) := by decide +kernel
theorem dX6_demand_27 : decode cX6_demand 27 = .ok (.return_, 1) := by decide +kernel
theorem dX6_enter_0 : decode cX6_enter 0 = .ok (.aload_n 0, 1) := by decide +kernel
theorem dX6_enter_1 : decode cX6_enter 1 = .ok (.getfield 44, 3) := by decide +kernel
theorem dX6_enter_4 : decode cX6_enter 4 = .ok (.bipush 6, 2) := by decide +kernel
theorem dX6_enter_6 : decode cX6_enter 6 = .ok (.if_icmp .lt 11, 3) := by decide +kernel
theorem dX6_enter_9 : decode cX6_enter 9 = .ok (.aload_n 0, 1) := by decide +kernel
theorem dX6_enter_10 : decode cX6_enter 10 = .ok (.iconst 3, 1) := by decide +kernel
theorem dX6_enter_11 : decode cX6_enter 11 = .ok (.invokevirtual 66, 3) := by decide +kernel
theorem dX6_enter_14 : decode cX6_enter 14 = .ok (.goto 17, 3) := by decide +kernel
theorem dX6_enter_17 : decode cX6_enter 17 = .ok (.aload_n 0, 1) := by decide +kernel
theorem dX6_enter_18 : decode cX6_enter 18 = .ok (.dup, 1) := by decide +kernel
theorem dX6_enter_19 : decode cX6_enter 19 = .ok (.getfield 44, 3) := by decide +kernel
theorem dX6_enter_22 : decode cX6_enter 22 = .ok (.iconst 1, 1) := by decide +kernel
theorem dX6_enter_23 : decode cX6_enter 23 = .ok (.iadd, 1) := by decide +kernel
theorem dX6_enter_24 : decode cX6_enter 24 = .ok (.putfield 44, 3) := by decide +kernel
theorem dX6_enter_27 : decode cX6_enter 27 = .ok (.aload_n 0, 1) := by decide +kernel
theorem dX6_enter_28 : decode cX6_enter 28 = .ok (.invokevirtual 50, 3) := by decide +kernel
theorem dX6_enter_31 : decode cX6_enter 31 = .ok (.return_, 1) := by decide +kernel
theorem dX6_readChoice_0 : decode cX6_readChoice 0 = .ok (.aload_n 0, 1) := by decide +kernel
theorem dX6_readChoice_1 : decode cX6_readChoice 1 = .ok (.invokevirtual 82, 3) := by decide +kernel
theorem dX6_readChoice_4 : decode cX6_readChoice 4 = .ok (.iconst 0, 1) := by decide +kernel
theorem dX6_readChoice_5 : decode cX6_readChoice 5 = .ok (.istore_n 1, 1) := by decide +kernel
theorem dX6_readChoice_6 : decode cX6_readChoice 6 = .ok (.iload_n 1, 1) := by decide +kernel
theorem dX6_readChoice_7 : decode cX6_readChoice 7 = .ok (.aload_n 0, 1) := by decide +kernel
theorem dX6_readChoice_8 : decode cX6_readChoice 8 = .ok (.getfield 35, 3) := by decide +kernel
theorem dX6_readChoice_11 : decode cX6_readChoice 11 = .ok (.if_icmp .ge 44, 3) := by decide +kernel
theorem dX6_readChoice_14 : decode cX6_readChoice 14 = .ok (.aload_n 0, 1) := by decide +kernel
theorem dX6_readChoice_15 : decode cX6_readChoice 15 = .ok (.invokevirtual 53, 3) := by decide +kernel
theorem dX6_readChoice_18 : decode cX6_readChoice 18 = .ok (.ifCond .eq 37, 3) := by decide +kernel
theorem dX6_readChoice_21 : decode cX6_readChoice 21 = .ok (.aload_n 0, 1) := by decide +kernel
theorem dX6_readChoice_22 : decode cX6_readChoice 22 = .ok (.getfield 57, 3) := by decide +kernel
theorem dX6_readChoice_25 : decode cX6_readChoice 25 = .ok (.sipush 304, 3) := by decide +kernel
theorem dX6_readChoice_28 : decode cX6_readChoice 28 = .ok (.if_icmp .ne 27, 3) := by decide +kernel
theorem dX6_readChoice_31 : decode cX6_readChoice 31 = .ok (.aload_n 0, 1) := by decide +kernel
theorem dX6_readChoice_32 : decode cX6_readChoice 32 = .ok (.invokevirtual 50, 3) := by decide +kernel
theorem dX6_readChoice_35 : decode cX6_readChoice 35 = .ok (.aload_n 0, 1) := by decide +kernel
theorem dX6_readChoice_36 : decode cX6_readChoice 36 = .ok (.invokevirtual 82, 3) := by decide +kernel
theorem dX6_readChoice_39 : decode cX6_readChoice 39 = .ok (.aload_n 0, 1) := by decide +kernel
theorem dX6_readChoice_40 : decode cX6_readChoice 40 = .ok (.getfield 22, 3) := by decide +kernel
theorem dX6_readChoice_43 : decode cX6_readChoice 43 = .ok (.sipush (-304), 3) := by decide +kernel
theorem dX6_readChoice_46 : decode cX6_readChoice 46 = .ok (.invokevirtual 85, 3) := by decide +kernel
theorem dX6_readChoice_49 : decode cX6_readChoice 49 = .ok (.iinc 1 1, 3) := by decide +kernel
theorem dX6_readChoice_52 : decode cX6_readChoice 52 = .ok (.goto (-46), 3) := by decide +kernel
theorem dX6_readChoice_55 : decode cX6_readChoice 55 = .ok (.return_, 1) := by decide +kernel
theorem dX6_readBoth_0 : decode cX6_readBoth 0 = .ok (.aload_n 0, 1) := by decide +kernel
theorem dX6_readBoth_1 : decode cX6_readBoth 1 = .ok (.invokevirtual 88, 3) := by decide +kernel
theorem dX6_readBoth_4 : decode cX6_readBoth 4 = .ok (.iconst 0, 1) := by decide +kernel
theorem dX6_readBoth_5 : decode cX6_readBoth 5 = .ok (.istore_n 1, 1) := by decide +kernel
theorem dX6_readBoth_6 : decode cX6_readBoth 6 = .ok (.iload_n 1, 1) := by decide +kernel
theorem dX6_readBoth_7 : decode cX6_readBoth 7 = .ok (.aload_n 0, 1) := by decide +kernel
theorem dX6_readBoth_8 : decode cX6_readBoth 8 = .ok (.getfield 35, 3) := by decide +kernel
theorem dX6_readBoth_11 : decode cX6_readBoth 11 = .ok (.if_icmp .ge 44, 3) := by decide +kernel
theorem dX6_readBoth_14 : decode cX6_readBoth 14 = .ok (.aload_n 0, 1) := by decide +kernel
theorem dX6_readBoth_15 : decode cX6_readBoth 15 = .ok (.invokevirtual 53, 3) := by decide +kernel
theorem dX6_readBoth_18 : decode cX6_readBoth 18 = .ok (.ifCond .eq 37, 3) := by decide +kernel
theorem dX6_readBoth_21 : decode cX6_readBoth 21 = .ok (.aload_n 0, 1) := by decide +kernel
theorem dX6_readBoth_22 : decode cX6_readBoth 22 = .ok (.getfield 57, 3) := by decide +kernel
theorem dX6_readBoth_25 : decode cX6_readBoth 25 = .ok (.sipush 305, 3) := by decide +kernel
theorem dX6_readBoth_28 : decode cX6_readBoth 28 = .ok (.if_icmp .ne 27, 3) := by decide +kernel
theorem dX6_readBoth_31 : decode cX6_readBoth 31 = .ok (.aload_n 0, 1) := by decide +kernel
theorem dX6_readBoth_32 : decode cX6_readBoth 32 = .ok (.invokevirtual 50, 3) := by decide +kernel
theorem dX6_readBoth_35 : decode cX6_readBoth 35 = .ok (.aload_n 0, 1) := by decide +kernel
theorem dX6_readBoth_36 : decode cX6_readBoth 36 = .ok (.invokevirtual 88, 3) := by decide +kernel
theorem dX6_readBoth_39 : decode cX6_readBoth 39 = .ok (.aload_n 0, 1) := by decide +kernel
theorem dX6_readBoth_40 : decode cX6_readBoth 40 = .ok (.getfield 22, 3) := by decide +kernel
theorem dX6_readBoth_43 : decode cX6_readBoth 43 = .ok (.sipush (-305), 3) := by decide +kernel
theorem dX6_readBoth_46 : decode cX6_readBoth 46 = .ok (.invokevirtual 85, 3) := by decide +kernel
theorem dX6_readBoth_49 : decode cX6_readBoth 49 = .ok (.iinc 1 1, 3) := by decide +kernel
theorem dX6_readBoth_52 : decode cX6_readBoth 52 = .ok (.goto (-46), 3) := by decide +kernel
theorem dX6_readBoth_55 : decode cX6_readBoth 55 = .ok (.return_, 1) := by decide +kernel
theorem dX6_readTest_0 : decode cX6_readTest 0 = .ok (.aload_n 0, 1) := by decide +kernel
theorem dX6_readTest_1 : decode cX6_readTest 1 = .ok (.invokevirtual 53, 3) := by decide +kernel
theorem dX6_readTest_4 : decode cX6_readTest 4 = .ok (.ifCond .ne 4, 3) := by decide +kernel
theorem dX6_readTest_7 : decode cX6_readTest 7 = .ok (.return_, 1) := by decide +kernel
theorem dX6_readTest_8 : decode cX6_readTest 8 = .ok (.aload_n 0, 1) := by decide +kernel
theorem dX6_readTest_9 : decode cX6_readTest 9 = .ok (.getfield 57, 3) := by decide +kernel
theorem dX6_readTest_12 : decode cX6_readTest 12 = .ok (.sipush 306, 3) := by decide +kernel
theorem dX6_readTest_15 : decode cX6_readTest 15 = .ok (.if_icmp .ne 34, 3) := by decide +kernel
theorem dX6_readTest_18 : decode cX6_readTest 18 = .ok (.aload_n 0, 1) := by decide +kernel
theorem dX6_readTest_19 : decode cX6_readTest 19 = .ok (.invokevirtual 91, 3) := by decide +kernel
theorem dX6_readTest_22 : decode cX6_readTest 22 = .ok (.aload_n 0, 1) := by decide +kernel
theorem dX6_readTest_23 : decode cX6_readTest 23 = .ok (.invokevirtual 88, 3) := by decide +kernel
theorem dX6_readTest_26 : decode cX6_readTest 26 = .ok (.aload_n 0, 1) := by decide +kernel
theorem dX6_readTest_27 : decode cX6_readTest 27 = .ok (.dup, 1) := by decide +kernel
theorem dX6_readTest_28 : decode cX6_readTest 28 = .ok (.getfield 44, 3) := by decide +kernel
theorem dX6_readTest_31 : decode cX6_readTest 31 = .ok (.iconst 1, 1) := by decide +kernel
theorem dX6_readTest_32 : decode cX6_readTest 32 = .ok (.isub, 1) := by decide +kernel
theorem dX6_readTest_33 : decode cX6_readTest 33 = .ok (.putfield 44, 3) := by decide +kernel
theorem dX6_readTest_36 : decode cX6_readTest 36 = .ok (.aload_n 0, 1) := by decide +kernel
theorem dX6_readTest_37 : decode cX6_readTest 37 = .ok (.getfield 22, 3) := by decide +kernel
theorem dX6_readTest_40 : decode cX6_readTest 40 = .ok (.sipush (-306), 3) := by decide +kernel
theorem dX6_readTest_43 : decode cX6_readTest 43 = .ok (.invokevirtual 85, 3) := by decide +kernel
theorem dX6_readTest_46 : decode cX6_readTest 46 = .ok (.goto 65, 3) := by decide +kernel
theorem dX6_readTest_49 : decode cX6_readTest 49 = .ok (.aload_n 0, 1) := by decide +kernel
theorem dX6_readTest_50 : decode cX6_readTest 50 = .ok (.getfield 57, 3) := by decide +kernel
theorem dX6_readTest_53 : decode cX6_readTest 53 = .ok (.bipush 91, 2) := by decide +kernel
theorem dX6_readTest_55 : decode cX6_readTest 55 = .ok (.if_icmp .ne 30, 3) := by decide +kernel
theorem dX6_readTest_58 : decode cX6_readTest 58 = .ok (.aload_n 0, 1) := by decide +kernel
theorem dX6_readTest_59 : decode cX6_readTest 59 = .ok (.invokevirtual 91, 3) := by decide +kernel
theorem dX6_readTest_62 : decode cX6_readTest 62 = .ok (.aload_n 0, 1) := by decide +kernel
theorem dX6_readTest_63 : decode cX6_readTest 63 = .ok (.invokevirtual 76, 3) := by decide +kernel
theorem dX6_readTest_66 : decode cX6_readTest 66 = .ok (.aload_n 0, 1) := by decide +kernel
theorem dX6_readTest_67 : decode cX6_readTest 67 = .ok (.bipush 93, 2) := by decide +kernel
theorem dX6_readTest_69 : decode cX6_readTest 69 = .ok (.invokevirtual 73, 3) := by decide +kernel
theorem dX6_readTest_72 : decode cX6_readTest 72 = .ok (.aload_n 0, 1) := by decide +kernel
theorem dX6_readTest_73 : decode cX6_readTest 73 = .ok (.dup, 1) := by decide +kernel
theorem dX6_readTest_74 : decode cX6_readTest 74 = .ok (.getfield 44, 3) := by decide +kernel
theorem dX6_readTest_77 : decode cX6_readTest 77 = .ok (.iconst 1, 1) := by decide +kernel
theorem dX6_readTest_78 : decode cX6_readTest 78 = .ok (.isub, 1) := by decide +kernel
theorem dX6_readTest_79 : decode cX6_readTest 79 = .ok (.putfield 44, 3) := by decide +kernel
theorem dX6_readTest_82 : decode cX6_readTest 82 = .ok (.goto 29, 3) := by decide +kernel
theorem dX6_readTest_85 : decode cX6_readTest 85 = .ok (.aload_n 0, 1) := by decide +kernel
theorem dX6_readTest_86 : decode cX6_readTest 86 = .ok (.invokevirtual 94, 3) := by decide +kernel
theorem dX6_readTest_89 : decode cX6_readTest 89 = .ok (.aload_n 0, 1) := by decide +kernel
theorem dX6_readTest_90 : decode cX6_readTest 90 = .ok (.getfield 57, 3) := by decide +kernel
theorem dX6_readTest_93 : decode cX6_readTest 93 = .ok (.istore_n 1, 1) := by decide +kernel
theorem dX6_readTest_94 : decode cX6_readTest 94 = .ok (.aload_n 0, 1) := by decide +kernel
theorem dX6_readTest_95 : decode cX6_readTest 95 = .ok (.invokevirtual 97, 3) := by decide +kernel
theorem dX6_readTest_98 : decode cX6_readTest 98 = .ok (.aload_n 0, 1) := by decide +kernel
theorem dX6_readTest_99 : decode cX6_readTest 99 = .ok (.invokevirtual 94, 3) := by decide +kernel
theorem dX6_readTest_102 : decode cX6_readTest 102 = .ok (.aload_n 0, 1) := by decide +kernel
theorem dX6_readTest_103 : decode cX6_readTest 103 = .ok (.getfield 22, 3) := by decide +kernel
theorem dX6_readTest_106 : decode cX6_readTest 106 = .ok (.iload_n 1, 1) := by decide +kernel
theorem dX6_readTest_107 : decode cX6_readTest 107 = .ok (.ineg, 1) := by decide +kernel
theorem dX6_readTest_108 : decode cX6_readTest 108 = .ok (.invokevirtual 85, 3) := by decide +kernel
theorem dX6_readTest_111 : decode cX6_readTest 111 = .ok (.return_, 1) := by decide +kernel
theorem dX6_demandComparing_0 : decode cX6_demandComparing 0 = .ok (.aload_n 0, 1) := by decide +kernel
theorem dX6_demandComparing_1 : decode cX6_demandComparing 1 = .ok (.getfield 57, 3) := by decide +kernel
theorem dX6_demandComparing_4 : decode cX6_demandComparing 4 = .ok (.bipush 60, 2) := by decide +kernel
theorem dX6_demandComparing_6 : decode cX6_demandComparing 6 = .ok (.if_icmp .eq 29, 3) := by decide +kernel
theorem dX6_demandComparing_9 : decode cX6_demandComparing 9 = .ok (.aload_n 0, 1) := by decide +kernel
theorem dX6_demandComparing_10 : decode cX6_demandComparing 10 = .ok (.getfield 57, 3) := by decide +kernel
theorem dX6_demandComparing_13 : decode cX6_demandComparing 13 = .ok (.bipush 62, 2) := by decide +kernel
theorem dX6_demandComparing_15 : decode cX6_demandComparing 15 = .ok (.if_icmp .eq 20, 3) := by decide +kernel
theorem dX6_demandComparing_18 : decode cX6_demandComparing 18 = .ok (.aload_n 0, 1) := by decide +kernel
theorem dX6_demandComparing_19 : decode cX6_demandComparing 19 = .ok (.getfield 57, 3) := by decide +kernel
theorem dX6_demandComparing_22 : decode cX6_demandComparing 22 = .ok (.bipush 61, 2) := by decide +kernel
theorem dX6_demandComparing_24 : decode cX6_demandComparing 24 = .ok (.if_icmp .eq 11, 3) := by decide +kernel
theorem dX6_demandComparing_27 : decode cX6_demandComparing 27 = .ok (.aload_n 0, 1) := by decide +kernel
theorem dX6_demandComparing_28 : decode cX6_demandComparing 28 = .ok (.iconst 1, 1) := by decide +kernel
theorem dX6_demandComparing_29 : decode cX6_demandComparing 29 = .ok (.invokevirtual 66, 3) := by decide +kernel
theorem dX6_demandComparing_32 : decode cX6_demandComparing 32 = .ok (.goto 14, 3) := by decide +kernel
theorem dX6_demandComparing_35 : decode cX6_demandComparing 35 = .ok (.aload_n 0, 1) := by decide +kernel
theorem dX6_demandComparing_36 : decode cX6_demandComparing 36 = .ok (.invokevirtual 53, 3) := by decide +kernel
theorem dX6_demandComparing_39 : decode cX6_demandComparing 39 = .ok (.ifCond .eq 7, 3) := by decide +kernel
theorem dX6_demandComparing_42 : decode cX6_demandComparing 42 = .ok (.aload_n 0, 1) := by decide +kernel
theorem dX6_demandComparing_43 : decode cX6_demandComparing 43 = .ok (.invokevirtual 50, 3) := by decide +kernel
theorem dX6_demandComparing_46 : decode cX6_demandComparing 46 = .ok (.return_, 1) := by decide +kernel
theorem dX6_readSum_0 : decode cX6_readSum 0 = .ok (.aload_n 0, 1) := by decide +kernel
theorem dX6_readSum_1 : decode cX6_readSum 1 = .ok (.invokevirtual 100, 3) := by decide +kernel
theorem dX6_readSum_4 : decode cX6_readSum 4 = .ok (.iconst 0, 1) := by decide +kernel
theorem dX6_readSum_5 : decode cX6_readSum 5 = .ok (.istore_n 1, 1) := by decide +kernel
theorem dX6_readSum_6 : decode cX6_readSum 6 = .ok (.iload_n 1, 1) := by decide +kernel
theorem dX6_readSum_7 : decode cX6_readSum 7 = .ok (.aload_n 0, 1) := by decide +kernel
theorem dX6_readSum_8 : decode cX6_readSum 8 = .ok (.getfield 35, 3) := by decide +kernel
theorem dX6_readSum_11 : decode cX6_readSum 11 = .ok (.if_icmp .ge 56, 3) := by decide +kernel
theorem dX6_readSum_14 : decode cX6_readSum 14 = .ok (.aload_n 0, 1) := by decide +kernel
theorem dX6_readSum_15 : decode cX6_readSum 15 = .ok (.invokevirtual 53, 3) := by decide +kernel
theorem dX6_readSum_18 : decode cX6_readSum 18 = .ok (.ifCond .eq 49, 3) := by decide +kernel
theorem dX6_readSum_21 : decode cX6_readSum 21 = .ok (.aload_n 0, 1) := by decide +kernel
theorem dX6_readSum_22 : decode cX6_readSum 22 = .ok (.getfield 57, 3) := by decide +kernel
theorem dX6_readSum_25 : decode cX6_readSum 25 = .ok (.bipush 43, 2) := by decide +kernel
theorem dX6_readSum_27 : decode cX6_readSum 27 = .ok (.if_icmp .eq 12, 3) := by decide +kernel
theorem dX6_readSum_30 : decode cX6_readSum 30 = .ok (.aload_n 0, 1) := by decide +kernel
theorem dX6_readSum_31 : decode cX6_readSum 31 = .ok (.getfield 57, 3) := by decide +kernel
theorem dX6_readSum_34 : decode cX6_readSum 34 = .ok (.bipush 45, 2) := by decide +kernel
theorem dX6_readSum_36 : decode cX6_readSum 36 = .ok (.if_icmp .ne 31, 3) := by decide +kernel
theorem dX6_readSum_39 : decode cX6_readSum 39 = .ok (.aload_n 0, 1) := by decide +kernel
theorem dX6_readSum_40 : decode cX6_readSum 40 = .ok (.getfield 57, 3) := by decide +kernel
theorem dX6_readSum_43 : decode cX6_readSum 43 = .ok (.istore_n 2, 1) := by decide +kernel
theorem dX6_readSum_44 : decode cX6_readSum 44 = .ok (.aload_n 0, 1) := by decide +kernel
theorem dX6_readSum_45 : decode cX6_readSum 45 = .ok (.invokevirtual 50, 3) := by decide +kernel
theorem dX6_readSum_48 : decode cX6_readSum 48 = .ok (.aload_n 0, 1) := by decide +kernel
theorem dX6_readSum_49 : decode cX6_readSum 49 = .ok (.invokevirtual 100, 3) := by decide +kernel
theorem dX6_readSum_52 : decode cX6_readSum 52 = .ok (.aload_n 0, 1) := by decide +kernel
theorem dX6_readSum_53 : decode cX6_readSum 53 = .ok (.getfield 22, 3) := by decide +kernel
theorem dX6_readSum_56 : decode cX6_readSum 56 = .ok (.iload_n 2, 1) := by decide +kernel
theorem dX6_readSum_57 : decode cX6_readSum 57 = .ok (.ineg, 1) := by decide +kernel
theorem dX6_readSum_58 : decode cX6_readSum 58 = .ok (.invokevirtual 85, 3) := by decide +kernel
theorem dX6_readSum_61 : decode cX6_readSum 61 = .ok (.iinc 1 1, 3) := by decide +kernel
theorem dX6_readSum_64 : decode cX6_readSum 64 = .ok (.goto (-58), 3) := by decide +kernel
theorem dX6_readSum_67 : decode cX6_readSum 67 = .ok (.return_, 1) := by decide +kernel
theorem dX6_readProduct_0 : decode cX6_readProduct 0 = .ok (.aload_n 0, 1) := by decide +kernel
theorem dX6_readProduct_1 : decode cX6_readProduct 1 = .ok (.invokevirtual 103, 3) := by decide +kernel
theorem dX6_readProduct_4 : decode cX6_readProduct 4 = .ok (.iconst 0, 1) := by decide +kernel
theorem dX6_readProduct_5 : decode cX6_readProduct 5 = .ok (.istore_n 1, 1) := by decide +kernel
theorem dX6_readProduct_6 : decode cX6_readProduct 6 = .ok (.iload_n 1, 1) := by decide +kernel
theorem dX6_readProduct_7 : decode cX6_readProduct 7 = .ok (.aload_n 0, 1) := by decide +kernel
theorem dX6_readProduct_8 : decode cX6_readProduct 8 = .ok (.getfield 35, 3) := by decide +kernel
theorem dX6_readProduct_11 : decode cX6_readProduct 11 = .ok (.if_icmp .ge 56, 3) := by decide +kernel
theorem dX6_readProduct_14 : decode cX6_readProduct 14 = .ok (.aload_n 0, 1) := by decide +kernel
theorem dX6_readProduct_15 : decode cX6_readProduct 15 = .ok (.invokevirtual 53, 3) := by decide +kernel
theorem dX6_readProduct_18 : decode cX6_readProduct 18 = .ok (.ifCond .eq 49, 3) := by decide +kernel
theorem dX6_readProduct_21 : decode cX6_readProduct 21 = .ok (.aload_n 0, 1) := by decide +kernel
theorem dX6_readProduct_22 : decode cX6_readProduct 22 = .ok (.getfield 57, 3) := by decide +kernel
theorem dX6_readProduct_25 : decode cX6_readProduct 25 = .ok (.bipush 42, 2) := by decide +kernel
theorem dX6_readProduct_27 : decode cX6_readProduct 27 = .ok (.if_icmp .eq 12, 3) := by decide +kernel
theorem dX6_readProduct_30 : decode cX6_readProduct 30 = .ok (.aload_n 0, 1) := by decide +kernel
theorem dX6_readProduct_31 : decode cX6_readProduct 31 = .ok (.getfield 57, 3) := by decide +kernel
theorem dX6_readProduct_34 : decode cX6_readProduct 34 = .ok (.bipush 47, 2) := by decide +kernel
theorem dX6_readProduct_36 : decode cX6_readProduct 36 = .ok (.if_icmp .ne 31, 3) := by decide +kernel
theorem dX6_readProduct_39 : decode cX6_readProduct 39 = .ok (.aload_n 0, 1) := by decide +kernel
theorem dX6_readProduct_40 : decode cX6_readProduct 40 = .ok (.getfield 57, 3) := by decide +kernel
theorem dX6_readProduct_43 : decode cX6_readProduct 43 = .ok (.istore_n 2, 1) := by decide +kernel
theorem dX6_readProduct_44 : decode cX6_readProduct 44 = .ok (.aload_n 0, 1) := by decide +kernel
theorem dX6_readProduct_45 : decode cX6_readProduct 45 = .ok (.invokevirtual 50, 3) := by decide +kernel
theorem dX6_readProduct_48 : decode cX6_readProduct 48 = .ok (.aload_n 0, 1) := by decide +kernel
theorem dX6_readProduct_49 : decode cX6_readProduct 49 = .ok (.invokevirtual 103, 3) := by decide +kernel
theorem dX6_readProduct_52 : decode cX6_readProduct 52 = .ok (.aload_n 0, 1) := by decide +kernel
theorem dX6_readProduct_53 : decode cX6_readProduct 53 = .ok (.getfield 22, 3) := by decide +kernel
theorem dX6_readProduct_56 : decode cX6_readProduct 56 = .ok (.iload_n 2, 1) := by decide +kernel
theorem dX6_readProduct_57 : decode cX6_readProduct 57 = .ok (.ineg, 1) := by decide +kernel
theorem dX6_readProduct_58 : decode cX6_readProduct 58 = .ok (.invokevirtual 85, 3) := by decide +kernel
theorem dX6_readProduct_61 : decode cX6_readProduct 61 = .ok (.iinc 1 1, 3) := by decide +kernel
theorem dX6_readProduct_64 : decode cX6_readProduct 64 = .ok (.goto (-58), 3) := by decide +kernel
theorem dX6_readProduct_67 : decode cX6_readProduct 67 = .ok (.return_, 1) := by decide +kernel
theorem dX6_readUnit_0 : decode cX6_readUnit 0 = .ok (.aload_n 0, 1) := by decide +kernel
theorem dX6_readUnit_1 : decode cX6_readUnit 1 = .ok (.invokevirtual 53, 3) := by decide +kernel
theorem dX6_readUnit_4 : decode cX6_readUnit 4 = .ok (.ifCond .ne 4, 3) := by decide +kernel
theorem dX6_readUnit_7 : decode cX6_readUnit 7 = .ok (.return_, 1) := by decide +kernel
theorem dX6_readUnit_8 : decode cX6_readUnit 8 = .ok (.aload_n 0, 1) := by decide +kernel
theorem dX6_readUnit_9 : decode cX6_readUnit 9 = .ok (.getfield 57, 3) := by decide +kernel
theorem dX6_readUnit_12 : decode cX6_readUnit 12 = .ok (.sipush 317, 3) := by decide +kernel
theorem dX6_readUnit_15 : decode cX6_readUnit 15 = .ok (.if_icmp .ne 10, 3) := by decide +kernel
theorem dX6_readUnit_18 : decode cX6_readUnit 18 = .ok (.aload_n 0, 1) := by decide +kernel
theorem dX6_readUnit_19 : decode cX6_readUnit 19 = .ok (.invokevirtual 106, 3) := by decide +kernel
theorem dX6_readUnit_22 : decode cX6_readUnit 22 = .ok (.goto 114, 3) := by decide +kernel
theorem dX6_readUnit_25 : decode cX6_readUnit 25 = .ok (.aload_n 0, 1) := by decide +kernel
theorem dX6_readUnit_26 : decode cX6_readUnit 26 = .ok (.getfield 57, 3) := by decide +kernel
theorem dX6_readUnit_29 : decode cX6_readUnit 29 = .ok (.sipush 307, 3) := by decide +kernel
theorem dX6_readUnit_32 : decode cX6_readUnit 32 = .ok (.if_icmp .lt 32, 3) := by decide +kernel
theorem dX6_readUnit_35 : decode cX6_readUnit 35 = .ok (.aload_n 0, 1) := by decide +kernel
theorem dX6_readUnit_36 : decode cX6_readUnit 36 = .ok (.getfield 57, 3) := by decide +kernel
theorem dX6_readUnit_39 : decode cX6_readUnit 39 = .ok (.sipush 313, 3) := by decide +kernel
theorem dX6_readUnit_42 : decode cX6_readUnit 42 = .ok (.if_icmp .gt 22, 3) := by decide +kernel
theorem dX6_readUnit_45 : decode cX6_readUnit 45 = .ok (.aload_n 0, 1) := by decide +kernel
theorem dX6_readUnit_46 : decode cX6_readUnit 46 = .ok (.getfield 22, 3) := by decide +kernel
theorem dX6_readUnit_49 : decode cX6_readUnit 49 = .ok (.aload_n 0, 1) := by decide +kernel
theorem dX6_readUnit_50 : decode cX6_readUnit 50 = .ok (.getfield 57, 3) := by decide +kernel
theorem dX6_readUnit_53 : decode cX6_readUnit 53 = .ok (.ineg, 1) := by decide +kernel
theorem dX6_readUnit_54 : decode cX6_readUnit 54 = .ok (.invokevirtual 85, 3) := by decide +kernel
theorem dX6_readUnit_57 : decode cX6_readUnit 57 = .ok (.aload_n 0, 1) := by decide +kernel
theorem dX6_readUnit_58 : decode cX6_readUnit 58 = .ok (.invokevirtual 50, 3) := by decide +kernel
theorem dX6_readUnit_61 : decode cX6_readUnit 61 = .ok (.goto 75, 3) := by decide +kernel
theorem dX6_readUnit_64 : decode cX6_readUnit 64 = .ok (.aload_n 0, 1) := by decide +kernel
theorem dX6_readUnit_65 : decode cX6_readUnit 65 = .ok (.getfield 57, 3) := by decide +kernel
theorem dX6_readUnit_68 : decode cX6_readUnit 68 = .ok (.bipush 40, 2) := by decide +kernel
theorem dX6_readUnit_70 : decode cX6_readUnit 70 = .ok (.if_icmp .ne 30, 3) := by decide +kernel
theorem dX6_readUnit_73 : decode cX6_readUnit 73 = .ok (.aload_n 0, 1) := by decide +kernel
theorem dX6_readUnit_74 : decode cX6_readUnit 74 = .ok (.invokevirtual 91, 3) := by decide +kernel
theorem dX6_readUnit_77 : decode cX6_readUnit 77 = .ok (.aload_n 0, 1) := by decide +kernel
theorem dX6_readUnit_78 : decode cX6_readUnit 78 = .ok (.invokevirtual 94, 3) := by decide +kernel
theorem dX6_readUnit_81 : decode cX6_readUnit 81 = .ok (.aload_n 0, 1) := by decide +kernel
theorem dX6_readUnit_82 : decode cX6_readUnit 82 = .ok (.bipush 41, 2) := by decide +kernel
theorem dX6_readUnit_84 : decode cX6_readUnit 84 = .ok (.invokevirtual 73, 3) := by decide +kernel
theorem dX6_readUnit_87 : decode cX6_readUnit 87 = .ok (.aload_n 0, 1) := by decide +kernel
theorem dX6_readUnit_88 : decode cX6_readUnit 88 = .ok (.dup, 1) := by decide +kernel
theorem dX6_readUnit_89 : decode cX6_readUnit 89 = .ok (.getfield 44, 3) := by decide +kernel
theorem dX6_readUnit_92 : decode cX6_readUnit 92 = .ok (.iconst 1, 1) := by decide +kernel
theorem dX6_readUnit_93 : decode cX6_readUnit 93 = .ok (.isub, 1) := by decide +kernel
theorem dX6_readUnit_94 : decode cX6_readUnit 94 = .ok (.putfield 44, 3) := by decide +kernel
theorem dX6_readUnit_97 : decode cX6_readUnit 97 = .ok (.goto 39, 3) := by decide +kernel
theorem dX6_readUnit_100 : decode cX6_readUnit 100 = .ok (.aload_n 0, 1) := by decide +kernel
theorem dX6_readUnit_101 : decode cX6_readUnit 101 = .ok (.getfield 57, 3) := by decide +kernel
theorem dX6_readUnit_104 : decode cX6_readUnit 104 = .ok (.sipush 314, 3) := by decide +kernel
theorem dX6_readUnit_107 : decode cX6_readUnit 107 = .ok (.if_icmp .eq 13, 3) := by decide +kernel
theorem dX6_readUnit_110 : decode cX6_readUnit 110 = .ok (.aload_n 0, 1) := by decide +kernel
theorem dX6_readUnit_111 : decode cX6_readUnit 111 = .ok (.getfield 57, 3) := by decide +kernel
theorem dX6_readUnit_114 : decode cX6_readUnit 114 = .ok (.sipush 315, 3) := by decide +kernel
theorem dX6_readUnit_117 : decode cX6_readUnit 117 = .ok (.if_icmp .ne 14, 3) := by decide +kernel
theorem dX6_readUnit_120 : decode cX6_readUnit 120 = .ok (.aload_n 0, 1) := by decide +kernel
theorem dX6_readUnit_121 : decode cX6_readUnit 121 = .ok (.aload_n 0, 1) := by decide +kernel
theorem dX6_readUnit_122 : decode cX6_readUnit 122 = .ok (.getfield 57, 3) := by decide +kernel
theorem dX6_readUnit_125 : decode cX6_readUnit 125 = .ok (.invokevirtual 109, 3) := by decide +kernel
theorem dX6_readUnit_128 : decode cX6_readUnit 128 = .ok (.goto 8, 3) := by decide +kernel
theorem dX6_readUnit_131 : decode cX6_readUnit 131 = .ok (.aload_n 0, 1) := by decide +kernel
theorem dX6_readUnit_132 : decode cX6_readUnit 132 = .ok (.iconst 1, 1) := by decide +kernel
theorem dX6_readUnit_133 : decode cX6_readUnit 133 = .ok (.invokevirtual 66, 3) := by decide +kernel
theorem dX6_readUnit_136 : decode cX6_readUnit 136 = .ok (.return_, 1) := by decide +kernel
theorem dX6_readNumber_0 : decode cX6_readNumber 0 = .ok (.aload_n 0, 1) := by decide +kernel
theorem dX6_readNumber_1 : decode cX6_readNumber 1 = .ok (.getfield 112, 3) := by decide +kernel
theorem dX6_readNumber_4 : decode cX6_readNumber 4 = .ok (.sipush 9999, 3) := by decide +kernel
theorem dX6_readNumber_7 : decode cX6_readNumber 7 = .ok (.if_icmp .le 11, 3) := by decide +kernel
theorem dX6_readNumber_10 : decode cX6_readNumber 10 = .ok (.aload_n 0, 1) := by decide +kernel
theorem dX6_readNumber_11 : decode cX6_readNumber 11 = .ok (.iconst 2, 1) := by decide +kernel
theorem dX6_readNumber_12 : decode cX6_readNumber 12 = .ok (.invokevirtual 66, 3) := by decide +kernel
theorem dX6_readNumber_15 : decode cX6_readNumber 15 = .ok (.goto 18, 3) := by decide +kernel
theorem dX6_readNumber_18 : decode cX6_readNumber 18 = .ok (.aload_n 0, 1) := by decide +kernel
theorem dX6_readNumber_19 : decode cX6_readNumber 19 = .ok (.getfield 22, 3) := by decide +kernel
theorem dX6_readNumber_22 : decode cX6_readNumber 22 = .ok (.aload_n 0, 1) := by decide +kernel
theorem dX6_readNumber_23 : decode cX6_readNumber 23 = .ok (.getfield 112, 3) := by decide +kernel
theorem dX6_readNumber_26 : decode cX6_readNumber 26 = .ok (.invokevirtual 85, 3) := by decide +kernel
theorem dX6_readNumber_29 : decode cX6_readNumber 29 = .ok (.aload_n 0, 1) := by decide +kernel
theorem dX6_readNumber_30 : decode cX6_readNumber 30 = .ok (.invokevirtual 50, 3) := by decide +kernel
theorem dX6_readNumber_33 : decode cX6_readNumber 33 = .ok (.return_, 1) := by decide +kernel
theorem dX6_readPair_0 : decode cX6_readPair 0 = .ok (.aload_n 0, 1) := by decide +kernel
theorem dX6_readPair_1 : decode cX6_readPair 1 = .ok (.invokevirtual 50, 3) := by decide +kernel
theorem dX6_readPair_4 : decode cX6_readPair 4 = .ok (.aload_n 0, 1) := by decide +kernel
theorem dX6_readPair_5 : decode cX6_readPair 5 = .ok (.getfield 57, 3) := by decide +kernel
theorem dX6_readPair_8 : decode cX6_readPair 8 = .ok (.bipush 40, 2) := by decide +kernel
theorem dX6_readPair_10 : decode cX6_readPair 10 = .ok (.if_icmp .eq 9, 3) := by decide +kernel
theorem dX6_readPair_13 : decode cX6_readPair 13 = .ok (.aload_n 0, 1) := by decide +kernel
theorem dX6_readPair_14 : decode cX6_readPair 14 = .ok (.iconst 1, 1) := by decide +kernel
theorem dX6_readPair_15 : decode cX6_readPair 15 = .ok (.invokevirtual 66, 3) := by decide +kernel
theorem dX6_readPair_18 : decode cX6_readPair 18 = .ok (.return_, 1) := by decide +kernel
theorem dX6_readPair_19 : decode cX6_readPair 19 = .ok (.aload_n 0, 1) := by decide +kernel
theorem dX6_readPair_20 : decode cX6_readPair 20 = .ok (.invokevirtual 91, 3) := by decide +kernel
theorem dX6_readPair_23 : decode cX6_readPair 23 = .ok (.aload_n 0, 1) := by decide +kernel
theorem dX6_readPair_24 : decode cX6_readPair 24 = .ok (.invokevirtual 94, 3) := by decide +kernel
theorem dX6_readPair_27 : decode cX6_readPair 27 = .ok (.aload_n 0, 1) := by decide +kernel
theorem dX6_readPair_28 : decode cX6_readPair 28 = .ok (.bipush 44, 2) := by decide +kernel
theorem dX6_readPair_30 : decode cX6_readPair 30 = .ok (.invokevirtual 73, 3) := by decide +kernel
theorem dX6_readPair_33 : decode cX6_readPair 33 = .ok (.aload_n 0, 1) := by decide +kernel
theorem dX6_readPair_34 : decode cX6_readPair 34 = .ok (.invokevirtual 94, 3) := by decide +kernel
theorem dX6_readPair_37 : decode cX6_readPair 37 = .ok (.aload_n 0, 1) := by decide +kernel
theorem dX6_readPair_38 : decode cX6_readPair 38 = .ok (.bipush 41, 2) := by decide +kernel
theorem dX6_readPair_40 : decode cX6_readPair 40 = .ok (.invokevirtual 73, 3) := by decide +kernel
theorem dX6_readPair_43 : decode cX6_readPair 43 = .ok (.aload_n 0, 1) := by decide +kernel
theorem dX6_readPair_44 : decode cX6_readPair 44 = .ok (.dup, 1) := by decide +kernel
theorem dX6_readPair_45 : decode cX6_readPair 45 = .ok (.getfield 44, 3) := by decide +kernel
theorem dX6_readPair_48 : decode cX6_readPair 48 = .ok (.iconst 1, 1) := by decide +kernel
theorem dX6_readPair_49 : decode cX6_readPair 49 = .ok (.isub, 1) := by decide +kernel
theorem dX6_readPair_50 : decode cX6_readPair 50 = .ok (.putfield 44, 3) := by decide +kernel
theorem dX6_readPair_53 : decode cX6_readPair 53 = .ok (.aload_n 0, 1) := by decide +kernel
theorem dX6_readPair_54 : decode cX6_readPair 54 = .ok (.getfield 22, 3) := by decide +kernel
theorem dX6_readPair_57 : decode cX6_readPair 57 = .ok (.iload_n 1, 1) := by decide +kernel
theorem dX6_readPair_58 : decode cX6_readPair 58 = .ok (.ineg, 1) := by decide +kernel
theorem dX6_readPair_59 : decode cX6_readPair 59 = .ok (.invokevirtual 85, 3) := by decide +kernel
theorem dX6_readPair_62 : decode cX6_readPair 62 = .ok (.return_, 1) := by decide +kernel
theorem dX6_scan_0 : decode cX6_scan 0 = .ok (.aload_n 0, 1) := by decide +kernel
theorem dX6_scan_1 : decode cX6_scan 1 = .ok (.aload_n 0, 1) := by decide +kernel
theorem dX6_scan_2 : decode cX6_scan 2 = .ok (.getfield 41, 3) := by decide +kernel
theorem dX6_scan_5 : decode cX6_scan 5 = .ok (.putfield 63, 3) := by decide +kernel
theorem dX6_scan_8 : decode cX6_scan 8 = .ok (.aload_n 0, 1) := by decide +kernel
theorem dX6_scan_9 : decode cX6_scan 9 = .ok (.getfield 63, 3) := by decide +kernel
theorem dX6_scan_12 : decode cX6_scan 12 = .ok (.aload_n 0, 1) := by decide +kernel
theorem dX6_scan_13 : decode cX6_scan 13 = .ok (.getfield 35, 3) := by decide +kernel
theorem dX6_scan_16 : decode cX6_scan 16 = .ok (.if_icmp .ge 30, 3) := by decide +kernel
theorem dX6_scan_19 : decode cX6_scan 19 = .ok (.aload_n 0, 1) := by decide +kernel
theorem dX6_scan_20 : decode cX6_scan 20 = .ok (.getfield 11, 3) := by decide +kernel
theorem dX6_scan_23 : decode cX6_scan 23 = .ok (.aload_n 0, 1) := by decide +kernel
theorem dX6_scan_24 : decode cX6_scan 24 = .ok (.getfield 63, 3) := by decide +kernel
theorem dX6_scan_27 : decode cX6_scan 27 = .ok (.iaload, 1) := by decide +kernel
theorem dX6_scan_28 : decode cX6_scan 28 = .ok (.bipush 32, 2) := by decide +kernel
theorem dX6_scan_30 : decode cX6_scan 30 = .ok (.if_icmp .ne 16, 3) := by decide +kernel
theorem dX6_scan_33 : decode cX6_scan 33 = .ok (.aload_n 0, 1) := by decide +kernel
theorem dX6_scan_34 : decode cX6_scan 34 = .ok (.dup, 1) := by decide +kernel
theorem dX6_scan_35 : decode cX6_scan 35 = .ok (.getfield 63, 3) := by decide +kernel
theorem dX6_scan_38 : decode cX6_scan 38 = .ok (.iconst 1, 1) := by decide +kernel
theorem dX6_scan_39 : decode cX6_scan 39 = .ok (.iadd, 1) := by decide +kernel
theorem dX6_scan_40 : decode cX6_scan 40 = .ok (.putfield 63, 3) := by decide +kernel
theorem dX6_scan_43 : decode cX6_scan 43 = .ok (.goto (-35), 3) := by decide +kernel
theorem dX6_scan_46 : decode cX6_scan 46 = .ok (.aload_n 0, 1) := by decide +kernel
theorem dX6_scan_47 : decode cX6_scan 47 = .ok (.aload_n 0, 1) := by decide +kernel
theorem dX6_scan_48 : decode cX6_scan 48 = .ok (.getfield 63, 3) := by decide +kernel
theorem dX6_scan_51 : decode cX6_scan 51 = .ok (.putfield 41, 3) := by decide +kernel
theorem dX6_scan_54 : decode cX6_scan 54 = .ok (.aload_n 0, 1) := by decide +kernel
theorem dX6_scan_55 : decode cX6_scan 55 = .ok (.getfield 63, 3) := by decide +kernel
theorem dX6_scan_58 : decode cX6_scan 58 = .ok (.aload_n 0, 1) := by decide +kernel
theorem dX6_scan_59 : decode cX6_scan 59 = .ok (.getfield 35, 3) := by decide +kernel
theorem dX6_scan_62 : decode cX6_scan 62 = .ok (.if_icmp .lt 13, 3) := by decide +kernel
theorem dX6_scan_65 : decode cX6_scan 65 = .ok (.aload_n 0, 1) := by decide +kernel
theorem dX6_scan_66 : decode cX6_scan 66 = .ok (.sipush 318, 3) := by decide +kernel
theorem dX6_scan_69 : decode cX6_scan 69 = .ok (.putfield 57, 3) := by decide +kernel
theorem dX6_scan_72 : decode cX6_scan 72 = .ok (.goto 96, 3) := by decide +kernel
theorem dX6_scan_75 : decode cX6_scan 75 = .ok (.aload_n 0, 1) := by decide +kernel
theorem dX6_scan_76 : decode cX6_scan 76 = .ok (.getfield 11, 3) := by decide +kernel
theorem dX6_scan_79 : decode cX6_scan 79 = .ok (.aload_n 0, 1) := by decide +kernel
theorem dX6_scan_80 : decode cX6_scan 80 = .ok (.getfield 63, 3) := by decide +kernel
theorem dX6_scan_83 : decode cX6_scan 83 = .ok (.iaload, 1) := by decide +kernel
theorem dX6_scan_84 : decode cX6_scan 84 = .ok (.bipush 97, 2) := by decide +kernel
theorem dX6_scan_86 : decode cX6_scan 86 = .ok (.if_icmp .lt 24, 3) := by decide +kernel
theorem dX6_scan_89 : decode cX6_scan 89 = .ok (.aload_n 0, 1) := by decide +kernel
theorem dX6_scan_90 : decode cX6_scan 90 = .ok (.getfield 11, 3) := by decide +kernel
theorem dX6_scan_93 : decode cX6_scan 93 = .ok (.aload_n 0, 1) := by decide +kernel
theorem dX6_scan_94 : decode cX6_scan 94 = .ok (.getfield 63, 3) := by decide +kernel
theorem dX6_scan_97 : decode cX6_scan 97 = .ok (.iaload, 1) := by decide +kernel
theorem dX6_scan_98 : decode cX6_scan 98 = .ok (.bipush 122, 2) := by decide +kernel
theorem dX6_scan_100 : decode cX6_scan 100 = .ok (.if_icmp .gt 10, 3) := by decide +kernel
theorem dX6_scan_103 : decode cX6_scan 103 = .ok (.aload_n 0, 1) := by decide +kernel
theorem dX6_scan_104 : decode cX6_scan 104 = .ok (.invokevirtual 115, 3) := by decide +kernel
theorem dX6_scan_107 : decode cX6_scan 107 = .ok (.goto 61, 3) := by decide +kernel
theorem dX6_scan_110 : decode cX6_scan 110 = .ok (.aload_n 0, 1) := by decide +kernel
theorem dX6_scan_111 : decode cX6_scan 111 = .ok (.getfield 11, 3) := by decide +kernel
theorem dX6_scan_114 : decode cX6_scan 114 = .ok (.aload_n 0, 1) := by decide +kernel
theorem dX6_scan_115 : decode cX6_scan 115 = .ok (.getfield 63, 3) := by decide +kernel
theorem dX6_scan_118 : decode cX6_scan 118 = .ok (.iaload, 1) := by decide +kernel
theorem dX6_scan_119 : decode cX6_scan 119 = .ok (.bipush 48, 2) := by decide +kernel
theorem dX6_scan_121 : decode cX6_scan 121 = .ok (.if_icmp .lt 24, 3) := by decide +kernel
theorem dX6_scan_124 : decode cX6_scan 124 = .ok (.aload_n 0, 1) := by decide +kernel
theorem dX6_scan_125 : decode cX6_scan 125 = .ok (.getfield 11, 3) := by decide +kernel
theorem dX6_scan_128 : decode cX6_scan 128 = .ok (.aload_n 0, 1) := by decide +kernel
theorem dX6_scan_129 : decode cX6_scan 129 = .ok (.getfield 63, 3) := by decide +kernel
theorem dX6_scan_132 : decode cX6_scan 132 = .ok (.iaload, 1) := by decide +kernel
theorem dX6_scan_133 : decode cX6_scan 133 = .ok (.bipush 57, 2) := by decide +kernel
theorem dX6_scan_135 : decode cX6_scan 135 = .ok (.if_icmp .gt 10, 3) := by decide +kernel
theorem dX6_scan_138 : decode cX6_scan 138 = .ok (.aload_n 0, 1) := by decide +kernel
theorem dX6_scan_139 : decode cX6_scan 139 = .ok (.invokevirtual 118, 3) := by decide +kernel
theorem dX6_scan_142 : decode cX6_scan 142 = .ok (.goto 26, 3) := by decide +kernel
theorem dX6_scan_145 : decode cX6_scan 145 = .ok (.aload_n 0, 1) := by decide +kernel
theorem dX6_scan_146 : decode cX6_scan 146 = .ok (.aload_n 0, 1) := by decide +kernel
theorem dX6_scan_147 : decode cX6_scan 147 = .ok (.getfield 11, 3) := by decide +kernel
theorem dX6_scan_150 : decode cX6_scan 150 = .ok (.aload_n 0, 1) := by decide +kernel
theorem dX6_scan_151 : decode cX6_scan 151 = .ok (.getfield 63, 3) := by decide +kernel
theorem dX6_scan_154 : decode cX6_scan 154 = .ok (.iaload, 1) := by decide +kernel
theorem dX6_scan_155 : decode cX6_scan 155 = .ok (.putfield 57, 3) := by decide +kernel
theorem dX6_scan_158 : decode cX6_scan 158 = .ok (.aload_n 0, 1) := by decide +kernel
theorem dX6_scan_159 : decode cX6_scan 159 = .ok (.aload_n 0, 1) := by decide +kernel
theorem dX6_scan_160 : decode cX6_scan 160 = .ok (.getfield 63, 3) := by decide +kernel
theorem dX6_scan_163 : decode cX6_scan 163 = .ok (.iconst 1, 1) := by decide +kernel
theorem dX6_scan_164 : decode cX6_scan 164 = .ok (.iadd, 1) := by decide +kernel
theorem dX6_scan_165 : decode cX6_scan 165 = .ok (.putfield 41, 3) := by decide +kernel
theorem dX6_scan_168 : decode cX6_scan 168 = .ok (.return_, 1) := by decide +kernel
theorem dX6_scanWord_0 : decode cX6_scanWord 0 = .ok (.aload_n 0, 1) := by decide +kernel
theorem dX6_scanWord_1 : decode cX6_scanWord 1 = .ok (.getfield 41, 3) := by decide +kernel
theorem dX6_scanWord_4 : decode cX6_scanWord 4 = .ok (.aload_n 0, 1) := by decide +kernel
theorem dX6_scanWord_5 : decode cX6_scanWord 5 = .ok (.getfield 35, 3) := by decide +kernel
theorem dX6_scanWord_8 : decode cX6_scanWord 8 = .ok (.if_icmp .ge 44, 3) := by decide +kernel
theorem dX6_scanWord_11 : decode cX6_scanWord 11 = .ok (.aload_n 0, 1) := by decide +kernel
theorem dX6_scanWord_12 : decode cX6_scanWord 12 = .ok (.getfield 11, 3) := by decide +kernel
theorem dX6_scanWord_15 : decode cX6_scanWord 15 = .ok (.aload_n 0, 1) := by decide +kernel
theorem dX6_scanWord_16 : decode cX6_scanWord 16 = .ok (.getfield 41, 3) := by decide +kernel
theorem dX6_scanWord_19 : decode cX6_scanWord 19 = .ok (.iaload, 1) := by decide +kernel
theorem dX6_scanWord_20 : decode cX6_scanWord 20 = .ok (.bipush 97, 2) := by decide +kernel
theorem dX6_scanWord_22 : decode cX6_scanWord 22 = .ok (.if_icmp .lt 30, 3) := by decide +kernel
theorem dX6_scanWord_25 : decode cX6_scanWord 25 = .ok (.aload_n 0, 1) := by decide +kernel
theorem dX6_scanWord_26 : decode cX6_scanWord 26 = .ok (.getfield 11, 3) := by decide +kernel
theorem dX6_scanWord_29 : decode cX6_scanWord 29 = .ok (.aload_n 0, 1) := by decide +kernel
theorem dX6_scanWord_30 : decode cX6_scanWord 30 = .ok (.getfield 41, 3) := by decide +kernel
theorem dX6_scanWord_33 : decode cX6_scanWord 33 = .ok (.iaload, 1) := by decide +kernel
theorem dX6_scanWord_34 : decode cX6_scanWord 34 = .ok (.bipush 122, 2) := by decide +kernel
theorem dX6_scanWord_36 : decode cX6_scanWord 36 = .ok (.if_icmp .gt 16, 3) := by decide +kernel
theorem dX6_scanWord_39 : decode cX6_scanWord 39 = .ok (.aload_n 0, 1) := by decide +kernel
theorem dX6_scanWord_40 : decode cX6_scanWord 40 = .ok (.dup, 1) := by decide +kernel
theorem dX6_scanWord_41 : decode cX6_scanWord 41 = .ok (.getfield 41, 3) := by decide +kernel
theorem dX6_scanWord_44 : decode cX6_scanWord 44 = .ok (.iconst 1, 1) := by decide +kernel
theorem dX6_scanWord_45 : decode cX6_scanWord 45 = .ok (.iadd, 1) := by decide +kernel
theorem dX6_scanWord_46 : decode cX6_scanWord 46 = .ok (.putfield 41, 3) := by decide +kernel
theorem dX6_scanWord_49 : decode cX6_scanWord 49 = .ok (.goto (-49), 3) := by decide +kernel
theorem dX6_scanWord_52 : decode cX6_scanWord 52 = .ok (.aload_n 0, 1) := by decide +kernel
theorem dX6_scanWord_53 : decode cX6_scanWord 53 = .ok (.sipush 316, 3) := by decide +kernel
theorem dX6_scanWord_56 : decode cX6_scanWord 56 = .ok (.putfield 57, 3) := by decide +kernel
theorem dX6_scanWord_59 : decode cX6_scanWord 59 = .ok (.iconst 0, 1) := by decide +kernel
theorem dX6_scanWord_60 : decode cX6_scanWord 60 = .ok (.istore_n 1, 1) := by decide +kernel
theorem dX6_scanWord_61 : decode cX6_scanWord 61 = .ok (.iload_n 1, 1) := by decide +kernel
theorem dX6_scanWord_62 : decode cX6_scanWord 62 = .ok (.bipush 16, 2) := by decide +kernel
theorem dX6_scanWord_64 : decode cX6_scanWord 64 = .ok (.if_icmp .ge 105, 3) := by decide +kernel
theorem dX6_scanWord_67 : decode cX6_scanWord 67 = .ok (.aload_n 0, 1) := by decide +kernel
theorem dX6_scanWord_68 : decode cX6_scanWord 68 = .ok (.getfield 41, 3) := by decide +kernel
theorem dX6_scanWord_71 : decode cX6_scanWord 71 = .ok (.aload_n 0, 1) := by decide +kernel
theorem dX6_scanWord_72 : decode cX6_scanWord 72 = .ok (.getfield 63, 3) := by decide +kernel
theorem dX6_scanWord_75 : decode cX6_scanWord 75 = .ok (.isub, 1) := by decide +kernel
theorem dX6_scanWord_76 : decode cX6_scanWord 76 = .ok (.iconst 5, 1) := by decide +kernel
theorem dX6_scanWord_77 : decode cX6_scanWord 77 = .ok (.if_icmp .gt 92, 3) := by decide +kernel
theorem dX6_scanWord_80 : decode cX6_scanWord 80 = .ok (.iconst 0, 1) := by decide +kernel
theorem dX6_scanWord_81 : decode cX6_scanWord 81 = .ok (.istore_n 2, 1) := by decide +kernel
theorem dX6_scanWord_82 : decode cX6_scanWord 82 = .ok (.iconst 0, 1) := by decide +kernel
theorem dX6_scanWord_83 : decode cX6_scanWord 83 = .ok (.istore_n 3, 1) := by decide +kernel
theorem dX6_scanWord_84 : decode cX6_scanWord 84 = .ok (.iload_n 3, 1) := by decide +kernel
theorem dX6_scanWord_85 : decode cX6_scanWord 85 = .ok (.iconst 5, 1) := by decide +kernel
theorem dX6_scanWord_86 : decode cX6_scanWord 86 = .ok (.if_icmp .ge 63, 3) := by decide +kernel
theorem dX6_scanWord_89 : decode cX6_scanWord 89 = .ok (.aload_n 0, 1) := by decide +kernel
theorem dX6_scanWord_90 : decode cX6_scanWord 90 = .ok (.getfield 63, 3) := by decide +kernel
theorem dX6_scanWord_93 : decode cX6_scanWord 93 = .ok (.iload_n 3, 1) := by decide +kernel
theorem dX6_scanWord_94 : decode cX6_scanWord 94 = .ok (.iadd, 1) := by decide +kernel
theorem dX6_scanWord_95 : decode cX6_scanWord 95 = .ok (.aload_n 0, 1) := by decide +kernel
theorem dX6_scanWord_96 : decode cX6_scanWord 96 = .ok (.getfield 41, 3) := by decide +kernel
theorem dX6_scanWord_99 : decode cX6_scanWord 99 = .ok (.if_icmp .ge 17, 3) := by decide +kernel
theorem dX6_scanWord_102 : decode cX6_scanWord 102 = .ok (.aload_n 0, 1) := by decide +kernel
theorem dX6_scanWord_103 : decode cX6_scanWord 103 = .ok (.getfield 11, 3) := by decide +kernel
theorem dX6_scanWord_106 : decode cX6_scanWord 106 = .ok (.aload_n 0, 1) := by decide +kernel
theorem dX6_scanWord_107 : decode cX6_scanWord 107 = .ok (.getfield 63, 3) := by decide +kernel
theorem dX6_scanWord_110 : decode cX6_scanWord 110 = .ok (.iload_n 3, 1) := by decide +kernel
theorem dX6_scanWord_111 : decode cX6_scanWord 111 = .ok (.iadd, 1) := by decide +kernel
theorem dX6_scanWord_112 : decode cX6_scanWord 112 = .ok (.iaload, 1) := by decide +kernel
theorem dX6_scanWord_113 : decode cX6_scanWord 113 = .ok (.goto 5, 3) := by decide +kernel
theorem dX6_scanWord_116 : decode cX6_scanWord 116 = .ok (.bipush 32, 2) := by decide +kernel
theorem dX6_scanWord_118 : decode cX6_scanWord 118 = .ok (.istore 4, 2) := by decide +kernel
theorem dX6_scanWord_120 : decode cX6_scanWord 120 = .ok (.iload_n 2, 1) := by decide +kernel
theorem dX6_scanWord_121 : decode cX6_scanWord 121 = .ok (.iload 4, 2) := by decide +kernel
theorem dX6_scanWord_123 : decode cX6_scanWord 123 = .ok (.ldc 121, 2) := by decide +kernel
theorem dX6_scanWord_125 : decode cX6_scanWord 125 = .ok (.iload_n 1, 1) := by decide +kernel
theorem dX6_scanWord_126 : decode cX6_scanWord 126 = .ok (.iconst 5, 1) := by decide +kernel
theorem dX6_scanWord_127 : decode cX6_scanWord 127 = .ok (.imul, 1) := by decide +kernel
theorem dX6_scanWord_128 : decode cX6_scanWord 128 = .ok (.iload_n 3, 1) := by decide +kernel
theorem dX6_scanWord_129 : decode cX6_scanWord 129 = .ok (.iadd, 1) := by decide +kernel
theorem dX6_scanWord_130 : decode cX6_scanWord 130 = .ok (.invokevirtual 123, 3) := by decide +kernel
theorem dX6_scanWord_133 : decode cX6_scanWord 133 = .ok (.if_icmp .ne 7, 3) := by decide +kernel
theorem dX6_scanWord_136 : decode cX6_scanWord 136 = .ok (.iconst 1, 1) := by decide +kernel
theorem dX6_scanWord_137 : decode cX6_scanWord 137 = .ok (.goto 4, 3) := by decide +kernel
theorem dX6_scanWord_140 : decode cX6_scanWord 140 = .ok (.iconst 0, 1) := by decide +kernel
theorem dX6_scanWord_141 : decode cX6_scanWord 141 = .ok (.iadd, 1) := by decide +kernel
theorem dX6_scanWord_142 : decode cX6_scanWord 142 = .ok (.istore_n 2, 1) := by decide +kernel
theorem dX6_scanWord_143 : decode cX6_scanWord 143 = .ok (.iinc 3 1, 3) := by decide +kernel
theorem dX6_scanWord_146 : decode cX6_scanWord 146 = .ok (.goto (-62), 3) := by decide +kernel
theorem dX6_scanWord_149 : decode cX6_scanWord 149 = .ok (.iload_n 2, 1) := by decide +kernel
theorem dX6_scanWord_150 : decode cX6_scanWord 150 = .ok (.iconst 5, 1) := by decide +kernel
theorem dX6_scanWord_151 : decode cX6_scanWord 151 = .ok (.if_icmp .ne 12, 3) := by decide +kernel
theorem dX6_scanWord_154 : decode cX6_scanWord 154 = .ok (.aload_n 0, 1) := by decide +kernel
theorem dX6_scanWord_155 : decode cX6_scanWord 155 = .ok (.sipush 300, 3) := by decide +kernel
theorem dX6_scanWord_158 : decode cX6_scanWord 158 = .ok (.iload_n 1, 1) := by decide +kernel
theorem dX6_scanWord_159 : decode cX6_scanWord 159 = .ok (.iadd, 1) := by decide +kernel
theorem dX6_scanWord_160 : decode cX6_scanWord 160 = .ok (.putfield 57, 3) := by decide +kernel
theorem dX6_scanWord_163 : decode cX6_scanWord 163 = .ok (.iinc 1 1, 3) := by decide +kernel
theorem dX6_scanWord_166 : decode cX6_scanWord 166 = .ok (.goto (-105), 3) := by decide +kernel
theorem dX6_scanWord_169 : decode cX6_scanWord 169 = .ok (.return_, 1) := by decide +kernel
theorem dX6_scanNumber_0 : decode cX6_scanNumber 0 = .ok (.aload_n 0, 1) := by decide +kernel
theorem dX6_scanNumber_1 : decode cX6_scanNumber 1 = .ok (.sipush 317, 3) := by decide +kernel
theorem dX6_scanNumber_4 : decode cX6_scanNumber 4 = .ok (.putfield 57, 3) := by decide +kernel
theorem dX6_scanNumber_7 : decode cX6_scanNumber 7 = .ok (.aload_n 0, 1) := by decide +kernel
theorem dX6_scanNumber_8 : decode cX6_scanNumber 8 = .ok (.iconst 0, 1) := by decide +kernel
theorem dX6_scanNumber_9 : decode cX6_scanNumber 9 = .ok (.putfield 112, 3) := by decide +kernel
theorem dX6_scanNumber_12 : decode cX6_scanNumber 12 = .ok (.aload_n 0, 1) := by decide +kernel
theorem dX6_scanNumber_13 : decode cX6_scanNumber 13 = .ok (.getfield 41, 3) := by decide +kernel
theorem dX6_scanNumber_16 : decode cX6_scanNumber 16 = .ok (.aload_n 0, 1) := by decide +kernel
theorem dX6_scanNumber_17 : decode cX6_scanNumber 17 = .ok (.getfield 35, 3) := by decide +kernel
theorem dX6_scanNumber_20 : decode cX6_scanNumber 20 = .ok (.if_icmp .ge 78, 3) := by decide +kernel
theorem dX6_scanNumber_23 : decode cX6_scanNumber 23 = .ok (.aload_n 0, 1) := by decide +kernel
theorem dX6_scanNumber_24 : decode cX6_scanNumber 24 = .ok (.getfield 11, 3) := by decide +kernel
theorem dX6_scanNumber_27 : decode cX6_scanNumber 27 = .ok (.aload_n 0, 1) := by decide +kernel
theorem dX6_scanNumber_28 : decode cX6_scanNumber 28 = .ok (.getfield 41, 3) := by decide +kernel
theorem dX6_scanNumber_31 : decode cX6_scanNumber 31 = .ok (.iaload, 1) := by decide +kernel
theorem dX6_scanNumber_32 : decode cX6_scanNumber 32 = .ok (.bipush 48, 2) := by decide +kernel
theorem dX6_scanNumber_34 : decode cX6_scanNumber 34 = .ok (.if_icmp .lt 64, 3) := by decide +kernel
theorem dX6_scanNumber_37 : decode cX6_scanNumber 37 = .ok (.aload_n 0, 1) := by decide +kernel
theorem dX6_scanNumber_38 : decode cX6_scanNumber 38 = .ok (.getfield 11, 3) := by decide +kernel
theorem dX6_scanNumber_41 : decode cX6_scanNumber 41 = .ok (.aload_n 0, 1) := by decide +kernel
theorem dX6_scanNumber_42 : decode cX6_scanNumber 42 = .ok (.getfield 41, 3) := by decide +kernel
theorem dX6_scanNumber_45 : decode cX6_scanNumber 45 = .ok (.iaload, 1) := by decide +kernel
theorem dX6_scanNumber_46 : decode cX6_scanNumber 46 = .ok (.bipush 57, 2) := by decide +kernel
theorem dX6_scanNumber_48 : decode cX6_scanNumber 48 = .ok (.if_icmp .gt 50, 3) := by decide +kernel
theorem dX6_scanNumber_51 : decode cX6_scanNumber 51 = .ok (.aload_n 0, 1) := by decide +kernel
theorem dX6_scanNumber_52 : decode cX6_scanNumber 52 = .ok (.getfield 112, 3) := by decide +kernel
theorem dX6_scanNumber_55 : decode cX6_scanNumber 55 = .ok (.sipush 9999, 3) := by decide +kernel
theorem dX6_scanNumber_58 : decode cX6_scanNumber 58 = .ok (.if_icmp .gt 27, 3) := by decide +kernel
theorem dX6_scanNumber_61 : decode cX6_scanNumber 61 = .ok (.aload_n 0, 1) := by decide +kernel
theorem dX6_scanNumber_62 : decode cX6_scanNumber 62 = .ok (.bipush 10, 2) := by decide +kernel
theorem dX6_scanNumber_64 : decode cX6_scanNumber 64 = .ok (.aload_n 0, 1) := by decide +kernel
theorem dX6_scanNumber_65 : decode cX6_scanNumber 65 = .ok (.getfield 112, 3) := by decide +kernel
theorem dX6_scanNumber_68 : decode cX6_scanNumber 68 = .ok (.imul, 1) := by decide +kernel
theorem dX6_scanNumber_69 : decode cX6_scanNumber 69 = .ok (.aload_n 0, 1) := by decide +kernel
theorem dX6_scanNumber_70 : decode cX6_scanNumber 70 = .ok (.getfield 11, 3) := by decide +kernel
theorem dX6_scanNumber_73 : decode cX6_scanNumber 73 = .ok (.aload_n 0, 1) := by decide +kernel
theorem dX6_scanNumber_74 : decode cX6_scanNumber 74 = .ok (.getfield 41, 3) := by decide +kernel
theorem dX6_scanNumber_77 : decode cX6_scanNumber 77 = .ok (.iaload, 1) := by decide +kernel
theorem dX6_scanNumber_78 : decode cX6_scanNumber 78 = .ok (.iadd, 1) := by decide +kernel
theorem dX6_scanNumber_79 : decode cX6_scanNumber 79 = .ok (.bipush 48, 2) := by decide +kernel
theorem dX6_scanNumber_81 : decode cX6_scanNumber 81 = .ok (.isub, 1) := by decide +kernel
theorem dX6_scanNumber_82 : decode cX6_scanNumber 82 = .ok (.putfield 112, 3) := by decide +kernel
theorem dX6_scanNumber_85 : decode cX6_scanNumber 85 = .ok (.aload_n 0, 1) := by decide +kernel
theorem dX6_scanNumber_86 : decode cX6_scanNumber 86 = .ok (.dup, 1) := by decide +kernel
theorem dX6_scanNumber_87 : decode cX6_scanNumber 87 = .ok (.getfield 41, 3) := by decide +kernel
theorem dX6_scanNumber_90 : decode cX6_scanNumber 90 = .ok (.iconst 1, 1) := by decide +kernel
theorem dX6_scanNumber_91 : decode cX6_scanNumber 91 = .ok (.iadd, 1) := by decide +kernel
theorem dX6_scanNumber_92 : decode cX6_scanNumber 92 = .ok (.putfield 41, 3) := by decide +kernel
theorem dX6_scanNumber_95 : decode cX6_scanNumber 95 = .ok (.goto (-83), 3) := by decide +kernel
theorem dX6_scanNumber_98 : decode cX6_scanNumber 98 = .ok (.return_, 1) := by decide +kernel
theorem dX7_init_0 : decode cX7_init 0 = .ok (.aload_n 0, 1) := by decide +kernel
theorem dX7_init_1 : decode cX7_init 1 = .ok (.invokespecial 3, 3) := by decide +kernel
theorem dX7_init_4 : decode cX7_init 4 = .ok (.aload_n 0, 1) := by decide +kernel
theorem dX7_init_5 : decode cX7_init 5 = .ok (.sipush 300, 3) := by decide +kernel
theorem dX7_init_8 : decode cX7_init 8 = .ok (.newarray .int, 2) := by decide +kernel
theorem dX7_init_10 : decode cX7_init 10 = .ok (.putfield 11, 3) := by decide +kernel
theorem dX7_init_13 : decode cX7_init 13 = .ok (.aload_n 0, 1) := by decide +kernel
theorem dX7_init_14 : decode cX7_init 14 = .ok (.bipush 16, 2) := by decide +kernel
theorem dX7_init_16 : decode cX7_init 16 = .ok (.newarray .int, 2) := by decide +kernel
theorem dX7_init_18 : decode cX7_init 18 = .ok (.putfield 17, 3) := by decide +kernel
theorem dX7_init_21 : decode cX7_init 21 = .ok (.aload_n 0, 1) := by decide +kernel
theorem dX7_init_22 : decode cX7_init 22 = .ok (.bipush 16, 2) := by decide +kernel
theorem dX7_init_24 : decode cX7_init 24 = .ok (.newarray .int, 2) := by decide +kernel
theorem dX7_init_26 : decode cX7_init 26 = .ok (.putfield 20, 3) := by decide +kernel
theorem dX7_init_29 : decode cX7_init 29 = .ok (.aload_n 0, 1) := by decide +kernel
theorem dX7_init_30 : decode cX7_init 30 = .ok (.bipush 32, 2) := by decide +kernel
theorem dX7_init_32 : decode cX7_init 32 = .ok (.newarray .int, 2) := by decide +kernel
theorem dX7_init_34 : decode cX7_init 34 = .ok (.putfield 23, 3) := by decide +kernel
theorem dX7_init_37 : decode cX7_init 37 = .ok (.return_, 1) := by decide +kernel
theorem dX7_forget_0 : decode cX7_forget 0 = .ok (.aload_n 0, 1) := by decide +kernel
theorem dX7_forget_1 : decode cX7_forget 1 = .ok (.iconst 0, 1) := by decide +kernel
theorem dX7_forget_2 : decode cX7_forget 2 = .ok (.putfield 26, 3) := by decide +kernel
theorem dX7_forget_5 : decode cX7_forget 5 = .ok (.aload_n 0, 1) := by decide +kernel
theorem dX7_forget_6 : decode cX7_forget 6 = .ok (.iconst 0, 1) := by decide +kernel
theorem dX7_forget_7 : decode cX7_forget 7 = .ok (.putfield 30, 3) := by decide +kernel
theorem dX7_forget_10 : decode cX7_forget 10 = .ok (.return_, 1) := by decide +kernel
theorem dX7_add_0 : decode cX7_add 0 = .ok (.aload_n 0, 1) := by decide +kernel
theorem dX7_add_1 : decode cX7_add 1 = .ok (.getfield 26, 3) := by decide +kernel
theorem dX7_add_4 : decode cX7_add 4 = .ok (.aload_n 0, 1) := by decide +kernel
theorem dX7_add_5 : decode cX7_add 5 = .ok (.getfield 11, 3) := by decide +kernel
theorem dX7_add_8 : decode cX7_add 8 = .ok (.arraylength, 1) := by decide +kernel
theorem dX7_add_9 : decode cX7_add 9 = .ok (.if_icmp .ge 23, 3) := by decide +kernel
theorem dX7_add_12 : decode cX7_add 12 = .ok (.aload_n 0, 1) := by decide +kernel
theorem dX7_add_13 : decode cX7_add 13 = .ok (.getfield 11, 3) := by decide +kernel
theorem dX7_add_16 : decode cX7_add 16 = .ok (.aload_n 0, 1) := by decide +kernel
theorem dX7_add_17 : decode cX7_add 17 = .ok (.getfield 26, 3) := by decide +kernel
theorem dX7_add_20 : decode cX7_add 20 = .ok (.iload_n 1, 1) := by decide +kernel
theorem dX7_add_21 : decode cX7_add 21 = .ok (.iastore, 1) := by decide +kernel
theorem dX7_add_22 : decode cX7_add 22 = .ok (.aload_n 0, 1) := by decide +kernel
theorem dX7_add_23 : decode cX7_add 23 = .ok (.dup, 1) := by decide +kernel
theorem dX7_add_24 : decode cX7_add 24 = .ok (.getfield 26, 3) := by decide +kernel
theorem dX7_add_27 : decode cX7_add 27 = .ok (.iconst 1, 1) := by decide +kernel
theorem dX7_add_28 : decode cX7_add 28 = .ok (.iadd, 1) := by decide +kernel
theorem dX7_add_29 : decode cX7_add 29 = .ok (.putfield 26, 3) := by decide +kernel
theorem dX7_add_32 : decode cX7_add 32 = .ok (.return_, 1) := by decide +kernel
theorem dX7_endRule_0 : decode cX7_endRule 0 = .ok (.aload_n 0, 1) := by decide +kernel
theorem dX7_endRule_1 : decode cX7_endRule 1 = .ok (.getfield 30, 3) := by decide +kernel
theorem dX7_endRule_4 : decode cX7_endRule 4 = .ok (.bipush 16, 2) := by decide +kernel
theorem dX7_endRule_6 : decode cX7_endRule 6 = .ok (.if_icmp .ge 36, 3) := by decide +kernel
theorem dX7_endRule_9 : decode cX7_endRule 9 = .ok (.aload_n 0, 1) := by decide +kernel
theorem dX7_endRule_10 : decode cX7_endRule 10 = .ok (.getfield 17, 3) := by decide +kernel
theorem dX7_endRule_13 : decode cX7_endRule 13 = .ok (.aload_n 0, 1) := by decide +kernel
theorem dX7_endRule_14 : decode cX7_endRule 14 = .ok (.getfield 30, 3) := by decide +kernel
theorem dX7_endRule_17 : decode cX7_endRule 17 = .ok (.aload_n 0, 1) := by decide +kernel
theorem dX7_endRule_18 : decode cX7_endRule 18 = .ok (.getfield 26, 3) := by decide +kernel
theorem dX7_endRule_21 : decode cX7_endRule 21 = .ok (.iastore, 1) := by decide +kernel
theorem dX7_endRule_22 : decode cX7_endRule 22 = .ok (.aload_n 0, 1) := by decide +kernel
theorem dX7_endRule_23 : decode cX7_endRule 23 = .ok (.getfield 20, 3) := by decide +kernel
theorem dX7_endRule_26 : decode cX7_endRule 26 = .ok (.aload_n 0, 1) := by decide +kernel
theorem dX7_endRule_27 : decode cX7_endRule 27 = .ok (.getfield 30, 3) := by decide +kernel
theorem dX7_endRule_30 : decode cX7_endRule 30 = .ok (.iload_n 1, 1) := by decide +kernel
theorem dX7_endRule_31 : decode cX7_endRule 31 = .ok (.iastore, 1) := by decide +kernel
theorem dX7_endRule_32 : decode cX7_endRule 32 = .ok (.aload_n 0, 1) := by decide +kernel
theorem dX7_endRule_33 : decode cX7_endRule 33 = .ok (.dup, 1) := by decide +kernel
theorem dX7_endRule_34 : decode cX7_endRule 34 = .ok (.getfield 30, 3) := by decide +kernel
theorem dX7_endRule_37 : decode cX7_endRule 37 = .ok (.iconst 1, 1) := by decide +kernel
theorem dX7_endRule_38 : decode cX7_endRule 38 = .ok (.iadd, 1) := by decide +kernel
theorem dX7_endRule_39 : decode cX7_endRule 39 = .ok (.putfield 30, 3) := by decide +kernel
theorem dX7_endRule_42 : decode cX7_endRule 42 = .ok (.return_, 1) := by decide +kernel
theorem dX7_steerOf_0 : decode cX7_steerOf 0 = .ok (.iload_n 1, 1) := by decide +kernel
theorem dX7_steerOf_1 : decode cX7_steerOf 1 = .ok (.iconst 0, 1) := by decide +kernel
theorem dX7_steerOf_2 : decode cX7_steerOf 2 = .ok (.aload_n 0, 1) := by decide +kernel
theorem dX7_steerOf_3 : decode cX7_steerOf 3 = .ok (.getfield 30, 3) := by decide +kernel
theorem dX7_steerOf_6 : decode cX7_steerOf 6 = .ok (.iconst 1, 1) := by decide +kernel
theorem dX7_steerOf_7 : decode cX7_steerOf 7 = .ok (.isub, 1) := by decide +kernel
theorem dX7_steerOf_8 : decode cX7_steerOf 8 = .ok (.invokestatic 33, 3) := by decide +kernel
theorem dX7_steerOf_11 : decode cX7_steerOf 11 = .ok (.ifCond .eq 12, 3) := by decide +kernel
theorem dX7_steerOf_14 : decode cX7_steerOf 14 = .ok (.aload_n 0, 1) := by decide +kernel
theorem dX7_steerOf_15 : decode cX7_steerOf 15 = .ok (.getfield 20, 3) := by decide +kernel
theorem dX7_steerOf_18 : decode cX7_steerOf 18 = .ok (.iload_n 1, 1) := by decide +kernel
theorem dX7_steerOf_19 : decode cX7_steerOf 19 = .ok (.iaload, 1) := by decide +kernel
theorem dX7_steerOf_20 : decode cX7_steerOf 20 = .ok (.goto 4, 3) := by decide +kernel
theorem dX7_steerOf_23 : decode cX7_steerOf 23 = .ok (.iconst 1, 1) := by decide +kernel
theorem dX7_steerOf_24 : decode cX7_steerOf 24 = .ok (.ireturn, 1) := by decide +kernel
theorem dX7_firstHolding_0 : decode cX7_firstHolding 0 = .ok (.iconst 0, 1) := by decide +kernel
theorem dX7_firstHolding_1 : decode cX7_firstHolding 1 = .ok (.istore_n 2, 1) := by decide +kernel
theorem dX7_firstHolding_2 : decode cX7_firstHolding 2 = .ok (.iload_n 2, 1) := by decide +kernel
theorem dX7_firstHolding_3 : decode cX7_firstHolding 3 = .ok (.aload_n 0, 1) := by decide +kernel
theorem dX7_firstHolding_4 : decode cX7_firstHolding 4 = .ok (.getfield 30, 3) := by decide +kernel
theorem dX7_firstHolding_7 : decode cX7_firstHolding 7 = .ok (.if_icmp .ge 41, 3) := by decide +kernel
theorem dX7_firstHolding_10 : decode cX7_firstHolding 10 = .ok (.aload_n 0, 1) := by decide +kernel
theorem dX7_firstHolding_11 : decode cX7_firstHolding 11 = .ok (.iload_n 2, 1) := by decide +kernel
theorem dX7_firstHolding_12 : decode cX7_firstHolding 12 = .ok (.ifCond .ne 7, 3) := by decide +kernel
theorem dX7_firstHolding_15 : decode cX7_firstHolding 15 = .ok (.iconst 0, 1) := by decide +kernel
theorem dX7_firstHolding_16 : decode cX7_firstHolding 16 = .ok (.goto 11, 3) := by decide +kernel
theorem dX7_firstHolding_19 : decode cX7_firstHolding 19 = .ok (.aload_n 0, 1) := by decide +kernel
theorem dX7_firstHolding_20 : decode cX7_firstHolding 20 = .ok (.getfield 17, 3) := by decide +kernel
theorem dX7_firstHolding_23 : decode cX7_firstHolding 23 = .ok (.iload_n 2, 1) := by decide +kernel
theorem dX7_firstHolding_24 : decode cX7_firstHolding 24 = .ok (.iconst 1, 1) := by decide +kernel
theorem dX7_firstHolding_25 : decode cX7_firstHolding 25 = .ok (.isub, 1) := by decide +kernel
theorem dX7_firstHolding_26 : decode cX7_firstHolding 26 = .ok (.iaload, 1) := by decide +kernel
theorem dX7_firstHolding_27 : decode cX7_firstHolding 27 = .ok (.aload_n 0, 1) := by decide +kernel
theorem dX7_firstHolding_28 : decode cX7_firstHolding 28 = .ok (.getfield 17, 3) := by decide +kernel
theorem dX7_firstHolding_31 : decode cX7_firstHolding 31 = .ok (.iload_n 2, 1) := by decide +kernel
theorem dX7_firstHolding_32 : decode cX7_firstHolding 32 = .ok (.iaload, 1) := by decide +kernel
theorem dX7_firstHolding_33 : decode cX7_firstHolding 33 = .ok (.aload_n 1, 1) := by decide +kernel
theorem dX7_firstHolding_34 : decode cX7_firstHolding 34 = .ok (.invokevirtual 37, 3) := by decide +kernel
theorem dX7_firstHolding_37 : decode cX7_firstHolding 37 = .ok (.ifCond .eq 5, 3) := by decide +kernel
theorem dX7_firstHolding_40 : decode cX7_firstHolding 40 = .ok (.iload_n 2, 1) := by decide +kernel
theorem dX7_firstHolding_41 : decode cX7_firstHolding 41 = .ok (.ireturn, 1) := by decide +kernel
theorem dX7_firstHolding_42 : decode cX7_firstHolding 42 = .ok (.iinc 2 1, 3) := by decide +kernel
theorem dX7_firstHolding_45 : decode cX7_firstHolding 45 = .ok (.goto (-43), 3) := by decide +kernel
theorem dX7_firstHolding_48 : decode cX7_firstHolding 48 = .ok (.iconst (-1), 1) := by decide +kernel
theorem dX7_firstHolding_49 : decode cX7_firstHolding 49 = .ok (.ireturn, 1) := by decide +kernel
theorem dX7_holds_0 : decode cX7_holds 0 = .ok (.iconst 0, 1) := by decide +kernel
theorem dX7_holds_1 : decode cX7_holds 1 = .ok (.istore 4, 2) := by decide +kernel
theorem dX7_holds_3 : decode cX7_holds 3 = .ok (.iload_n 1, 1) := by decide +kernel
theorem dX7_holds_4 : decode cX7_holds 4 = .ok (.istore 5, 2) := by decide +kernel
theorem dX7_holds_6 : decode cX7_holds 6 = .ok (.iload 5, 2) := by decide +kernel
theorem dX7_holds_8 : decode cX7_holds 8 = .ok (.iload_n 2, 1) := by decide +kernel
theorem dX7_holds_9 : decode cX7_holds 9 = .ok (.if_icmp .ge 178, 3) := by decide +kernel
theorem dX7_holds_12 : decode cX7_holds 12 = .ok (.aload_n 0, 1) := by decide +kernel
theorem dX7_holds_13 : decode cX7_holds 13 = .ok (.getfield 11, 3) := by decide +kernel
theorem dX7_holds_16 : decode cX7_holds 16 = .ok (.iload 5, 2) := by decide +kernel
theorem dX7_holds_18 : decode cX7_holds 18 = .ok (.iaload, 1) := by decide +kernel
theorem dX7_holds_19 : decode cX7_holds 19 = .ok (.ineg, 1) := by decide +kernel
theorem dX7_holds_20 : decode cX7_holds 20 = .ok (.istore 6, 2) := by decide +kernel
theorem dX7_holds_22 : decode cX7_holds 22 = .ok (.iload 6, 2) := by decide +kernel
theorem dX7_holds_24 : decode cX7_holds 24 = .ok (.ifCond .gt 7, 3) := by decide +kernel
theorem dX7_holds_27 : decode cX7_holds 27 = .ok (.iconst 1, 1) := by decide +kernel
theorem dX7_holds_28 : decode cX7_holds 28 = .ok (.goto 4, 3) := by decide +kernel
theorem dX7_holds_31 : decode cX7_holds 31 = .ok (.iconst 0, 1) := by decide +kernel
theorem dX7_holds_32 : decode cX7_holds 32 = .ok (.istore 7, 2) := by decide +kernel
theorem dX7_holds_34 : decode cX7_holds 34 = .ok (.iload 6, 2) := by decide +kernel
theorem dX7_holds_36 : decode cX7_holds 36 = .ok (.sipush 307, 3) := by decide +kernel
theorem dX7_holds_39 : decode cX7_holds 39 = .ok (.isub, 1) := by decide +kernel
theorem dX7_holds_40 : decode cX7_holds 40 = .ok (.iconst 0, 1) := by decide +kernel
theorem dX7_holds_41 : decode cX7_holds 41 = .ok (.aload_n 3, 1) := by decide +kernel
theorem dX7_holds_42 : decode cX7_holds 42 = .ok (.arraylength, 1) := by decide +kernel
theorem dX7_holds_43 : decode cX7_holds 43 = .ok (.iconst 1, 1) := by decide +kernel
theorem dX7_holds_44 : decode cX7_holds 44 = .ok (.isub, 1) := by decide +kernel
theorem dX7_holds_45 : decode cX7_holds 45 = .ok (.invokestatic 33, 3) := by decide +kernel
theorem dX7_holds_48 : decode cX7_holds 48 = .ok (.istore 8, 2) := by decide +kernel
theorem dX7_holds_50 : decode cX7_holds 50 = .ok (.iload 7, 2) := by decide +kernel
theorem dX7_holds_52 : decode cX7_holds 52 = .ok (.ifCond .ne 8, 3) := by decide +kernel
theorem dX7_holds_55 : decode cX7_holds 55 = .ok (.iload 8, 2) := by decide +kernel
theorem dX7_holds_57 : decode cX7_holds 57 = .ok (.ifCond .eq 46, 3) := by decide +kernel
theorem dX7_holds_60 : decode cX7_holds 60 = .ok (.iload 4, 2) := by decide +kernel
theorem dX7_holds_62 : decode cX7_holds 62 = .ok (.bipush 32, 2) := by decide +kernel
theorem dX7_holds_64 : decode cX7_holds 64 = .ok (.if_icmp .ge 117, 3) := by decide +kernel
theorem dX7_holds_67 : decode cX7_holds 67 = .ok (.aload_n 0, 1) := by decide +kernel
theorem dX7_holds_68 : decode cX7_holds 68 = .ok (.getfield 23, 3) := by decide +kernel
theorem dX7_holds_71 : decode cX7_holds 71 = .ok (.iload 4, 2) := by decide +kernel
theorem dX7_holds_73 : decode cX7_holds 73 = .ok (.iload 7, 2) := by decide +kernel
theorem dX7_holds_75 : decode cX7_holds 75 = .ok (.ifCond .eq 13, 3) := by decide +kernel
theorem dX7_holds_78 : decode cX7_holds 78 = .ok (.aload_n 0, 1) := by decide +kernel
theorem dX7_holds_79 : decode cX7_holds 79 = .ok (.getfield 11, 3) := by decide +kernel
theorem dX7_holds_82 : decode cX7_holds 82 = .ok (.iload 5, 2) := by decide +kernel
theorem dX7_holds_84 : decode cX7_holds 84 = .ok (.iaload, 1) := by decide +kernel
theorem dX7_holds_85 : decode cX7_holds 85 = .ok (.goto 11, 3) := by decide +kernel
theorem dX7_holds_88 : decode cX7_holds 88 = .ok (.aload_n 3, 1) := by decide +kernel
theorem dX7_holds_89 : decode cX7_holds 89 = .ok (.iload 6, 2) := by decide +kernel
theorem dX7_holds_91 : decode cX7_holds 91 = .ok (.sipush 307, 3) := by decide +kernel
theorem dX7_holds_94 : decode cX7_holds 94 = .ok (.isub, 1) := by decide +kernel
theorem dX7_holds_95 : decode cX7_holds 95 = .ok (.iaload, 1) := by decide +kernel
theorem dX7_holds_96 : decode cX7_holds 96 = .ok (.iastore, 1) := by decide +kernel
theorem dX7_holds_97 : decode cX7_holds 97 = .ok (.iinc 4 1, 3) := by decide +kernel
theorem dX7_holds_100 : decode cX7_holds 100 = .ok (.goto 81, 3) := by decide +kernel
theorem dX7_holds_103 : decode cX7_holds 103 = .ok (.iload 6, 2) := by decide +kernel
theorem dX7_holds_105 : decode cX7_holds 105 = .ok (.sipush 306, 3) := by decide +kernel
theorem dX7_holds_108 : decode cX7_holds 108 = .ok (.if_icmp .ne 32, 3) := by decide +kernel
theorem dX7_holds_111 : decode cX7_holds 111 = .ok (.iload 4, 2) := by decide +kernel
theorem dX7_holds_113 : decode cX7_holds 113 = .ok (.iconst 1, 1) := by decide +kernel
theorem dX7_holds_114 : decode cX7_holds 114 = .ok (.if_icmp .lt 26, 3) := by decide +kernel
theorem dX7_holds_117 : decode cX7_holds 117 = .ok (.aload_n 0, 1) := by decide +kernel
theorem dX7_holds_118 : decode cX7_holds 118 = .ok (.getfield 23, 3) := by decide +kernel
theorem dX7_holds_121 : decode cX7_holds 121 = .ok (.iload 4, 2) := by decide +kernel
theorem dX7_holds_123 : decode cX7_holds 123 = .ok (.iconst 1, 1) := by decide +kernel
theorem dX7_holds_124 : decode cX7_holds 124 = .ok (.isub, 1) := by decide +kernel
theorem dX7_holds_125 : decode cX7_holds 125 = .ok (.iconst 1, 1) := by decide +kernel
theorem dX7_holds_126 : decode cX7_holds 126 = .ok (.aload_n 0, 1) := by decide +kernel
theorem dX7_holds_127 : decode cX7_holds 127 = .ok (.getfield 23, 3) := by decide +kernel
theorem dX7_holds_130 : decode cX7_holds 130 = .ok (.iload 4, 2) := by decide +kernel
theorem dX7_holds_132 : decode cX7_holds 132 = .ok (.iconst 1, 1) := by decide +kernel
theorem dX7_holds_133 : decode cX7_holds 133 = .ok (.isub, 1) := by decide +kernel
theorem dX7_holds_134 : decode cX7_holds 134 = .ok (.iaload, 1) := by decide +kernel
theorem dX7_holds_135 : decode cX7_holds 135 = .ok (.isub, 1) := by decide +kernel
theorem dX7_holds_136 : decode cX7_holds 136 = .ok (.iastore, 1) := by decide +kernel
theorem dX7_holds_137 : decode cX7_holds 137 = .ok (.goto 44, 3) := by decide +kernel
theorem dX7_holds_140 : decode cX7_holds 140 = .ok (.iload 4, 2) := by decide +kernel
theorem dX7_holds_142 : decode cX7_holds 142 = .ok (.iconst 2, 1) := by decide +kernel
theorem dX7_holds_143 : decode cX7_holds 143 = .ok (.if_icmp .lt 38, 3) := by decide +kernel
theorem dX7_holds_146 : decode cX7_holds 146 = .ok (.aload_n 0, 1) := by decide +kernel
theorem dX7_holds_147 : decode cX7_holds 147 = .ok (.getfield 23, 3) := by decide +kernel
theorem dX7_holds_150 : decode cX7_holds 150 = .ok (.iload 4, 2) := by decide +kernel
theorem dX7_holds_152 : decode cX7_holds 152 = .ok (.iconst 2, 1) := by decide +kernel
theorem dX7_holds_153 : decode cX7_holds 153 = .ok (.isub, 1) := by decide +kernel
theorem dX7_holds_154 : decode cX7_holds 154 = .ok (.iload 6, 2) := by decide +kernel
theorem dX7_holds_156 : decode cX7_holds 156 = .ok (.aload_n 0, 1) := by decide +kernel
theorem dX7_holds_157 : decode cX7_holds 157 = .ok (.getfield 23, 3) := by decide +kernel
theorem dX7_holds_160 : decode cX7_holds 160 = .ok (.iload 4, 2) := by decide +kernel
theorem dX7_holds_162 : decode cX7_holds 162 = .ok (.iconst 2, 1) := by decide +kernel
theorem dX7_holds_163 : decode cX7_holds 163 = .ok (.isub, 1) := by decide +kernel
theorem dX7_holds_164 : decode cX7_holds 164 = .ok (.iaload, 1) := by decide +kernel
theorem dX7_holds_165 : decode cX7_holds 165 = .ok (.aload_n 0, 1) := by decide +kernel
theorem dX7_holds_166 : decode cX7_holds 166 = .ok (.getfield 23, 3) := by decide +kernel
theorem dX7_holds_169 : decode cX7_holds 169 = .ok (.iload 4, 2) := by decide +kernel
theorem dX7_holds_171 : decode cX7_holds 171 = .ok (.iconst 1, 1) := by decide +kernel
theorem dX7_holds_172 : decode cX7_holds 172 = .ok (.isub, 1) := by decide +kernel
theorem dX7_holds_173 : decode cX7_holds 173 = .ok (.iaload, 1) := by decide +kernel
theorem dX7_holds_174 : decode cX7_holds 174 = .ok (.invokestatic 41, 3) := by decide +kernel
theorem dX7_holds_177 : decode cX7_holds 177 = .ok (.iastore, 1) := by decide +kernel
theorem dX7_holds_178 : decode cX7_holds 178 = .ok (.iinc 4 (-1), 3) := by decide +kernel
theorem dX7_holds_181 : decode cX7_holds 181 = .ok (.iinc 5 1, 3) := by decide +kernel
theorem dX7_holds_184 : decode cX7_holds 184 = .ok (.goto (-178), 3) := by decide +kernel
theorem dX7_holds_187 : decode cX7_holds 187 = .ok (.iload 4, 2) := by decide +kernel
theorem dX7_holds_189 : decode cX7_holds 189 = .ok (.iconst 1, 1) := by decide +kernel
theorem dX7_holds_190 : decode cX7_holds 190 = .ok (.if_icmp .ne 17, 3) := by decide +kernel
theorem dX7_holds_193 : decode cX7_holds 193 = .ok (.aload_n 0, 1) := by decide +kernel
theorem dX7_holds_194 : decode cX7_holds 194 = .ok (.getfield 23, 3) := by decide +kernel
theorem dX7_holds_197 : decode cX7_holds 197 = .ok (.iconst 0, 1) := by decide +kernel
theorem dX7_holds_198 : decode cX7_holds 198 = .ok (.iaload, 1) := by decide +kernel
theorem dX7_holds_199 : decode cX7_holds 199 = .ok (.iconst 1, 1) := by decide +kernel
theorem dX7_holds_200 : decode cX7_holds 200 = .ok (.if_icmp .ne 7, 3) := by decide +kernel
theorem dX7_holds_203 : decode cX7_holds 203 = .ok (.iconst 1, 1) := by decide +kernel
theorem dX7_holds_204 : decode cX7_holds 204 = .ok (.goto 4, 3) := by decide +kernel
theorem dX7_holds_207 : decode cX7_holds 207 = .ok (.iconst 0, 1) := by decide +kernel
theorem dX7_holds_208 : decode cX7_holds 208 = .ok (.ireturn, 1) := by decide +kernel
theorem dX7_work_0 : decode cX7_work 0 = .ok (.iload_n 0, 1) := by decide +kernel
theorem dX7_work_1 : decode cX7_work 1 = .ok (.lookupswitch 162 #[(42, 99), (43, 91), (45, 95), (47, 103), (60, 115), (61, 137), (62, 126), (304, 148), (305, 152), (314, 156)], 91) := by decide +kernel
theorem dX7_work_92 : decode cX7_work 92 = .ok (.iload_n 1, 1) := by decide +kernel
theorem dX7_work_93 : decode cX7_work 93 = .ok (.iload_n 2, 1) := by decide +kernel
theorem dX7_work_94 : decode cX7_work 94 = .ok (.iadd, 1) := by decide +kernel
theorem dX7_work_95 : decode cX7_work 95 = .ok (.ireturn, 1) := by decide +kernel
theorem dX7_work_96 : decode cX7_work 96 = .ok (.iload_n 1, 1) := by decide +kernel
theorem dX7_work_97 : decode cX7_work 97 = .ok (.iload_n 2, 1) := by decide +kernel
theorem dX7_work_98 : decode cX7_work 98 = .ok (.isub, 1) := by decide +kernel
theorem dX7_work_99 : decode cX7_work 99 = .ok (.ireturn, 1) := by decide +kernel
theorem dX7_work_100 : decode cX7_work 100 = .ok (.iload_n 1, 1) := by decide +kernel
theorem dX7_work_101 : decode cX7_work 101 = .ok (.iload_n 2, 1) := by decide +kernel
theorem dX7_work_102 : decode cX7_work 102 = .ok (.imul, 1) := by decide +kernel
theorem dX7_work_103 : decode cX7_work 103 = .ok (.ireturn, 1) := by decide +kernel
theorem dX7_work_104 : decode cX7_work 104 = .ok (.iload_n 2, 1) := by decide +kernel
theorem dX7_work_105 : decode cX7_work 105 = .ok (.ifCond .ne 7, 3) := by decide +kernel
theorem dX7_work_108 : decode cX7_work 108 = .ok (.iconst 0, 1) := by decide +kernel
theorem dX7_work_109 : decode cX7_work 109 = .ok (.goto 6, 3) := by decide +kernel
theorem dX7_work_112 : decode cX7_work 112 = .ok (.iload_n 1, 1) := by decide +kernel
theorem dX7_work_113 : decode cX7_work 113 = .ok (.iload_n 2, 1) := by decide +kernel
theorem dX7_work_114 : decode cX7_work 114 = .ok (.idiv, 1) := by decide +kernel
theorem dX7_work_115 : decode cX7_work 115 = .ok (.ireturn, 1) := by decide +kernel
theorem dX7_work_116 : decode cX7_work 116 = .ok (.iload_n 1, 1) := by decide +kernel
theorem dX7_work_117 : decode cX7_work 117 = .ok (.iload_n 2, 1) := by decide +kernel
theorem dX7_work_118 : decode cX7_work 118 = .ok (.if_icmp .ge 7, 3) := by decide +kernel
theorem dX7_work_121 : decode cX7_work 121 = .ok (.iconst 1, 1) := by decide +kernel
theorem dX7_work_122 : decode cX7_work 122 = .ok (.goto 4, 3) := by decide +kernel
theorem dX7_work_125 : decode cX7_work 125 = .ok (.iconst 0, 1) := by decide +kernel
theorem dX7_work_126 : decode cX7_work 126 = .ok (.ireturn, 1) := by decide +kernel
theorem dX7_work_127 : decode cX7_work 127 = .ok (.iload_n 1, 1) := by decide +kernel
theorem dX7_work_128 : decode cX7_work 128 = .ok (.iload_n 2, 1) := by decide +kernel
theorem dX7_work_129 : decode cX7_work 129 = .ok (.if_icmp .le 7, 3) := by decide +kernel
theorem dX7_work_132 : decode cX7_work 132 = .ok (.iconst 1, 1) := by decide +kernel
theorem dX7_work_133 : decode cX7_work 133 = .ok (.goto 4, 3) := by decide +kernel
theorem dX7_work_136 : decode cX7_work 136 = .ok (.iconst 0, 1) := by decide +kernel
theorem dX7_work_137 : decode cX7_work 137 = .ok (.ireturn, 1) := by decide +kernel
theorem dX7_work_138 : decode cX7_work 138 = .ok (.iload_n 1, 1) := by decide +kernel
theorem dX7_work_139 : decode cX7_work 139 = .ok (.iload_n 2, 1) := by decide +kernel
theorem dX7_work_140 : decode cX7_work 140 = .ok (.if_icmp .ne 7, 3) := by decide +kernel
theorem dX7_work_143 : decode cX7_work 143 = .ok (.iconst 1, 1) := by decide +kernel
theorem dX7_work_144 : decode cX7_work 144 = .ok (.goto 4, 3) := by decide +kernel
theorem dX7_work_147 : decode cX7_work 147 = .ok (.iconst 0, 1) := by decide +kernel
theorem dX7_work_148 : decode cX7_work 148 = .ok (.ireturn, 1) := by decide +kernel
theorem dX7_work_149 : decode cX7_work 149 = .ok (.iload_n 1, 1) := by decide +kernel
theorem dX7_work_150 : decode cX7_work 150 = .ok (.iload_n 2, 1) := by decide +kernel
theorem dX7_work_151 : decode cX7_work 151 = .ok (.ior, 1) := by decide +kernel
theorem dX7_work_152 : decode cX7_work 152 = .ok (.ireturn, 1) := by decide +kernel
theorem dX7_work_153 : decode cX7_work 153 = .ok (.iload_n 1, 1) := by decide +kernel
theorem dX7_work_154 : decode cX7_work 154 = .ok (.iload_n 2, 1) := by decide +kernel
theorem dX7_work_155 : decode cX7_work 155 = .ok (.iand, 1) := by decide +kernel
theorem dX7_work_156 : decode cX7_work 156 = .ok (.ireturn, 1) := by decide +kernel
theorem dX7_work_157 : decode cX7_work 157 = .ok (.iload_n 1, 1) := by decide +kernel
theorem dX7_work_158 : decode cX7_work 158 = .ok (.iload_n 2, 1) := by decide +kernel
theorem dX7_work_159 : decode cX7_work 159 = .ok (.invokestatic 45, 3) := by decide +kernel
theorem dX7_work_162 : decode cX7_work 162 = .ok (.ireturn, 1) := by decide +kernel
theorem dX7_work_163 : decode cX7_work 163 = .ok (.iload_n 1, 1) := by decide +kernel
theorem dX7_work_164 : decode cX7_work 164 = .ok (.iload_n 2, 1) := by decide +kernel
theorem dX7_work_165 : decode cX7_work 165 = .ok (.invokestatic 51, 3) := by decide +kernel
theorem dX7_work_168 : decode cX7_work 168 = .ok (.ireturn, 1) := by decide +kernel
theorem dX8_init_0 : decode cX8_init 0 = .ok (.aload_n 0, 1) := by decide +kernel
theorem dX8_init_1 : decode cX8_init 1 = .ok (.invokespecial 5, 3) := by decide +kernel
theorem dX8_init_4 : decode cX8_init 4 = .ok (.aload_n 0, 1) := by decide +kernel
theorem dX8_init_5 : decode cX8_init 5 = .ok (.bipush 16, 2) := by decide +kernel
theorem dX8_init_7 : decode cX8_init 7 = .ok (.anewarray 11, 3) := by decide +kernel
theorem dX8_init_10 : decode cX8_init 10 = .ok (.putfield 13, 3) := by decide +kernel
theorem dX8_init_13 : decode cX8_init 13 = .ok (.aload_n 0, 1) := by decide +kernel
theorem dX8_init_14 : decode cX8_init 14 = .ok (.iconst 4, 1) := by decide +kernel
theorem dX8_init_15 : decode cX8_init 15 = .ok (.anewarray 11, 3) := by decide +kernel
theorem dX8_init_18 : decode cX8_init 18 = .ok (.putfield 17, 3) := by decide +kernel
theorem dX8_init_21 : decode cX8_init 21 = .ok (.aload_n 0, 1) := by decide +kernel
theorem dX8_init_22 : decode cX8_init 22 = .ok (.iconst 4, 1) := by decide +kernel
theorem dX8_init_23 : decode cX8_init 23 = .ok (.newarray .int, 2) := by decide +kernel
theorem dX8_init_25 : decode cX8_init 25 = .ok (.putfield 20, 3) := by decide +kernel
theorem dX8_init_28 : decode cX8_init 28 = .ok (.aload_n 0, 1) := by decide +kernel
theorem dX8_init_29 : decode cX8_init 29 = .ok (.iconst 4, 1) := by decide +kernel
theorem dX8_init_30 : decode cX8_init 30 = .ok (.newarray .int, 2) := by decide +kernel
theorem dX8_init_32 : decode cX8_init 32 = .ok (.putfield 24, 3) := by decide +kernel
theorem dX8_init_35 : decode cX8_init 35 = .ok (.aload_n 0, 1) := by decide +kernel
theorem dX8_init_36 : decode cX8_init 36 = .ok (.iconst 4, 1) := by decide +kernel
theorem dX8_init_37 : decode cX8_init 37 = .ok (.newarray .int, 2) := by decide +kernel
theorem dX8_init_39 : decode cX8_init 39 = .ok (.putfield 27, 3) := by decide +kernel
theorem dX8_init_42 : decode cX8_init 42 = .ok (.aload_n 0, 1) := by decide +kernel
theorem dX8_init_43 : decode cX8_init 43 = .ok (.iconst 4, 1) := by decide +kernel
theorem dX8_init_44 : decode cX8_init 44 = .ok (.newarray .int, 2) := by decide +kernel
theorem dX8_init_46 : decode cX8_init 46 = .ok (.putfield 30, 3) := by decide +kernel
theorem dX8_init_49 : decode cX8_init 49 = .ok (.aload_n 0, 1) := by decide +kernel
theorem dX8_init_50 : decode cX8_init 50 = .ok (.bipush 20, 2) := by decide +kernel
theorem dX8_init_52 : decode cX8_init 52 = .ok (.newarray .int, 2) := by decide +kernel
theorem dX8_init_54 : decode cX8_init 54 = .ok (.putfield 33, 3) := by decide +kernel
theorem dX8_init_57 : decode cX8_init 57 = .ok (.return_, 1) := by decide +kernel
theorem dX8_addPanel_0 : decode cX8_addPanel 0 = .ok (.aload_n 0, 1) := by decide +kernel
theorem dX8_addPanel_1 : decode cX8_addPanel 1 = .ok (.getfield 36, 3) := by decide +kernel
theorem dX8_addPanel_4 : decode cX8_addPanel 4 = .ok (.bipush 16, 2) := by decide +kernel
theorem dX8_addPanel_6 : decode cX8_addPanel 6 = .ok (.if_icmp .ne 5, 3) := by decide +kernel
theorem dX8_addPanel_9 : decode cX8_addPanel 9 = .ok (.iconst (-1), 1) := by decide +kernel
theorem dX8_addPanel_10 : decode cX8_addPanel 10 = .ok (.ireturn, 1) := by decide +kernel
theorem dX8_addPanel_11 : decode cX8_addPanel 11 = .ok (.aload_n 0, 1) := by decide +kernel
theorem dX8_addPanel_12 : decode cX8_addPanel 12 = .ok (.getfield 13, 3) := by decide +kernel
theorem dX8_addPanel_15 : decode cX8_addPanel 15 = .ok (.aload_n 0, 1) := by decide +kernel
theorem dX8_addPanel_16 : decode cX8_addPanel 16 = .ok (.getfield 36, 3) := by decide +kernel
theorem dX8_addPanel_19 : decode cX8_addPanel 19 = .ok (.new 11, 3) := by decide +kernel
theorem dX8_addPanel_22 : decode cX8_addPanel 22 = .ok (.dup, 1) := by decide +kernel
theorem dX8_addPanel_23 : decode cX8_addPanel 23 = .ok (.iload_n 1, 1) := by decide +kernel
theorem dX8_addPanel_24 : decode cX8_addPanel 24 = .ok (.iload_n 2, 1) := by decide +kernel
theorem dX8_addPanel_25 : decode cX8_addPanel 25 = .ok (.iload_n 3, 1) := by decide +kernel
theorem dX8_addPanel_26 : decode cX8_addPanel 26 = .ok (.iload 4, 2) := by decide +kernel
theorem dX8_addPanel_28 : decode cX8_addPanel 28 = .ok (.iload 5, 2) := by decide +kernel
theorem dX8_addPanel_30 : decode cX8_addPanel 30 = .ok (.invokespecial 40, 3) := by decide +kernel
theorem dX8_addPanel_33 : decode cX8_addPanel 33 = .ok (.aastore, 1) := by decide +kernel
theorem dX8_addPanel_34 : decode cX8_addPanel 34 = .ok (.aload_n 0, 1) := by decide +kernel
theorem dX8_addPanel_35 : decode cX8_addPanel 35 = .ok (.dup, 1) := by decide +kernel
theorem dX8_addPanel_36 : decode cX8_addPanel 36 = .ok (.getfield 36, 3) := by decide +kernel
theorem dX8_addPanel_39 : decode cX8_addPanel 39 = .ok (.dup_x1, 1) := by decide +kernel
theorem dX8_addPanel_40 : decode cX8_addPanel 40 = .ok (.iconst 1, 1) := by decide +kernel
theorem dX8_addPanel_41 : decode cX8_addPanel 41 = .ok (.iadd, 1) := by decide +kernel
theorem dX8_addPanel_42 : decode cX8_addPanel 42 = .ok (.putfield 36, 3) := by decide +kernel
theorem dX8_addPanel_45 : decode cX8_addPanel 45 = .ok (.ireturn, 1) := by decide +kernel
theorem dX8_hasPanel_0 : decode cX8_hasPanel 0 = .ok (.iload_n 1, 1) := by decide +kernel
theorem dX8_hasPanel_1 : decode cX8_hasPanel 1 = .ok (.iconst 0, 1) := by decide +kernel
theorem dX8_hasPanel_2 : decode cX8_hasPanel 2 = .ok (.aload_n 0, 1) := by decide +kernel
theorem dX8_hasPanel_3 : decode cX8_hasPanel 3 = .ok (.getfield 36, 3) := by decide +kernel
theorem dX8_hasPanel_6 : decode cX8_hasPanel 6 = .ok (.iconst 1, 1) := by decide +kernel
theorem dX8_hasPanel_7 : decode cX8_hasPanel 7 = .ok (.isub, 1) := by decide +kernel
theorem dX8_hasPanel_8 : decode cX8_hasPanel 8 = .ok (.invokestatic 43, 3) := by decide +kernel
theorem dX8_hasPanel_11 : decode cX8_hasPanel 11 = .ok (.ireturn, 1) := by decide +kernel
theorem dX8_hasFlap_0 : decode cX8_hasFlap 0 = .ok (.iload_n 1, 1) := by decide +kernel
theorem dX8_hasFlap_1 : decode cX8_hasFlap 1 = .ok (.iconst 0, 1) := by decide +kernel
theorem dX8_hasFlap_2 : decode cX8_hasFlap 2 = .ok (.aload_n 0, 1) := by decide +kernel
theorem dX8_hasFlap_3 : decode cX8_hasFlap 3 = .ok (.getfield 47, 3) := by decide +kernel
theorem dX8_hasFlap_6 : decode cX8_hasFlap 6 = .ok (.iconst 1, 1) := by decide +kernel
theorem dX8_hasFlap_7 : decode cX8_hasFlap 7 = .ok (.isub, 1) := by decide +kernel
theorem dX8_hasFlap_8 : decode cX8_hasFlap 8 = .ok (.invokestatic 43, 3) := by decide +kernel
theorem dX8_hasFlap_11 : decode cX8_hasFlap 11 = .ok (.ireturn, 1) := by decide +kernel
theorem dX8_makeFlap_0 : decode cX8_makeFlap 0 = .ok (.aload_n 0, 1) := by decide +kernel
theorem dX8_makeFlap_1 : decode cX8_makeFlap 1 = .ok (.getfield 47, 3) := by decide +kernel
theorem dX8_makeFlap_4 : decode cX8_makeFlap 4 = .ok (.iconst 4, 1) := by decide +kernel
theorem dX8_makeFlap_5 : decode cX8_makeFlap 5 = .ok (.if_icmp .ne 5, 3) := by decide +kernel
theorem dX8_makeFlap_8 : decode cX8_makeFlap 8 = .ok (.iconst (-1), 1) := by decide +kernel
theorem dX8_makeFlap_9 : decode cX8_makeFlap 9 = .ok (.ireturn, 1) := by decide +kernel
theorem dX8_makeFlap_10 : decode cX8_makeFlap 10 = .ok (.aload_n 0, 1) := by decide +kernel
theorem dX8_makeFlap_11 : decode cX8_makeFlap 11 = .ok (.getfield 13, 3) := by decide +kernel
theorem dX8_makeFlap_14 : decode cX8_makeFlap 14 = .ok (.iload_n 1, 1) := by decide +kernel
theorem dX8_makeFlap_15 : decode cX8_makeFlap 15 = .ok (.aaload, 1) := by decide +kernel
theorem dX8_makeFlap_16 : decode cX8_makeFlap 16 = .ok (.getfield 50, 3) := by decide +kernel
theorem dX8_makeFlap_19 : decode cX8_makeFlap 19 = .ok (.ifCond .eq 6, 3) := by decide +kernel
theorem dX8_makeFlap_22 : decode cX8_makeFlap 22 = .ok (.bipush (-2), 2) := by decide +kernel
theorem dX8_makeFlap_24 : decode cX8_makeFlap 24 = .ok (.ireturn, 1) := by decide +kernel
theorem dX8_makeFlap_25 : decode cX8_makeFlap 25 = .ok (.aload_n 0, 1) := by decide +kernel
theorem dX8_makeFlap_26 : decode cX8_makeFlap 26 = .ok (.getfield 13, 3) := by decide +kernel
theorem dX8_makeFlap_29 : decode cX8_makeFlap 29 = .ok (.iload_n 1, 1) := by decide +kernel
theorem dX8_makeFlap_30 : decode cX8_makeFlap 30 = .ok (.aaload, 1) := by decide +kernel
theorem dX8_makeFlap_31 : decode cX8_makeFlap 31 = .ok (.iconst 1, 1) := by decide +kernel
theorem dX8_makeFlap_32 : decode cX8_makeFlap 32 = .ok (.putfield 50, 3) := by decide +kernel
theorem dX8_makeFlap_35 : decode cX8_makeFlap 35 = .ok (.aload_n 0, 1) := by decide +kernel
theorem dX8_makeFlap_36 : decode cX8_makeFlap 36 = .ok (.getfield 17, 3) := by decide +kernel
theorem dX8_makeFlap_39 : decode cX8_makeFlap 39 = .ok (.aload_n 0, 1) := by decide +kernel
theorem dX8_makeFlap_40 : decode cX8_makeFlap 40 = .ok (.getfield 47, 3) := by decide +kernel
theorem dX8_makeFlap_43 : decode cX8_makeFlap 43 = .ok (.aload_n 0, 1) := by decide +kernel
theorem dX8_makeFlap_44 : decode cX8_makeFlap 44 = .ok (.getfield 13, 3) := by decide +kernel
theorem dX8_makeFlap_47 : decode cX8_makeFlap 47 = .ok (.iload_n 1, 1) := by decide +kernel
theorem dX8_makeFlap_48 : decode cX8_makeFlap 48 = .ok (.aaload, 1) := by decide +kernel
theorem dX8_makeFlap_49 : decode cX8_makeFlap 49 = .ok (.aastore, 1) := by decide +kernel
theorem dX8_makeFlap_50 : decode cX8_makeFlap 50 = .ok (.aload_n 0, 1) := by decide +kernel
theorem dX8_makeFlap_51 : decode cX8_makeFlap 51 = .ok (.dup, 1) := by decide +kernel
theorem dX8_makeFlap_52 : decode cX8_makeFlap 52 = .ok (.getfield 47, 3) := by decide +kernel
theorem dX8_makeFlap_55 : decode cX8_makeFlap 55 = .ok (.dup_x1, 1) := by decide +kernel
theorem dX8_makeFlap_56 : decode cX8_makeFlap 56 = .ok (.iconst 1, 1) := by decide +kernel
theorem dX8_makeFlap_57 : decode cX8_makeFlap 57 = .ok (.iadd, 1) := by decide +kernel
theorem dX8_makeFlap_58 : decode cX8_makeFlap 58 = .ok (.putfield 47, 3) := by decide +kernel
theorem dX8_makeFlap_61 : decode cX8_makeFlap 61 = .ok (.ireturn, 1) := by decide +kernel
theorem dX8_pushX_0 : decode cX8_pushX 0 = .ok (.aload_n 0, 1) := by decide +kernel
theorem dX8_pushX_1 : decode cX8_pushX 1 = .ok (.iconst 0, 1) := by decide +kernel
theorem dX8_pushX_2 : decode cX8_pushX 2 = .ok (.iload_n 1, 1) := by decide +kernel
theorem dX8_pushX_3 : decode cX8_pushX 3 = .ok (.invokevirtual 54, 3) := by decide +kernel
theorem dX8_pushX_6 : decode cX8_pushX 6 = .ok (.ireturn, 1) := by decide +kernel
theorem dX8_pushXFrom_0 : decode cX8_pushXFrom 0 = .ok (.iconst 0, 1) := by decide +kernel
theorem dX8_pushXFrom_1 : decode cX8_pushXFrom 1 = .ok (.istore_n 3, 1) := by decide +kernel
theorem dX8_pushXFrom_2 : decode cX8_pushXFrom 2 = .ok (.iload_n 1, 1) := by decide +kernel
theorem dX8_pushXFrom_3 : decode cX8_pushXFrom 3 = .ok (.istore 4, 2) := by decide +kernel
theorem dX8_pushXFrom_5 : decode cX8_pushXFrom 5 = .ok (.iload 4, 2) := by decide +kernel
theorem dX8_pushXFrom_7 : decode cX8_pushXFrom 7 = .ok (.aload_n 0, 1) := by decide +kernel
theorem dX8_pushXFrom_8 : decode cX8_pushXFrom 8 = .ok (.getfield 36, 3) := by decide +kernel
theorem dX8_pushXFrom_11 : decode cX8_pushXFrom 11 = .ok (.if_icmp .ge 43, 3) := by decide +kernel
theorem dX8_pushXFrom_14 : decode cX8_pushXFrom 14 = .ok (.iload_n 3, 1) := by decide +kernel
theorem dX8_pushXFrom_15 : decode cX8_pushXFrom 15 = .ok (.aload_n 0, 1) := by decide +kernel
theorem dX8_pushXFrom_16 : decode cX8_pushXFrom 16 = .ok (.getfield 13, 3) := by decide +kernel
theorem dX8_pushXFrom_19 : decode cX8_pushXFrom 19 = .ok (.iload 4, 2) := by decide +kernel
theorem dX8_pushXFrom_21 : decode cX8_pushXFrom 21 = .ok (.aaload, 1) := by decide +kernel
theorem dX8_pushXFrom_22 : decode cX8_pushXFrom 22 = .ok (.iload_n 2, 1) := by decide +kernel
theorem dX8_pushXFrom_23 : decode cX8_pushXFrom 23 = .ok (.aload_n 0, 1) := by decide +kernel
theorem dX8_pushXFrom_24 : decode cX8_pushXFrom 24 = .ok (.getfield 13, 3) := by decide +kernel
theorem dX8_pushXFrom_27 : decode cX8_pushXFrom 27 = .ok (.iload 4, 2) := by decide +kernel
theorem dX8_pushXFrom_29 : decode cX8_pushXFrom 29 = .ok (.aaload, 1) := by decide +kernel
theorem dX8_pushXFrom_30 : decode cX8_pushXFrom 30 = .ok (.getfield 58, 3) := by decide +kernel
theorem dX8_pushXFrom_33 : decode cX8_pushXFrom 33 = .ok (.aload_n 0, 1) := by decide +kernel
theorem dX8_pushXFrom_34 : decode cX8_pushXFrom 34 = .ok (.getfield 13, 3) := by decide +kernel
theorem dX8_pushXFrom_37 : decode cX8_pushXFrom 37 = .ok (.iload 4, 2) := by decide +kernel
theorem dX8_pushXFrom_39 : decode cX8_pushXFrom 39 = .ok (.aaload, 1) := by decide +kernel
theorem dX8_pushXFrom_40 : decode cX8_pushXFrom 40 = .ok (.getfield 61, 3) := by decide +kernel
theorem dX8_pushXFrom_43 : decode cX8_pushXFrom 43 = .ok (.invokevirtual 64, 3) := by decide +kernel
theorem dX8_pushXFrom_46 : decode cX8_pushXFrom 46 = .ok (.iadd, 1) := by decide +kernel
theorem dX8_pushXFrom_47 : decode cX8_pushXFrom 47 = .ok (.istore_n 3, 1) := by decide +kernel
theorem dX8_pushXFrom_48 : decode cX8_pushXFrom 48 = .ok (.iinc 4 1, 3) := by decide +kernel
theorem dX8_pushXFrom_51 : decode cX8_pushXFrom 51 = .ok (.goto (-46), 3) := by decide +kernel
theorem dX8_pushXFrom_54 : decode cX8_pushXFrom 54 = .ok (.iload_n 3, 1) := by decide +kernel
theorem dX8_pushXFrom_55 : decode cX8_pushXFrom 55 = .ok (.ireturn, 1) := by decide +kernel
theorem dX8_pushY_0 : decode cX8_pushY 0 = .ok (.iconst 0, 1) := by decide +kernel
theorem dX8_pushY_1 : decode cX8_pushY 1 = .ok (.istore_n 2, 1) := by decide +kernel
theorem dX8_pushY_2 : decode cX8_pushY 2 = .ok (.iconst 0, 1) := by decide +kernel
theorem dX8_pushY_3 : decode cX8_pushY 3 = .ok (.istore_n 3, 1) := by decide +kernel
theorem dX8_pushY_4 : decode cX8_pushY 4 = .ok (.iload_n 3, 1) := by decide +kernel
theorem dX8_pushY_5 : decode cX8_pushY 5 = .ok (.aload_n 0, 1) := by decide +kernel
theorem dX8_pushY_6 : decode cX8_pushY 6 = .ok (.getfield 36, 3) := by decide +kernel
theorem dX8_pushY_9 : decode cX8_pushY 9 = .ok (.if_icmp .ge 22, 3) := by decide +kernel
theorem dX8_pushY_12 : decode cX8_pushY 12 = .ok (.iload_n 2, 1) := by decide +kernel
theorem dX8_pushY_13 : decode cX8_pushY 13 = .ok (.aload_n 0, 1) := by decide +kernel
theorem dX8_pushY_14 : decode cX8_pushY 14 = .ok (.getfield 13, 3) := by decide +kernel
theorem dX8_pushY_17 : decode cX8_pushY 17 = .ok (.iload_n 3, 1) := by decide +kernel
theorem dX8_pushY_18 : decode cX8_pushY 18 = .ok (.aaload, 1) := by decide +kernel
theorem dX8_pushY_19 : decode cX8_pushY 19 = .ok (.iload_n 1, 1) := by decide +kernel
theorem dX8_pushY_20 : decode cX8_pushY 20 = .ok (.invokevirtual 68, 3) := by decide +kernel
theorem dX8_pushY_23 : decode cX8_pushY 23 = .ok (.iadd, 1) := by decide +kernel
theorem dX8_pushY_24 : decode cX8_pushY 24 = .ok (.istore_n 2, 1) := by decide +kernel
theorem dX8_pushY_25 : decode cX8_pushY 25 = .ok (.iinc 3 1, 3) := by decide +kernel
theorem dX8_pushY_28 : decode cX8_pushY 28 = .ok (.goto (-24), 3) := by decide +kernel
theorem dX8_pushY_31 : decode cX8_pushY 31 = .ok (.iload_n 2, 1) := by decide +kernel
theorem dX8_pushY_32 : decode cX8_pushY 32 = .ok (.ireturn, 1) := by decide +kernel
theorem dX8_strength_0 : decode cX8_strength 0 = .ok (.iconst 0, 1) := by decide +kernel
theorem dX8_strength_1 : decode cX8_strength 1 = .ok (.bipush 20, 2) := by decide +kernel
theorem dX8_strength_3 : decode cX8_strength 3 = .ok (.aload_n 0, 1) := by decide +kernel
theorem dX8_strength_4 : decode cX8_strength 4 = .ok (.iconst 3, 1) := by decide +kernel
theorem dX8_strength_5 : decode cX8_strength 5 = .ok (.invokevirtual 72, 3) := by decide +kernel
theorem dX8_strength_8 : decode cX8_strength 8 = .ok (.bipush 100, 2) := by decide +kernel
theorem dX8_strength_10 : decode cX8_strength 10 = .ok (.idiv, 1) := by decide +kernel
theorem dX8_strength_11 : decode cX8_strength 11 = .ok (.invokestatic 73, 3) := by decide +kernel
theorem dX8_strength_14 : decode cX8_strength 14 = .ok (.invokestatic 78, 3) := by decide +kernel
theorem dX8_strength_17 : decode cX8_strength 17 = .ok (.ireturn, 1) := by decide +kernel
theorem dX8_arm_0 : decode cX8_arm 0 = .ok (.iload_n 2, 1) := by decide +kernel
theorem dX8_arm_1 : decode cX8_arm 1 = .ok (.ifCond .ne 15, 3) := by decide +kernel
theorem dX8_arm_4 : decode cX8_arm 4 = .ok (.aload_n 1, 1) := by decide +kernel
theorem dX8_arm_5 : decode cX8_arm 5 = .ok (.getfield 81, 3) := by decide +kernel
theorem dX8_arm_8 : decode cX8_arm 8 = .ok (.aload_n 0, 1) := by decide +kernel
theorem dX8_arm_9 : decode cX8_arm 9 = .ok (.getfield 84, 3) := by decide +kernel
theorem dX8_arm_12 : decode cX8_arm 12 = .ok (.isub, 1) := by decide +kernel
theorem dX8_arm_13 : decode cX8_arm 13 = .ok (.goto 12, 3) := by decide +kernel
theorem dX8_arm_16 : decode cX8_arm 16 = .ok (.aload_n 1, 1) := by decide +kernel
theorem dX8_arm_17 : decode cX8_arm 17 = .ok (.getfield 87, 3) := by decide +kernel
theorem dX8_arm_20 : decode cX8_arm 20 = .ok (.aload_n 0, 1) := by decide +kernel
theorem dX8_arm_21 : decode cX8_arm 21 = .ok (.getfield 90, 3) := by decide +kernel
theorem dX8_arm_24 : decode cX8_arm 24 = .ok (.isub, 1) := by decide +kernel
theorem dX8_arm_25 : decode cX8_arm 25 = .ok (.ireturn, 1) := by decide +kernel
theorem dX8_turnBy_0 : decode cX8_turnBy 0 = .ok (.iconst 0, 1) := by decide +kernel
theorem dX8_turnBy_1 : decode cX8_turnBy 1 = .ok (.istore_n 3, 1) := by decide +kernel
theorem dX8_turnBy_2 : decode cX8_turnBy 2 = .ok (.iconst 0, 1) := by decide +kernel
theorem dX8_turnBy_3 : decode cX8_turnBy 3 = .ok (.istore 4, 2) := by decide +kernel
theorem dX8_turnBy_5 : decode cX8_turnBy 5 = .ok (.iload 4, 2) := by decide +kernel
theorem dX8_turnBy_7 : decode cX8_turnBy 7 = .ok (.aload_n 0, 1) := by decide +kernel
theorem dX8_turnBy_8 : decode cX8_turnBy 8 = .ok (.getfield 36, 3) := by decide +kernel
theorem dX8_turnBy_11 : decode cX8_turnBy 11 = .ok (.if_icmp .ge 46, 3) := by decide +kernel
theorem dX8_turnBy_14 : decode cX8_turnBy 14 = .ok (.iload_n 3, 1) := by decide +kernel
theorem dX8_turnBy_15 : decode cX8_turnBy 15 = .ok (.aload_n 0, 1) := by decide +kernel
theorem dX8_turnBy_16 : decode cX8_turnBy 16 = .ok (.getfield 13, 3) := by decide +kernel
theorem dX8_turnBy_19 : decode cX8_turnBy 19 = .ok (.iload 4, 2) := by decide +kernel
theorem dX8_turnBy_21 : decode cX8_turnBy 21 = .ok (.aaload, 1) := by decide +kernel
theorem dX8_turnBy_22 : decode cX8_turnBy 22 = .ok (.iload_n 1, 1) := by decide +kernel
theorem dX8_turnBy_23 : decode cX8_turnBy 23 = .ok (.aload_n 0, 1) := by decide +kernel
theorem dX8_turnBy_24 : decode cX8_turnBy 24 = .ok (.getfield 13, 3) := by decide +kernel
theorem dX8_turnBy_27 : decode cX8_turnBy 27 = .ok (.iload 4, 2) := by decide +kernel
theorem dX8_turnBy_29 : decode cX8_turnBy 29 = .ok (.aaload, 1) := by decide +kernel
theorem dX8_turnBy_30 : decode cX8_turnBy 30 = .ok (.getfield 93, 3) := by decide +kernel
theorem dX8_turnBy_33 : decode cX8_turnBy 33 = .ok (.invokevirtual 96, 3) := by decide +kernel
theorem dX8_turnBy_36 : decode cX8_turnBy 36 = .ok (.aload_n 0, 1) := by decide +kernel
theorem dX8_turnBy_37 : decode cX8_turnBy 37 = .ok (.aload_n 0, 1) := by decide +kernel
theorem dX8_turnBy_38 : decode cX8_turnBy 38 = .ok (.getfield 13, 3) := by decide +kernel
theorem dX8_turnBy_41 : decode cX8_turnBy 41 = .ok (.iload 4, 2) := by decide +kernel
theorem dX8_turnBy_43 : decode cX8_turnBy 43 = .ok (.aaload, 1) := by decide +kernel
theorem dX8_turnBy_44 : decode cX8_turnBy 44 = .ok (.iload_n 2, 1) := by decide +kernel
theorem dX8_turnBy_45 : decode cX8_turnBy 45 = .ok (.invokevirtual 99, 3) := by decide +kernel
theorem dX8_turnBy_48 : decode cX8_turnBy 48 = .ok (.imul, 1) := by decide +kernel
theorem dX8_turnBy_49 : decode cX8_turnBy 49 = .ok (.iadd, 1) := by decide +kernel
theorem dX8_turnBy_50 : decode cX8_turnBy 50 = .ok (.istore_n 3, 1) := by decide +kernel
theorem dX8_turnBy_51 : decode cX8_turnBy 51 = .ok (.iinc 4 1, 3) := by decide +kernel
theorem dX8_turnBy_54 : decode cX8_turnBy 54 = .ok (.goto (-49), 3) := by decide +kernel
theorem dX8_turnBy_57 : decode cX8_turnBy 57 = .ok (.iload_n 3, 1) := by decide +kernel
theorem dX8_turnBy_58 : decode cX8_turnBy 58 = .ok (.ireturn, 1) := by decide +kernel
theorem dX8_tornPanels_0 : decode cX8_tornPanels 0 = .ok (.iconst 0, 1) := by decide +kernel
theorem dX8_tornPanels_1 : decode cX8_tornPanels 1 = .ok (.istore_n 1, 1) := by decide +kernel
theorem dX8_tornPanels_2 : decode cX8_tornPanels 2 = .ok (.iconst 0, 1) := by decide +kernel
theorem dX8_tornPanels_3 : decode cX8_tornPanels 3 = .ok (.istore_n 2, 1) := by decide +kernel
theorem dX8_tornPanels_4 : decode cX8_tornPanels 4 = .ok (.iload_n 2, 1) := by decide +kernel
theorem dX8_tornPanels_5 : decode cX8_tornPanels 5 = .ok (.aload_n 0, 1) := by decide +kernel
theorem dX8_tornPanels_6 : decode cX8_tornPanels 6 = .ok (.getfield 36, 3) := by decide +kernel
theorem dX8_tornPanels_9 : decode cX8_tornPanels 9 = .ok (.if_icmp .ge 29, 3) := by decide +kernel
theorem dX8_tornPanels_12 : decode cX8_tornPanels 12 = .ok (.iload_n 1, 1) := by decide +kernel
theorem dX8_tornPanels_13 : decode cX8_tornPanels 13 = .ok (.aload_n 0, 1) := by decide +kernel
theorem dX8_tornPanels_14 : decode cX8_tornPanels 14 = .ok (.getfield 13, 3) := by decide +kernel
theorem dX8_tornPanels_17 : decode cX8_tornPanels 17 = .ok (.iload_n 2, 1) := by decide +kernel
theorem dX8_tornPanels_18 : decode cX8_tornPanels 18 = .ok (.aaload, 1) := by decide +kernel
theorem dX8_tornPanels_19 : decode cX8_tornPanels 19 = .ok (.getfield 103, 3) := by decide +kernel
theorem dX8_tornPanels_22 : decode cX8_tornPanels 22 = .ok (.ifCond .eq 7, 3) := by decide +kernel
theorem dX8_tornPanels_25 : decode cX8_tornPanels 25 = .ok (.iconst 1, 1) := by decide +kernel
theorem dX8_tornPanels_26 : decode cX8_tornPanels 26 = .ok (.goto 4, 3) := by decide +kernel
theorem dX8_tornPanels_29 : decode cX8_tornPanels 29 = .ok (.iconst 0, 1) := by decide +kernel
theorem dX8_tornPanels_30 : decode cX8_tornPanels 30 = .ok (.iadd, 1) := by decide +kernel
theorem dX8_tornPanels_31 : decode cX8_tornPanels 31 = .ok (.istore_n 1, 1) := by decide +kernel
theorem dX8_tornPanels_32 : decode cX8_tornPanels 32 = .ok (.iinc 2 1, 3) := by decide +kernel
theorem dX8_tornPanels_35 : decode cX8_tornPanels 35 = .ok (.goto (-31), 3) := by decide +kernel
theorem dX8_tornPanels_38 : decode cX8_tornPanels 38 = .ok (.iload_n 1, 1) := by decide +kernel
theorem dX8_tornPanels_39 : decode cX8_tornPanels 39 = .ok (.ireturn, 1) := by decide +kernel
theorem dX8_findTrim_0 : decode cX8_findTrim 0 = .ok (.aload_n 0, 1) := by decide +kernel
theorem dX8_findTrim_1 : decode cX8_findTrim 1 = .ok (.iload_n 1, 1) := by decide +kernel
theorem dX8_findTrim_2 : decode cX8_findTrim 2 = .ok (.invokevirtual 106, 3) := by decide +kernel
theorem dX8_findTrim_5 : decode cX8_findTrim 5 = .ok (.aload_n 0, 1) := by decide +kernel
theorem dX8_findTrim_6 : decode cX8_findTrim 6 = .ok (.iload_n 1, 1) := by decide +kernel
theorem dX8_findTrim_7 : decode cX8_findTrim 7 = .ok (.invokevirtual 110, 3) := by decide +kernel
theorem dX8_findTrim_10 : decode cX8_findTrim 10 = .ok (.iconst (-1), 1) := by decide +kernel
theorem dX8_findTrim_11 : decode cX8_findTrim 11 = .ok (.istore_n 2, 1) := by decide +kernel
theorem dX8_findTrim_12 : decode cX8_findTrim 12 = .ok (.iconst 1, 1) := by decide +kernel
theorem dX8_findTrim_13 : decode cX8_findTrim 13 = .ok (.istore_n 3, 1) := by decide +kernel
theorem dX8_findTrim_14 : decode cX8_findTrim 14 = .ok (.iconst 0, 1) := by decide +kernel
theorem dX8_findTrim_15 : decode cX8_findTrim 15 = .ok (.istore 4, 2) := by decide +kernel
theorem dX8_findTrim_17 : decode cX8_findTrim 17 = .ok (.iload 4, 2) := by decide +kernel
theorem dX8_findTrim_19 : decode cX8_findTrim 19 = .ok (.sipush 625, 3) := by decide +kernel
theorem dX8_findTrim_22 : decode cX8_findTrim 22 = .ok (.if_icmp .ge 88, 3) := by decide +kernel
theorem dX8_findTrim_25 : decode cX8_findTrim 25 = .ok (.iload_n 3, 1) := by decide +kernel
theorem dX8_findTrim_26 : decode cX8_findTrim 26 = .ok (.ifCond .eq 84, 3) := by decide +kernel
theorem dX8_findTrim_29 : decode cX8_findTrim 29 = .ok (.aload_n 0, 1) := by decide +kernel
theorem dX8_findTrim_30 : decode cX8_findTrim 30 = .ok (.aload_n 0, 1) := by decide +kernel
theorem dX8_findTrim_31 : decode cX8_findTrim 31 = .ok (.getfield 113, 3) := by decide +kernel
theorem dX8_findTrim_34 : decode cX8_findTrim 34 = .ok (.iconst 0, 1) := by decide +kernel
theorem dX8_findTrim_35 : decode cX8_findTrim 35 = .ok (.invokevirtual 116, 3) := by decide +kernel
theorem dX8_findTrim_38 : decode cX8_findTrim 38 = .ok (.invokestatic 119, 3) := by decide +kernel
theorem dX8_findTrim_41 : decode cX8_findTrim 41 = .ok (.aload_n 0, 1) := by decide +kernel
theorem dX8_findTrim_42 : decode cX8_findTrim 42 = .ok (.aload_n 0, 1) := by decide +kernel
theorem dX8_findTrim_43 : decode cX8_findTrim 43 = .ok (.getfield 122, 3) := by decide +kernel
theorem dX8_findTrim_46 : decode cX8_findTrim 46 = .ok (.iconst 1, 1) := by decide +kernel
theorem dX8_findTrim_47 : decode cX8_findTrim 47 = .ok (.invokevirtual 116, 3) := by decide +kernel
theorem dX8_findTrim_50 : decode cX8_findTrim 50 = .ok (.invokestatic 119, 3) := by decide +kernel
theorem dX8_findTrim_53 : decode cX8_findTrim 53 = .ok (.iadd, 1) := by decide +kernel
theorem dX8_findTrim_54 : decode cX8_findTrim 54 = .ok (.istore 5, 2) := by decide +kernel
theorem dX8_findTrim_56 : decode cX8_findTrim 56 = .ok (.iload_n 2, 1) := by decide +kernel
theorem dX8_findTrim_57 : decode cX8_findTrim 57 = .ok (.iconst (-1), 1) := by decide +kernel
theorem dX8_findTrim_58 : decode cX8_findTrim 58 = .ok (.if_icmp .eq 9, 3) := by decide +kernel
theorem dX8_findTrim_61 : decode cX8_findTrim 61 = .ok (.iload 5, 2) := by decide +kernel
theorem dX8_findTrim_63 : decode cX8_findTrim 63 = .ok (.iload_n 2, 1) := by decide +kernel
theorem dX8_findTrim_64 : decode cX8_findTrim 64 = .ok (.if_icmp .ge 20, 3) := by decide +kernel
theorem dX8_findTrim_67 : decode cX8_findTrim 67 = .ok (.iload 5, 2) := by decide +kernel
theorem dX8_findTrim_69 : decode cX8_findTrim 69 = .ok (.istore_n 2, 1) := by decide +kernel
theorem dX8_findTrim_70 : decode cX8_findTrim 70 = .ok (.aload_n 0, 1) := by decide +kernel
theorem dX8_findTrim_71 : decode cX8_findTrim 71 = .ok (.getfield 24, 3) := by decide +kernel
theorem dX8_findTrim_74 : decode cX8_findTrim 74 = .ok (.iconst 0, 1) := by decide +kernel
theorem dX8_findTrim_75 : decode cX8_findTrim 75 = .ok (.aload_n 0, 1) := by decide +kernel
theorem dX8_findTrim_76 : decode cX8_findTrim 76 = .ok (.getfield 20, 3) := by decide +kernel
theorem dX8_findTrim_79 : decode cX8_findTrim 79 = .ok (.iconst 0, 1) := by decide +kernel
theorem dX8_findTrim_80 : decode cX8_findTrim 80 = .ok (.iconst 4, 1) := by decide +kernel
theorem dX8_findTrim_81 : decode cX8_findTrim 81 = .ok (.invokestatic 125, 3) := by decide +kernel
theorem dX8_findTrim_84 : decode cX8_findTrim 84 = .ok (.aload_n 0, 1) := by decide +kernel
theorem dX8_findTrim_85 : decode cX8_findTrim 85 = .ok (.getfield 24, 3) := by decide +kernel
theorem dX8_findTrim_88 : decode cX8_findTrim 88 = .ok (.aload_n 0, 1) := by decide +kernel
theorem dX8_findTrim_89 : decode cX8_findTrim 89 = .ok (.getfield 27, 3) := by decide +kernel
theorem dX8_findTrim_92 : decode cX8_findTrim 92 = .ok (.aload_n 0, 1) := by decide +kernel
theorem dX8_findTrim_93 : decode cX8_findTrim 93 = .ok (.getfield 30, 3) := by decide +kernel
theorem dX8_findTrim_96 : decode cX8_findTrim 96 = .ok (.aload_n 0, 1) := by decide +kernel
theorem dX8_findTrim_97 : decode cX8_findTrim 97 = .ok (.getfield 47, 3) := by decide +kernel
theorem dX8_findTrim_100 : decode cX8_findTrim 100 = .ok (.invokestatic 131, 3) := by decide +kernel
theorem dX8_findTrim_103 : decode cX8_findTrim 103 = .ok (.istore_n 3, 1) := by decide +kernel
theorem dX8_findTrim_104 : decode cX8_findTrim 104 = .ok (.iinc 4 1, 3) := by decide +kernel
theorem dX8_findTrim_107 : decode cX8_findTrim 107 = .ok (.goto (-90), 3) := by decide +kernel
theorem dX8_findTrim_110 : decode cX8_findTrim 110 = .ok (.iload_n 2, 1) := by decide +kernel
theorem dX8_findTrim_111 : decode cX8_findTrim 111 = .ok (.ireturn, 1) := by decide +kernel
theorem dX8_sumUpRest_0 : decode cX8_sumUpRest 0 = .ok (.aload_n 0, 1) := by decide +kernel
theorem dX8_sumUpRest_1 : decode cX8_sumUpRest 1 = .ok (.iconst 0, 1) := by decide +kernel
theorem dX8_sumUpRest_2 : decode cX8_sumUpRest 2 = .ok (.putfield 113, 3) := by decide +kernel
theorem dX8_sumUpRest_5 : decode cX8_sumUpRest 5 = .ok (.aload_n 0, 1) := by decide +kernel
theorem dX8_sumUpRest_6 : decode cX8_sumUpRest 6 = .ok (.iconst 0, 1) := by decide +kernel
theorem dX8_sumUpRest_7 : decode cX8_sumUpRest 7 = .ok (.putfield 122, 3) := by decide +kernel
theorem dX8_sumUpRest_10 : decode cX8_sumUpRest 10 = .ok (.iconst 0, 1) := by decide +kernel
theorem dX8_sumUpRest_11 : decode cX8_sumUpRest 11 = .ok (.istore_n 2, 1) := by decide +kernel
theorem dX8_sumUpRest_12 : decode cX8_sumUpRest 12 = .ok (.iload_n 2, 1) := by decide +kernel
theorem dX8_sumUpRest_13 : decode cX8_sumUpRest 13 = .ok (.aload_n 0, 1) := by decide +kernel
theorem dX8_sumUpRest_14 : decode cX8_sumUpRest 14 = .ok (.getfield 36, 3) := by decide +kernel
theorem dX8_sumUpRest_17 : decode cX8_sumUpRest 17 = .ok (.if_icmp .ge 77, 3) := by decide +kernel
theorem dX8_sumUpRest_20 : decode cX8_sumUpRest 20 = .ok (.aload_n 0, 1) := by decide +kernel
theorem dX8_sumUpRest_21 : decode cX8_sumUpRest 21 = .ok (.getfield 13, 3) := by decide +kernel
theorem dX8_sumUpRest_24 : decode cX8_sumUpRest 24 = .ok (.iload_n 2, 1) := by decide +kernel
theorem dX8_sumUpRest_25 : decode cX8_sumUpRest 25 = .ok (.aaload, 1) := by decide +kernel
theorem dX8_sumUpRest_26 : decode cX8_sumUpRest 26 = .ok (.getfield 50, 3) := by decide +kernel
theorem dX8_sumUpRest_29 : decode cX8_sumUpRest 29 = .ok (.ifCond .ne 59, 3) := by decide +kernel
theorem dX8_sumUpRest_32 : decode cX8_sumUpRest 32 = .ok (.aload_n 0, 1) := by decide +kernel
theorem dX8_sumUpRest_33 : decode cX8_sumUpRest 33 = .ok (.getfield 13, 3) := by decide +kernel
theorem dX8_sumUpRest_36 : decode cX8_sumUpRest 36 = .ok (.iload_n 2, 1) := by decide +kernel
theorem dX8_sumUpRest_37 : decode cX8_sumUpRest 37 = .ok (.aaload, 1) := by decide +kernel
theorem dX8_sumUpRest_38 : decode cX8_sumUpRest 38 = .ok (.iload_n 1, 1) := by decide +kernel
theorem dX8_sumUpRest_39 : decode cX8_sumUpRest 39 = .ok (.iconst 0, 1) := by decide +kernel
theorem dX8_sumUpRest_40 : decode cX8_sumUpRest 40 = .ok (.invokevirtual 96, 3) := by decide +kernel
theorem dX8_sumUpRest_43 : decode cX8_sumUpRest 43 = .ok (.istore_n 3, 1) := by decide +kernel
theorem dX8_sumUpRest_44 : decode cX8_sumUpRest 44 = .ok (.aload_n 0, 1) := by decide +kernel
theorem dX8_sumUpRest_45 : decode cX8_sumUpRest 45 = .ok (.dup, 1) := by decide +kernel
theorem dX8_sumUpRest_46 : decode cX8_sumUpRest 46 = .ok (.getfield 113, 3) := by decide +kernel
theorem dX8_sumUpRest_49 : decode cX8_sumUpRest 49 = .ok (.iload_n 3, 1) := by decide +kernel
theorem dX8_sumUpRest_50 : decode cX8_sumUpRest 50 = .ok (.aload_n 0, 1) := by decide +kernel
theorem dX8_sumUpRest_51 : decode cX8_sumUpRest 51 = .ok (.aload_n 0, 1) := by decide +kernel
theorem dX8_sumUpRest_52 : decode cX8_sumUpRest 52 = .ok (.getfield 13, 3) := by decide +kernel
theorem dX8_sumUpRest_55 : decode cX8_sumUpRest 55 = .ok (.iload_n 2, 1) := by decide +kernel
theorem dX8_sumUpRest_56 : decode cX8_sumUpRest 56 = .ok (.aaload, 1) := by decide +kernel
theorem dX8_sumUpRest_57 : decode cX8_sumUpRest 57 = .ok (.iconst 0, 1) := by decide +kernel
theorem dX8_sumUpRest_58 : decode cX8_sumUpRest 58 = .ok (.invokevirtual 99, 3) := by decide +kernel
theorem dX8_sumUpRest_61 : decode cX8_sumUpRest 61 = .ok (.imul, 1) := by decide +kernel
theorem dX8_sumUpRest_62 : decode cX8_sumUpRest 62 = .ok (.iadd, 1) := by decide +kernel
theorem dX8_sumUpRest_63 : decode cX8_sumUpRest 63 = .ok (.putfield 113, 3) := by decide +kernel
theorem dX8_sumUpRest_66 : decode cX8_sumUpRest 66 = .ok (.aload_n 0, 1) := by decide +kernel
theorem dX8_sumUpRest_67 : decode cX8_sumUpRest 67 = .ok (.dup, 1) := by decide +kernel
theorem dX8_sumUpRest_68 : decode cX8_sumUpRest 68 = .ok (.getfield 122, 3) := by decide +kernel
theorem dX8_sumUpRest_71 : decode cX8_sumUpRest 71 = .ok (.iload_n 3, 1) := by decide +kernel
theorem dX8_sumUpRest_72 : decode cX8_sumUpRest 72 = .ok (.aload_n 0, 1) := by decide +kernel
theorem dX8_sumUpRest_73 : decode cX8_sumUpRest 73 = .ok (.aload_n 0, 1) := by decide +kernel
theorem dX8_sumUpRest_74 : decode cX8_sumUpRest 74 = .ok (.getfield 13, 3) := by decide +kernel
theorem dX8_sumUpRest_77 : decode cX8_sumUpRest 77 = .ok (.iload_n 2, 1) := by decide +kernel
theorem dX8_sumUpRest_78 : decode cX8_sumUpRest 78 = .ok (.aaload, 1) := by decide +kernel
theorem dX8_sumUpRest_79 : decode cX8_sumUpRest 79 = .ok (.iconst 1, 1) := by decide +kernel
theorem dX8_sumUpRest_80 : decode cX8_sumUpRest 80 = .ok (.invokevirtual 99, 3) := by decide +kernel
theorem dX8_sumUpRest_83 : decode cX8_sumUpRest 83 = .ok (.imul, 1) := by decide +kernel
theorem dX8_sumUpRest_84 : decode cX8_sumUpRest 84 = .ok (.iadd, 1) := by decide +kernel
theorem dX8_sumUpRest_85 : decode cX8_sumUpRest 85 = .ok (.putfield 122, 3) := by decide +kernel
theorem dX8_sumUpRest_88 : decode cX8_sumUpRest 88 = .ok (.iinc 2 1, 3) := by decide +kernel
theorem dX8_sumUpRest_91 : decode cX8_sumUpRest 91 = .ok (.goto (-79), 3) := by decide +kernel
theorem dX8_sumUpRest_94 : decode cX8_sumUpRest 94 = .ok (.return_, 1) := by decide +kernel
theorem dX8_tableFlaps_0 : decode cX8_tableFlaps 0 = .ok (.iconst 0, 1) := by decide +kernel
theorem dX8_tableFlaps_1 : decode cX8_tableFlaps 1 = .ok (.istore_n 2, 1) := by decide +kernel
theorem dX8_tableFlaps_2 : decode cX8_tableFlaps 2 = .ok (.iload_n 2, 1) := by decide +kernel
theorem dX8_tableFlaps_3 : decode cX8_tableFlaps 3 = .ok (.aload_n 0, 1) := by decide +kernel
theorem dX8_tableFlaps_4 : decode cX8_tableFlaps 4 = .ok (.getfield 47, 3) := by decide +kernel
theorem dX8_tableFlaps_7 : decode cX8_tableFlaps 7 = .ok (.if_icmp .ge 107, 3) := by decide +kernel
theorem dX8_tableFlaps_10 : decode cX8_tableFlaps 10 = .ok (.aload_n 0, 1) := by decide +kernel
theorem dX8_tableFlaps_11 : decode cX8_tableFlaps 11 = .ok (.getfield 17, 3) := by decide +kernel
theorem dX8_tableFlaps_14 : decode cX8_tableFlaps 14 = .ok (.iload_n 2, 1) := by decide +kernel
theorem dX8_tableFlaps_15 : decode cX8_tableFlaps 15 = .ok (.aaload, 1) := by decide +kernel
theorem dX8_tableFlaps_16 : decode cX8_tableFlaps 16 = .ok (.astore_n 3, 1) := by decide +kernel
theorem dX8_tableFlaps_17 : decode cX8_tableFlaps 17 = .ok (.aload_n 0, 1) := by decide +kernel
theorem dX8_tableFlaps_18 : decode cX8_tableFlaps 18 = .ok (.getfield 27, 3) := by decide +kernel
theorem dX8_tableFlaps_21 : decode cX8_tableFlaps 21 = .ok (.iload_n 2, 1) := by decide +kernel
theorem dX8_tableFlaps_22 : decode cX8_tableFlaps 22 = .ok (.aload_n 3, 1) := by decide +kernel
theorem dX8_tableFlaps_23 : decode cX8_tableFlaps 23 = .ok (.getfield 135, 3) := by decide +kernel
theorem dX8_tableFlaps_26 : decode cX8_tableFlaps 26 = .ok (.ifCond .eq 10, 3) := by decide +kernel
theorem dX8_tableFlaps_29 : decode cX8_tableFlaps 29 = .ok (.aload_n 3, 1) := by decide +kernel
theorem dX8_tableFlaps_30 : decode cX8_tableFlaps 30 = .ok (.getfield 93, 3) := by decide +kernel
theorem dX8_tableFlaps_33 : decode cX8_tableFlaps 33 = .ok (.goto 5, 3) := by decide +kernel
theorem dX8_tableFlaps_36 : decode cX8_tableFlaps 36 = .ok (.bipush (-2), 2) := by decide +kernel
theorem dX8_tableFlaps_38 : decode cX8_tableFlaps 38 = .ok (.iastore, 1) := by decide +kernel
theorem dX8_tableFlaps_39 : decode cX8_tableFlaps 39 = .ok (.aload_n 0, 1) := by decide +kernel
theorem dX8_tableFlaps_40 : decode cX8_tableFlaps 40 = .ok (.getfield 30, 3) := by decide +kernel
theorem dX8_tableFlaps_43 : decode cX8_tableFlaps 43 = .ok (.iload_n 2, 1) := by decide +kernel
theorem dX8_tableFlaps_44 : decode cX8_tableFlaps 44 = .ok (.aload_n 3, 1) := by decide +kernel
theorem dX8_tableFlaps_45 : decode cX8_tableFlaps 45 = .ok (.getfield 135, 3) := by decide +kernel
theorem dX8_tableFlaps_48 : decode cX8_tableFlaps 48 = .ok (.ifCond .eq 10, 3) := by decide +kernel
theorem dX8_tableFlaps_51 : decode cX8_tableFlaps 51 = .ok (.aload_n 3, 1) := by decide +kernel
theorem dX8_tableFlaps_52 : decode cX8_tableFlaps 52 = .ok (.getfield 93, 3) := by decide +kernel
theorem dX8_tableFlaps_55 : decode cX8_tableFlaps 55 = .ok (.goto 4, 3) := by decide +kernel
theorem dX8_tableFlaps_58 : decode cX8_tableFlaps 58 = .ok (.iconst 2, 1) := by decide +kernel
theorem dX8_tableFlaps_59 : decode cX8_tableFlaps 59 = .ok (.iastore, 1) := by decide +kernel
theorem dX8_tableFlaps_60 : decode cX8_tableFlaps 60 = .ok (.aload_n 0, 1) := by decide +kernel
theorem dX8_tableFlaps_61 : decode cX8_tableFlaps 61 = .ok (.getfield 24, 3) := by decide +kernel
theorem dX8_tableFlaps_64 : decode cX8_tableFlaps 64 = .ok (.iload_n 2, 1) := by decide +kernel
theorem dX8_tableFlaps_65 : decode cX8_tableFlaps 65 = .ok (.aload_n 0, 1) := by decide +kernel
theorem dX8_tableFlaps_66 : decode cX8_tableFlaps 66 = .ok (.getfield 27, 3) := by decide +kernel
theorem dX8_tableFlaps_69 : decode cX8_tableFlaps 69 = .ok (.iload_n 2, 1) := by decide +kernel
theorem dX8_tableFlaps_70 : decode cX8_tableFlaps 70 = .ok (.iaload, 1) := by decide +kernel
theorem dX8_tableFlaps_71 : decode cX8_tableFlaps 71 = .ok (.iastore, 1) := by decide +kernel
theorem dX8_tableFlaps_72 : decode cX8_tableFlaps 72 = .ok (.bipush (-2), 2) := by decide +kernel
theorem dX8_tableFlaps_74 : decode cX8_tableFlaps 74 = .ok (.istore 4, 2) := by decide +kernel
theorem dX8_tableFlaps_76 : decode cX8_tableFlaps 76 = .ok (.iload 4, 2) := by decide +kernel
theorem dX8_tableFlaps_78 : decode cX8_tableFlaps 78 = .ok (.iconst 2, 1) := by decide +kernel
theorem dX8_tableFlaps_79 : decode cX8_tableFlaps 79 = .ok (.if_icmp .gt 29, 3) := by decide +kernel
theorem dX8_tableFlaps_82 : decode cX8_tableFlaps 82 = .ok (.aload_n 0, 1) := by decide +kernel
theorem dX8_tableFlaps_83 : decode cX8_tableFlaps 83 = .ok (.getfield 33, 3) := by decide +kernel
theorem dX8_tableFlaps_86 : decode cX8_tableFlaps 86 = .ok (.iload_n 2, 1) := by decide +kernel
theorem dX8_tableFlaps_87 : decode cX8_tableFlaps 87 = .ok (.iconst 5, 1) := by decide +kernel
theorem dX8_tableFlaps_88 : decode cX8_tableFlaps 88 = .ok (.imul, 1) := by decide +kernel
theorem dX8_tableFlaps_89 : decode cX8_tableFlaps 89 = .ok (.iload 4, 2) := by decide +kernel
theorem dX8_tableFlaps_91 : decode cX8_tableFlaps 91 = .ok (.iadd, 1) := by decide +kernel
theorem dX8_tableFlaps_92 : decode cX8_tableFlaps 92 = .ok (.iconst 2, 1) := by decide +kernel
theorem dX8_tableFlaps_93 : decode cX8_tableFlaps 93 = .ok (.iadd, 1) := by decide +kernel
theorem dX8_tableFlaps_94 : decode cX8_tableFlaps 94 = .ok (.aload_n 3, 1) := by decide +kernel
theorem dX8_tableFlaps_95 : decode cX8_tableFlaps 95 = .ok (.iload_n 1, 1) := by decide +kernel
theorem dX8_tableFlaps_96 : decode cX8_tableFlaps 96 = .ok (.iload 4, 2) := by decide +kernel
theorem dX8_tableFlaps_98 : decode cX8_tableFlaps 98 = .ok (.invokevirtual 96, 3) := by decide +kernel
theorem dX8_tableFlaps_101 : decode cX8_tableFlaps 101 = .ok (.iastore, 1) := by decide +kernel
theorem dX8_tableFlaps_102 : decode cX8_tableFlaps 102 = .ok (.iinc 4 1, 3) := by decide +kernel
theorem dX8_tableFlaps_105 : decode cX8_tableFlaps 105 = .ok (.goto (-29), 3) := by decide +kernel
theorem dX8_tableFlaps_108 : decode cX8_tableFlaps 108 = .ok (.iinc 2 1, 3) := by decide +kernel
theorem dX8_tableFlaps_111 : decode cX8_tableFlaps 111 = .ok (.goto (-109), 3) := by decide +kernel
theorem dX8_tableFlaps_114 : decode cX8_tableFlaps 114 = .ok (.return_, 1) := by decide +kernel
theorem dX8_turnWithFlaps_0 : decode cX8_turnWithFlaps 0 = .ok (.iload_n 1, 1) := by decide +kernel
theorem dX8_turnWithFlaps_1 : decode cX8_turnWithFlaps 1 = .ok (.istore_n 3, 1) := by decide +kernel
theorem dX8_turnWithFlaps_2 : decode cX8_turnWithFlaps 2 = .ok (.iconst 0, 1) := by decide +kernel
theorem dX8_turnWithFlaps_3 : decode cX8_turnWithFlaps 3 = .ok (.istore 4, 2) := by decide +kernel
theorem dX8_turnWithFlaps_5 : decode cX8_turnWithFlaps 5 = .ok (.iload 4, 2) := by decide +kernel
theorem dX8_turnWithFlaps_7 : decode cX8_turnWithFlaps 7 = .ok (.aload_n 0, 1) := by decide +kernel
theorem dX8_turnWithFlaps_8 : decode cX8_turnWithFlaps 8 = .ok (.getfield 47, 3) := by decide +kernel
theorem dX8_turnWithFlaps_11 : decode cX8_turnWithFlaps 11 = .ok (.if_icmp .ge 44, 3) := by decide +kernel
theorem dX8_turnWithFlaps_14 : decode cX8_turnWithFlaps 14 = .ok (.iload_n 3, 1) := by decide +kernel
theorem dX8_turnWithFlaps_15 : decode cX8_turnWithFlaps 15 = .ok (.aload_n 0, 1) := by decide +kernel
theorem dX8_turnWithFlaps_16 : decode cX8_turnWithFlaps 16 = .ok (.getfield 33, 3) := by decide +kernel
theorem dX8_turnWithFlaps_19 : decode cX8_turnWithFlaps 19 = .ok (.iload 4, 2) := by decide +kernel
theorem dX8_turnWithFlaps_21 : decode cX8_turnWithFlaps 21 = .ok (.iconst 5, 1) := by decide +kernel
theorem dX8_turnWithFlaps_22 : decode cX8_turnWithFlaps 22 = .ok (.imul, 1) := by decide +kernel
theorem dX8_turnWithFlaps_23 : decode cX8_turnWithFlaps 23 = .ok (.aload_n 0, 1) := by decide +kernel
theorem dX8_turnWithFlaps_24 : decode cX8_turnWithFlaps 24 = .ok (.getfield 24, 3) := by decide +kernel
theorem dX8_turnWithFlaps_27 : decode cX8_turnWithFlaps 27 = .ok (.iload 4, 2) := by decide +kernel
theorem dX8_turnWithFlaps_29 : decode cX8_turnWithFlaps 29 = .ok (.iaload, 1) := by decide +kernel
theorem dX8_turnWithFlaps_30 : decode cX8_turnWithFlaps 30 = .ok (.iadd, 1) := by decide +kernel
theorem dX8_turnWithFlaps_31 : decode cX8_turnWithFlaps 31 = .ok (.iconst 2, 1) := by decide +kernel
theorem dX8_turnWithFlaps_32 : decode cX8_turnWithFlaps 32 = .ok (.iadd, 1) := by decide +kernel
theorem dX8_turnWithFlaps_33 : decode cX8_turnWithFlaps 33 = .ok (.iaload, 1) := by decide +kernel
theorem dX8_turnWithFlaps_34 : decode cX8_turnWithFlaps 34 = .ok (.aload_n 0, 1) := by decide +kernel
theorem dX8_turnWithFlaps_35 : decode cX8_turnWithFlaps 35 = .ok (.aload_n 0, 1) := by decide +kernel
theorem dX8_turnWithFlaps_36 : decode cX8_turnWithFlaps 36 = .ok (.getfield 17, 3) := by decide +kernel
theorem dX8_turnWithFlaps_39 : decode cX8_turnWithFlaps 39 = .ok (.iload 4, 2) := by decide +kernel
theorem dX8_turnWithFlaps_41 : decode cX8_turnWithFlaps 41 = .ok (.aaload, 1) := by decide +kernel
theorem dX8_turnWithFlaps_42 : decode cX8_turnWithFlaps 42 = .ok (.iload_n 2, 1) := by decide +kernel
theorem dX8_turnWithFlaps_43 : decode cX8_turnWithFlaps 43 = .ok (.invokevirtual 99, 3) := by decide +kernel
theorem dX8_turnWithFlaps_46 : decode cX8_turnWithFlaps 46 = .ok (.imul, 1) := by decide +kernel
theorem dX8_turnWithFlaps_47 : decode cX8_turnWithFlaps 47 = .ok (.iadd, 1) := by decide +kernel
theorem dX8_turnWithFlaps_48 : decode cX8_turnWithFlaps 48 = .ok (.istore_n 3, 1) := by decide +kernel
theorem dX8_turnWithFlaps_49 : decode cX8_turnWithFlaps 49 = .ok (.iinc 4 1, 3) := by decide +kernel
theorem dX8_turnWithFlaps_52 : decode cX8_turnWithFlaps 52 = .ok (.goto (-47), 3) := by decide +kernel
theorem dX8_turnWithFlaps_55 : decode cX8_turnWithFlaps 55 = .ok (.iload_n 3, 1) := by decide +kernel
theorem dX8_turnWithFlaps_56 : decode cX8_turnWithFlaps 56 = .ok (.ireturn, 1) := by decide +kernel
theorem dX9_init_0 : decode cX9_init 0 = .ok (.aload_n 0, 1) := by decide +kernel
theorem dX9_init_1 : decode cX9_init 1 = .ok (.invokespecial 3, 3) := by decide +kernel
theorem dX9_init_4 : decode cX9_init 4 = .ok (.aload_n 0, 1) := by decide +kernel
theorem dX9_init_5 : decode cX9_init 5 = .ok (.bipush 100, 2) := by decide +kernel
theorem dX9_init_7 : decode cX9_init 7 = .ok (.putfield 9, 3) := by decide +kernel
theorem dX9_init_10 : decode cX9_init 10 = .ok (.aload_n 0, 1) := by decide +kernel
theorem dX9_init_11 : decode cX9_init 11 = .ok (.iconst (-1), 1) := by decide +kernel
theorem dX9_init_12 : decode cX9_init 12 = .ok (.putfield 15, 3) := by decide +kernel
theorem dX9_init_15 : decode cX9_init 15 = .ok (.aload_n 0, 1) := by decide +kernel
theorem dX9_init_16 : decode cX9_init 16 = .ok (.iconst 4, 1) := by decide +kernel
theorem dX9_init_17 : decode cX9_init 17 = .ok (.anewarray 18, 3) := by decide +kernel
theorem dX9_init_20 : decode cX9_init 20 = .ok (.putfield 20, 3) := by decide +kernel
theorem dX9_init_23 : decode cX9_init 23 = .ok (.aload_n 0, 1) := by decide +kernel
theorem dX9_init_24 : decode cX9_init 24 = .ok (.bipush 20, 2) := by decide +kernel
theorem dX9_init_26 : decode cX9_init 26 = .ok (.newarray .int, 2) := by decide +kernel
theorem dX9_init_28 : decode cX9_init 28 = .ok (.putfield 24, 3) := by decide +kernel
theorem dX9_init_31 : decode cX9_init 31 = .ok (.aload_n 0, 1) := by decide +kernel
theorem dX9_init_32 : decode cX9_init 32 = .ok (.bipush 20, 2) := by decide +kernel
theorem dX9_init_34 : decode cX9_init 34 = .ok (.newarray .int, 2) := by decide +kernel
theorem dX9_init_36 : decode cX9_init 36 = .ok (.putfield 28, 3) := by decide +kernel
theorem dX9_init_39 : decode cX9_init 39 = .ok (.aload_n 0, 1) := by decide +kernel
theorem dX9_init_40 : decode cX9_init 40 = .ok (.sipush 256, 3) := by decide +kernel
theorem dX9_init_43 : decode cX9_init 43 = .ok (.newarray .int, 2) := by decide +kernel
theorem dX9_init_45 : decode cX9_init 45 = .ok (.putfield 31, 3) := by decide +kernel
theorem dX9_init_48 : decode cX9_init 48 = .ok (.aload_n 0, 1) := by decide +kernel
theorem dX9_init_49 : decode cX9_init 49 = .ok (.bipush 7, 2) := by decide +kernel
theorem dX9_init_51 : decode cX9_init 51 = .ok (.newarray .int, 2) := by decide +kernel
theorem dX9_init_53 : decode cX9_init 53 = .ok (.putfield 34, 3) := by decide +kernel
theorem dX9_init_56 : decode cX9_init 56 = .ok (.return_, 1) := by decide +kernel
theorem dX9_addWorld_0 : decode cX9_addWorld 0 = .ok (.aload_n 0, 1) := by decide +kernel
theorem dX9_addWorld_1 : decode cX9_addWorld 1 = .ok (.getfield 37, 3) := by decide +kernel
theorem dX9_addWorld_4 : decode cX9_addWorld 4 = .ok (.iconst 4, 1) := by decide +kernel
theorem dX9_addWorld_5 : decode cX9_addWorld 5 = .ok (.if_icmp .ne 5, 3) := by decide +kernel
theorem dX9_addWorld_8 : decode cX9_addWorld 8 = .ok (.iconst (-1), 1) := by decide +kernel
theorem dX9_addWorld_9 : decode cX9_addWorld 9 = .ok (.ireturn, 1) := by decide +kernel
theorem dX9_addWorld_10 : decode cX9_addWorld 10 = .ok (.aload_n 0, 1) := by decide +kernel
theorem dX9_addWorld_11 : decode cX9_addWorld 11 = .ok (.getfield 20, 3) := by decide +kernel
theorem dX9_addWorld_14 : decode cX9_addWorld 14 = .ok (.aload_n 0, 1) := by decide +kernel
theorem dX9_addWorld_15 : decode cX9_addWorld 15 = .ok (.getfield 37, 3) := by decide +kernel
theorem dX9_addWorld_18 : decode cX9_addWorld 18 = .ok (.new 18, 3) := by decide +kernel
theorem dX9_addWorld_21 : decode cX9_addWorld 21 = .ok (.dup, 1) := by decide +kernel
theorem dX9_addWorld_22 : decode cX9_addWorld 22 = .ok (.iload_n 1, 1) := by decide +kernel
theorem dX9_addWorld_23 : decode cX9_addWorld 23 = .ok (.iload_n 2, 1) := by decide +kernel
theorem dX9_addWorld_24 : decode cX9_addWorld 24 = .ok (.iload_n 3, 1) := by decide +kernel
theorem dX9_addWorld_25 : decode cX9_addWorld 25 = .ok (.invokespecial 40, 3) := by decide +kernel
theorem dX9_addWorld_28 : decode cX9_addWorld 28 = .ok (.aastore, 1) := by decide +kernel
theorem dX9_addWorld_29 : decode cX9_addWorld 29 = .ok (.aload_n 0, 1) := by decide +kernel
theorem dX9_addWorld_30 : decode cX9_addWorld 30 = .ok (.dup, 1) := by decide +kernel
theorem dX9_addWorld_31 : decode cX9_addWorld 31 = .ok (.getfield 37, 3) := by decide +kernel
theorem dX9_addWorld_34 : decode cX9_addWorld 34 = .ok (.dup_x1, 1) := by decide +kernel
theorem dX9_addWorld_35 : decode cX9_addWorld 35 = .ok (.iconst 1, 1) := by decide +kernel
theorem dX9_addWorld_36 : decode cX9_addWorld 36 = .ok (.iadd, 1) := by decide +kernel
theorem dX9_addWorld_37 : decode cX9_addWorld 37 = .ok (.putfield 37, 3) := by decide +kernel
theorem dX9_addWorld_40 : decode cX9_addWorld 40 = .ok (.ireturn, 1) := by decide +kernel
theorem dX9_hasWorld_0 : decode cX9_hasWorld 0 = .ok (.iload_n 1, 1) := by decide +kernel
theorem dX9_hasWorld_1 : decode cX9_hasWorld 1 = .ok (.iconst 0, 1) := by decide +kernel
theorem dX9_hasWorld_2 : decode cX9_hasWorld 2 = .ok (.aload_n 0, 1) := by decide +kernel
theorem dX9_hasWorld_3 : decode cX9_hasWorld 3 = .ok (.getfield 37, 3) := by decide +kernel
theorem dX9_hasWorld_6 : decode cX9_hasWorld 6 = .ok (.iconst 1, 1) := by decide +kernel
theorem dX9_hasWorld_7 : decode cX9_hasWorld 7 = .ok (.isub, 1) := by decide +kernel
theorem dX9_hasWorld_8 : decode cX9_hasWorld 8 = .ok (.invokestatic 43, 3) := by decide +kernel
theorem dX9_hasWorld_11 : decode cX9_hasWorld 11 = .ok (.ireturn, 1) := by decide +kernel
theorem dX9_isGoalMet_0 : decode cX9_isGoalMet 0 = .ok (.aload_n 0, 1) := by decide +kernel
theorem dX9_isGoalMet_1 : decode cX9_isGoalMet 1 = .ok (.aload_n 0, 1) := by decide +kernel
theorem dX9_isGoalMet_2 : decode cX9_isGoalMet 2 = .ok (.getfield 15, 3) := by decide +kernel
theorem dX9_isGoalMet_5 : decode cX9_isGoalMet 5 = .ok (.invokevirtual 47, 3) := by decide +kernel
theorem dX9_isGoalMet_8 : decode cX9_isGoalMet 8 = .ok (.ifCond .ne 5, 3) := by decide +kernel
theorem dX9_isGoalMet_11 : decode cX9_isGoalMet 11 = .ok (.iconst 0, 1) := by decide +kernel
theorem dX9_isGoalMet_12 : decode cX9_isGoalMet 12 = .ok (.ireturn, 1) := by decide +kernel
theorem dX9_isGoalMet_13 : decode cX9_isGoalMet 13 = .ok (.aload_n 0, 1) := by decide +kernel
theorem dX9_isGoalMet_14 : decode cX9_isGoalMet 14 = .ok (.getfield 20, 3) := by decide +kernel
theorem dX9_isGoalMet_17 : decode cX9_isGoalMet 17 = .ok (.aload_n 0, 1) := by decide +kernel
theorem dX9_isGoalMet_18 : decode cX9_isGoalMet 18 = .ok (.getfield 15, 3) := by decide +kernel
theorem dX9_isGoalMet_21 : decode cX9_isGoalMet 21 = .ok (.aaload, 1) := by decide +kernel
theorem dX9_isGoalMet_22 : decode cX9_isGoalMet 22 = .ok (.astore_n 1, 1) := by decide +kernel
theorem dX9_isGoalMet_23 : decode cX9_isGoalMet 23 = .ok (.aload_n 0, 1) := by decide +kernel
theorem dX9_isGoalMet_24 : decode cX9_isGoalMet 24 = .ok (.getfield 9, 3) := by decide +kernel
theorem dX9_isGoalMet_27 : decode cX9_isGoalMet 27 = .ok (.aload_n 1, 1) := by decide +kernel
theorem dX9_isGoalMet_28 : decode cX9_isGoalMet 28 = .ok (.getfield 51, 3) := by decide +kernel
theorem dX9_isGoalMet_31 : decode cX9_isGoalMet 31 = .ok (.isub, 1) := by decide +kernel
theorem dX9_isGoalMet_32 : decode cX9_isGoalMet 32 = .ok (.aload_n 1, 1) := by decide +kernel
theorem dX9_isGoalMet_33 : decode cX9_isGoalMet 33 = .ok (.aload_n 0, 1) := by decide +kernel
theorem dX9_isGoalMet_34 : decode cX9_isGoalMet 34 = .ok (.getfield 52, 3) := by decide +kernel
theorem dX9_isGoalMet_37 : decode cX9_isGoalMet 37 = .ok (.aload_n 0, 1) := by decide +kernel
theorem dX9_isGoalMet_38 : decode cX9_isGoalMet 38 = .ok (.getfield 55, 3) := by decide +kernel
theorem dX9_isGoalMet_41 : decode cX9_isGoalMet 41 = .ok (.invokevirtual 58, 3) := by decide +kernel
theorem dX9_isGoalMet_44 : decode cX9_isGoalMet 44 = .ok (.invokestatic 62, 3) := by decide +kernel
theorem dX9_isGoalMet_47 : decode cX9_isGoalMet 47 = .ok (.ireturn, 1) := by decide +kernel
theorem dX9_fewestDays_0 : decode cX9_fewestDays 0 = .ok (.aload_n 0, 1) := by decide +kernel
theorem dX9_fewestDays_1 : decode cX9_fewestDays 1 = .ok (.getfield 55, 3) := by decide +kernel
theorem dX9_fewestDays_4 : decode cX9_fewestDays 4 = .ok (.iload_n 2, 1) := by decide +kernel
theorem dX9_fewestDays_5 : decode cX9_fewestDays 5 = .ok (.aload_n 0, 1) := by decide +kernel
theorem dX9_fewestDays_6 : decode cX9_fewestDays 6 = .ok (.getfield 9, 3) := by decide +kernel
theorem dX9_fewestDays_9 : decode cX9_fewestDays 9 = .ok (.invokestatic 68, 3) := by decide +kernel
theorem dX9_fewestDays_12 : decode cX9_fewestDays 12 = .ok (.imul, 1) := by decide +kernel
theorem dX9_fewestDays_13 : decode cX9_fewestDays 13 = .ok (.iadd, 1) := by decide +kernel
theorem dX9_fewestDays_14 : decode cX9_fewestDays 14 = .ok (.istore 4, 2) := by decide +kernel
theorem dX9_fewestDays_16 : decode cX9_fewestDays 16 = .ok (.aload_n 0, 1) := by decide +kernel
theorem dX9_fewestDays_17 : decode cX9_fewestDays 17 = .ok (.getfield 20, 3) := by decide +kernel
theorem dX9_fewestDays_20 : decode cX9_fewestDays 20 = .ok (.iload_n 1, 1) := by decide +kernel
theorem dX9_fewestDays_21 : decode cX9_fewestDays 21 = .ok (.aaload, 1) := by decide +kernel
theorem dX9_fewestDays_22 : decode cX9_fewestDays 22 = .ok (.aload_n 0, 1) := by decide +kernel
theorem dX9_fewestDays_23 : decode cX9_fewestDays 23 = .ok (.getfield 52, 3) := by decide +kernel
theorem dX9_fewestDays_26 : decode cX9_fewestDays 26 = .ok (.iload_n 2, 1) := by decide +kernel
theorem dX9_fewestDays_27 : decode cX9_fewestDays 27 = .ok (.iadd, 1) := by decide +kernel
theorem dX9_fewestDays_28 : decode cX9_fewestDays 28 = .ok (.iload 4, 2) := by decide +kernel
theorem dX9_fewestDays_30 : decode cX9_fewestDays 30 = .ok (.invokevirtual 58, 3) := by decide +kernel
theorem dX9_fewestDays_33 : decode cX9_fewestDays 33 = .ok (.istore 5, 2) := by decide +kernel
theorem dX9_fewestDays_35 : decode cX9_fewestDays 35 = .ok (.aload_n 0, 1) := by decide +kernel
theorem dX9_fewestDays_36 : decode cX9_fewestDays 36 = .ok (.getfield 20, 3) := by decide +kernel
theorem dX9_fewestDays_39 : decode cX9_fewestDays 39 = .ok (.iload_n 1, 1) := by decide +kernel
theorem dX9_fewestDays_40 : decode cX9_fewestDays 40 = .ok (.aaload, 1) := by decide +kernel
theorem dX9_fewestDays_41 : decode cX9_fewestDays 41 = .ok (.iload_n 3, 1) := by decide +kernel
theorem dX9_fewestDays_42 : decode cX9_fewestDays 42 = .ok (.invokevirtual 72, 3) := by decide +kernel
theorem dX9_fewestDays_45 : decode cX9_fewestDays 45 = .ok (.aload_n 0, 1) := by decide +kernel
theorem dX9_fewestDays_46 : decode cX9_fewestDays 46 = .ok (.getfield 9, 3) := by decide +kernel
theorem dX9_fewestDays_49 : decode cX9_fewestDays 49 = .ok (.iload 5, 2) := by decide +kernel
theorem dX9_fewestDays_51 : decode cX9_fewestDays 51 = .ok (.invokevirtual 76, 3) := by decide +kernel
theorem dX9_fewestDays_54 : decode cX9_fewestDays 54 = .ok (.ireturn, 1) := by decide +kernel
theorem dX9_steerOfFirstWay_0 : decode cX9_steerOfFirstWay 0 = .ok (.aload_n 0, 1) := by decide +kernel
theorem dX9_steerOfFirstWay_1 : decode cX9_steerOfFirstWay 1 = .ok (.iload_n 1, 1) := by decide +kernel
theorem dX9_steerOfFirstWay_2 : decode cX9_steerOfFirstWay 2 = .ok (.iconst 0, 1) := by decide +kernel
theorem dX9_steerOfFirstWay_3 : decode cX9_steerOfFirstWay 3 = .ok (.iload_n 3, 1) := by decide +kernel
theorem dX9_steerOfFirstWay_4 : decode cX9_steerOfFirstWay 4 = .ok (.invokevirtual 79, 3) := by decide +kernel
theorem dX9_steerOfFirstWay_7 : decode cX9_steerOfFirstWay 7 = .ok (.istore 4, 2) := by decide +kernel
theorem dX9_steerOfFirstWay_9 : decode cX9_steerOfFirstWay 9 = .ok (.iload_n 2, 1) := by decide +kernel
theorem dX9_steerOfFirstWay_10 : decode cX9_steerOfFirstWay 10 = .ok (.iload 4, 2) := by decide +kernel
theorem dX9_steerOfFirstWay_12 : decode cX9_steerOfFirstWay 12 = .ok (.if_icmp .lt 5, 3) := by decide +kernel
theorem dX9_steerOfFirstWay_15 : decode cX9_steerOfFirstWay 15 = .ok (.iconst (-1), 1) := by decide +kernel
theorem dX9_steerOfFirstWay_16 : decode cX9_steerOfFirstWay 16 = .ok (.ireturn, 1) := by decide +kernel
theorem dX9_steerOfFirstWay_17 : decode cX9_steerOfFirstWay 17 = .ok (.aload_n 0, 1) := by decide +kernel
theorem dX9_steerOfFirstWay_18 : decode cX9_steerOfFirstWay 18 = .ok (.getfield 20, 3) := by decide +kernel
theorem dX9_steerOfFirstWay_21 : decode cX9_steerOfFirstWay 21 = .ok (.iload_n 1, 1) := by decide +kernel
theorem dX9_steerOfFirstWay_22 : decode cX9_steerOfFirstWay 22 = .ok (.aaload, 1) := by decide +kernel
theorem dX9_steerOfFirstWay_23 : decode cX9_steerOfFirstWay 23 = .ok (.iload_n 3, 1) := by decide +kernel
theorem dX9_steerOfFirstWay_24 : decode cX9_steerOfFirstWay 24 = .ok (.invokevirtual 72, 3) := by decide +kernel
theorem dX9_steerOfFirstWay_27 : decode cX9_steerOfFirstWay 27 = .ok (.astore 5, 2) := by decide +kernel
theorem dX9_steerOfFirstWay_29 : decode cX9_steerOfFirstWay 29 = .ok (.aload_n 0, 1) := by decide +kernel
theorem dX9_steerOfFirstWay_30 : decode cX9_steerOfFirstWay 30 = .ok (.getfield 9, 3) := by decide +kernel
theorem dX9_steerOfFirstWay_33 : decode cX9_steerOfFirstWay 33 = .ok (.istore 6, 2) := by decide +kernel
theorem dX9_steerOfFirstWay_35 : decode cX9_steerOfFirstWay 35 = .ok (.aload_n 0, 1) := by decide +kernel
theorem dX9_steerOfFirstWay_36 : decode cX9_steerOfFirstWay 36 = .ok (.getfield 20, 3) := by decide +kernel
theorem dX9_steerOfFirstWay_39 : decode cX9_steerOfFirstWay 39 = .ok (.iload_n 1, 1) := by decide +kernel
theorem dX9_steerOfFirstWay_40 : decode cX9_steerOfFirstWay 40 = .ok (.aaload, 1) := by decide +kernel
theorem dX9_steerOfFirstWay_41 : decode cX9_steerOfFirstWay 41 = .ok (.aload_n 0, 1) := by decide +kernel
theorem dX9_steerOfFirstWay_42 : decode cX9_steerOfFirstWay 42 = .ok (.getfield 52, 3) := by decide +kernel
theorem dX9_steerOfFirstWay_45 : decode cX9_steerOfFirstWay 45 = .ok (.aload_n 0, 1) := by decide +kernel
theorem dX9_steerOfFirstWay_46 : decode cX9_steerOfFirstWay 46 = .ok (.getfield 55, 3) := by decide +kernel
theorem dX9_steerOfFirstWay_49 : decode cX9_steerOfFirstWay 49 = .ok (.invokevirtual 58, 3) := by decide +kernel
theorem dX9_steerOfFirstWay_52 : decode cX9_steerOfFirstWay 52 = .ok (.istore 7, 2) := by decide +kernel
theorem dX9_steerOfFirstWay_54 : decode cX9_steerOfFirstWay 54 = .ok (.iconst 1, 1) := by decide +kernel
theorem dX9_steerOfFirstWay_55 : decode cX9_steerOfFirstWay 55 = .ok (.istore 8, 2) := by decide +kernel
theorem dX9_steerOfFirstWay_57 : decode cX9_steerOfFirstWay 57 = .ok (.iconst 0, 1) := by decide +kernel
theorem dX9_steerOfFirstWay_58 : decode cX9_steerOfFirstWay 58 = .ok (.istore 9, 2) := by decide +kernel
theorem dX9_steerOfFirstWay_60 : decode cX9_steerOfFirstWay 60 = .ok (.iload 9, 2) := by decide +kernel
theorem dX9_steerOfFirstWay_62 : decode cX9_steerOfFirstWay 62 = .ok (.iload_n 2, 1) := by decide +kernel
theorem dX9_steerOfFirstWay_63 : decode cX9_steerOfFirstWay 63 = .ok (.if_icmp .gt 46, 3) := by decide +kernel
theorem dX9_steerOfFirstWay_66 : decode cX9_steerOfFirstWay 66 = .ok (.aload 5, 2) := by decide +kernel
theorem dX9_steerOfFirstWay_68 : decode cX9_steerOfFirstWay 68 = .ok (.iload 6, 2) := by decide +kernel
