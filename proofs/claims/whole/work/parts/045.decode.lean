theorem dX12_bend_75 : decode cX12_bend 75 = .ok (.istore_n 3, 1) := by decide +kernel
theorem dX12_bend_76 : decode cX12_bend 76 = .ok (.aload_n 0, 1) := by decide +kernel
theorem dX12_bend_77 : decode cX12_bend 77 = .ok (.getfield 53, 3) := by decide +kernel
theorem dX12_bend_80 : decode cX12_bend 80 = .ok (.iload_n 1, 1) := by decide +kernel
theorem dX12_bend_81 : decode cX12_bend 81 = .ok (.iload_n 2, 1) := by decide +kernel
theorem dX12_bend_82 : decode cX12_bend 82 = .ok (.iastore, 1) := by decide +kernel
theorem dX12_bend_83 : decode cX12_bend 83 = .ok (.iload_n 3, 1) := by decide +kernel
theorem dX12_bend_84 : decode cX12_bend 84 = .ok (.ireturn, 1) := by decide +kernel
theorem dX12_stuck_0 : decode cX12_stuck 0 = .ok (.aload_n 0, 1) := by decide +kernel
theorem dX12_stuck_1 : decode cX12_stuck 1 = .ok (.iconst 0, 1) := by decide +kernel
theorem dX12_stuck_2 : decode cX12_stuck 2 = .ok (.putfield 179, 3) := by decide +kernel
theorem dX12_stuck_5 : decode cX12_stuck 5 = .ok (.aload_n 0, 1) := by decide +kernel
theorem dX12_stuck_6 : decode cX12_stuck 6 = .ok (.iload_n 1, 1) := by decide +kernel
theorem dX12_stuck_7 : decode cX12_stuck 7 = .ok (.iconst 0, 1) := by decide +kernel
theorem dX12_stuck_8 : decode cX12_stuck 8 = .ok (.aload_n 0, 1) := by decide +kernel
theorem dX12_stuck_9 : decode cX12_stuck 9 = .ok (.getfield 225, 3) := by decide +kernel
theorem dX12_stuck_12 : decode cX12_stuck 12 = .ok (.iconst 1, 1) := by decide +kernel
theorem dX12_stuck_13 : decode cX12_stuck 13 = .ok (.isub, 1) := by decide +kernel
theorem dX12_stuck_14 : decode cX12_stuck 14 = .ok (.invokestatic 203, 3) := by decide +kernel
theorem dX12_stuck_17 : decode cX12_stuck 17 = .ok (.ifCond .ne 7, 3) := by decide +kernel
theorem dX12_stuck_20 : decode cX12_stuck 20 = .ok (.iconst 1, 1) := by decide +kernel
theorem dX12_stuck_21 : decode cX12_stuck 21 = .ok (.goto 4, 3) := by decide +kernel
theorem dX12_stuck_24 : decode cX12_stuck 24 = .ok (.iconst 0, 1) := by decide +kernel
theorem dX12_stuck_25 : decode cX12_stuck 25 = .ok (.iconst 1, 1) := by decide +kernel
theorem dX12_stuck_26 : decode cX12_stuck 26 = .ok (.invokevirtual 207, 3) := by decide +kernel
theorem dX12_stuck_29 : decode cX12_stuck 29 = .ok (.ifCond .eq 5, 3) := by decide +kernel
theorem dX12_stuck_32 : decode cX12_stuck 32 = .ok (.iconst 0, 1) := by decide +kernel
theorem dX12_stuck_33 : decode cX12_stuck 33 = .ok (.ireturn, 1) := by decide +kernel
theorem dX12_stuck_34 : decode cX12_stuck 34 = .ok (.aload_n 0, 1) := by decide +kernel
theorem dX12_stuck_35 : decode cX12_stuck 35 = .ok (.getfield 56, 3) := by decide +kernel
theorem dX12_stuck_38 : decode cX12_stuck 38 = .ok (.iload_n 1, 1) := by decide +kernel
theorem dX12_stuck_39 : decode cX12_stuck 39 = .ok (.baload, 1) := by decide +kernel
theorem dX12_stuck_40 : decode cX12_stuck 40 = .ok (.istore_n 3, 1) := by decide +kernel
theorem dX12_stuck_41 : decode cX12_stuck 41 = .ok (.aload_n 0, 1) := by decide +kernel
theorem dX12_stuck_42 : decode cX12_stuck 42 = .ok (.getfield 56, 3) := by decide +kernel
theorem dX12_stuck_45 : decode cX12_stuck 45 = .ok (.iload_n 1, 1) := by decide +kernel
theorem dX12_stuck_46 : decode cX12_stuck 46 = .ok (.iload_n 2, 1) := by decide +kernel
theorem dX12_stuck_47 : decode cX12_stuck 47 = .ok (.bastore, 1) := by decide +kernel
theorem dX12_stuck_48 : decode cX12_stuck 48 = .ok (.iload_n 3, 1) := by decide +kernel
theorem dX12_stuck_49 : decode cX12_stuck 49 = .ok (.ireturn, 1) := by decide +kernel
theorem dX12_weights_0 : decode cX12_weights 0 = .ok (.aload_n 0, 1) := by decide +kernel
theorem dX12_weights_1 : decode cX12_weights 1 = .ok (.iconst 0, 1) := by decide +kernel
theorem dX12_weights_2 : decode cX12_weights 2 = .ok (.putfield 179, 3) := by decide +kernel
theorem dX12_weights_5 : decode cX12_weights 5 = .ok (.aload_n 0, 1) := by decide +kernel
theorem dX12_weights_6 : decode cX12_weights 6 = .ok (.iload_n 1, 1) := by decide +kernel
theorem dX12_weights_7 : decode cX12_weights 7 = .ok (.bipush (-20), 2) := by decide +kernel
theorem dX12_weights_9 : decode cX12_weights 9 = .ok (.bipush 20, 2) := by decide +kernel
theorem dX12_weights_11 : decode cX12_weights 11 = .ok (.invokestatic 203, 3) := by decide +kernel
theorem dX12_weights_14 : decode cX12_weights 14 = .ok (.ifCond .eq 14, 3) := by decide +kernel
theorem dX12_weights_17 : decode cX12_weights 17 = .ok (.iload_n 2, 1) := by decide +kernel
theorem dX12_weights_18 : decode cX12_weights 18 = .ok (.bipush (-20), 2) := by decide +kernel
theorem dX12_weights_20 : decode cX12_weights 20 = .ok (.bipush 20, 2) := by decide +kernel
theorem dX12_weights_22 : decode cX12_weights 22 = .ok (.invokestatic 203, 3) := by decide +kernel
theorem dX12_weights_25 : decode cX12_weights 25 = .ok (.ifCond .ne 7, 3) := by decide +kernel
theorem dX12_weights_28 : decode cX12_weights 28 = .ok (.iconst 1, 1) := by decide +kernel
theorem dX12_weights_29 : decode cX12_weights 29 = .ok (.goto 4, 3) := by decide +kernel
theorem dX12_weights_32 : decode cX12_weights 32 = .ok (.iconst 0, 1) := by decide +kernel
theorem dX12_weights_33 : decode cX12_weights 33 = .ok (.iconst 1, 1) := by decide +kernel
theorem dX12_weights_34 : decode cX12_weights 34 = .ok (.invokevirtual 207, 3) := by decide +kernel
theorem dX12_weights_37 : decode cX12_weights 37 = .ok (.ifCond .eq 4, 3) := by decide +kernel
theorem dX12_weights_40 : decode cX12_weights 40 = .ok (.return_, 1) := by decide +kernel
theorem dX12_weights_41 : decode cX12_weights 41 = .ok (.aload_n 0, 1) := by decide +kernel
theorem dX12_weights_42 : decode cX12_weights 42 = .ok (.iload_n 1, 1) := by decide +kernel
theorem dX12_weights_43 : decode cX12_weights 43 = .ok (.putfield 231, 3) := by decide +kernel
theorem dX12_weights_46 : decode cX12_weights 46 = .ok (.aload_n 0, 1) := by decide +kernel
theorem dX12_weights_47 : decode cX12_weights 47 = .ok (.iload_n 2, 1) := by decide +kernel
theorem dX12_weights_48 : decode cX12_weights 48 = .ok (.putfield 234, 3) := by decide +kernel
theorem dX12_weights_51 : decode cX12_weights 51 = .ok (.return_, 1) := by decide +kernel
theorem dX12_slantOf_0 : decode cX12_slantOf 0 = .ok (.aload_n 0, 1) := by decide +kernel
theorem dX12_slantOf_1 : decode cX12_slantOf 1 = .ok (.iload_n 1, 1) := by decide +kernel
theorem dX12_slantOf_2 : decode cX12_slantOf 2 = .ok (.invokevirtual 228, 3) := by decide +kernel
theorem dX12_slantOf_5 : decode cX12_slantOf 5 = .ok (.istore_n 3, 1) := by decide +kernel
theorem dX12_slantOf_6 : decode cX12_slantOf 6 = .ok (.iload_n 2, 1) := by decide +kernel
theorem dX12_slantOf_7 : decode cX12_slantOf 7 = .ok (.aload_n 0, 1) := by decide +kernel
theorem dX12_slantOf_8 : decode cX12_slantOf 8 = .ok (.getfield 41, 3) := by decide +kernel
theorem dX12_slantOf_11 : decode cX12_slantOf 11 = .ok (.iload_n 1, 1) := by decide +kernel
theorem dX12_slantOf_12 : decode cX12_slantOf 12 = .ok (.iaload, 1) := by decide +kernel
theorem dX12_slantOf_13 : decode cX12_slantOf 13 = .ok (.iadd, 1) := by decide +kernel
theorem dX12_slantOf_14 : decode cX12_slantOf 14 = .ok (.iload_n 3, 1) := by decide +kernel
theorem dX12_slantOf_15 : decode cX12_slantOf 15 = .ok (.iconst (-1), 1) := by decide +kernel
theorem dX12_slantOf_16 : decode cX12_slantOf 16 = .ok (.if_icmp .ne 7, 3) := by decide +kernel
theorem dX12_slantOf_19 : decode cX12_slantOf 19 = .ok (.iconst 0, 1) := by decide +kernel
theorem dX12_slantOf_20 : decode cX12_slantOf 20 = .ok (.goto 9, 3) := by decide +kernel
theorem dX12_slantOf_23 : decode cX12_slantOf 23 = .ok (.aload_n 0, 1) := by decide +kernel
theorem dX12_slantOf_24 : decode cX12_slantOf 24 = .ok (.getfield 53, 3) := by decide +kernel
theorem dX12_slantOf_27 : decode cX12_slantOf 27 = .ok (.iload_n 3, 1) := by decide +kernel
theorem dX12_slantOf_28 : decode cX12_slantOf 28 = .ok (.iaload, 1) := by decide +kernel
theorem dX12_slantOf_29 : decode cX12_slantOf 29 = .ok (.iadd, 1) := by decide +kernel
theorem dX12_slantOf_30 : decode cX12_slantOf 30 = .ok (.istore 4, 2) := by decide +kernel
theorem dX12_slantOf_32 : decode cX12_slantOf 32 = .ok (.iload 4, 2) := by decide +kernel
theorem dX12_slantOf_34 : decode cX12_slantOf 34 = .ok (.bipush (-8), 2) := by decide +kernel
theorem dX12_slantOf_36 : decode cX12_slantOf 36 = .ok (.if_icmp .ge 8, 3) := by decide +kernel
theorem dX12_slantOf_39 : decode cX12_slantOf 39 = .ok (.bipush (-8), 2) := by decide +kernel
theorem dX12_slantOf_41 : decode cX12_slantOf 41 = .ok (.goto 17, 3) := by decide +kernel
theorem dX12_slantOf_44 : decode cX12_slantOf 44 = .ok (.iload 4, 2) := by decide +kernel
theorem dX12_slantOf_46 : decode cX12_slantOf 46 = .ok (.bipush 8, 2) := by decide +kernel
theorem dX12_slantOf_48 : decode cX12_slantOf 48 = .ok (.if_icmp .le 8, 3) := by decide +kernel
theorem dX12_slantOf_51 : decode cX12_slantOf 51 = .ok (.bipush 8, 2) := by decide +kernel
theorem dX12_slantOf_53 : decode cX12_slantOf 53 = .ok (.goto 5, 3) := by decide +kernel
theorem dX12_slantOf_56 : decode cX12_slantOf 56 = .ok (.iload 4, 2) := by decide +kernel
theorem dX12_slantOf_58 : decode cX12_slantOf 58 = .ok (.ireturn, 1) := by decide +kernel
theorem dX12_cos_0 : decode cX12_cos 0 = .ok (.iload_n 0, 1) := by decide +kernel
theorem dX12_cos_1 : decode cX12_cos 1 = .ok (.invokestatic 237, 3) := by decide +kernel
theorem dX12_cos_4 : decode cX12_cos 4 = .ok (.tableswitch 80 0 7 #[48, 52, 56, 60, 64, 68, 72, 76], 48) := by decide +kernel
theorem dX12_cos_52 : decode cX12_cos 52 = .ok (.ldc2_w 240, 3) := by decide +kernel
theorem dX12_cos_55 : decode cX12_cos 55 = .ok (.lreturn, 1) := by decide +kernel
theorem dX12_cos_56 : decode cX12_cos 56 = .ok (.ldc2_w 242, 3) := by decide +kernel
theorem dX12_cos_59 : decode cX12_cos 59 = .ok (.lreturn, 1) := by decide +kernel
theorem dX12_cos_60 : decode cX12_cos 60 = .ok (.ldc2_w 244, 3) := by decide +kernel
theorem dX12_cos_63 : decode cX12_cos 63 = .ok (.lreturn, 1) := by decide +kernel
theorem dX12_cos_64 : decode cX12_cos 64 = .ok (.ldc2_w 246, 3) := by decide +kernel
theorem dX12_cos_67 : decode cX12_cos 67 = .ok (.lreturn, 1) := by decide +kernel
theorem dX12_cos_68 : decode cX12_cos 68 = .ok (.ldc2_w 248, 3) := by decide +kernel
theorem dX12_cos_71 : decode cX12_cos 71 = .ok (.lreturn, 1) := by decide +kernel
theorem dX12_cos_72 : decode cX12_cos 72 = .ok (.ldc2_w 250, 3) := by decide +kernel
theorem dX12_cos_75 : decode cX12_cos 75 = .ok (.lreturn, 1) := by decide +kernel
theorem dX12_cos_76 : decode cX12_cos 76 = .ok (.ldc2_w 252, 3) := by decide +kernel
theorem dX12_cos_79 : decode cX12_cos 79 = .ok (.lreturn, 1) := by decide +kernel
theorem dX12_cos_80 : decode cX12_cos 80 = .ok (.ldc2_w 254, 3) := by decide +kernel
theorem dX12_cos_83 : decode cX12_cos 83 = .ok (.lreturn, 1) := by decide +kernel
theorem dX12_cos_84 : decode cX12_cos 84 = .ok (.ldc2_w 256, 3) := by decide +kernel
theorem dX12_cos_87 : decode cX12_cos 87 = .ok (.lreturn, 1) := by decide +kernel
theorem dX12_sin_0 : decode cX12_sin 0 = .ok (.iload_n 0, 1) := by decide +kernel
theorem dX12_sin_1 : decode cX12_sin 1 = .ok (.ifCond .ne 7, 3) := by decide +kernel
theorem dX12_sin_4 : decode cX12_sin 4 = .ok (.lconst 0, 1) := by decide +kernel
theorem dX12_sin_5 : decode cX12_sin 5 = .ok (.goto 107, 3) := by decide +kernel
theorem dX12_sin_8 : decode cX12_sin 8 = .ok (.iload_n 0, 1) := by decide +kernel
theorem dX12_sin_9 : decode cX12_sin 9 = .ok (.invokestatic 237, 3) := by decide +kernel
theorem dX12_sin_12 : decode cX12_sin 12 = .ok (.bipush 8, 2) := by decide +kernel
theorem dX12_sin_14 : decode cX12_sin 14 = .ok (.if_icmp .ne 9, 3) := by decide +kernel
theorem dX12_sin_17 : decode cX12_sin 17 = .ok (.ldc2_w 242, 3) := by decide +kernel
theorem dX12_sin_20 : decode cX12_sin 20 = .ok (.goto 92, 3) := by decide +kernel
theorem dX12_sin_23 : decode cX12_sin 23 = .ok (.iload_n 0, 1) := by decide +kernel
theorem dX12_sin_24 : decode cX12_sin 24 = .ok (.invokestatic 237, 3) := by decide +kernel
theorem dX12_sin_27 : decode cX12_sin 27 = .ok (.bipush 7, 2) := by decide +kernel
theorem dX12_sin_29 : decode cX12_sin 29 = .ok (.if_icmp .ne 9, 3) := by decide +kernel
theorem dX12_sin_32 : decode cX12_sin 32 = .ok (.ldc2_w 244, 3) := by decide +kernel
theorem dX12_sin_35 : decode cX12_sin 35 = .ok (.goto 77, 3) := by decide +kernel
theorem dX12_sin_38 : decode cX12_sin 38 = .ok (.iload_n 0, 1) := by decide +kernel
theorem dX12_sin_39 : decode cX12_sin 39 = .ok (.invokestatic 237, 3) := by decide +kernel
theorem dX12_sin_42 : decode cX12_sin 42 = .ok (.bipush 6, 2) := by decide +kernel
theorem dX12_sin_44 : decode cX12_sin 44 = .ok (.if_icmp .ne 9, 3) := by decide +kernel
theorem dX12_sin_47 : decode cX12_sin 47 = .ok (.ldc2_w 246, 3) := by decide +kernel
theorem dX12_sin_50 : decode cX12_sin 50 = .ok (.goto 62, 3) := by decide +kernel
theorem dX12_sin_53 : decode cX12_sin 53 = .ok (.iload_n 0, 1) := by decide +kernel
theorem dX12_sin_54 : decode cX12_sin 54 = .ok (.invokestatic 237, 3) := by decide +kernel
theorem dX12_sin_57 : decode cX12_sin 57 = .ok (.iconst 5, 1) := by decide +kernel
theorem dX12_sin_58 : decode cX12_sin 58 = .ok (.if_icmp .ne 9, 3) := by decide +kernel
theorem dX12_sin_61 : decode cX12_sin 61 = .ok (.ldc2_w 248, 3) := by decide +kernel
theorem dX12_sin_64 : decode cX12_sin 64 = .ok (.goto 48, 3) := by decide +kernel
theorem dX12_sin_67 : decode cX12_sin 67 = .ok (.iload_n 0, 1) := by decide +kernel
theorem dX12_sin_68 : decode cX12_sin 68 = .ok (.invokestatic 237, 3) := by decide +kernel
theorem dX12_sin_71 : decode cX12_sin 71 = .ok (.iconst 4, 1) := by decide +kernel
theorem dX12_sin_72 : decode cX12_sin 72 = .ok (.if_icmp .ne 9, 3) := by decide +kernel
theorem dX12_sin_75 : decode cX12_sin 75 = .ok (.ldc2_w 250, 3) := by decide +kernel
theorem dX12_sin_78 : decode cX12_sin 78 = .ok (.goto 34, 3) := by decide +kernel
theorem dX12_sin_81 : decode cX12_sin 81 = .ok (.iload_n 0, 1) := by decide +kernel
theorem dX12_sin_82 : decode cX12_sin 82 = .ok (.invokestatic 237, 3) := by decide +kernel
theorem dX12_sin_85 : decode cX12_sin 85 = .ok (.iconst 3, 1) := by decide +kernel
theorem dX12_sin_86 : decode cX12_sin 86 = .ok (.if_icmp .ne 9, 3) := by decide +kernel
theorem dX12_sin_89 : decode cX12_sin 89 = .ok (.ldc2_w 252, 3) := by decide +kernel
theorem dX12_sin_92 : decode cX12_sin 92 = .ok (.goto 20, 3) := by decide +kernel
theorem dX12_sin_95 : decode cX12_sin 95 = .ok (.iload_n 0, 1) := by decide +kernel
theorem dX12_sin_96 : decode cX12_sin 96 = .ok (.invokestatic 237, 3) := by decide +kernel
theorem dX12_sin_99 : decode cX12_sin 99 = .ok (.iconst 2, 1) := by decide +kernel
theorem dX12_sin_100 : decode cX12_sin 100 = .ok (.if_icmp .ne 9, 3) := by decide +kernel
theorem dX12_sin_103 : decode cX12_sin 103 = .ok (.ldc2_w 254, 3) := by decide +kernel
theorem dX12_sin_106 : decode cX12_sin 106 = .ok (.goto 6, 3) := by decide +kernel
theorem dX12_sin_109 : decode cX12_sin 109 = .ok (.ldc2_w 256, 3) := by decide +kernel
theorem dX12_sin_112 : decode cX12_sin 112 = .ok (.lstore_n 1, 1) := by decide +kernel
theorem dX12_sin_113 : decode cX12_sin 113 = .ok (.iload_n 0, 1) := by decide +kernel
theorem dX12_sin_114 : decode cX12_sin 114 = .ok (.ifCond .ge 8, 3) := by decide +kernel
theorem dX12_sin_117 : decode cX12_sin 117 = .ok (.lload_n 1, 1) := by decide +kernel
theorem dX12_sin_118 : decode cX12_sin 118 = .ok (.lneg, 1) := by decide +kernel
theorem dX12_sin_119 : decode cX12_sin 119 = .ok (.goto 4, 3) := by decide +kernel
theorem dX12_sin_122 : decode cX12_sin 122 = .ok (.lload_n 1, 1) := by decide +kernel
theorem dX12_sin_123 : decode cX12_sin 123 = .ok (.lreturn, 1) := by decide +kernel
theorem dX12_pushX_0 : decode cX12_pushX 0 = .ok (.aload_n 0, 1) := by decide +kernel
theorem dX12_pushX_1 : decode cX12_pushX 1 = .ok (.iload_n 1, 1) := by decide +kernel
theorem dX12_pushX_2 : decode cX12_pushX 2 = .ok (.iload_n 2, 1) := by decide +kernel
theorem dX12_pushX_3 : decode cX12_pushX 3 = .ok (.invokevirtual 258, 3) := by decide +kernel
theorem dX12_pushX_6 : decode cX12_pushX 6 = .ok (.invokestatic 262, 3) := by decide +kernel
theorem dX12_pushX_9 : decode cX12_pushX 9 = .ok (.lstore 5, 2) := by decide +kernel
theorem dX12_pushX_11 : decode cX12_pushX 11 = .ok (.aload_n 0, 1) := by decide +kernel
theorem dX12_pushX_12 : decode cX12_pushX 12 = .ok (.getfield 47, 3) := by decide +kernel
theorem dX12_pushX_15 : decode cX12_pushX 15 = .ok (.iload_n 1, 1) := by decide +kernel
theorem dX12_pushX_16 : decode cX12_pushX 16 = .ok (.baload, 1) := by decide +kernel
theorem dX12_pushX_17 : decode cX12_pushX 17 = .ok (.ifCond .eq 7, 3) := by decide +kernel
theorem dX12_pushX_20 : decode cX12_pushX 20 = .ok (.iconst 0, 1) := by decide +kernel
theorem dX12_pushX_21 : decode cX12_pushX 21 = .ok (.goto 36, 3) := by decide +kernel
theorem dX12_pushX_24 : decode cX12_pushX 24 = .ok (.aload_n 0, 1) := by decide +kernel
theorem dX12_pushX_25 : decode cX12_pushX 25 = .ok (.getfield 32, 3) := by decide +kernel
theorem dX12_pushX_28 : decode cX12_pushX 28 = .ok (.iload_n 1, 1) := by decide +kernel
theorem dX12_pushX_29 : decode cX12_pushX 29 = .ok (.iaload, 1) := by decide +kernel
theorem dX12_pushX_30 : decode cX12_pushX 30 = .ok (.i2l, 1) := by decide +kernel
theorem dX12_pushX_31 : decode cX12_pushX 31 = .ok (.lload 5, 2) := by decide +kernel
theorem dX12_pushX_33 : decode cX12_pushX 33 = .ok (.lmul, 1) := by decide +kernel
theorem dX12_pushX_34 : decode cX12_pushX 34 = .ok (.ldc2_w 240, 3) := by decide +kernel
theorem dX12_pushX_37 : decode cX12_pushX 37 = .ok (.iload 4, 2) := by decide +kernel
theorem dX12_pushX_39 : decode cX12_pushX 39 = .ok (.i2l, 1) := by decide +kernel
theorem dX12_pushX_40 : decode cX12_pushX 40 = .ok (.lmul, 1) := by decide +kernel
theorem dX12_pushX_41 : decode cX12_pushX 41 = .ok (.ldc2_w 266, 3) := by decide +kernel
theorem dX12_pushX_44 : decode cX12_pushX 44 = .ok (.iload_n 3, 1) := by decide +kernel
theorem dX12_pushX_45 : decode cX12_pushX 45 = .ok (.i2l, 1) := by decide +kernel
theorem dX12_pushX_46 : decode cX12_pushX 46 = .ok (.lmul, 1) := by decide +kernel
theorem dX12_pushX_47 : decode cX12_pushX 47 = .ok (.lload 5, 2) := by decide +kernel
theorem dX12_pushX_49 : decode cX12_pushX 49 = .ok (.lmul, 1) := by decide +kernel
theorem dX12_pushX_50 : decode cX12_pushX 50 = .ok (.ladd, 1) := by decide +kernel
theorem dX12_pushX_51 : decode cX12_pushX 51 = .ok (.lmul, 1) := by decide +kernel
theorem dX12_pushX_52 : decode cX12_pushX 52 = .ok (.ldc2_w 268, 3) := by decide +kernel
theorem dX12_pushX_55 : decode cX12_pushX 55 = .ok (.ldiv, 1) := by decide +kernel
theorem dX12_pushX_56 : decode cX12_pushX 56 = .ok (.l2i, 1) := by decide +kernel
theorem dX12_pushX_57 : decode cX12_pushX 57 = .ok (.ireturn, 1) := by decide +kernel
theorem dX12_pushY_0 : decode cX12_pushY 0 = .ok (.aload_n 0, 1) := by decide +kernel
theorem dX12_pushY_1 : decode cX12_pushY 1 = .ok (.iload_n 1, 1) := by decide +kernel
theorem dX12_pushY_2 : decode cX12_pushY 2 = .ok (.iload_n 2, 1) := by decide +kernel
theorem dX12_pushY_3 : decode cX12_pushY 3 = .ok (.invokevirtual 258, 3) := by decide +kernel
theorem dX12_pushY_6 : decode cX12_pushY 6 = .ok (.istore_n 3, 1) := by decide +kernel
theorem dX12_pushY_7 : decode cX12_pushY 7 = .ok (.aload_n 0, 1) := by decide +kernel
theorem dX12_pushY_8 : decode cX12_pushY 8 = .ok (.getfield 47, 3) := by decide +kernel
theorem dX12_pushY_11 : decode cX12_pushY 11 = .ok (.iload_n 1, 1) := by decide +kernel
theorem dX12_pushY_12 : decode cX12_pushY 12 = .ok (.baload, 1) := by decide +kernel
theorem dX12_pushY_13 : decode cX12_pushY 13 = .ok (.ifCond .eq 7, 3) := by decide +kernel
theorem dX12_pushY_16 : decode cX12_pushY 16 = .ok (.iconst 0, 1) := by decide +kernel
theorem dX12_pushY_17 : decode cX12_pushY 17 = .ok (.goto 37, 3) := by decide +kernel
theorem dX12_pushY_20 : decode cX12_pushY 20 = .ok (.aload_n 0, 1) := by decide +kernel
theorem dX12_pushY_21 : decode cX12_pushY 21 = .ok (.getfield 32, 3) := by decide +kernel
theorem dX12_pushY_24 : decode cX12_pushY 24 = .ok (.iload_n 1, 1) := by decide +kernel
theorem dX12_pushY_25 : decode cX12_pushY 25 = .ok (.iaload, 1) := by decide +kernel
theorem dX12_pushY_26 : decode cX12_pushY 26 = .ok (.i2l, 1) := by decide +kernel
theorem dX12_pushY_27 : decode cX12_pushY 27 = .ok (.iload_n 3, 1) := by decide +kernel
theorem dX12_pushY_28 : decode cX12_pushY 28 = .ok (.invokestatic 262, 3) := by decide +kernel
theorem dX12_pushY_31 : decode cX12_pushY 31 = .ok (.lmul, 1) := by decide +kernel
theorem dX12_pushY_32 : decode cX12_pushY 32 = .ok (.ldc2_w 266, 3) := by decide +kernel
theorem dX12_pushY_35 : decode cX12_pushY 35 = .ok (.aload_n 0, 1) := by decide +kernel
theorem dX12_pushY_36 : decode cX12_pushY 36 = .ok (.getfield 35, 3) := by decide +kernel
theorem dX12_pushY_39 : decode cX12_pushY 39 = .ok (.iload_n 1, 1) := by decide +kernel
theorem dX12_pushY_40 : decode cX12_pushY 40 = .ok (.iaload, 1) := by decide +kernel
theorem dX12_pushY_41 : decode cX12_pushY 41 = .ok (.i2l, 1) := by decide +kernel
theorem dX12_pushY_42 : decode cX12_pushY 42 = .ok (.lmul, 1) := by decide +kernel
theorem dX12_pushY_43 : decode cX12_pushY 43 = .ok (.iload_n 3, 1) := by decide +kernel
theorem dX12_pushY_44 : decode cX12_pushY 44 = .ok (.invokestatic 270, 3) := by decide +kernel
theorem dX12_pushY_47 : decode cX12_pushY 47 = .ok (.lmul, 1) := by decide +kernel
theorem dX12_pushY_48 : decode cX12_pushY 48 = .ok (.lmul, 1) := by decide +kernel
theorem dX12_pushY_49 : decode cX12_pushY 49 = .ok (.ldc2_w 268, 3) := by decide +kernel
theorem dX12_pushY_52 : decode cX12_pushY 52 = .ok (.ldiv, 1) := by decide +kernel
theorem dX12_pushY_53 : decode cX12_pushY 53 = .ok (.l2i, 1) := by decide +kernel
theorem dX12_pushY_54 : decode cX12_pushY 54 = .ok (.ireturn, 1) := by decide +kernel
theorem dX12_press_0 : decode cX12_press 0 = .ok (.aload_n 0, 1) := by decide +kernel
theorem dX12_press_1 : decode cX12_press 1 = .ok (.iload_n 1, 1) := by decide +kernel
theorem dX12_press_2 : decode cX12_press 2 = .ok (.iload_n 2, 1) := by decide +kernel
theorem dX12_press_3 : decode cX12_press 3 = .ok (.invokevirtual 258, 3) := by decide +kernel
theorem dX12_press_6 : decode cX12_press 6 = .ok (.invokestatic 262, 3) := by decide +kernel
theorem dX12_press_9 : decode cX12_press 9 = .ok (.lstore_n 3, 1) := by decide +kernel
theorem dX12_press_10 : decode cX12_press 10 = .ok (.aload_n 0, 1) := by decide +kernel
theorem dX12_press_11 : decode cX12_press 11 = .ok (.getfield 47, 3) := by decide +kernel
theorem dX12_press_14 : decode cX12_press 14 = .ok (.iload_n 1, 1) := by decide +kernel
theorem dX12_press_15 : decode cX12_press 15 = .ok (.baload, 1) := by decide +kernel
theorem dX12_press_16 : decode cX12_press 16 = .ok (.ifCond .eq 7, 3) := by decide +kernel
theorem dX12_press_19 : decode cX12_press 19 = .ok (.iconst 0, 1) := by decide +kernel
theorem dX12_press_20 : decode cX12_press 20 = .ok (.goto 39, 3) := by decide +kernel
theorem dX12_press_23 : decode cX12_press 23 = .ok (.aload_n 0, 1) := by decide +kernel
theorem dX12_press_24 : decode cX12_press 24 = .ok (.getfield 32, 3) := by decide +kernel
theorem dX12_press_27 : decode cX12_press 27 = .ok (.iload_n 1, 1) := by decide +kernel
theorem dX12_press_28 : decode cX12_press 28 = .ok (.iaload, 1) := by decide +kernel
theorem dX12_press_29 : decode cX12_press 29 = .ok (.i2l, 1) := by decide +kernel
theorem dX12_press_30 : decode cX12_press 30 = .ok (.lload_n 3, 1) := by decide +kernel
theorem dX12_press_31 : decode cX12_press 31 = .ok (.lmul, 1) := by decide +kernel
theorem dX12_press_32 : decode cX12_press 32 = .ok (.lload_n 3, 1) := by decide +kernel
theorem dX12_press_33 : decode cX12_press 33 = .ok (.lmul, 1) := by decide +kernel
theorem dX12_press_34 : decode cX12_press 34 = .ok (.ldc2_w 266, 3) := by decide +kernel
theorem dX12_press_37 : decode cX12_press 37 = .ok (.aload_n 0, 1) := by decide +kernel
theorem dX12_press_38 : decode cX12_press 38 = .ok (.getfield 35, 3) := by decide +kernel
theorem dX12_press_41 : decode cX12_press 41 = .ok (.iload_n 1, 1) := by decide +kernel
theorem dX12_press_42 : decode cX12_press 42 = .ok (.iaload, 1) := by decide +kernel
theorem dX12_press_43 : decode cX12_press 43 = .ok (.i2l, 1) := by decide +kernel
theorem dX12_press_44 : decode cX12_press 44 = .ok (.lmul, 1) := by decide +kernel
theorem dX12_press_45 : decode cX12_press 45 = .ok (.aload_n 0, 1) := by decide +kernel
theorem dX12_press_46 : decode cX12_press 46 = .ok (.getfield 38, 3) := by decide +kernel
theorem dX12_press_49 : decode cX12_press 49 = .ok (.iload_n 1, 1) := by decide +kernel
theorem dX12_press_50 : decode cX12_press 50 = .ok (.iaload, 1) := by decide +kernel
theorem dX12_press_51 : decode cX12_press 51 = .ok (.i2l, 1) := by decide +kernel
theorem dX12_press_52 : decode cX12_press 52 = .ok (.ladd, 1) := by decide +kernel
theorem dX12_press_53 : decode cX12_press 53 = .ok (.lmul, 1) := by decide +kernel
theorem dX12_press_54 : decode cX12_press 54 = .ok (.ldc2_w 268, 3) := by decide +kernel
theorem dX12_press_57 : decode cX12_press 57 = .ok (.ldiv, 1) := by decide +kernel
theorem dX12_press_58 : decode cX12_press 58 = .ok (.l2i, 1) := by decide +kernel
theorem dX12_press_59 : decode cX12_press 59 = .ok (.ireturn, 1) := by decide +kernel
theorem dX12_sumY_0 : decode cX12_sumY 0 = .ok (.iconst 0, 1) := by decide +kernel
theorem dX12_sumY_1 : decode cX12_sumY 1 = .ok (.istore_n 2, 1) := by decide +kernel
theorem dX12_sumY_2 : decode cX12_sumY 2 = .ok (.iconst 0, 1) := by decide +kernel
theorem dX12_sumY_3 : decode cX12_sumY 3 = .ok (.istore_n 3, 1) := by decide +kernel
theorem dX12_sumY_4 : decode cX12_sumY 4 = .ok (.iload_n 3, 1) := by decide +kernel
theorem dX12_sumY_5 : decode cX12_sumY 5 = .ok (.aload_n 0, 1) := by decide +kernel
theorem dX12_sumY_6 : decode cX12_sumY 6 = .ok (.getfield 222, 3) := by decide +kernel
theorem dX12_sumY_9 : decode cX12_sumY 9 = .ok (.if_icmp .ge 18, 3) := by decide +kernel
theorem dX12_sumY_12 : decode cX12_sumY 12 = .ok (.iload_n 2, 1) := by decide +kernel
theorem dX12_sumY_13 : decode cX12_sumY 13 = .ok (.aload_n 0, 1) := by decide +kernel
theorem dX12_sumY_14 : decode cX12_sumY 14 = .ok (.iload_n 3, 1) := by decide +kernel
theorem dX12_sumY_15 : decode cX12_sumY 15 = .ok (.iload_n 1, 1) := by decide +kernel
theorem dX12_sumY_16 : decode cX12_sumY 16 = .ok (.invokevirtual 273, 3) := by decide +kernel
theorem dX12_sumY_19 : decode cX12_sumY 19 = .ok (.iadd, 1) := by decide +kernel
theorem dX12_sumY_20 : decode cX12_sumY 20 = .ok (.istore_n 2, 1) := by decide +kernel
theorem dX12_sumY_21 : decode cX12_sumY 21 = .ok (.iinc 3 1, 3) := by decide +kernel
theorem dX12_sumY_24 : decode cX12_sumY 24 = .ok (.goto (-20), 3) := by decide +kernel
theorem dX12_sumY_27 : decode cX12_sumY 27 = .ok (.iload_n 2, 1) := by decide +kernel
theorem dX12_sumY_28 : decode cX12_sumY 28 = .ok (.ireturn, 1) := by decide +kernel
theorem dX12_push_0 : decode cX12_push 0 = .ok (.aload_n 0, 1) := by decide +kernel
theorem dX12_push_1 : decode cX12_push 1 = .ok (.iconst 0, 1) := by decide +kernel
theorem dX12_push_2 : decode cX12_push 2 = .ok (.putfield 179, 3) := by decide +kernel
theorem dX12_push_5 : decode cX12_push 5 = .ok (.aload_n 0, 1) := by decide +kernel
theorem dX12_push_6 : decode cX12_push 6 = .ok (.iload_n 1, 1) := by decide +kernel
theorem dX12_push_7 : decode cX12_push 7 = .ok (.bipush (-8), 2) := by decide +kernel
theorem dX12_push_9 : decode cX12_push 9 = .ok (.bipush 8, 2) := by decide +kernel
theorem dX12_push_11 : decode cX12_push 11 = .ok (.invokestatic 203, 3) := by decide +kernel
theorem dX12_push_14 : decode cX12_push 14 = .ok (.ifCond .eq 12, 3) := by decide +kernel
theorem dX12_push_17 : decode cX12_push 17 = .ok (.iload_n 2, 1) := by decide +kernel
theorem dX12_push_18 : decode cX12_push 18 = .ok (.iconst 0, 1) := by decide +kernel
theorem dX12_push_19 : decode cX12_push 19 = .ok (.iconst 1, 1) := by decide +kernel
theorem dX12_push_20 : decode cX12_push 20 = .ok (.invokestatic 203, 3) := by decide +kernel
theorem dX12_push_23 : decode cX12_push 23 = .ok (.ifCond .ne 7, 3) := by decide +kernel
theorem dX12_push_26 : decode cX12_push 26 = .ok (.iconst 1, 1) := by decide +kernel
theorem dX12_push_27 : decode cX12_push 27 = .ok (.goto 4, 3) := by decide +kernel
theorem dX12_push_30 : decode cX12_push 30 = .ok (.iconst 0, 1) := by decide +kernel
theorem dX12_push_31 : decode cX12_push 31 = .ok (.iconst 1, 1) := by decide +kernel
theorem dX12_push_32 : decode cX12_push 32 = .ok (.invokevirtual 207, 3) := by decide +kernel
theorem dX12_push_35 : decode cX12_push 35 = .ok (.ifCond .eq 5, 3) := by decide +kernel
theorem dX12_push_38 : decode cX12_push 38 = .ok (.iconst 0, 1) := by decide +kernel
theorem dX12_push_39 : decode cX12_push 39 = .ok (.ireturn, 1) := by decide +kernel
theorem dX12_push_40 : decode cX12_push 40 = .ok (.iload_n 2, 1) := by decide +kernel
theorem dX12_push_41 : decode cX12_push 41 = .ok (.iconst 1, 1) := by decide +kernel
theorem dX12_push_42 : decode cX12_push 42 = .ok (.if_icmp .ne 9, 3) := by decide +kernel
theorem dX12_push_45 : decode cX12_push 45 = .ok (.aload_n 0, 1) := by decide +kernel
theorem dX12_push_46 : decode cX12_push 46 = .ok (.iload_n 1, 1) := by decide +kernel
theorem dX12_push_47 : decode cX12_push 47 = .ok (.invokevirtual 276, 3) := by decide +kernel
theorem dX12_push_50 : decode cX12_push 50 = .ok (.ireturn, 1) := by decide +kernel
theorem dX12_push_51 : decode cX12_push 51 = .ok (.iconst 0, 1) := by decide +kernel
theorem dX12_push_52 : decode cX12_push 52 = .ok (.istore_n 3, 1) := by decide +kernel
theorem dX12_push_53 : decode cX12_push 53 = .ok (.iconst 0, 1) := by decide +kernel
theorem dX12_push_54 : decode cX12_push 54 = .ok (.istore 4, 2) := by decide +kernel
theorem dX12_push_56 : decode cX12_push 56 = .ok (.iload 4, 2) := by decide +kernel
theorem dX12_push_58 : decode cX12_push 58 = .ok (.aload_n 0, 1) := by decide +kernel
theorem dX12_push_59 : decode cX12_push 59 = .ok (.getfield 222, 3) := by decide +kernel
theorem dX12_push_62 : decode cX12_push 62 = .ok (.if_icmp .ge 33, 3) := by decide +kernel
theorem dX12_push_65 : decode cX12_push 65 = .ok (.iload_n 3, 1) := by decide +kernel
theorem dX12_push_66 : decode cX12_push 66 = .ok (.aload_n 0, 1) := by decide +kernel
theorem dX12_push_67 : decode cX12_push 67 = .ok (.iload 4, 2) := by decide +kernel
theorem dX12_push_69 : decode cX12_push 69 = .ok (.iload_n 1, 1) := by decide +kernel
theorem dX12_push_70 : decode cX12_push 70 = .ok (.aload_n 0, 1) := by decide +kernel
theorem dX12_push_71 : decode cX12_push 71 = .ok (.getfield 35, 3) := by decide +kernel
theorem dX12_push_74 : decode cX12_push 74 = .ok (.iload 4, 2) := by decide +kernel
theorem dX12_push_76 : decode cX12_push 76 = .ok (.iaload, 1) := by decide +kernel
theorem dX12_push_77 : decode cX12_push 77 = .ok (.aload_n 0, 1) := by decide +kernel
theorem dX12_push_78 : decode cX12_push 78 = .ok (.getfield 38, 3) := by decide +kernel
theorem dX12_push_81 : decode cX12_push 81 = .ok (.iload 4, 2) := by decide +kernel
theorem dX12_push_83 : decode cX12_push 83 = .ok (.iaload, 1) := by decide +kernel
theorem dX12_push_84 : decode cX12_push 84 = .ok (.invokevirtual 279, 3) := by decide +kernel
theorem dX12_push_87 : decode cX12_push 87 = .ok (.iadd, 1) := by decide +kernel
theorem dX12_push_88 : decode cX12_push 88 = .ok (.istore_n 3, 1) := by decide +kernel
theorem dX12_push_89 : decode cX12_push 89 = .ok (.iinc 4 1, 3) := by decide +kernel
theorem dX12_push_92 : decode cX12_push 92 = .ok (.goto (-36), 3) := by decide +kernel
theorem dX12_push_95 : decode cX12_push 95 = .ok (.iload_n 3, 1) := by decide +kernel
theorem dX12_push_96 : decode cX12_push 96 = .ok (.ireturn, 1) := by decide +kernel
theorem dX12_turned_0 : decode cX12_turned 0 = .ok (.iconst 0, 1) := by decide +kernel
theorem dX12_turned_1 : decode cX12_turned 1 = .ok (.istore_n 3, 1) := by decide +kernel
theorem dX12_turned_2 : decode cX12_turned 2 = .ok (.iconst 0, 1) := by decide +kernel
theorem dX12_turned_3 : decode cX12_turned 3 = .ok (.istore 4, 2) := by decide +kernel
theorem dX12_turned_5 : decode cX12_turned 5 = .ok (.iload 4, 2) := by decide +kernel
theorem dX12_turned_7 : decode cX12_turned 7 = .ok (.aload_n 0, 1) := by decide +kernel
theorem dX12_turned_8 : decode cX12_turned 8 = .ok (.getfield 222, 3) := by decide +kernel
theorem dX12_turned_11 : decode cX12_turned 11 = .ok (.if_icmp .ge 51, 3) := by decide +kernel
theorem dX12_turned_14 : decode cX12_turned 14 = .ok (.iload_n 3, 1) := by decide +kernel
theorem dX12_turned_15 : decode cX12_turned 15 = .ok (.aload_n 0, 1) := by decide +kernel
theorem dX12_turned_16 : decode cX12_turned 16 = .ok (.iload 4, 2) := by decide +kernel
theorem dX12_turned_18 : decode cX12_turned 18 = .ok (.iload_n 1, 1) := by decide +kernel
theorem dX12_turned_19 : decode cX12_turned 19 = .ok (.invokevirtual 283, 3) := by decide +kernel
theorem dX12_turned_22 : decode cX12_turned 22 = .ok (.iload_n 2, 1) := by decide +kernel
theorem dX12_turned_23 : decode cX12_turned 23 = .ok (.ifCond .ne 18, 3) := by decide +kernel
theorem dX12_turned_26 : decode cX12_turned 26 = .ok (.aload_n 0, 1) := by decide +kernel
theorem dX12_turned_27 : decode cX12_turned 27 = .ok (.getfield 26, 3) := by decide +kernel
theorem dX12_turned_30 : decode cX12_turned 30 = .ok (.iload 4, 2) := by decide +kernel
theorem dX12_turned_32 : decode cX12_turned 32 = .ok (.iaload, 1) := by decide +kernel
theorem dX12_turned_33 : decode cX12_turned 33 = .ok (.aload_n 0, 1) := by decide +kernel
theorem dX12_turned_34 : decode cX12_turned 34 = .ok (.getfield 231, 3) := by decide +kernel
theorem dX12_turned_37 : decode cX12_turned 37 = .ok (.isub, 1) := by decide +kernel
theorem dX12_turned_38 : decode cX12_turned 38 = .ok (.goto 15, 3) := by decide +kernel
theorem dX12_turned_41 : decode cX12_turned 41 = .ok (.aload_n 0, 1) := by decide +kernel
theorem dX12_turned_42 : decode cX12_turned 42 = .ok (.getfield 29, 3) := by decide +kernel
theorem dX12_turned_45 : decode cX12_turned 45 = .ok (.iload 4, 2) := by decide +kernel
theorem dX12_turned_47 : decode cX12_turned 47 = .ok (.iaload, 1) := by decide +kernel
theorem dX12_turned_48 : decode cX12_turned 48 = .ok (.aload_n 0, 1) := by decide +kernel
theorem dX12_turned_49 : decode cX12_turned 49 = .ok (.getfield 234, 3) := by decide +kernel
theorem dX12_turned_52 : decode cX12_turned 52 = .ok (.isub, 1) := by decide +kernel
theorem dX12_turned_53 : decode cX12_turned 53 = .ok (.imul, 1) := by decide +kernel
theorem dX12_turned_54 : decode cX12_turned 54 = .ok (.iadd, 1) := by decide +kernel
theorem dX12_turned_55 : decode cX12_turned 55 = .ok (.istore_n 3, 1) := by decide +kernel
theorem dX12_turned_56 : decode cX12_turned 56 = .ok (.iinc 4 1, 3) := by decide +kernel
theorem dX12_turned_59 : decode cX12_turned 59 = .ok (.goto (-54), 3) := by decide +kernel
theorem dX12_turned_62 : decode cX12_turned 62 = .ok (.iload_n 3, 1) := by decide +kernel
theorem dX12_turned_63 : decode cX12_turned 63 = .ok (.ireturn, 1) := by decide +kernel
theorem dX12_turn_0 : decode cX12_turn 0 = .ok (.aload_n 0, 1) := by decide +kernel
theorem dX12_turn_1 : decode cX12_turn 1 = .ok (.iconst 0, 1) := by decide +kernel
theorem dX12_turn_2 : decode cX12_turn 2 = .ok (.putfield 179, 3) := by decide +kernel
theorem dX12_turn_5 : decode cX12_turn 5 = .ok (.aload_n 0, 1) := by decide +kernel
theorem dX12_turn_6 : decode cX12_turn 6 = .ok (.iload_n 1, 1) := by decide +kernel
theorem dX12_turn_7 : decode cX12_turn 7 = .ok (.bipush (-8), 2) := by decide +kernel
theorem dX12_turn_9 : decode cX12_turn 9 = .ok (.bipush 8, 2) := by decide +kernel
theorem dX12_turn_11 : decode cX12_turn 11 = .ok (.invokestatic 203, 3) := by decide +kernel
theorem dX12_turn_14 : decode cX12_turn 14 = .ok (.ifCond .eq 12, 3) := by decide +kernel
theorem dX12_turn_17 : decode cX12_turn 17 = .ok (.iload_n 2, 1) := by decide +kernel
theorem dX12_turn_18 : decode cX12_turn 18 = .ok (.iconst 0, 1) := by decide +kernel
theorem dX12_turn_19 : decode cX12_turn 19 = .ok (.iconst 1, 1) := by decide +kernel
theorem dX12_turn_20 : decode cX12_turn 20 = .ok (.invokestatic 203, 3) := by decide +kernel
theorem dX12_turn_23 : decode cX12_turn 23 = .ok (.ifCond .ne 7, 3) := by decide +kernel
theorem dX12_turn_26 : decode cX12_turn 26 = .ok (.iconst 1, 1) := by decide +kernel
theorem dX12_turn_27 : decode cX12_turn 27 = .ok (.goto 4, 3) := by decide +kernel
theorem dX12_turn_30 : decode cX12_turn 30 = .ok (.iconst 0, 1) := by decide +kernel
theorem dX12_turn_31 : decode cX12_turn 31 = .ok (.iconst 1, 1) := by decide +kernel
theorem dX12_turn_32 : decode cX12_turn 32 = .ok (.invokevirtual 207, 3) := by decide +kernel
theorem dX12_turn_35 : decode cX12_turn 35 = .ok (.ifCond .eq 5, 3) := by decide +kernel
theorem dX12_turn_38 : decode cX12_turn 38 = .ok (.iconst 0, 1) := by decide +kernel
theorem dX12_turn_39 : decode cX12_turn 39 = .ok (.ireturn, 1) := by decide +kernel
theorem dX12_turn_40 : decode cX12_turn 40 = .ok (.aload_n 0, 1) := by decide +kernel
theorem dX12_turn_41 : decode cX12_turn 41 = .ok (.iload_n 1, 1) := by decide +kernel
theorem dX12_turn_42 : decode cX12_turn 42 = .ok (.iload_n 2, 1) := by decide +kernel
theorem dX12_turn_43 : decode cX12_turn 43 = .ok (.invokevirtual 286, 3) := by decide +kernel
theorem dX12_turn_46 : decode cX12_turn 46 = .ok (.ireturn, 1) := by decide +kernel
theorem dX12_trim_0 : decode cX12_trim 0 = .ok (.aload_n 0, 1) := by decide +kernel
theorem dX12_trim_1 : decode cX12_trim 1 = .ok (.iconst 0, 1) := by decide +kernel
theorem dX12_trim_2 : decode cX12_trim 2 = .ok (.putfield 179, 3) := by decide +kernel
theorem dX12_trim_5 : decode cX12_trim 5 = .ok (.aload_n 0, 1) := by decide +kernel
theorem dX12_trim_6 : decode cX12_trim 6 = .ok (.iload_n 1, 1) := by decide +kernel
theorem dX12_trim_7 : decode cX12_trim 7 = .ok (.bipush (-8), 2) := by decide +kernel
theorem dX12_trim_9 : decode cX12_trim 9 = .ok (.bipush 8, 2) := by decide +kernel
theorem dX12_trim_11 : decode cX12_trim 11 = .ok (.invokestatic 203, 3) := by decide +kernel
theorem dX12_trim_14 : decode cX12_trim 14 = .ok (.ifCond .eq 12, 3) := by decide +kernel
theorem dX12_trim_17 : decode cX12_trim 17 = .ok (.iload_n 2, 1) := by decide +kernel
theorem dX12_trim_18 : decode cX12_trim 18 = .ok (.iconst (-1), 1) := by decide +kernel
theorem dX12_trim_19 : decode cX12_trim 19 = .ok (.iconst 3, 1) := by decide +kernel
theorem dX12_trim_20 : decode cX12_trim 20 = .ok (.invokestatic 203, 3) := by decide +kernel
theorem dX12_trim_23 : decode cX12_trim 23 = .ok (.ifCond .ne 7, 3) := by decide +kernel
theorem dX12_trim_26 : decode cX12_trim 26 = .ok (.iconst 1, 1) := by decide +kernel
theorem dX12_trim_27 : decode cX12_trim 27 = .ok (.goto 4, 3) := by decide +kernel
theorem dX12_trim_30 : decode cX12_trim 30 = .ok (.iconst 0, 1) := by decide +kernel
theorem dX12_trim_31 : decode cX12_trim 31 = .ok (.iconst 1, 1) := by decide +kernel
theorem dX12_trim_32 : decode cX12_trim 32 = .ok (.invokevirtual 207, 3) := by decide +kernel
theorem dX12_trim_35 : decode cX12_trim 35 = .ok (.ifCond .eq 5, 3) := by decide +kernel
theorem dX12_trim_38 : decode cX12_trim 38 = .ok (.iconst 0, 1) := by decide +kernel
theorem dX12_trim_39 : decode cX12_trim 39 = .ok (.ireturn, 1) := by decide +kernel
theorem dX12_trim_40 : decode cX12_trim 40 = .ok (.iconst 4, 1) := by decide +kernel
theorem dX12_trim_41 : decode cX12_trim 41 = .ok (.newarray .int, 2) := by decide +kernel
theorem dX12_trim_43 : decode cX12_trim 43 = .ok (.astore_n 3, 1) := by decide +kernel
theorem dX12_trim_44 : decode cX12_trim 44 = .ok (.iconst 4, 1) := by decide +kernel
theorem dX12_trim_45 : decode cX12_trim 45 = .ok (.newarray .int, 2) := by decide +kernel
theorem dX12_trim_47 : decode cX12_trim 47 = .ok (.astore 4, 2) := by decide +kernel
theorem dX12_trim_49 : decode cX12_trim 49 = .ok (.iconst 1, 1) := by decide +kernel
theorem dX12_trim_50 : decode cX12_trim 50 = .ok (.istore 5, 2) := by decide +kernel
theorem dX12_trim_52 : decode cX12_trim 52 = .ok (.iconst (-1), 1) := by decide +kernel
theorem dX12_trim_53 : decode cX12_trim 53 = .ok (.istore 6, 2) := by decide +kernel
theorem dX12_trim_55 : decode cX12_trim 55 = .ok (.iconst 0, 1) := by decide +kernel
theorem dX12_trim_56 : decode cX12_trim 56 = .ok (.istore 7, 2) := by decide +kernel
theorem dX12_trim_58 : decode cX12_trim 58 = .ok (.iload 7, 2) := by decide +kernel
theorem dX12_trim_60 : decode cX12_trim 60 = .ok (.aload_n 0, 1) := by decide +kernel
theorem dX12_trim_61 : decode cX12_trim 61 = .ok (.getfield 225, 3) := by decide +kernel
theorem dX12_trim_64 : decode cX12_trim 64 = .ok (.if_icmp .ge 26, 3) := by decide +kernel
theorem dX12_trim_67 : decode cX12_trim 67 = .ok (.aload_n 3, 1) := by decide +kernel
theorem dX12_trim_68 : decode cX12_trim 68 = .ok (.iload 7, 2) := by decide +kernel
theorem dX12_trim_70 : decode cX12_trim 70 = .ok (.aload_n 0, 1) := by decide +kernel
theorem dX12_trim_71 : decode cX12_trim 71 = .ok (.getfield 53, 3) := by decide +kernel
theorem dX12_trim_74 : decode cX12_trim 74 = .ok (.iload 7, 2) := by decide +kernel
theorem dX12_trim_76 : decode cX12_trim 76 = .ok (.iaload, 1) := by decide +kernel
theorem dX12_trim_77 : decode cX12_trim 77 = .ok (.iastore, 1) := by decide +kernel
theorem dX12_trim_78 : decode cX12_trim 78 = .ok (.iload 5, 2) := by decide +kernel
theorem dX12_trim_80 : decode cX12_trim 80 = .ok (.iconst 5, 1) := by decide +kernel
theorem dX12_trim_81 : decode cX12_trim 81 = .ok (.imul, 1) := by decide +kernel
theorem dX12_trim_82 : decode cX12_trim 82 = .ok (.istore 5, 2) := by decide +kernel
theorem dX12_trim_84 : decode cX12_trim 84 = .ok (.iinc 7 1, 3) := by decide +kernel
theorem dX12_trim_87 : decode cX12_trim 87 = .ok (.goto (-29), 3) := by decide +kernel
theorem dX12_trim_90 : decode cX12_trim 90 = .ok (.iconst 0, 1) := by decide +kernel
theorem dX12_trim_91 : decode cX12_trim 91 = .ok (.istore 7, 2) := by decide +kernel
theorem dX12_trim_93 : decode cX12_trim 93 = .ok (.iload 7, 2) := by decide +kernel
theorem dX12_trim_95 : decode cX12_trim 95 = .ok (.iload 5, 2) := by decide +kernel
theorem dX12_trim_97 : decode cX12_trim 97 = .ok (.if_icmp .ge 175, 3) := by decide +kernel
theorem dX12_trim_100 : decode cX12_trim 100 = .ok (.iload 7, 2) := by decide +kernel
theorem dX12_trim_102 : decode cX12_trim 102 = .ok (.istore 8, 2) := by decide +kernel
theorem dX12_trim_104 : decode cX12_trim 104 = .ok (.iconst 1, 1) := by decide +kernel
theorem dX12_trim_105 : decode cX12_trim 105 = .ok (.istore 9, 2) := by decide +kernel
theorem dX12_trim_107 : decode cX12_trim 107 = .ok (.aload_n 0, 1) := by decide +kernel
theorem dX12_trim_108 : decode cX12_trim 108 = .ok (.getfield 225, 3) := by decide +kernel
theorem dX12_trim_111 : decode cX12_trim 111 = .ok (.iconst 1, 1) := by decide +kernel
theorem dX12_trim_112 : decode cX12_trim 112 = .ok (.isub, 1) := by decide +kernel
theorem dX12_trim_113 : decode cX12_trim 113 = .ok (.istore 10, 2) := by decide +kernel
theorem dX12_trim_115 : decode cX12_trim 115 = .ok (.iload 10, 2) := by decide +kernel
theorem dX12_trim_117 : decode cX12_trim 117 = .ok (.ifCond .lt 64, 3) := by decide +kernel
theorem dX12_trim_120 : decode cX12_trim 120 = .ok (.iload 8, 2) := by decide +kernel
theorem dX12_trim_122 : decode cX12_trim 122 = .ok (.iconst 5, 1) := by decide +kernel
theorem dX12_trim_123 : decode cX12_trim 123 = .ok (.irem, 1) := by decide +kernel
theorem dX12_trim_124 : decode cX12_trim 124 = .ok (.iconst 2, 1) := by decide +kernel
theorem dX12_trim_125 : decode cX12_trim 125 = .ok (.isub, 1) := by decide +kernel
theorem dX12_trim_126 : decode cX12_trim 126 = .ok (.istore 11, 2) := by decide +kernel
theorem dX12_trim_128 : decode cX12_trim 128 = .ok (.iload 8, 2) := by decide +kernel
theorem dX12_trim_130 : decode cX12_trim 130 = .ok (.iconst 5, 1) := by decide +kernel
theorem dX12_trim_131 : decode cX12_trim 131 = .ok (.idiv, 1) := by decide +kernel
theorem dX12_trim_132 : decode cX12_trim 132 = .ok (.istore 8, 2) := by decide +kernel
theorem dX12_trim_134 : decode cX12_trim 134 = .ok (.aload_n 0, 1) := by decide +kernel
theorem dX12_trim_135 : decode cX12_trim 135 = .ok (.getfield 56, 3) := by decide +kernel
theorem dX12_trim_138 : decode cX12_trim 138 = .ok (.iload 10, 2) := by decide +kernel
theorem dX12_trim_140 : decode cX12_trim 140 = .ok (.baload, 1) := by decide +kernel
theorem dX12_trim_141 : decode cX12_trim 141 = .ok (.ifCond .eq 25, 3) := by decide +kernel
theorem dX12_trim_144 : decode cX12_trim 144 = .ok (.iload 9, 2) := by decide +kernel
theorem dX12_trim_146 : decode cX12_trim 146 = .ok (.ifCond .eq 14, 3) := by decide +kernel
theorem dX12_trim_149 : decode cX12_trim 149 = .ok (.iload 11, 2) := by decide +kernel
theorem dX12_trim_151 : decode cX12_trim 151 = .ok (.bipush (-2), 2) := by decide +kernel
theorem dX12_trim_153 : decode cX12_trim 153 = .ok (.if_icmp .ne 7, 3) := by decide +kernel
theorem dX12_trim_156 : decode cX12_trim 156 = .ok (.iconst 1, 1) := by decide +kernel
theorem dX12_trim_157 : decode cX12_trim 157 = .ok (.goto 4, 3) := by decide +kernel
theorem dX12_trim_160 : decode cX12_trim 160 = .ok (.iconst 0, 1) := by decide +kernel
theorem dX12_trim_161 : decode cX12_trim 161 = .ok (.istore 9, 2) := by decide +kernel
theorem dX12_trim_163 : decode cX12_trim 163 = .ok (.goto 12, 3) := by decide +kernel
theorem dX12_trim_166 : decode cX12_trim 166 = .ok (.aload_n 0, 1) := by decide +kernel
theorem dX12_trim_167 : decode cX12_trim 167 = .ok (.getfield 53, 3) := by decide +kernel
theorem dX12_trim_170 : decode cX12_trim 170 = .ok (.iload 10, 2) := by decide +kernel
theorem dX12_trim_172 : decode cX12_trim 172 = .ok (.iload 11, 2) := by decide +kernel
theorem dX12_trim_174 : decode cX12_trim 174 = .ok (.iastore, 1) := by decide +kernel
theorem dX12_trim_175 : decode cX12_trim 175 = .ok (.iinc 10 (-1), 3) := by decide +kernel
theorem dX12_trim_178 : decode cX12_trim 178 = .ok (.goto (-63), 3) := by decide +kernel
theorem dX12_trim_181 : decode cX12_trim 181 = .ok (.iload 9, 2) := by decide +kernel
theorem dX12_trim_183 : decode cX12_trim 183 = .ok (.ifCond .eq 25, 3) := by decide +kernel
theorem dX12_trim_186 : decode cX12_trim 186 = .ok (.aload_n 0, 1) := by decide +kernel
theorem dX12_trim_187 : decode cX12_trim 187 = .ok (.iload_n 1, 1) := by decide +kernel
theorem dX12_trim_188 : decode cX12_trim 188 = .ok (.iconst 0, 1) := by decide +kernel
theorem dX12_trim_189 : decode cX12_trim 189 = .ok (.invokevirtual 286, 3) := by decide +kernel
theorem dX12_trim_192 : decode cX12_trim 192 = .ok (.invokestatic 237, 3) := by decide +kernel
theorem dX12_trim_195 : decode cX12_trim 195 = .ok (.aload_n 0, 1) := by decide +kernel
theorem dX12_trim_196 : decode cX12_trim 196 = .ok (.iload_n 1, 1) := by decide +kernel
theorem dX12_trim_197 : decode cX12_trim 197 = .ok (.iconst 1, 1) := by decide +kernel
theorem dX12_trim_198 : decode cX12_trim 198 = .ok (.invokevirtual 286, 3) := by decide +kernel
theorem dX12_trim_201 : decode cX12_trim 201 = .ok (.invokestatic 237, 3) := by decide +kernel
theorem dX12_trim_204 : decode cX12_trim 204 = .ok (.iadd, 1) := by decide +kernel
theorem dX12_trim_205 : decode cX12_trim 205 = .ok (.goto 4, 3) := by decide +kernel
theorem dX12_trim_208 : decode cX12_trim 208 = .ok (.iconst 0, 1) := by decide +kernel
theorem dX12_trim_209 : decode cX12_trim 209 = .ok (.istore 10, 2) := by decide +kernel
theorem dX12_trim_211 : decode cX12_trim 211 = .ok (.iload 9, 2) := by decide +kernel
theorem dX12_trim_213 : decode cX12_trim 213 = .ok (.ifCond .eq 53, 3) := by decide +kernel
theorem dX12_trim_216 : decode cX12_trim 216 = .ok (.iload 6, 2) := by decide +kernel
theorem dX12_trim_218 : decode cX12_trim 218 = .ok (.iconst (-1), 1) := by decide +kernel
theorem dX12_trim_219 : decode cX12_trim 219 = .ok (.if_icmp .eq 13, 3) := by decide +kernel
theorem dX12_trim_222 : decode cX12_trim 222 = .ok (.iload 10, 2) := by decide +kernel
theorem dX12_trim_224 : decode cX12_trim 224 = .ok (.iload 6, 2) := by decide +kernel
theorem dX12_trim_226 : decode cX12_trim 226 = .ok (.if_icmp .lt 6, 3) := by decide +kernel
theorem dX12_trim_229 : decode cX12_trim 229 = .ok (.goto 37, 3) := by decide +kernel
theorem dX12_trim_232 : decode cX12_trim 232 = .ok (.iload 10, 2) := by decide +kernel
theorem dX12_trim_234 : decode cX12_trim 234 = .ok (.istore 6, 2) := by decide +kernel
theorem dX12_trim_236 : decode cX12_trim 236 = .ok (.iconst 0, 1) := by decide +kernel
theorem dX12_trim_237 : decode cX12_trim 237 = .ok (.istore 11, 2) := by decide +kernel
theorem dX12_trim_239 : decode cX12_trim 239 = .ok (.iload 11, 2) := by decide +kernel
theorem dX12_trim_241 : decode cX12_trim 241 = .ok (.aload_n 0, 1) := by decide +kernel
theorem dX12_trim_242 : decode cX12_trim 242 = .ok (.getfield 225, 3) := by decide +kernel
theorem dX12_trim_245 : decode cX12_trim 245 = .ok (.if_icmp .ge 21, 3) := by decide +kernel
theorem dX12_trim_248 : decode cX12_trim 248 = .ok (.aload 4, 2) := by decide +kernel
theorem dX12_trim_250 : decode cX12_trim 250 = .ok (.iload 11, 2) := by decide +kernel
theorem dX12_trim_252 : decode cX12_trim 252 = .ok (.aload_n 0, 1) := by decide +kernel
theorem dX12_trim_253 : decode cX12_trim 253 = .ok (.getfield 53, 3) := by decide +kernel
theorem dX12_trim_256 : decode cX12_trim 256 = .ok (.iload 11, 2) := by decide +kernel
theorem dX12_trim_258 : decode cX12_trim 258 = .ok (.iaload, 1) := by decide +kernel
theorem dX12_trim_259 : decode cX12_trim 259 = .ok (.iastore, 1) := by decide +kernel
theorem dX12_trim_260 : decode cX12_trim 260 = .ok (.iinc 11 1, 3) := by decide +kernel
theorem dX12_trim_263 : decode cX12_trim 263 = .ok (.goto (-24), 3) := by decide +kernel
theorem dX12_trim_266 : decode cX12_trim 266 = .ok (.iinc 7 1, 3) := by decide +kernel
theorem dX12_trim_269 : decode cX12_trim 269 = .ok (.goto (-176), 3) := by decide +kernel
theorem dX12_trim_272 : decode cX12_trim 272 = .ok (.iconst 0, 1) := by decide +kernel
theorem dX12_trim_273 : decode cX12_trim 273 = .ok (.istore 7, 2) := by decide +kernel
theorem dX12_trim_275 : decode cX12_trim 275 = .ok (.iload 7, 2) := by decide +kernel
theorem dX12_trim_277 : decode cX12_trim 277 = .ok (.aload_n 0, 1) := by decide +kernel
theorem dX12_trim_278 : decode cX12_trim 278 = .ok (.getfield 225, 3) := by decide +kernel
theorem dX12_trim_281 : decode cX12_trim 281 = .ok (.if_icmp .ge 20, 3) := by decide +kernel
theorem dX12_trim_284 : decode cX12_trim 284 = .ok (.aload_n 0, 1) := by decide +kernel
theorem dX12_trim_285 : decode cX12_trim 285 = .ok (.getfield 53, 3) := by decide +kernel
theorem dX12_trim_288 : decode cX12_trim 288 = .ok (.iload 7, 2) := by decide +kernel
theorem dX12_trim_290 : decode cX12_trim 290 = .ok (.aload_n 3, 1) := by decide +kernel
theorem dX12_trim_291 : decode cX12_trim 291 = .ok (.iload 7, 2) := by decide +kernel
theorem dX12_trim_293 : decode cX12_trim 293 = .ok (.iaload, 1) := by decide +kernel
theorem dX12_trim_294 : decode cX12_trim 294 = .ok (.iastore, 1) := by decide +kernel
theorem dX12_trim_295 : decode cX12_trim 295 = .ok (.iinc 7 1, 3) := by decide +kernel
theorem dX12_trim_298 : decode cX12_trim 298 = .ok (.goto (-23), 3) := by decide +kernel
theorem dX12_trim_301 : decode cX12_trim 301 = .ok (.iload_n 2, 1) := by decide +kernel
theorem dX12_trim_302 : decode cX12_trim 302 = .ok (.iconst (-1), 1) := by decide +kernel
theorem dX12_trim_303 : decode cX12_trim 303 = .ok (.if_icmp .ne 8, 3) := by decide +kernel
theorem dX12_trim_306 : decode cX12_trim 306 = .ok (.iload 6, 2) := by decide +kernel
theorem dX12_trim_308 : decode cX12_trim 308 = .ok (.goto 20, 3) := by decide +kernel
theorem dX12_trim_311 : decode cX12_trim 311 = .ok (.iload_n 2, 1) := by decide +kernel
theorem dX12_trim_312 : decode cX12_trim 312 = .ok (.aload_n 0, 1) := by decide +kernel
theorem dX12_trim_313 : decode cX12_trim 313 = .ok (.getfield 225, 3) := by decide +kernel
theorem dX12_trim_316 : decode cX12_trim 316 = .ok (.if_icmp .ge 10, 3) := by decide +kernel
theorem dX12_trim_319 : decode cX12_trim 319 = .ok (.aload 4, 2) := by decide +kernel
theorem dX12_trim_321 : decode cX12_trim 321 = .ok (.iload_n 2, 1) := by decide +kernel
theorem dX12_trim_322 : decode cX12_trim 322 = .ok (.iaload, 1) := by decide +kernel
theorem dX12_trim_323 : decode cX12_trim 323 = .ok (.goto 5, 3) := by decide +kernel
theorem dX12_trim_326 : decode cX12_trim 326 = .ok (.bipush (-3), 2) := by decide +kernel
theorem dX12_trim_328 : decode cX12_trim 328 = .ok (.ireturn, 1) := by decide +kernel
theorem dX12_strength_0 : decode cX12_strength 0 = .ok (.aload_n 0, 1) := by decide +kernel
theorem dX12_strength_1 : decode cX12_strength 1 = .ok (.iconst 3, 1) := by decide +kernel
theorem dX12_strength_2 : decode cX12_strength 2 = .ok (.invokevirtual 276, 3) := by decide +kernel
theorem dX12_strength_5 : decode cX12_strength 5 = .ok (.bipush 100, 2) := by decide +kernel
theorem dX12_strength_7 : decode cX12_strength 7 = .ok (.idiv, 1) := by decide +kernel
theorem dX12_strength_8 : decode cX12_strength 8 = .ok (.istore_n 1, 1) := by decide +kernel
theorem dX12_strength_9 : decode cX12_strength 9 = .ok (.iload_n 1, 1) := by decide +kernel
theorem dX12_strength_10 : decode cX12_strength 10 = .ok (.ifCond .ge 7, 3) := by decide +kernel
theorem dX12_strength_13 : decode cX12_strength 13 = .ok (.iconst 0, 1) := by decide +kernel
theorem dX12_strength_14 : decode cX12_strength 14 = .ok (.goto 15, 3) := by decide +kernel
theorem dX12_strength_17 : decode cX12_strength 17 = .ok (.iload_n 1, 1) := by decide +kernel
theorem dX12_strength_18 : decode cX12_strength 18 = .ok (.bipush 20, 2) := by decide +kernel
theorem dX12_strength_20 : decode cX12_strength 20 = .ok (.if_icmp .le 8, 3) := by decide +kernel
theorem dX12_strength_23 : decode cX12_strength 23 = .ok (.bipush 20, 2) := by decide +kernel
theorem dX12_strength_25 : decode cX12_strength 25 = .ok (.goto 4, 3) := by decide +kernel
theorem dX12_strength_28 : decode cX12_strength 28 = .ok (.iload_n 1, 1) := by decide +kernel
theorem dX12_strength_29 : decode cX12_strength 29 = .ok (.ireturn, 1) := by decide +kernel
theorem dX12_stepsAt_0 : decode cX12_stepsAt 0 = .ok (.iconst 1, 1) := by decide +kernel
theorem dX12_stepsAt_1 : decode cX12_stepsAt 1 = .ok (.iload_n 1, 1) := by decide +kernel
theorem dX12_stepsAt_2 : decode cX12_stepsAt 2 = .ok (.bipush 32, 2) := by decide +kernel
theorem dX12_stepsAt_4 : decode cX12_stepsAt 4 = .ok (.imul, 1) := by decide +kernel
theorem dX12_stepsAt_5 : decode cX12_stepsAt 5 = .ok (.iload_n 0, 1) := by decide +kernel
theorem dX12_stepsAt_6 : decode cX12_stepsAt 6 = .ok (.bipush 32, 2) := by decide +kernel
theorem dX12_stepsAt_8 : decode cX12_stepsAt 8 = .ok (.iadd, 1) := by decide +kernel
theorem dX12_stepsAt_9 : decode cX12_stepsAt 9 = .ok (.idiv, 1) := by decide +kernel
theorem dX12_stepsAt_10 : decode cX12_stepsAt 10 = .ok (.iadd, 1) := by decide +kernel
theorem dX12_stepsAt_11 : decode cX12_stepsAt 11 = .ok (.ireturn, 1) := by decide +kernel
theorem dX12_turnAt_0 : decode cX12_turnAt 0 = .ok (.iload_n 1, 1) := by decide +kernel
theorem dX12_turnAt_1 : decode cX12_turnAt 1 = .ok (.iconst 1, 1) := by decide +kernel
theorem dX12_turnAt_2 : decode cX12_turnAt 2 = .ok (.iadd, 1) := by decide +kernel
theorem dX12_turnAt_3 : decode cX12_turnAt 3 = .ok (.sipush 320, 3) := by decide +kernel
theorem dX12_turnAt_6 : decode cX12_turnAt 6 = .ok (.iload_n 0, 1) := by decide +kernel
theorem dX12_turnAt_7 : decode cX12_turnAt 7 = .ok (.bipush 32, 2) := by decide +kernel
theorem dX12_turnAt_9 : decode cX12_turnAt 9 = .ok (.iadd, 1) := by decide +kernel
theorem dX12_turnAt_10 : decode cX12_turnAt 10 = .ok (.idiv, 1) := by decide +kernel
theorem dX12_turnAt_11 : decode cX12_turnAt 11 = .ok (.iadd, 1) := by decide +kernel
theorem dX12_turnAt_12 : decode cX12_turnAt 12 = .ok (.bipush 72, 2) := by decide +kernel
theorem dX12_turnAt_14 : decode cX12_turnAt 14 = .ok (.irem, 1) := by decide +kernel
theorem dX12_turnAt_15 : decode cX12_turnAt 15 = .ok (.ireturn, 1) := by decide +kernel
theorem dX12_world_0 : decode cX12_world 0 = .ok (.aload_n 0, 1) := by decide +kernel
theorem dX12_world_1 : decode cX12_world 1 = .ok (.iconst 0, 1) := by decide +kernel
theorem dX12_world_2 : decode cX12_world 2 = .ok (.putfield 179, 3) := by decide +kernel
theorem dX12_world_5 : decode cX12_world 5 = .ok (.aload_n 0, 1) := by decide +kernel
theorem dX12_world_6 : decode cX12_world 6 = .ok (.iload_n 1, 1) := by decide +kernel
theorem dX12_world_7 : decode cX12_world 7 = .ok (.iconst 0, 1) := by decide +kernel
theorem dX12_world_8 : decode cX12_world 8 = .ok (.sipush 255, 3) := by decide +kernel
theorem dX12_world_11 : decode cX12_world 11 = .ok (.invokestatic 203, 3) := by decide +kernel
theorem dX12_world_14 : decode cX12_world 14 = .ok (.ifCond .eq 23, 3) := by decide +kernel
theorem dX12_world_17 : decode cX12_world 17 = .ok (.iload_n 2, 1) := by decide +kernel
theorem dX12_world_18 : decode cX12_world 18 = .ok (.iconst 0, 1) := by decide +kernel
theorem dX12_world_19 : decode cX12_world 19 = .ok (.bipush 71, 2) := by decide +kernel
theorem dX12_world_21 : decode cX12_world 21 = .ok (.invokestatic 203, 3) := by decide +kernel
theorem dX12_world_24 : decode cX12_world 24 = .ok (.ifCond .eq 13, 3) := by decide +kernel
theorem dX12_world_27 : decode cX12_world 27 = .ok (.iload_n 3, 1) := by decide +kernel
theorem dX12_world_28 : decode cX12_world 28 = .ok (.iconst 0, 1) := by decide +kernel
theorem dX12_world_29 : decode cX12_world 29 = .ok (.bipush 10, 2) := by decide +kernel
theorem dX12_world_31 : decode cX12_world 31 = .ok (.invokestatic 203, 3) := by decide +kernel
theorem dX12_world_34 : decode cX12_world 34 = .ok (.ifCond .ne 7, 3) := by decide +kernel
theorem dX12_world_37 : decode cX12_world 37 = .ok (.iconst 1, 1) := by decide +kernel
theorem dX12_world_38 : decode cX12_world 38 = .ok (.goto 4, 3) := by decide +kernel
theorem dX12_world_41 : decode cX12_world 41 = .ok (.iconst 0, 1) := by decide +kernel
theorem dX12_world_42 : decode cX12_world 42 = .ok (.iconst 1, 1) := by decide +kernel
theorem dX12_world_43 : decode cX12_world 43 = .ok (.invokevirtual 207, 3) := by decide +kernel
theorem dX12_world_46 : decode cX12_world 46 = .ok (.ifCond .eq 5, 3) := by decide +kernel
theorem dX12_world_49 : decode cX12_world 49 = .ok (.iconst 0, 1) := by decide +kernel
theorem dX12_world_50 : decode cX12_world 50 = .ok (.ireturn, 1) := by decide +kernel
theorem dX12_world_51 : decode cX12_world 51 = .ok (.aload_n 0, 1) := by decide +kernel
theorem dX12_world_52 : decode cX12_world 52 = .ok (.getfield 289, 3) := by decide +kernel
theorem dX12_world_55 : decode cX12_world 55 = .ok (.iconst 4, 1) := by decide +kernel
theorem dX12_world_56 : decode cX12_world 56 = .ok (.if_icmp .ne 5, 3) := by decide +kernel
theorem dX12_world_59 : decode cX12_world 59 = .ok (.iconst (-1), 1) := by decide +kernel
theorem dX12_world_60 : decode cX12_world 60 = .ok (.ireturn, 1) := by decide +kernel
theorem dX12_world_61 : decode cX12_world 61 = .ok (.aload_n 0, 1) := by decide +kernel
theorem dX12_world_62 : decode cX12_world 62 = .ok (.getfield 66, 3) := by decide +kernel
theorem dX12_world_65 : decode cX12_world 65 = .ok (.aload_n 0, 1) := by decide +kernel
theorem dX12_world_66 : decode cX12_world 66 = .ok (.getfield 289, 3) := by decide +kernel
theorem dX12_world_69 : decode cX12_world 69 = .ok (.iload_n 1, 1) := by decide +kernel
theorem dX12_world_70 : decode cX12_world 70 = .ok (.iastore, 1) := by decide +kernel
theorem dX12_world_71 : decode cX12_world 71 = .ok (.aload_n 0, 1) := by decide +kernel
theorem dX12_world_72 : decode cX12_world 72 = .ok (.getfield 69, 3) := by decide +kernel
theorem dX12_world_75 : decode cX12_world 75 = .ok (.aload_n 0, 1) := by decide +kernel
theorem dX12_world_76 : decode cX12_world 76 = .ok (.getfield 289, 3) := by decide +kernel
theorem dX12_world_79 : decode cX12_world 79 = .ok (.iload_n 2, 1) := by decide +kernel
theorem dX12_world_80 : decode cX12_world 80 = .ok (.iastore, 1) := by decide +kernel
theorem dX12_world_81 : decode cX12_world 81 = .ok (.aload_n 0, 1) := by decide +kernel
theorem dX12_world_82 : decode cX12_world 82 = .ok (.getfield 72, 3) := by decide +kernel
theorem dX12_world_85 : decode cX12_world 85 = .ok (.aload_n 0, 1) := by decide +kernel
theorem dX12_world_86 : decode cX12_world 86 = .ok (.getfield 289, 3) := by decide +kernel
theorem dX12_world_89 : decode cX12_world 89 = .ok (.iload_n 3, 1) := by decide +kernel
theorem dX12_world_90 : decode cX12_world 90 = .ok (.iastore, 1) := by decide +kernel
theorem dX12_world_91 : decode cX12_world 91 = .ok (.aload_n 0, 1) := by decide +kernel
theorem dX12_world_92 : decode cX12_world 92 = .ok (.dup, 1) := by decide +kernel
theorem dX12_world_93 : decode cX12_world 93 = .ok (.getfield 289, 3) := by decide +kernel
theorem dX12_world_96 : decode cX12_world 96 = .ok (.iconst 1, 1) := by decide +kernel
theorem dX12_world_97 : decode cX12_world 97 = .ok (.iadd, 1) := by decide +kernel
theorem dX12_world_98 : decode cX12_world 98 = .ok (.putfield 289, 3) := by decide +kernel
theorem dX12_world_101 : decode cX12_world 101 = .ok (.aload_n 0, 1) := by decide +kernel
theorem dX12_world_102 : decode cX12_world 102 = .ok (.getfield 289, 3) := by decide +kernel
theorem dX12_world_105 : decode cX12_world 105 = .ok (.iconst 1, 1) := by decide +kernel
theorem dX12_world_106 : decode cX12_world 106 = .ok (.isub, 1) := by decide +kernel
theorem dX12_world_107 : decode cX12_world 107 = .ok (.ireturn, 1) := by decide +kernel
theorem dX12_angleOf_0 : decode cX12_angleOf 0 = .ok (.aload_n 0, 1) := by decide +kernel
theorem dX12_angleOf_1 : decode cX12_angleOf 1 = .ok (.getfield 69, 3) := by decide +kernel
theorem dX12_angleOf_4 : decode cX12_angleOf 4 = .ok (.iload_n 1, 1) := by decide +kernel
theorem dX12_angleOf_5 : decode cX12_angleOf 5 = .ok (.iaload, 1) := by decide +kernel
theorem dX12_angleOf_6 : decode cX12_angleOf 6 = .ok (.aload_n 0, 1) := by decide +kernel
theorem dX12_angleOf_7 : decode cX12_angleOf 7 = .ok (.getfield 72, 3) := by decide +kernel
theorem dX12_angleOf_10 : decode cX12_angleOf 10 = .ok (.iload_n 1, 1) := by decide +kernel
theorem dX12_angleOf_11 : decode cX12_angleOf 11 = .ok (.iaload, 1) := by decide +kernel
theorem dX12_angleOf_12 : decode cX12_angleOf 12 = .ok (.iload_n 2, 1) := by decide +kernel
theorem dX12_angleOf_13 : decode cX12_angleOf 13 = .ok (.imul, 1) := by decide +kernel
theorem dX12_angleOf_14 : decode cX12_angleOf 14 = .ok (.iadd, 1) := by decide +kernel
theorem dX12_angleOf_15 : decode cX12_angleOf 15 = .ok (.bipush 72, 2) := by decide +kernel
theorem dX12_angleOf_17 : decode cX12_angleOf 17 = .ok (.irem, 1) := by decide +kernel
theorem dX12_angleOf_18 : decode cX12_angleOf 18 = .ok (.ireturn, 1) := by decide +kernel
theorem dX12_angle_0 : decode cX12_angle 0 = .ok (.aload_n 0, 1) := by decide +kernel
theorem dX12_angle_1 : decode cX12_angle 1 = .ok (.iconst 0, 1) := by decide +kernel
theorem dX12_angle_2 : decode cX12_angle 2 = .ok (.putfield 179, 3) := by decide +kernel
theorem dX12_angle_5 : decode cX12_angle 5 = .ok (.aload_n 0, 1) := by decide +kernel
theorem dX12_angle_6 : decode cX12_angle 6 = .ok (.iload_n 1, 1) := by decide +kernel
theorem dX12_angle_7 : decode cX12_angle 7 = .ok (.iconst 0, 1) := by decide +kernel
theorem dX12_angle_8 : decode cX12_angle 8 = .ok (.aload_n 0, 1) := by decide +kernel
theorem dX12_angle_9 : decode cX12_angle 9 = .ok (.getfield 289, 3) := by decide +kernel
theorem dX12_angle_12 : decode cX12_angle 12 = .ok (.iconst 1, 1) := by decide +kernel
theorem dX12_angle_13 : decode cX12_angle 13 = .ok (.isub, 1) := by decide +kernel
theorem dX12_angle_14 : decode cX12_angle 14 = .ok (.invokestatic 203, 3) := by decide +kernel
theorem dX12_angle_17 : decode cX12_angle 17 = .ok (.ifCond .ne 7, 3) := by decide +kernel
theorem dX12_angle_20 : decode cX12_angle 20 = .ok (.iconst 1, 1) := by decide +kernel
theorem dX12_angle_21 : decode cX12_angle 21 = .ok (.goto 4, 3) := by decide +kernel
theorem dX12_angle_24 : decode cX12_angle 24 = .ok (.iconst 0, 1) := by decide +kernel
theorem dX12_angle_25 : decode cX12_angle 25 = .ok (.iconst 1, 1) := by decide +kernel
theorem dX12_angle_26 : decode cX12_angle 26 = .ok (.invokevirtual 207, 3) := by decide +kernel
theorem dX12_angle_29 : decode cX12_angle 29 = .ok (.ifCond .ne 27, 3) := by decide +kernel
theorem dX12_angle_32 : decode cX12_angle 32 = .ok (.aload_n 0, 1) := by decide +kernel
theorem dX12_angle_33 : decode cX12_angle 33 = .ok (.iload_n 2, 1) := by decide +kernel
theorem dX12_angle_34 : decode cX12_angle 34 = .ok (.iconst 0, 1) := by decide +kernel
theorem dX12_angle_35 : decode cX12_angle 35 = .ok (.sipush 3000, 3) := by decide +kernel
theorem dX12_angle_38 : decode cX12_angle 38 = .ok (.invokestatic 203, 3) := by decide +kernel
theorem dX12_angle_41 : decode cX12_angle 41 = .ok (.ifCond .ne 7, 3) := by decide +kernel
theorem dX12_angle_44 : decode cX12_angle 44 = .ok (.iconst 1, 1) := by decide +kernel
theorem dX12_angle_45 : decode cX12_angle 45 = .ok (.goto 4, 3) := by decide +kernel
theorem dX12_angle_48 : decode cX12_angle 48 = .ok (.iconst 0, 1) := by decide +kernel
theorem dX12_angle_49 : decode cX12_angle 49 = .ok (.iconst 2, 1) := by decide +kernel
theorem dX12_angle_50 : decode cX12_angle 50 = .ok (.invokevirtual 207, 3) := by decide +kernel
theorem dX12_angle_53 : decode cX12_angle 53 = .ok (.ifCond .eq 5, 3) := by decide +kernel
theorem dX12_angle_56 : decode cX12_angle 56 = .ok (.iconst 0, 1) := by decide +kernel
theorem dX12_angle_57 : decode cX12_angle 57 = .ok (.ireturn, 1) := by decide +kernel
theorem dX12_angle_58 : decode cX12_angle 58 = .ok (.aload_n 0, 1) := by decide +kernel
theorem dX12_angle_59 : decode cX12_angle 59 = .ok (.iload_n 1, 1) := by decide +kernel
theorem dX12_angle_60 : decode cX12_angle 60 = .ok (.iload_n 2, 1) := by decide +kernel
theorem dX12_angle_61 : decode cX12_angle 61 = .ok (.invokevirtual 292, 3) := by decide +kernel
theorem dX12_angle_64 : decode cX12_angle 64 = .ok (.ireturn, 1) := by decide +kernel
theorem dX12_isMet_0 : decode cX12_isMet 0 = .ok (.aload_n 0, 1) := by decide +kernel
theorem dX12_isMet_1 : decode cX12_isMet 1 = .ok (.iload_n 1, 1) := by decide +kernel
theorem dX12_isMet_2 : decode cX12_isMet 2 = .ok (.iload 4, 2) := by decide +kernel
theorem dX12_isMet_4 : decode cX12_isMet 4 = .ok (.invokevirtual 292, 3) := by decide +kernel
theorem dX12_isMet_7 : decode cX12_isMet 7 = .ok (.iload_n 3, 1) := by decide +kernel
theorem dX12_isMet_8 : decode cX12_isMet 8 = .ok (.isub, 1) := by decide +kernel
theorem dX12_isMet_9 : decode cX12_isMet 9 = .ok (.invokestatic 237, 3) := by decide +kernel
theorem dX12_isMet_12 : decode cX12_isMet 12 = .ok (.istore 5, 2) := by decide +kernel
theorem dX12_isMet_14 : decode cX12_isMet 14 = .ok (.aload_n 0, 1) := by decide +kernel
theorem dX12_isMet_15 : decode cX12_isMet 15 = .ok (.getfield 66, 3) := by decide +kernel
theorem dX12_isMet_18 : decode cX12_isMet 18 = .ok (.iload_n 1, 1) := by decide +kernel
theorem dX12_isMet_19 : decode cX12_isMet 19 = .ok (.iaload, 1) := by decide +kernel
theorem dX12_isMet_20 : decode cX12_isMet 20 = .ok (.iload_n 2, 1) := by decide +kernel
theorem dX12_isMet_21 : decode cX12_isMet 21 = .ok (.isub, 1) := by decide +kernel
theorem dX12_isMet_22 : decode cX12_isMet 22 = .ok (.invokestatic 237, 3) := by decide +kernel
theorem dX12_isMet_25 : decode cX12_isMet 25 = .ok (.iconst 4, 1) := by decide +kernel
theorem dX12_isMet_26 : decode cX12_isMet 26 = .ok (.if_icmp .gt 20, 3) := by decide +kernel
theorem dX12_isMet_29 : decode cX12_isMet 29 = .ok (.iload 5, 2) := by decide +kernel
theorem dX12_isMet_31 : decode cX12_isMet 31 = .ok (.iconst 2, 1) := by decide +kernel
theorem dX12_isMet_32 : decode cX12_isMet 32 = .ok (.if_icmp .le 10, 3) := by decide +kernel
theorem dX12_isMet_35 : decode cX12_isMet 35 = .ok (.iload 5, 2) := by decide +kernel
theorem dX12_isMet_37 : decode cX12_isMet 37 = .ok (.bipush 70, 2) := by decide +kernel
theorem dX12_isMet_39 : decode cX12_isMet 39 = .ok (.if_icmp .lt 7, 3) := by decide +kernel
theorem dX12_isMet_42 : decode cX12_isMet 42 = .ok (.iconst 1, 1) := by decide +kernel
theorem dX12_isMet_43 : decode cX12_isMet 43 = .ok (.goto 4, 3) := by decide +kernel
theorem dX12_isMet_46 : decode cX12_isMet 46 = .ok (.iconst 0, 1) := by decide +kernel
theorem dX12_isMet_47 : decode cX12_isMet 47 = .ok (.ireturn, 1) := by decide +kernel
theorem dX12_goesTo_0 : decode cX12_goesTo 0 = .ok (.iload_n 2, 1) := by decide +kernel
theorem dX12_goesTo_1 : decode cX12_goesTo 1 = .ok (.iconst 1, 1) := by decide +kernel
theorem dX12_goesTo_2 : decode cX12_goesTo 2 = .ok (.if_icmp .ne 7, 3) := by decide +kernel
theorem dX12_goesTo_5 : decode cX12_goesTo 5 = .ok (.iload_n 0, 1) := by decide +kernel
theorem dX12_goesTo_6 : decode cX12_goesTo 6 = .ok (.goto 24, 3) := by decide +kernel
theorem dX12_goesTo_9 : decode cX12_goesTo 9 = .ok (.iload_n 2, 1) := by decide +kernel
theorem dX12_goesTo_10 : decode cX12_goesTo 10 = .ok (.ifCond .ne 13, 3) := by decide +kernel
theorem dX12_goesTo_13 : decode cX12_goesTo 13 = .ok (.iload_n 0, 1) := by decide +kernel
theorem dX12_goesTo_14 : decode cX12_goesTo 14 = .ok (.iload_n 0, 1) := by decide +kernel
theorem dX12_goesTo_15 : decode cX12_goesTo 15 = .ok (.iload_n 3, 1) := by decide +kernel
theorem dX12_goesTo_16 : decode cX12_goesTo 16 = .ok (.invokestatic 295, 3) := by decide +kernel
theorem dX12_goesTo_19 : decode cX12_goesTo 19 = .ok (.isub, 1) := by decide +kernel
theorem dX12_goesTo_20 : decode cX12_goesTo 20 = .ok (.goto 10, 3) := by decide +kernel
theorem dX12_goesTo_23 : decode cX12_goesTo 23 = .ok (.iload_n 0, 1) := by decide +kernel
theorem dX12_goesTo_24 : decode cX12_goesTo 24 = .ok (.iload_n 0, 1) := by decide +kernel
theorem dX12_goesTo_25 : decode cX12_goesTo 25 = .ok (.iload_n 3, 1) := by decide +kernel
theorem dX12_goesTo_26 : decode cX12_goesTo 26 = .ok (.invokestatic 295, 3) := by decide +kernel
theorem dX12_goesTo_29 : decode cX12_goesTo 29 = .ok (.iadd, 1) := by decide +kernel
theorem dX12_goesTo_30 : decode cX12_goesTo 30 = .ok (.istore 4, 2) := by decide +kernel
theorem dX12_goesTo_32 : decode cX12_goesTo 32 = .ok (.iload 4, 2) := by decide +kernel
theorem dX12_goesTo_34 : decode cX12_goesTo 34 = .ok (.ifCond .lt 11, 3) := by decide +kernel
theorem dX12_goesTo_37 : decode cX12_goesTo 37 = .ok (.iload 4, 2) := by decide +kernel
theorem dX12_goesTo_39 : decode cX12_goesTo 39 = .ok (.sipush 255, 3) := by decide +kernel
theorem dX12_goesTo_42 : decode cX12_goesTo 42 = .ok (.if_icmp .le 7, 3) := by decide +kernel
theorem dX12_goesTo_45 : decode cX12_goesTo 45 = .ok (.iconst (-1), 1) := by decide +kernel
theorem dX12_goesTo_46 : decode cX12_goesTo 46 = .ok (.goto 14, 3) := by decide +kernel
theorem dX12_goesTo_49 : decode cX12_goesTo 49 = .ok (.bipush 72, 2) := by decide +kernel
theorem dX12_goesTo_51 : decode cX12_goesTo 51 = .ok (.iload 4, 2) := by decide +kernel
theorem dX12_goesTo_53 : decode cX12_goesTo 53 = .ok (.imul, 1) := by decide +kernel
theorem dX12_goesTo_54 : decode cX12_goesTo 54 = .ok (.iload_n 0, 1) := by decide +kernel
theorem dX12_goesTo_55 : decode cX12_goesTo 55 = .ok (.iload_n 1, 1) := by decide +kernel
theorem dX12_goesTo_56 : decode cX12_goesTo 56 = .ok (.invokestatic 298, 3) := by decide +kernel
theorem dX12_goesTo_59 : decode cX12_goesTo 59 = .ok (.iadd, 1) := by decide +kernel
theorem dX12_goesTo_60 : decode cX12_goesTo 60 = .ok (.ireturn, 1) := by decide +kernel
theorem dX12_findLeast_0 : decode cX12_findLeast 0 = .ok (.aload_n 0, 1) := by decide +kernel
theorem dX12_findLeast_1 : decode cX12_findLeast 1 = .ok (.iconst (-1), 1) := by decide +kernel
theorem dX12_findLeast_2 : decode cX12_findLeast 2 = .ok (.putfield 301, 3) := by decide +kernel
theorem dX12_findLeast_5 : decode cX12_findLeast 5 = .ok (.iconst 0, 1) := by decide +kernel
theorem dX12_findLeast_6 : decode cX12_findLeast 6 = .ok (.istore_n 3, 1) := by decide +kernel
theorem dX12_findLeast_7 : decode cX12_findLeast 7 = .ok (.iload_n 3, 1) := by decide +kernel
theorem dX12_findLeast_8 : decode cX12_findLeast 8 = .ok (.bipush 40, 2) := by decide +kernel
theorem dX12_findLeast_10 : decode cX12_findLeast 10 = .ok (.if_icmp .gt 46, 3) := by decide +kernel
theorem dX12_findLeast_13 : decode cX12_findLeast 13 = .ok (.iconst 0, 1) := by decide +kernel
theorem dX12_findLeast_14 : decode cX12_findLeast 14 = .ok (.istore 4, 2) := by decide +kernel
theorem dX12_findLeast_16 : decode cX12_findLeast 16 = .ok (.iload 4, 2) := by decide +kernel
theorem dX12_findLeast_18 : decode cX12_findLeast 18 = .ok (.sipush 18432, 3) := by decide +kernel
theorem dX12_findLeast_21 : decode cX12_findLeast 21 = .ok (.if_icmp .ge 29, 3) := by decide +kernel
theorem dX12_findLeast_24 : decode cX12_findLeast 24 = .ok (.aload_n 0, 1) := by decide +kernel
theorem dX12_findLeast_25 : decode cX12_findLeast 25 = .ok (.getfield 77, 3) := by decide +kernel
theorem dX12_findLeast_28 : decode cX12_findLeast 28 = .ok (.iload_n 3, 1) := by decide +kernel
theorem dX12_findLeast_29 : decode cX12_findLeast 29 = .ok (.aaload, 1) := by decide +kernel
theorem dX12_findLeast_30 : decode cX12_findLeast 30 = .ok (.iload 4, 2) := by decide +kernel
theorem dX12_findLeast_32 : decode cX12_findLeast 32 = .ok (.iconst 0, 1) := by decide +kernel
theorem dX12_findLeast_33 : decode cX12_findLeast 33 = .ok (.bastore, 1) := by decide +kernel
theorem dX12_findLeast_34 : decode cX12_findLeast 34 = .ok (.aload_n 0, 1) := by decide +kernel
theorem dX12_findLeast_35 : decode cX12_findLeast 35 = .ok (.getfield 80, 3) := by decide +kernel
theorem dX12_findLeast_38 : decode cX12_findLeast 38 = .ok (.iload_n 3, 1) := by decide +kernel
theorem dX12_findLeast_39 : decode cX12_findLeast 39 = .ok (.aaload, 1) := by decide +kernel
theorem dX12_findLeast_40 : decode cX12_findLeast 40 = .ok (.iload 4, 2) := by decide +kernel
theorem dX12_findLeast_42 : decode cX12_findLeast 42 = .ok (.iconst 0, 1) := by decide +kernel
theorem dX12_findLeast_43 : decode cX12_findLeast 43 = .ok (.bastore, 1) := by decide +kernel
theorem dX12_findLeast_44 : decode cX12_findLeast 44 = .ok (.iinc 4 1, 3) := by decide +kernel
theorem dX12_findLeast_47 : decode cX12_findLeast 47 = .ok (.goto (-31), 3) := by decide +kernel
theorem dX12_findLeast_50 : decode cX12_findLeast 50 = .ok (.iinc 3 1, 3) := by decide +kernel
theorem dX12_findLeast_53 : decode cX12_findLeast 53 = .ok (.goto (-46), 3) := by decide +kernel
theorem dX12_findLeast_56 : decode cX12_findLeast 56 = .ok (.aload_n 0, 1) := by decide +kernel
theorem dX12_findLeast_57 : decode cX12_findLeast 57 = .ok (.getfield 77, 3) := by decide +kernel
theorem dX12_findLeast_60 : decode cX12_findLeast 60 = .ok (.iconst 0, 1) := by decide +kernel
theorem dX12_findLeast_61 : decode cX12_findLeast 61 = .ok (.aaload, 1) := by decide +kernel
theorem dX12_findLeast_62 : decode cX12_findLeast 62 = .ok (.bipush 72, 2) := by decide +kernel
theorem dX12_findLeast_64 : decode cX12_findLeast 64 = .ok (.aload_n 0, 1) := by decide +kernel
theorem dX12_findLeast_65 : decode cX12_findLeast 65 = .ok (.getfield 59, 3) := by decide +kernel
theorem dX12_findLeast_68 : decode cX12_findLeast 68 = .ok (.imul, 1) := by decide +kernel
theorem dX12_findLeast_69 : decode cX12_findLeast 69 = .ok (.aload_n 0, 1) := by decide +kernel
theorem dX12_findLeast_70 : decode cX12_findLeast 70 = .ok (.getfield 304, 3) := by decide +kernel
theorem dX12_findLeast_73 : decode cX12_findLeast 73 = .ok (.iadd, 1) := by decide +kernel
theorem dX12_findLeast_74 : decode cX12_findLeast 74 = .ok (.iconst 1, 1) := by decide +kernel
theorem dX12_findLeast_75 : decode cX12_findLeast 75 = .ok (.bastore, 1) := by decide +kernel
theorem dX12_findLeast_76 : decode cX12_findLeast 76 = .ok (.iconst 0, 1) := by decide +kernel
theorem dX12_findLeast_77 : decode cX12_findLeast 77 = .ok (.istore_n 3, 1) := by decide +kernel
theorem dX12_findLeast_78 : decode cX12_findLeast 78 = .ok (.iload_n 3, 1) := by decide +kernel
theorem dX12_findLeast_79 : decode cX12_findLeast 79 = .ok (.bipush 40, 2) := by decide +kernel
theorem dX12_findLeast_81 : decode cX12_findLeast 81 = .ok (.if_icmp .gt 145, 3) := by decide +kernel
theorem dX12_findLeast_84 : decode cX12_findLeast 84 = .ok (.aload_n 0, 1) := by decide +kernel
theorem dX12_findLeast_85 : decode cX12_findLeast 85 = .ok (.getfield 301, 3) := by decide +kernel
theorem dX12_findLeast_88 : decode cX12_findLeast 88 = .ok (.iconst (-1), 1) := by decide +kernel
theorem dX12_findLeast_89 : decode cX12_findLeast 89 = .ok (.if_icmp .ne 137, 3) := by decide +kernel
theorem dX12_findLeast_92 : decode cX12_findLeast 92 = .ok (.iconst 0, 1) := by decide +kernel
theorem dX12_findLeast_93 : decode cX12_findLeast 93 = .ok (.istore 4, 2) := by decide +kernel
theorem dX12_findLeast_95 : decode cX12_findLeast 95 = .ok (.iload 4, 2) := by decide +kernel
theorem dX12_findLeast_97 : decode cX12_findLeast 97 = .ok (.sipush 18432, 3) := by decide +kernel
theorem dX12_findLeast_100 : decode cX12_findLeast 100 = .ok (.if_icmp .ge 120, 3) := by decide +kernel
theorem dX12_findLeast_103 : decode cX12_findLeast 103 = .ok (.aload_n 0, 1) := by decide +kernel
theorem dX12_findLeast_104 : decode cX12_findLeast 104 = .ok (.getfield 77, 3) := by decide +kernel
theorem dX12_findLeast_107 : decode cX12_findLeast 107 = .ok (.iload_n 3, 1) := by decide +kernel
theorem dX12_findLeast_108 : decode cX12_findLeast 108 = .ok (.aaload, 1) := by decide +kernel
theorem dX12_findLeast_109 : decode cX12_findLeast 109 = .ok (.iload 4, 2) := by decide +kernel
theorem dX12_findLeast_111 : decode cX12_findLeast 111 = .ok (.baload, 1) := by decide +kernel
theorem dX12_findLeast_112 : decode cX12_findLeast 112 = .ok (.ifCond .ne 6, 3) := by decide +kernel
theorem dX12_findLeast_115 : decode cX12_findLeast 115 = .ok (.goto 99, 3) := by decide +kernel
theorem dX12_findLeast_118 : decode cX12_findLeast 118 = .ok (.aload_n 0, 1) := by decide +kernel
theorem dX12_findLeast_119 : decode cX12_findLeast 119 = .ok (.iload_n 1, 1) := by decide +kernel
theorem dX12_findLeast_120 : decode cX12_findLeast 120 = .ok (.iload 4, 2) := by decide +kernel
theorem dX12_findLeast_122 : decode cX12_findLeast 122 = .ok (.bipush 72, 2) := by decide +kernel
theorem dX12_findLeast_124 : decode cX12_findLeast 124 = .ok (.idiv, 1) := by decide +kernel
theorem dX12_findLeast_125 : decode cX12_findLeast 125 = .ok (.iload 4, 2) := by decide +kernel
theorem dX12_findLeast_127 : decode cX12_findLeast 127 = .ok (.bipush 72, 2) := by decide +kernel
theorem dX12_findLeast_129 : decode cX12_findLeast 129 = .ok (.irem, 1) := by decide +kernel
theorem dX12_findLeast_130 : decode cX12_findLeast 130 = .ok (.aload_n 0, 1) := by decide +kernel
theorem dX12_findLeast_131 : decode cX12_findLeast 131 = .ok (.getfield 307, 3) := by decide +kernel
theorem dX12_findLeast_134 : decode cX12_findLeast 134 = .ok (.iload_n 3, 1) := by decide +kernel
theorem dX12_findLeast_135 : decode cX12_findLeast 135 = .ok (.iadd, 1) := by decide +kernel
theorem dX12_findLeast_136 : decode cX12_findLeast 136 = .ok (.invokevirtual 310, 3) := by decide +kernel
theorem dX12_findLeast_139 : decode cX12_findLeast 139 = .ok (.ifCond .eq 18, 3) := by decide +kernel
theorem dX12_findLeast_142 : decode cX12_findLeast 142 = .ok (.aload_n 0, 1) := by decide +kernel
theorem dX12_findLeast_143 : decode cX12_findLeast 143 = .ok (.iload_n 3, 1) := by decide +kernel
theorem dX12_findLeast_144 : decode cX12_findLeast 144 = .ok (.putfield 301, 3) := by decide +kernel
theorem dX12_findLeast_147 : decode cX12_findLeast 147 = .ok (.aload_n 0, 1) := by decide +kernel
theorem dX12_findLeast_148 : decode cX12_findLeast 148 = .ok (.getfield 80, 3) := by decide +kernel
theorem dX12_findLeast_151 : decode cX12_findLeast 151 = .ok (.iload_n 3, 1) := by decide +kernel
theorem dX12_findLeast_152 : decode cX12_findLeast 152 = .ok (.aaload, 1) := by decide +kernel
theorem dX12_findLeast_153 : decode cX12_findLeast 153 = .ok (.iload 4, 2) := by decide +kernel
theorem dX12_findLeast_155 : decode cX12_findLeast 155 = .ok (.iconst 1, 1) := by decide +kernel
theorem dX12_findLeast_156 : decode cX12_findLeast 156 = .ok (.bastore, 1) := by decide +kernel
theorem dX12_findLeast_157 : decode cX12_findLeast 157 = .ok (.iconst 0, 1) := by decide +kernel
theorem dX12_findLeast_158 : decode cX12_findLeast 158 = .ok (.istore 5, 2) := by decide +kernel
theorem dX12_findLeast_160 : decode cX12_findLeast 160 = .ok (.iload 5, 2) := by decide +kernel
theorem dX12_findLeast_162 : decode cX12_findLeast 162 = .ok (.iconst 3, 1) := by decide +kernel
theorem dX12_findLeast_163 : decode cX12_findLeast 163 = .ok (.if_icmp .ge 51, 3) := by decide +kernel
theorem dX12_findLeast_166 : decode cX12_findLeast 166 = .ok (.iload_n 3, 1) := by decide +kernel
theorem dX12_findLeast_167 : decode cX12_findLeast 167 = .ok (.bipush 40, 2) := by decide +kernel
theorem dX12_findLeast_169 : decode cX12_findLeast 169 = .ok (.if_icmp .ge 45, 3) := by decide +kernel
theorem dX12_findLeast_172 : decode cX12_findLeast 172 = .ok (.iload 4, 2) := by decide +kernel
theorem dX12_findLeast_174 : decode cX12_findLeast 174 = .ok (.bipush 72, 2) := by decide +kernel
theorem dX12_findLeast_176 : decode cX12_findLeast 176 = .ok (.idiv, 1) := by decide +kernel
theorem dX12_findLeast_177 : decode cX12_findLeast 177 = .ok (.iload 4, 2) := by decide +kernel
theorem dX12_findLeast_179 : decode cX12_findLeast 179 = .ok (.bipush 72, 2) := by decide +kernel
theorem dX12_findLeast_181 : decode cX12_findLeast 181 = .ok (.irem, 1) := by decide +kernel
theorem dX12_findLeast_182 : decode cX12_findLeast 182 = .ok (.iload 5, 2) := by decide +kernel
theorem dX12_findLeast_184 : decode cX12_findLeast 184 = .ok (.iload_n 2, 1) := by decide +kernel
theorem dX12_findLeast_185 : decode cX12_findLeast 185 = .ok (.invokestatic 314, 3) := by decide +kernel
theorem dX12_findLeast_188 : decode cX12_findLeast 188 = .ok (.istore 6, 2) := by decide +kernel
theorem dX12_findLeast_190 : decode cX12_findLeast 190 = .ok (.iload 6, 2) := by decide +kernel
theorem dX12_findLeast_192 : decode cX12_findLeast 192 = .ok (.iconst (-1), 1) := by decide +kernel
theorem dX12_findLeast_193 : decode cX12_findLeast 193 = .ok (.if_icmp .eq 15, 3) := by decide +kernel
theorem dX12_findLeast_196 : decode cX12_findLeast 196 = .ok (.aload_n 0, 1) := by decide +kernel
theorem dX12_findLeast_197 : decode cX12_findLeast 197 = .ok (.getfield 77, 3) := by decide +kernel
theorem dX12_findLeast_200 : decode cX12_findLeast 200 = .ok (.iload_n 3, 1) := by decide +kernel
theorem dX12_findLeast_201 : decode cX12_findLeast 201 = .ok (.iconst 1, 1) := by decide +kernel
theorem dX12_findLeast_202 : decode cX12_findLeast 202 = .ok (.iadd, 1) := by decide +kernel
theorem dX12_findLeast_203 : decode cX12_findLeast 203 = .ok (.aaload, 1) := by decide +kernel
theorem dX12_findLeast_204 : decode cX12_findLeast 204 = .ok (.iload 6, 2) := by decide +kernel
theorem dX12_findLeast_206 : decode cX12_findLeast 206 = .ok (.iconst 1, 1) := by decide +kernel
theorem dX12_findLeast_207 : decode cX12_findLeast 207 = .ok (.bastore, 1) := by decide +kernel
theorem dX12_findLeast_208 : decode cX12_findLeast 208 = .ok (.iinc 5 1, 3) := by decide +kernel
theorem dX12_findLeast_211 : decode cX12_findLeast 211 = .ok (.goto (-51), 3) := by decide +kernel
theorem dX12_findLeast_214 : decode cX12_findLeast 214 = .ok (.iinc 4 1, 3) := by decide +kernel
theorem dX12_findLeast_217 : decode cX12_findLeast 217 = .ok (.goto (-122), 3) := by decide +kernel
theorem dX12_findLeast_220 : decode cX12_findLeast 220 = .ok (.iinc 3 1, 3) := by decide +kernel
theorem dX12_findLeast_223 : decode cX12_findLeast 223 = .ok (.goto (-145), 3) := by decide +kernel
theorem dX12_findLeast_226 : decode cX12_findLeast 226 = .ok (.aload_n 0, 1) := by decide +kernel
theorem dX12_findLeast_227 : decode cX12_findLeast 227 = .ok (.getfield 301, 3) := by decide +kernel
theorem dX12_findLeast_230 : decode cX12_findLeast 230 = .ok (.iconst 1, 1) := by decide +kernel
theorem dX12_findLeast_231 : decode cX12_findLeast 231 = .ok (.isub, 1) := by decide +kernel
theorem dX12_findLeast_232 : decode cX12_findLeast 232 = .ok (.istore_n 3, 1) := by decide +kernel
theorem dX12_findLeast_233 : decode cX12_findLeast 233 = .ok (.iload_n 3, 1) := by decide +kernel
theorem dX12_findLeast_234 : decode cX12_findLeast 234 = .ok (.ifCond .lt 101, 3) := by decide +kernel
theorem dX12_findLeast_237 : decode cX12_findLeast 237 = .ok (.iconst 0, 1) := by decide +kernel
theorem dX12_findLeast_238 : decode cX12_findLeast 238 = .ok (.istore 4, 2) := by decide +kernel
theorem dX12_findLeast_240 : decode cX12_findLeast 240 = .ok (.iload 4, 2) := by decide +kernel
theorem dX12_findLeast_242 : decode cX12_findLeast 242 = .ok (.sipush 18432, 3) := by decide +kernel
theorem dX12_findLeast_245 : decode cX12_findLeast 245 = .ok (.if_icmp .ge 84, 3) := by decide +kernel
theorem dX12_findLeast_248 : decode cX12_findLeast 248 = .ok (.iconst 0, 1) := by decide +kernel
theorem dX12_findLeast_249 : decode cX12_findLeast 249 = .ok (.istore 5, 2) := by decide +kernel
theorem dX12_findLeast_251 : decode cX12_findLeast 251 = .ok (.iload 5, 2) := by decide +kernel
theorem dX12_findLeast_253 : decode cX12_findLeast 253 = .ok (.iconst 3, 1) := by decide +kernel
theorem dX12_findLeast_254 : decode cX12_findLeast 254 = .ok (.if_icmp .ge 69, 3) := by decide +kernel
theorem dX12_findLeast_257 : decode cX12_findLeast 257 = .ok (.aload_n 0, 1) := by decide +kernel
theorem dX12_findLeast_258 : decode cX12_findLeast 258 = .ok (.getfield 77, 3) := by decide +kernel
theorem dX12_findLeast_261 : decode cX12_findLeast 261 = .ok (.iload_n 3, 1) := by decide +kernel
theorem dX12_findLeast_262 : decode cX12_findLeast 262 = .ok (.aaload, 1) := by decide +kernel
theorem dX12_findLeast_263 : decode cX12_findLeast 263 = .ok (.iload 4, 2) := by decide +kernel
theorem dX12_findLeast_265 : decode cX12_findLeast 265 = .ok (.baload, 1) := by decide +kernel
theorem dX12_findLeast_266 : decode cX12_findLeast 266 = .ok (.ifCond .eq 57, 3) := by decide +kernel
theorem dX12_findLeast_269 : decode cX12_findLeast 269 = .ok (.iload 4, 2) := by decide +kernel
theorem dX12_findLeast_271 : decode cX12_findLeast 271 = .ok (.bipush 72, 2) := by decide +kernel
theorem dX12_findLeast_273 : decode cX12_findLeast 273 = .ok (.idiv, 1) := by decide +kernel
theorem dX12_findLeast_274 : decode cX12_findLeast 274 = .ok (.iload 4, 2) := by decide +kernel
theorem dX12_findLeast_276 : decode cX12_findLeast 276 = .ok (.bipush 72, 2) := by decide +kernel
theorem dX12_findLeast_278 : decode cX12_findLeast 278 = .ok (.irem, 1) := by decide +kernel
theorem dX12_findLeast_279 : decode cX12_findLeast 279 = .ok (.iload 5, 2) := by decide +kernel
theorem dX12_findLeast_281 : decode cX12_findLeast 281 = .ok (.iload_n 2, 1) := by decide +kernel
theorem dX12_findLeast_282 : decode cX12_findLeast 282 = .ok (.invokestatic 314, 3) := by decide +kernel
theorem dX12_findLeast_285 : decode cX12_findLeast 285 = .ok (.istore 6, 2) := by decide +kernel
theorem dX12_findLeast_287 : decode cX12_findLeast 287 = .ok (.iload 6, 2) := by decide +kernel
theorem dX12_findLeast_289 : decode cX12_findLeast 289 = .ok (.iconst (-1), 1) := by decide +kernel
theorem dX12_findLeast_290 : decode cX12_findLeast 290 = .ok (.if_icmp .eq 27, 3) := by decide +kernel
theorem dX12_findLeast_293 : decode cX12_findLeast 293 = .ok (.aload_n 0, 1) := by decide +kernel
theorem dX12_findLeast_294 : decode cX12_findLeast 294 = .ok (.getfield 80, 3) := by decide +kernel
theorem dX12_findLeast_297 : decode cX12_findLeast 297 = .ok (.iload_n 3, 1) := by decide +kernel
theorem dX12_findLeast_298 : decode cX12_findLeast 298 = .ok (.iconst 1, 1) := by decide +kernel
theorem dX12_findLeast_299 : decode cX12_findLeast 299 = .ok (.iadd, 1) := by decide +kernel
theorem dX12_findLeast_300 : decode cX12_findLeast 300 = .ok (.aaload, 1) := by decide +kernel
theorem dX12_findLeast_301 : decode cX12_findLeast 301 = .ok (.iload 6, 2) := by decide +kernel
theorem dX12_findLeast_303 : decode cX12_findLeast 303 = .ok (.baload, 1) := by decide +kernel
theorem dX12_findLeast_304 : decode cX12_findLeast 304 = .ok (.ifCond .eq 13, 3) := by decide +kernel
theorem dX12_findLeast_307 : decode cX12_findLeast 307 = .ok (.aload_n 0, 1) := by decide +kernel
theorem dX12_findLeast_308 : decode cX12_findLeast 308 = .ok (.getfield 80, 3) := by decide +kernel
theorem dX12_findLeast_311 : decode cX12_findLeast 311 = .ok (.iload_n 3, 1) := by decide +kernel
theorem dX12_findLeast_312 : decode cX12_findLeast 312 = .ok (.aaload, 1) := by decide +kernel
theorem dX12_findLeast_313 : decode cX12_findLeast 313 = .ok (.iload 4, 2) := by decide +kernel
theorem dX12_findLeast_315 : decode cX12_findLeast 315 = .ok (.iconst 1, 1) := by decide +kernel
theorem dX12_findLeast_316 : decode cX12_findLeast 316 = .ok (.bastore, 1) := by decide +kernel
theorem dX12_findLeast_317 : decode cX12_findLeast 317 = .ok (.iinc 5 1, 3) := by decide +kernel
theorem dX12_findLeast_320 : decode cX12_findLeast 320 = .ok (.goto (-69), 3) := by decide +kernel
theorem dX12_findLeast_323 : decode cX12_findLeast 323 = .ok (.iinc 4 1, 3) := by decide +kernel
theorem dX12_findLeast_326 : decode cX12_findLeast 326 = .ok (.goto (-86), 3) := by decide +kernel
theorem dX12_findLeast_329 : decode cX12_findLeast 329 = .ok (.iinc 3 (-1), 3) := by decide +kernel
theorem dX12_findLeast_332 : decode cX12_findLeast 332 = .ok (.goto (-99), 3) := by decide +kernel
theorem dX12_findLeast_335 : decode cX12_findLeast 335 = .ok (.return_, 1) := by decide +kernel
theorem dX12_least_0 : decode cX12_least 0 = .ok (.aload_n 0, 1) := by decide +kernel
theorem dX12_least_1 : decode cX12_least 1 = .ok (.iconst 0, 1) := by decide +kernel
theorem dX12_least_2 : decode cX12_least 2 = .ok (.putfield 179, 3) := by decide +kernel
theorem dX12_least_5 : decode cX12_least 5 = .ok (.aload_n 0, 1) := by decide +kernel
theorem dX12_least_6 : decode cX12_least 6 = .ok (.iload_n 1, 1) := by decide +kernel
theorem dX12_least_7 : decode cX12_least 7 = .ok (.iconst 0, 1) := by decide +kernel
theorem dX12_least_8 : decode cX12_least 8 = .ok (.aload_n 0, 1) := by decide +kernel
theorem dX12_least_9 : decode cX12_least 9 = .ok (.getfield 289, 3) := by decide +kernel
theorem dX12_least_12 : decode cX12_least 12 = .ok (.iconst 1, 1) := by decide +kernel
theorem dX12_least_13 : decode cX12_least 13 = .ok (.isub, 1) := by decide +kernel
theorem dX12_least_14 : decode cX12_least 14 = .ok (.invokestatic 203, 3) := by decide +kernel
theorem dX12_least_17 : decode cX12_least 17 = .ok (.ifCond .ne 7, 3) := by decide +kernel
theorem dX12_least_20 : decode cX12_least 20 = .ok (.iconst 1, 1) := by decide +kernel
theorem dX12_least_21 : decode cX12_least 21 = .ok (.goto 4, 3) := by decide +kernel
theorem dX12_least_24 : decode cX12_least 24 = .ok (.iconst 0, 1) := by decide +kernel
theorem dX12_least_25 : decode cX12_least 25 = .ok (.iconst 1, 1) := by decide +kernel
theorem dX12_least_26 : decode cX12_least 26 = .ok (.invokevirtual 207, 3) := by decide +kernel
theorem dX12_least_29 : decode cX12_least 29 = .ok (.ifCond .ne 26, 3) := by decide +kernel
theorem dX12_least_32 : decode cX12_least 32 = .ok (.aload_n 0, 1) := by decide +kernel
theorem dX12_least_33 : decode cX12_least 33 = .ok (.iload_n 2, 1) := by decide +kernel
theorem dX12_least_34 : decode cX12_least 34 = .ok (.iconst (-1), 1) := by decide +kernel
theorem dX12_least_35 : decode cX12_least 35 = .ok (.bipush 39, 2) := by decide +kernel
theorem dX12_least_37 : decode cX12_least 37 = .ok (.invokestatic 203, 3) := by decide +kernel
theorem dX12_least_40 : decode cX12_least 40 = .ok (.ifCond .ne 7, 3) := by decide +kernel
theorem dX12_least_43 : decode cX12_least 43 = .ok (.iconst 1, 1) := by decide +kernel
theorem dX12_least_44 : decode cX12_least 44 = .ok (.goto 4, 3) := by decide +kernel
theorem dX12_least_47 : decode cX12_least 47 = .ok (.iconst 0, 1) := by decide +kernel
theorem dX12_least_48 : decode cX12_least 48 = .ok (.iconst 2, 1) := by decide +kernel
theorem dX12_least_49 : decode cX12_least 49 = .ok (.invokevirtual 207, 3) := by decide +kernel
theorem dX12_least_52 : decode cX12_least 52 = .ok (.ifCond .eq 5, 3) := by decide +kernel
theorem dX12_least_55 : decode cX12_least 55 = .ok (.iconst 0, 1) := by decide +kernel
theorem dX12_least_56 : decode cX12_least 56 = .ok (.ireturn, 1) := by decide +kernel
theorem dX12_least_57 : decode cX12_least 57 = .ok (.aload_n 0, 1) := by decide +kernel
theorem dX12_least_58 : decode cX12_least 58 = .ok (.invokevirtual 317, 3) := by decide +kernel
theorem dX12_least_61 : decode cX12_least 61 = .ok (.istore_n 3, 1) := by decide +kernel
theorem dX12_least_62 : decode cX12_least 62 = .ok (.aload_n 0, 1) := by decide +kernel
theorem dX12_least_63 : decode cX12_least 63 = .ok (.iload_n 1, 1) := by decide +kernel
theorem dX12_least_64 : decode cX12_least 64 = .ok (.iload_n 3, 1) := by decide +kernel
theorem dX12_least_65 : decode cX12_least 65 = .ok (.invokevirtual 321, 3) := by decide +kernel
theorem dX12_least_68 : decode cX12_least 68 = .ok (.iload_n 2, 1) := by decide +kernel
theorem dX12_least_69 : decode cX12_least 69 = .ok (.iconst (-1), 1) := by decide +kernel
theorem dX12_least_70 : decode cX12_least 70 = .ok (.if_icmp .eq 11, 3) := by decide +kernel
theorem dX12_least_73 : decode cX12_least 73 = .ok (.iload_n 2, 1) := by decide +kernel
theorem dX12_least_74 : decode cX12_least 74 = .ok (.aload_n 0, 1) := by decide +kernel
theorem dX12_least_75 : decode cX12_least 75 = .ok (.getfield 301, 3) := by decide +kernel
theorem dX12_least_78 : decode cX12_least 78 = .ok (.if_icmp .lt 17, 3) := by decide +kernel
theorem dX12_least_81 : decode cX12_least 81 = .ok (.iload_n 2, 1) := by decide +kernel
theorem dX12_least_82 : decode cX12_least 82 = .ok (.iconst (-1), 1) := by decide +kernel
theorem dX12_least_83 : decode cX12_least 83 = .ok (.if_icmp .ne 10, 3) := by decide +kernel
theorem dX12_least_86 : decode cX12_least 86 = .ok (.aload_n 0, 1) := by decide +kernel
theorem dX12_least_87 : decode cX12_least 87 = .ok (.getfield 301, 3) := by decide +kernel
theorem dX12_least_90 : decode cX12_least 90 = .ok (.goto 4, 3) := by decide +kernel
theorem dX12_least_93 : decode cX12_least 93 = .ok (.iconst (-1), 1) := by decide +kernel
theorem dX12_least_94 : decode cX12_least 94 = .ok (.ireturn, 1) := by decide +kernel
theorem dX12_least_95 : decode cX12_least 95 = .ok (.bipush 72, 2) := by decide +kernel
theorem dX12_least_97 : decode cX12_least 97 = .ok (.aload_n 0, 1) := by decide +kernel
theorem dX12_least_98 : decode cX12_least 98 = .ok (.getfield 59, 3) := by decide +kernel
theorem dX12_least_101 : decode cX12_least 101 = .ok (.imul, 1) := by decide +kernel
theorem dX12_least_102 : decode cX12_least 102 = .ok (.aload_n 0, 1) := by decide +kernel
theorem dX12_least_103 : decode cX12_least 103 = .ok (.getfield 304, 3) := by decide +kernel
theorem dX12_least_106 : decode cX12_least 106 = .ok (.iadd, 1) := by decide +kernel
theorem dX12_least_107 : decode cX12_least 107 = .ok (.istore 4, 2) := by decide +kernel
theorem dX12_least_109 : decode cX12_least 109 = .ok (.iconst (-1), 1) := by decide +kernel
theorem dX12_least_110 : decode cX12_least 110 = .ok (.istore 5, 2) := by decide +kernel
theorem dX12_least_112 : decode cX12_least 112 = .ok (.iconst 0, 1) := by decide +kernel
theorem dX12_least_113 : decode cX12_least 113 = .ok (.istore 6, 2) := by decide +kernel
theorem dX12_least_115 : decode cX12_least 115 = .ok (.iload 6, 2) := by decide +kernel
theorem dX12_least_117 : decode cX12_least 117 = .ok (.iload_n 2, 1) := by decide +kernel
theorem dX12_least_118 : decode cX12_least 118 = .ok (.if_icmp .gt 85, 3) := by decide +kernel
theorem dX12_least_121 : decode cX12_least 121 = .ok (.iconst 0, 1) := by decide +kernel
theorem dX12_least_122 : decode cX12_least 122 = .ok (.istore 5, 2) := by decide +kernel
theorem dX12_least_124 : decode cX12_least 124 = .ok (.iload 4, 2) := by decide +kernel
theorem dX12_least_126 : decode cX12_least 126 = .ok (.bipush 72, 2) := by decide +kernel
theorem dX12_least_128 : decode cX12_least 128 = .ok (.idiv, 1) := by decide +kernel
theorem dX12_least_129 : decode cX12_least 129 = .ok (.iload 4, 2) := by decide +kernel
theorem dX12_least_131 : decode cX12_least 131 = .ok (.bipush 72, 2) := by decide +kernel
theorem dX12_least_133 : decode cX12_least 133 = .ok (.irem, 1) := by decide +kernel
theorem dX12_least_134 : decode cX12_least 134 = .ok (.iload 5, 2) := by decide +kernel
theorem dX12_least_136 : decode cX12_least 136 = .ok (.iload_n 3, 1) := by decide +kernel
theorem dX12_least_137 : decode cX12_least 137 = .ok (.invokestatic 314, 3) := by decide +kernel
theorem dX12_least_140 : decode cX12_least 140 = .ok (.iconst (-1), 1) := by decide +kernel
theorem dX12_least_141 : decode cX12_least 141 = .ok (.if_icmp .eq 32, 3) := by decide +kernel
theorem dX12_least_144 : decode cX12_least 144 = .ok (.aload_n 0, 1) := by decide +kernel
theorem dX12_least_145 : decode cX12_least 145 = .ok (.getfield 80, 3) := by decide +kernel
theorem dX12_least_148 : decode cX12_least 148 = .ok (.iload 6, 2) := by decide +kernel
theorem dX12_least_150 : decode cX12_least 150 = .ok (.iconst 1, 1) := by decide +kernel
theorem dX12_least_151 : decode cX12_least 151 = .ok (.iadd, 1) := by decide +kernel
theorem dX12_least_152 : decode cX12_least 152 = .ok (.aaload, 1) := by decide +kernel
theorem dX12_least_153 : decode cX12_least 153 = .ok (.iload 4, 2) := by decide +kernel
theorem dX12_least_155 : decode cX12_least 155 = .ok (.bipush 72, 2) := by decide +kernel
theorem dX12_least_157 : decode cX12_least 157 = .ok (.idiv, 1) := by decide +kernel
theorem dX12_least_158 : decode cX12_least 158 = .ok (.iload 4, 2) := by decide +kernel
theorem dX12_least_160 : decode cX12_least 160 = .ok (.bipush 72, 2) := by decide +kernel
theorem dX12_least_162 : decode cX12_least 162 = .ok (.irem, 1) := by decide +kernel
theorem dX12_least_163 : decode cX12_least 163 = .ok (.iload 5, 2) := by decide +kernel
theorem dX12_least_165 : decode cX12_least 165 = .ok (.iload_n 3, 1) := by decide +kernel
theorem dX12_least_166 : decode cX12_least 166 = .ok (.invokestatic 314, 3) := by decide +kernel
theorem dX12_least_169 : decode cX12_least 169 = .ok (.baload, 1) := by decide +kernel
theorem dX12_least_170 : decode cX12_least 170 = .ok (.ifCond .ne 9, 3) := by decide +kernel
theorem dX12_least_173 : decode cX12_least 173 = .ok (.iinc 5 1, 3) := by decide +kernel
theorem dX12_least_176 : decode cX12_least 176 = .ok (.goto (-52), 3) := by decide +kernel
theorem dX12_least_179 : decode cX12_least 179 = .ok (.iload 4, 2) := by decide +kernel
theorem dX12_least_181 : decode cX12_least 181 = .ok (.bipush 72, 2) := by decide +kernel
theorem dX12_least_183 : decode cX12_least 183 = .ok (.idiv, 1) := by decide +kernel
theorem dX12_least_184 : decode cX12_least 184 = .ok (.iload 4, 2) := by decide +kernel
theorem dX12_least_186 : decode cX12_least 186 = .ok (.bipush 72, 2) := by decide +kernel
theorem dX12_least_188 : decode cX12_least 188 = .ok (.irem, 1) := by decide +kernel
theorem dX12_least_189 : decode cX12_least 189 = .ok (.iload 5, 2) := by decide +kernel
theorem dX12_least_191 : decode cX12_least 191 = .ok (.iload_n 3, 1) := by decide +kernel
theorem dX12_least_192 : decode cX12_least 192 = .ok (.invokestatic 314, 3) := by decide +kernel
theorem dX12_least_195 : decode cX12_least 195 = .ok (.istore 4, 2) := by decide +kernel
theorem dX12_least_197 : decode cX12_least 197 = .ok (.iinc 6 1, 3) := by decide +kernel
theorem dX12_least_200 : decode cX12_least 200 = .ok (.goto (-85), 3) := by decide +kernel
theorem dX12_least_203 : decode cX12_least 203 = .ok (.iload 5, 2) := by decide +kernel
theorem dX12_least_205 : decode cX12_least 205 = .ok (.ireturn, 1) := by decide +kernel
theorem dX12_goal_0 : decode cX12_goal 0 = .ok (.aload_n 0, 1) := by decide +kernel
theorem dX12_goal_1 : decode cX12_goal 1 = .ok (.iconst 0, 1) := by decide +kernel
theorem dX12_goal_2 : decode cX12_goal 2 = .ok (.putfield 179, 3) := by decide +kernel
theorem dX12_goal_5 : decode cX12_goal 5 = .ok (.aload_n 0, 1) := by decide +kernel
theorem dX12_goal_6 : decode cX12_goal 6 = .ok (.iload_n 1, 1) := by decide +kernel
theorem dX12_goal_7 : decode cX12_goal 7 = .ok (.iconst (-1), 1) := by decide +kernel
theorem dX12_goal_8 : decode cX12_goal 8 = .ok (.aload_n 0, 1) := by decide +kernel
theorem dX12_goal_9 : decode cX12_goal 9 = .ok (.getfield 289, 3) := by decide +kernel
theorem dX12_goal_12 : decode cX12_goal 12 = .ok (.iconst 1, 1) := by decide +kernel
theorem dX12_goal_13 : decode cX12_goal 13 = .ok (.isub, 1) := by decide +kernel
theorem dX12_goal_14 : decode cX12_goal 14 = .ok (.invokestatic 203, 3) := by decide +kernel
theorem dX12_goal_17 : decode cX12_goal 17 = .ok (.ifCond .ne 7, 3) := by decide +kernel
theorem dX12_goal_20 : decode cX12_goal 20 = .ok (.iconst 1, 1) := by decide +kernel
theorem dX12_goal_21 : decode cX12_goal 21 = .ok (.goto 4, 3) := by decide +kernel
theorem dX12_goal_24 : decode cX12_goal 24 = .ok (.iconst 0, 1) := by decide +kernel
theorem dX12_goal_25 : decode cX12_goal 25 = .ok (.iconst 1, 1) := by decide +kernel
theorem dX12_goal_26 : decode cX12_goal 26 = .ok (.invokevirtual 207, 3) := by decide +kernel
theorem dX12_goal_29 : decode cX12_goal 29 = .ok (.ifCond .eq 5, 3) := by decide +kernel
theorem dX12_goal_32 : decode cX12_goal 32 = .ok (.iconst 0, 1) := by decide +kernel
theorem dX12_goal_33 : decode cX12_goal 33 = .ok (.ireturn, 1) := by decide +kernel
theorem dX12_goal_34 : decode cX12_goal 34 = .ok (.aload_n 0, 1) := by decide +kernel
theorem dX12_goal_35 : decode cX12_goal 35 = .ok (.getfield 63, 3) := by decide +kernel
theorem dX12_goal_38 : decode cX12_goal 38 = .ok (.istore_n 2, 1) := by decide +kernel
theorem dX12_goal_39 : decode cX12_goal 39 = .ok (.aload_n 0, 1) := by decide +kernel
theorem dX12_goal_40 : decode cX12_goal 40 = .ok (.iload_n 1, 1) := by decide +kernel
theorem dX12_goal_41 : decode cX12_goal 41 = .ok (.putfield 63, 3) := by decide +kernel
theorem dX12_goal_44 : decode cX12_goal 44 = .ok (.iload_n 2, 1) := by decide +kernel
theorem dX12_goal_45 : decode cX12_goal 45 = .ok (.ireturn, 1) := by decide +kernel
theorem dX12_feed_0 : decode cX12_feed 0 = .ok (.aload_n 0, 1) := by decide +kernel
theorem dX12_feed_1 : decode cX12_feed 1 = .ok (.iconst 0, 1) := by decide +kernel
theorem dX12_feed_2 : decode cX12_feed 2 = .ok (.putfield 179, 3) := by decide +kernel
theorem dX12_feed_5 : decode cX12_feed 5 = .ok (.aload_n 0, 1) := by decide +kernel
theorem dX12_feed_6 : decode cX12_feed 6 = .ok (.getfield 324, 3) := by decide +kernel
theorem dX12_feed_9 : decode cX12_feed 9 = .ok (.bipush 20, 2) := by decide +kernel
theorem dX12_feed_11 : decode cX12_feed 11 = .ok (.iadd, 1) := by decide +kernel
theorem dX12_feed_12 : decode cX12_feed 12 = .ok (.sipush 300, 3) := by decide +kernel
theorem dX12_feed_15 : decode cX12_feed 15 = .ok (.if_icmp .le 5, 3) := by decide +kernel
theorem dX12_feed_18 : decode cX12_feed 18 = .ok (.iconst (-1), 1) := by decide +kernel
theorem dX12_feed_19 : decode cX12_feed 19 = .ok (.ireturn, 1) := by decide +kernel
theorem dX12_feed_20 : decode cX12_feed 20 = .ok (.iconst 0, 1) := by decide +kernel
theorem dX12_feed_21 : decode cX12_feed 21 = .ok (.istore 6, 2) := by decide +kernel
theorem dX12_feed_23 : decode cX12_feed 23 = .ok (.iload 6, 2) := by decide +kernel
theorem dX12_feed_25 : decode cX12_feed 25 = .ok (.bipush 20, 2) := by decide +kernel
theorem dX12_feed_27 : decode cX12_feed 27 = .ok (.if_icmp .ge 93, 3) := by decide +kernel
theorem dX12_feed_30 : decode cX12_feed 30 = .ok (.iload 6, 2) := by decide +kernel
theorem dX12_feed_32 : decode cX12_feed 32 = .ok (.iconst 4, 1) := by decide +kernel
theorem dX12_feed_33 : decode cX12_feed 33 = .ok (.if_icmp .ge 7, 3) := by decide +kernel
theorem dX12_feed_36 : decode cX12_feed 36 = .ok (.iload_n 1, 1) := by decide +kernel
theorem dX12_feed_37 : decode cX12_feed 37 = .ok (.goto 39, 3) := by decide +kernel
theorem dX12_feed_40 : decode cX12_feed 40 = .ok (.iload 6, 2) := by decide +kernel
theorem dX12_feed_42 : decode cX12_feed 42 = .ok (.bipush 8, 2) := by decide +kernel
theorem dX12_feed_44 : decode cX12_feed 44 = .ok (.if_icmp .ge 7, 3) := by decide +kernel
theorem dX12_feed_47 : decode cX12_feed 47 = .ok (.iload_n 2, 1) := by decide +kernel
theorem dX12_feed_48 : decode cX12_feed 48 = .ok (.goto 28, 3) := by decide +kernel
theorem dX12_feed_51 : decode cX12_feed 51 = .ok (.iload 6, 2) := by decide +kernel
theorem dX12_feed_53 : decode cX12_feed 53 = .ok (.bipush 12, 2) := by decide +kernel
theorem dX12_feed_55 : decode cX12_feed 55 = .ok (.if_icmp .ge 7, 3) := by decide +kernel
theorem dX12_feed_58 : decode cX12_feed 58 = .ok (.iload_n 3, 1) := by decide +kernel
theorem dX12_feed_59 : decode cX12_feed 59 = .ok (.goto 17, 3) := by decide +kernel
theorem dX12_feed_62 : decode cX12_feed 62 = .ok (.iload 6, 2) := by decide +kernel
theorem dX12_feed_64 : decode cX12_feed 64 = .ok (.bipush 16, 2) := by decide +kernel
theorem dX12_feed_66 : decode cX12_feed 66 = .ok (.if_icmp .ge 8, 3) := by decide +kernel
theorem dX12_feed_69 : decode cX12_feed 69 = .ok (.iload 4, 2) := by decide +kernel
theorem dX12_feed_71 : decode cX12_feed 71 = .ok (.goto 5, 3) := by decide +kernel
theorem dX12_feed_74 : decode cX12_feed 74 = .ok (.iload 5, 2) := by decide +kernel
theorem dX12_feed_76 : decode cX12_feed 76 = .ok (.istore 7, 2) := by decide +kernel
theorem dX12_feed_78 : decode cX12_feed 78 = .ok (.aload_n 0, 1) := by decide +kernel
theorem dX12_feed_79 : decode cX12_feed 79 = .ok (.getfield 86, 3) := by decide +kernel
theorem dX12_feed_82 : decode cX12_feed 82 = .ok (.aload_n 0, 1) := by decide +kernel
theorem dX12_feed_83 : decode cX12_feed 83 = .ok (.getfield 324, 3) := by decide +kernel
theorem dX12_feed_86 : decode cX12_feed 86 = .ok (.iload 7, 2) := by decide +kernel
theorem dX12_feed_88 : decode cX12_feed 88 = .ok (.bipush 24, 2) := by decide +kernel
theorem dX12_feed_90 : decode cX12_feed 90 = .ok (.bipush 8, 2) := by decide +kernel
theorem dX12_feed_92 : decode cX12_feed 92 = .ok (.iload 6, 2) := by decide +kernel
theorem dX12_feed_94 : decode cX12_feed 94 = .ok (.iconst 4, 1) := by decide +kernel
theorem dX12_feed_95 : decode cX12_feed 95 = .ok (.irem, 1) := by decide +kernel
theorem dX12_feed_96 : decode cX12_feed 96 = .ok (.imul, 1) := by decide +kernel
theorem dX12_feed_97 : decode cX12_feed 97 = .ok (.isub, 1) := by decide +kernel
theorem dX12_feed_98 : decode cX12_feed 98 = .ok (.ishr, 1) := by decide +kernel
theorem dX12_feed_99 : decode cX12_feed 99 = .ok (.sipush 255, 3) := by decide +kernel
theorem dX12_feed_102 : decode cX12_feed 102 = .ok (.iand, 1) := by decide +kernel
theorem dX12_feed_103 : decode cX12_feed 103 = .ok (.iastore, 1) := by decide +kernel
theorem dX12_feed_104 : decode cX12_feed 104 = .ok (.aload_n 0, 1) := by decide +kernel
theorem dX12_feed_105 : decode cX12_feed 105 = .ok (.dup, 1) := by decide +kernel
theorem dX12_feed_106 : decode cX12_feed 106 = .ok (.getfield 324, 3) := by decide +kernel
theorem dX12_feed_109 : decode cX12_feed 109 = .ok (.iconst 1, 1) := by decide +kernel
theorem dX12_feed_110 : decode cX12_feed 110 = .ok (.iadd, 1) := by decide +kernel
theorem dX12_feed_111 : decode cX12_feed 111 = .ok (.putfield 324, 3) := by decide +kernel
theorem dX12_feed_114 : decode cX12_feed 114 = .ok (.iinc 6 1, 3) := by decide +kernel
theorem dX12_feed_117 : decode cX12_feed 117 = .ok (.goto (-94), 3) := by decide +kernel
theorem dX12_feed_120 : decode cX12_feed 120 = .ok (.aload_n 0, 1) := by decide +kernel
theorem dX12_feed_121 : decode cX12_feed 121 = .ok (.getfield 324, 3) := by decide +kernel
theorem dX12_feed_124 : decode cX12_feed 124 = .ok (.ireturn, 1) := by decide +kernel
theorem dX12_byteAt_0 : decode cX12_byteAt 0 = .ok (.iload_n 1, 1) := by decide +kernel
theorem dX12_byteAt_1 : decode cX12_byteAt 1 = .ok (.aload_n 0, 1) := by decide +kernel
theorem dX12_byteAt_2 : decode cX12_byteAt 2 = .ok (.getfield 327, 3) := by decide +kernel
theorem dX12_byteAt_5 : decode cX12_byteAt 5 = .ok (.if_icmp .lt 7, 3) := by decide +kernel
theorem dX12_byteAt_8 : decode cX12_byteAt 8 = .ok (.iconst (-1), 1) := by decide +kernel
theorem dX12_byteAt_9 : decode cX12_byteAt 9 = .ok (.goto 25, 3) := by decide +kernel
theorem dX12_byteAt_12 : decode cX12_byteAt 12 = .ok (.aload_n 0, 1) := by decide +kernel
theorem dX12_byteAt_13 : decode cX12_byteAt 13 = .ok (.getfield 330, 3) := by decide +kernel
theorem dX12_byteAt_16 : decode cX12_byteAt 16 = .ok (.ifCond .ne 12, 3) := by decide +kernel
theorem dX12_byteAt_19 : decode cX12_byteAt 19 = .ok (.aload_n 0, 1) := by decide +kernel
theorem dX12_byteAt_20 : decode cX12_byteAt 20 = .ok (.getfield 86, 3) := by decide +kernel
theorem dX12_byteAt_23 : decode cX12_byteAt 23 = .ok (.iload_n 1, 1) := by decide +kernel
theorem dX12_byteAt_24 : decode cX12_byteAt 24 = .ok (.iaload, 1) := by decide +kernel
theorem dX12_byteAt_25 : decode cX12_byteAt 25 = .ok (.goto 9, 3) := by decide +kernel
theorem dX12_byteAt_28 : decode cX12_byteAt 28 = .ok (.aload_n 0, 1) := by decide +kernel
theorem dX12_byteAt_29 : decode cX12_byteAt 29 = .ok (.getfield 89, 3) := by decide +kernel
theorem dX12_byteAt_32 : decode cX12_byteAt 32 = .ok (.iload_n 1, 1) := by decide +kernel
theorem dX12_byteAt_33 : decode cX12_byteAt 33 = .ok (.iaload, 1) := by decide +kernel
theorem dX12_byteAt_34 : decode cX12_byteAt 34 = .ok (.ireturn, 1) := by decide +kernel
theorem dX12_blanks_0 : decode cX12_blanks 0 = .ok (.aload_n 0, 1) := by decide +kernel
theorem dX12_blanks_1 : decode cX12_blanks 1 = .ok (.aload_n 0, 1) := by decide +kernel
theorem dX12_blanks_2 : decode cX12_blanks 2 = .ok (.getfield 333, 3) := by decide +kernel
theorem dX12_blanks_5 : decode cX12_blanks 5 = .ok (.invokevirtual 336, 3) := by decide +kernel
theorem dX12_blanks_8 : decode cX12_blanks 8 = .ok (.bipush 32, 2) := by decide +kernel
theorem dX12_blanks_10 : decode cX12_blanks 10 = .ok (.if_icmp .ne 16, 3) := by decide +kernel
theorem dX12_blanks_13 : decode cX12_blanks 13 = .ok (.aload_n 0, 1) := by decide +kernel
theorem dX12_blanks_14 : decode cX12_blanks 14 = .ok (.dup, 1) := by decide +kernel
theorem dX12_blanks_15 : decode cX12_blanks 15 = .ok (.getfield 333, 3) := by decide +kernel
theorem dX12_blanks_18 : decode cX12_blanks 18 = .ok (.iconst 1, 1) := by decide +kernel
theorem dX12_blanks_19 : decode cX12_blanks 19 = .ok (.iadd, 1) := by decide +kernel
theorem dX12_blanks_20 : decode cX12_blanks 20 = .ok (.putfield 333, 3) := by decide +kernel
theorem dX12_blanks_23 : decode cX12_blanks 23 = .ok (.goto (-23), 3) := by decide +kernel
theorem dX12_blanks_26 : decode cX12_blanks 26 = .ok (.return_, 1) := by decide +kernel
theorem dX12_wrong_0 : decode cX12_wrong 0 = .ok (.aload_n 0, 1) := by decide +kernel
theorem dX12_wrong_1 : decode cX12_wrong 1 = .ok (.getfield 339, 3) := by decide +kernel
theorem dX12_wrong_4 : decode cX12_wrong 4 = .ok (.ifCond .ne 13, 3) := by decide +kernel
theorem dX12_wrong_7 : decode cX12_wrong 7 = .ok (.aload_n 0, 1) := by decide +kernel
theorem dX12_wrong_8 : decode cX12_wrong 8 = .ok (.iload_n 1, 1) := by decide +kernel
theorem dX12_wrong_9 : decode cX12_wrong 9 = .ok (.putfield 339, 3) := by decide +kernel
theorem dX12_wrong_12 : decode cX12_wrong 12 = .ok (.aload_n 0, 1) := by decide +kernel
theorem dX12_wrong_13 : decode cX12_wrong 13 = .ok (.iload_n 2, 1) := by decide +kernel
theorem dX12_wrong_14 : decode cX12_wrong 14 = .ok (.putfield 342, 3) := by decide +kernel
theorem dX12_wrong_17 : decode cX12_wrong 17 = .ok (.return_, 1) := by decide +kernel
theorem dX12_isSmall_0 : decode cX12_isSmall 0 = .ok (.iload_n 0, 1) := by decide +kernel
theorem dX12_isSmall_1 : decode cX12_isSmall 1 = .ok (.bipush 97, 2) := by decide +kernel
theorem dX12_isSmall_3 : decode cX12_isSmall 3 = .ok (.if_icmp .lt 13, 3) := by decide +kernel
theorem dX12_isSmall_6 : decode cX12_isSmall 6 = .ok (.iload_n 0, 1) := by decide +kernel
theorem dX12_isSmall_7 : decode cX12_isSmall 7 = .ok (.bipush 122, 2) := by decide +kernel
theorem dX12_isSmall_9 : decode cX12_isSmall 9 = .ok (.if_icmp .gt 7, 3) := by decide +kernel
theorem dX12_isSmall_12 : decode cX12_isSmall 12 = .ok (.iconst 1, 1) := by decide +kernel
theorem dX12_isSmall_13 : decode cX12_isSmall 13 = .ok (.goto 4, 3) := by decide +kernel
theorem dX12_isSmall_16 : decode cX12_isSmall 16 = .ok (.iconst 0, 1) := by decide +kernel
theorem dX12_isSmall_17 : decode cX12_isSmall 17 = .ok (.ireturn, 1) := by decide +kernel
theorem dX12_isDigit_0 : decode cX12_isDigit 0 = .ok (.iload_n 0, 1) := by decide +kernel
theorem dX12_isDigit_1 : decode cX12_isDigit 1 = .ok (.bipush 48, 2) := by decide +kernel
theorem dX12_isDigit_3 : decode cX12_isDigit 3 = .ok (.if_icmp .lt 13, 3) := by decide +kernel
theorem dX12_isDigit_6 : decode cX12_isDigit 6 = .ok (.iload_n 0, 1) := by decide +kernel
theorem dX12_isDigit_7 : decode cX12_isDigit 7 = .ok (.bipush 57, 2) := by decide +kernel
theorem dX12_isDigit_9 : decode cX12_isDigit 9 = .ok (.if_icmp .gt 7, 3) := by decide +kernel
theorem dX12_isDigit_12 : decode cX12_isDigit 12 = .ok (.iconst 1, 1) := by decide +kernel
theorem dX12_isDigit_13 : decode cX12_isDigit 13 = .ok (.goto 4, 3) := by decide +kernel
theorem dX12_isDigit_16 : decode cX12_isDigit 16 = .ok (.iconst 0, 1) := by decide +kernel
theorem dX12_isDigit_17 : decode cX12_isDigit 17 = .ok (.ireturn, 1) := by decide +kernel
theorem dX12_wordHere_0 : decode cX12_wordHere 0 = .ok (.aload_n 0, 1) := by decide +kernel
theorem dX12_wordHere_1 : decode cX12_wordHere 1 = .ok (.invokevirtual 345, 3) := by decide +kernel
theorem dX12_wordHere_4 : decode cX12_wordHere 4 = .ok (.iconst 0, 1) := by decide +kernel
theorem dX12_wordHere_5 : decode cX12_wordHere 5 = .ok (.istore_n 1, 1) := by decide +kernel
theorem dX12_wordHere_6 : decode cX12_wordHere 6 = .ok (.iconst 0, 1) := by decide +kernel
theorem dX12_wordHere_7 : decode cX12_wordHere 7 = .ok (.istore_n 2, 1) := by decide +kernel
theorem dX12_wordHere_8 : decode cX12_wordHere 8 = .ok (.aload_n 0, 1) := by decide +kernel
theorem dX12_wordHere_9 : decode cX12_wordHere 9 = .ok (.aload_n 0, 1) := by decide +kernel
theorem dX12_wordHere_10 : decode cX12_wordHere 10 = .ok (.getfield 333, 3) := by decide +kernel
theorem dX12_wordHere_13 : decode cX12_wordHere 13 = .ok (.iload_n 2, 1) := by decide +kernel
theorem dX12_wordHere_14 : decode cX12_wordHere 14 = .ok (.iadd, 1) := by decide +kernel
theorem dX12_wordHere_15 : decode cX12_wordHere 15 = .ok (.invokevirtual 336, 3) := by decide +kernel
theorem dX12_wordHere_18 : decode cX12_wordHere 18 = .ok (.invokestatic 348, 3) := by decide +kernel
theorem dX12_wordHere_21 : decode cX12_wordHere 21 = .ok (.ifCond .eq 39, 3) := by decide +kernel
theorem dX12_wordHere_24 : decode cX12_wordHere 24 = .ok (.iload_n 2, 1) := by decide +kernel
theorem dX12_wordHere_25 : decode cX12_wordHere 25 = .ok (.iconst 5, 1) := by decide +kernel
theorem dX12_wordHere_26 : decode cX12_wordHere 26 = .ok (.if_icmp .ge 26, 3) := by decide +kernel
theorem dX12_wordHere_29 : decode cX12_wordHere 29 = .ok (.bipush 27, 2) := by decide +kernel
theorem dX12_wordHere_31 : decode cX12_wordHere 31 = .ok (.iload_n 1, 1) := by decide +kernel
theorem dX12_wordHere_32 : decode cX12_wordHere 32 = .ok (.imul, 1) := by decide +kernel
theorem dX12_wordHere_33 : decode cX12_wordHere 33 = .ok (.aload_n 0, 1) := by decide +kernel
theorem dX12_wordHere_34 : decode cX12_wordHere 34 = .ok (.aload_n 0, 1) := by decide +kernel
theorem dX12_wordHere_35 : decode cX12_wordHere 35 = .ok (.getfield 333, 3) := by decide +kernel
theorem dX12_wordHere_38 : decode cX12_wordHere 38 = .ok (.iload_n 2, 1) := by decide +kernel
theorem dX12_wordHere_39 : decode cX12_wordHere 39 = .ok (.iadd, 1) := by decide +kernel
theorem dX12_wordHere_40 : decode cX12_wordHere 40 = .ok (.invokevirtual 336, 3) := by decide +kernel
theorem dX12_wordHere_43 : decode cX12_wordHere 43 = .ok (.iadd, 1) := by decide +kernel
theorem dX12_wordHere_44 : decode cX12_wordHere 44 = .ok (.bipush 97, 2) := by decide +kernel
theorem dX12_wordHere_46 : decode cX12_wordHere 46 = .ok (.isub, 1) := by decide +kernel
theorem dX12_wordHere_47 : decode cX12_wordHere 47 = .ok (.iconst 1, 1) := by decide +kernel
theorem dX12_wordHere_48 : decode cX12_wordHere 48 = .ok (.iadd, 1) := by decide +kernel
theorem dX12_wordHere_49 : decode cX12_wordHere 49 = .ok (.goto 4, 3) := by decide +kernel
theorem dX12_wordHere_52 : decode cX12_wordHere 52 = .ok (.iload_n 1, 1) := by decide +kernel
theorem dX12_wordHere_53 : decode cX12_wordHere 53 = .ok (.istore_n 1, 1) := by decide +kernel
theorem dX12_wordHere_54 : decode cX12_wordHere 54 = .ok (.iinc 2 1, 3) := by decide +kernel
theorem dX12_wordHere_57 : decode cX12_wordHere 57 = .ok (.goto (-49), 3) := by decide +kernel
theorem dX12_wordHere_60 : decode cX12_wordHere 60 = .ok (.iload_n 2, 1) := by decide +kernel
theorem dX12_wordHere_61 : decode cX12_wordHere 61 = .ok (.iconst 5, 1) := by decide +kernel
theorem dX12_wordHere_62 : decode cX12_wordHere 62 = .ok (.if_icmp .le 7, 3) := by decide +kernel
theorem dX12_wordHere_65 : decode cX12_wordHere 65 = .ok (.iconst (-1), 1) := by decide +kernel
theorem dX12_wordHere_66 : decode cX12_wordHere 66 = .ok (.goto 4, 3) := by decide +kernel
theorem dX12_wordHere_69 : decode cX12_wordHere 69 = .ok (.iload_n 1, 1) := by decide +kernel
theorem dX12_wordHere_70 : decode cX12_wordHere 70 = .ok (.ireturn, 1) := by decide +kernel
theorem dX12_skipWord_0 : decode cX12_skipWord 0 = .ok (.aload_n 0, 1) := by decide +kernel
theorem dX12_skipWord_1 : decode cX12_skipWord 1 = .ok (.aload_n 0, 1) := by decide +kernel
theorem dX12_skipWord_2 : decode cX12_skipWord 2 = .ok (.getfield 333, 3) := by decide +kernel
theorem dX12_skipWord_5 : decode cX12_skipWord 5 = .ok (.invokevirtual 336, 3) := by decide +kernel
theorem dX12_skipWord_8 : decode cX12_skipWord 8 = .ok (.invokestatic 348, 3) := by decide +kernel
theorem dX12_skipWord_11 : decode cX12_skipWord 11 = .ok (.ifCond .eq 16, 3) := by decide +kernel
theorem dX12_skipWord_14 : decode cX12_skipWord 14 = .ok (.aload_n 0, 1) := by decide +kernel
theorem dX12_skipWord_15 : decode cX12_skipWord 15 = .ok (.dup, 1) := by decide +kernel
theorem dX12_skipWord_16 : decode cX12_skipWord 16 = .ok (.getfield 333, 3) := by decide +kernel
theorem dX12_skipWord_19 : decode cX12_skipWord 19 = .ok (.iconst 1, 1) := by decide +kernel
theorem dX12_skipWord_20 : decode cX12_skipWord 20 = .ok (.iadd, 1) := by decide +kernel
theorem dX12_skipWord_21 : decode cX12_skipWord 21 = .ok (.putfield 333, 3) := by decide +kernel
theorem dX12_skipWord_24 : decode cX12_skipWord 24 = .ok (.goto (-24), 3) := by decide +kernel
theorem dX12_skipWord_27 : decode cX12_skipWord 27 = .ok (.return_, 1) := by decide +kernel
theorem dX12_word_0 : decode cX12_word 0 = .ok (.bipush 27, 2) := by decide +kernel
theorem dX12_word_2 : decode cX12_word 2 = .ok (.iload_n 0, 1) := by decide +kernel
theorem dX12_word_3 : decode cX12_word 3 = .ok (.imul, 1) := by decide +kernel
theorem dX12_word_4 : decode cX12_word 4 = .ok (.iload_n 1, 1) := by decide +kernel
theorem dX12_word_5 : decode cX12_word 5 = .ok (.iadd, 1) := by decide +kernel
theorem dX12_word_6 : decode cX12_word 6 = .ok (.istore 5, 2) := by decide +kernel
theorem dX12_word_8 : decode cX12_word 8 = .ok (.iload_n 2, 1) := by decide +kernel
theorem dX12_word_9 : decode cX12_word 9 = .ok (.ifCond .ne 8, 3) := by decide +kernel
theorem dX12_word_12 : decode cX12_word 12 = .ok (.iload 5, 2) := by decide +kernel
theorem dX12_word_14 : decode cX12_word 14 = .ok (.goto 10, 3) := by decide +kernel
theorem dX12_word_17 : decode cX12_word 17 = .ok (.bipush 27, 2) := by decide +kernel
theorem dX12_word_19 : decode cX12_word 19 = .ok (.iload 5, 2) := by decide +kernel
theorem dX12_word_21 : decode cX12_word 21 = .ok (.imul, 1) := by decide +kernel
theorem dX12_word_22 : decode cX12_word 22 = .ok (.iload_n 2, 1) := by decide +kernel
theorem dX12_word_23 : decode cX12_word 23 = .ok (.iadd, 1) := by decide +kernel
theorem dX12_word_24 : decode cX12_word 24 = .ok (.istore 5, 2) := by decide +kernel
theorem dX12_word_26 : decode cX12_word 26 = .ok (.iload_n 3, 1) := by decide +kernel
theorem dX12_word_27 : decode cX12_word 27 = .ok (.ifCond .ne 8, 3) := by decide +kernel
theorem dX12_word_30 : decode cX12_word 30 = .ok (.iload 5, 2) := by decide +kernel
theorem dX12_word_32 : decode cX12_word 32 = .ok (.goto 10, 3) := by decide +kernel
theorem dX12_word_35 : decode cX12_word 35 = .ok (.bipush 27, 2) := by decide +kernel
theorem dX12_word_37 : decode cX12_word 37 = .ok (.iload 5, 2) := by decide +kernel
theorem dX12_word_39 : decode cX12_word 39 = .ok (.imul, 1) := by decide +kernel
theorem dX12_word_40 : decode cX12_word 40 = .ok (.iload_n 3, 1) := by decide +kernel
theorem dX12_word_41 : decode cX12_word 41 = .ok (.iadd, 1) := by decide +kernel
theorem dX12_word_42 : decode cX12_word 42 = .ok (.istore 5, 2) := by decide +kernel
theorem dX12_word_44 : decode cX12_word 44 = .ok (.iload 4, 2) := by decide +kernel
theorem dX12_word_46 : decode cX12_word 46 = .ok (.ifCond .ne 8, 3) := by decide +kernel
theorem dX12_word_49 : decode cX12_word 49 = .ok (.iload 5, 2) := by decide +kernel
theorem dX12_word_51 : decode cX12_word 51 = .ok (.goto 11, 3) := by decide +kernel
theorem dX12_word_54 : decode cX12_word 54 = .ok (.bipush 27, 2) := by decide +kernel
theorem dX12_word_56 : decode cX12_word 56 = .ok (.iload 5, 2) := by decide +kernel
theorem dX12_word_58 : decode cX12_word 58 = .ok (.imul, 1) := by decide +kernel
theorem dX12_word_59 : decode cX12_word 59 = .ok (.iload 4, 2) := by decide +kernel
theorem dX12_word_61 : decode cX12_word 61 = .ok (.iadd, 1) := by decide +kernel
theorem dX12_word_62 : decode cX12_word 62 = .ok (.ireturn, 1) := by decide +kernel
theorem dX12_sign_0 : decode cX12_sign 0 = .ok (.aload_n 0, 1) := by decide +kernel
theorem dX12_sign_1 : decode cX12_sign 1 = .ok (.invokevirtual 345, 3) := by decide +kernel
theorem dX12_sign_4 : decode cX12_sign 4 = .ok (.aload_n 0, 1) := by decide +kernel
theorem dX12_sign_5 : decode cX12_sign 5 = .ok (.aload_n 0, 1) := by decide +kernel
theorem dX12_sign_6 : decode cX12_sign 6 = .ok (.getfield 333, 3) := by decide +kernel
theorem dX12_sign_9 : decode cX12_sign 9 = .ok (.invokevirtual 336, 3) := by decide +kernel
theorem dX12_sign_12 : decode cX12_sign 12 = .ok (.iload_n 1, 1) := by decide +kernel
theorem dX12_sign_13 : decode cX12_sign 13 = .ok (.if_icmp .ne 16, 3) := by decide +kernel
theorem dX12_sign_16 : decode cX12_sign 16 = .ok (.aload_n 0, 1) := by decide +kernel
theorem dX12_sign_17 : decode cX12_sign 17 = .ok (.dup, 1) := by decide +kernel
theorem dX12_sign_18 : decode cX12_sign 18 = .ok (.getfield 333, 3) := by decide +kernel
theorem dX12_sign_21 : decode cX12_sign 21 = .ok (.iconst 1, 1) := by decide +kernel
theorem dX12_sign_22 : decode cX12_sign 22 = .ok (.iadd, 1) := by decide +kernel
theorem dX12_sign_23 : decode cX12_sign 23 = .ok (.putfield 333, 3) := by decide +kernel
theorem dX12_sign_26 : decode cX12_sign 26 = .ok (.goto 12, 3) := by decide +kernel
theorem dX12_sign_29 : decode cX12_sign 29 = .ok (.aload_n 0, 1) := by decide +kernel
theorem dX12_sign_30 : decode cX12_sign 30 = .ok (.iconst 1, 1) := by decide +kernel
theorem dX12_sign_31 : decode cX12_sign 31 = .ok (.aload_n 0, 1) := by decide +kernel
theorem dX12_sign_32 : decode cX12_sign 32 = .ok (.getfield 333, 3) := by decide +kernel
theorem dX12_sign_35 : decode cX12_sign 35 = .ok (.invokevirtual 351, 3) := by decide +kernel
theorem dX12_sign_38 : decode cX12_sign 38 = .ok (.return_, 1) := by decide +kernel
theorem dX12_number_0 : decode cX12_number 0 = .ok (.aload_n 0, 1) := by decide +kernel
theorem dX12_number_1 : decode cX12_number 1 = .ok (.invokevirtual 345, 3) := by decide +kernel
theorem dX12_number_4 : decode cX12_number 4 = .ok (.aload_n 0, 1) := by decide +kernel
theorem dX12_number_5 : decode cX12_number 5 = .ok (.getfield 333, 3) := by decide +kernel
theorem dX12_number_8 : decode cX12_number 8 = .ok (.istore_n 1, 1) := by decide +kernel
theorem dX12_number_9 : decode cX12_number 9 = .ok (.iconst 0, 1) := by decide +kernel
theorem dX12_number_10 : decode cX12_number 10 = .ok (.istore_n 2, 1) := by decide +kernel
theorem dX12_number_11 : decode cX12_number 11 = .ok (.aload_n 0, 1) := by decide +kernel
theorem dX12_number_12 : decode cX12_number 12 = .ok (.aload_n 0, 1) := by decide +kernel
theorem dX12_number_13 : decode cX12_number 13 = .ok (.getfield 333, 3) := by decide +kernel
theorem dX12_number_16 : decode cX12_number 16 = .ok (.invokevirtual 336, 3) := by decide +kernel
theorem dX12_number_19 : decode cX12_number 19 = .ok (.invokestatic 354, 3) := by decide +kernel
theorem dX12_number_22 : decode cX12_number 22 = .ok (.ifCond .ne 12, 3) := by decide +kernel
theorem dX12_number_25 : decode cX12_number 25 = .ok (.aload_n 0, 1) := by decide +kernel
theorem dX12_number_26 : decode cX12_number 26 = .ok (.iconst 1, 1) := by decide +kernel
theorem dX12_number_27 : decode cX12_number 27 = .ok (.aload_n 0, 1) := by decide +kernel
theorem dX12_number_28 : decode cX12_number 28 = .ok (.getfield 333, 3) := by decide +kernel
theorem dX12_number_31 : decode cX12_number 31 = .ok (.invokevirtual 351, 3) := by decide +kernel
theorem dX12_number_34 : decode cX12_number 34 = .ok (.aload_n 0, 1) := by decide +kernel
theorem dX12_number_35 : decode cX12_number 35 = .ok (.aload_n 0, 1) := by decide +kernel
theorem dX12_number_36 : decode cX12_number 36 = .ok (.getfield 333, 3) := by decide +kernel
theorem dX12_number_39 : decode cX12_number 39 = .ok (.invokevirtual 336, 3) := by decide +kernel
theorem dX12_number_42 : decode cX12_number 42 = .ok (.invokestatic 354, 3) := by decide +kernel
theorem dX12_number_45 : decode cX12_number 45 = .ok (.ifCond .eq 48, 3) := by decide +kernel
theorem dX12_number_48 : decode cX12_number 48 = .ok (.bipush 10, 2) := by decide +kernel
theorem dX12_number_50 : decode cX12_number 50 = .ok (.iload_n 2, 1) := by decide +kernel
theorem dX12_number_51 : decode cX12_number 51 = .ok (.imul, 1) := by decide +kernel
theorem dX12_number_52 : decode cX12_number 52 = .ok (.aload_n 0, 1) := by decide +kernel
theorem dX12_number_53 : decode cX12_number 53 = .ok (.aload_n 0, 1) := by decide +kernel
theorem dX12_number_54 : decode cX12_number 54 = .ok (.getfield 333, 3) := by decide +kernel
theorem dX12_number_57 : decode cX12_number 57 = .ok (.invokevirtual 336, 3) := by decide +kernel
theorem dX12_number_60 : decode cX12_number 60 = .ok (.iadd, 1) := by decide +kernel
theorem dX12_number_61 : decode cX12_number 61 = .ok (.bipush 48, 2) := by decide +kernel
theorem dX12_number_63 : decode cX12_number 63 = .ok (.isub, 1) := by decide +kernel
theorem dX12_number_64 : decode cX12_number 64 = .ok (.istore_n 2, 1) := by decide +kernel
theorem dX12_number_65 : decode cX12_number 65 = .ok (.iload_n 2, 1) := by decide +kernel
theorem dX12_number_66 : decode cX12_number 66 = .ok (.ldc_w 357, 3) := by decide +kernel
theorem dX12_number_69 : decode cX12_number 69 = .ok (.if_icmp .le 9, 3) := by decide +kernel
theorem dX12_number_72 : decode cX12_number 72 = .ok (.ldc_w 357, 3) := by decide +kernel
theorem dX12_number_75 : decode cX12_number 75 = .ok (.goto 4, 3) := by decide +kernel
theorem dX12_number_78 : decode cX12_number 78 = .ok (.iload_n 2, 1) := by decide +kernel
theorem dX12_number_79 : decode cX12_number 79 = .ok (.istore_n 2, 1) := by decide +kernel
theorem dX12_number_80 : decode cX12_number 80 = .ok (.aload_n 0, 1) := by decide +kernel
theorem dX12_number_81 : decode cX12_number 81 = .ok (.dup, 1) := by decide +kernel
theorem dX12_number_82 : decode cX12_number 82 = .ok (.getfield 333, 3) := by decide +kernel
theorem dX12_number_85 : decode cX12_number 85 = .ok (.iconst 1, 1) := by decide +kernel
theorem dX12_number_86 : decode cX12_number 86 = .ok (.iadd, 1) := by decide +kernel
theorem dX12_number_87 : decode cX12_number 87 = .ok (.putfield 333, 3) := by decide +kernel
theorem dX12_number_90 : decode cX12_number 90 = .ok (.goto (-56), 3) := by decide +kernel
theorem dX12_number_93 : decode cX12_number 93 = .ok (.iload_n 2, 1) := by decide +kernel
theorem dX12_number_94 : decode cX12_number 94 = .ok (.sipush 9999, 3) := by decide +kernel
theorem dX12_number_97 : decode cX12_number 97 = .ok (.if_icmp .le 9, 3) := by decide +kernel
theorem dX12_number_100 : decode cX12_number 100 = .ok (.aload_n 0, 1) := by decide +kernel
theorem dX12_number_101 : decode cX12_number 101 = .ok (.iconst 2, 1) := by decide +kernel
theorem dX12_number_102 : decode cX12_number 102 = .ok (.iload_n 1, 1) := by decide +kernel
theorem dX12_number_103 : decode cX12_number 103 = .ok (.invokevirtual 351, 3) := by decide +kernel
theorem dX12_number_106 : decode cX12_number 106 = .ok (.iload_n 2, 1) := by decide +kernel
theorem dX12_number_107 : decode cX12_number 107 = .ok (.ireturn, 1) := by decide +kernel
theorem dX12_opens_0 : decode cX12_opens 0 = .ok (.aload_n 0, 1) := by decide +kernel
theorem dX12_opens_1 : decode cX12_opens 1 = .ok (.getfield 358, 3) := by decide +kernel
theorem dX12_opens_4 : decode cX12_opens 4 = .ok (.bipush 6, 2) := by decide +kernel
theorem dX12_opens_6 : decode cX12_opens 6 = .ok (.if_icmp .ne 12, 3) := by decide +kernel
theorem dX12_opens_9 : decode cX12_opens 9 = .ok (.aload_n 0, 1) := by decide +kernel
theorem dX12_opens_10 : decode cX12_opens 10 = .ok (.iconst 3, 1) := by decide +kernel
theorem dX12_opens_11 : decode cX12_opens 11 = .ok (.aload_n 0, 1) := by decide +kernel
theorem dX12_opens_12 : decode cX12_opens 12 = .ok (.getfield 333, 3) := by decide +kernel
theorem dX12_opens_15 : decode cX12_opens 15 = .ok (.invokevirtual 351, 3) := by decide +kernel
theorem dX12_opens_18 : decode cX12_opens 18 = .ok (.aload_n 0, 1) := by decide +kernel
theorem dX12_opens_19 : decode cX12_opens 19 = .ok (.dup, 1) := by decide +kernel
theorem dX12_opens_20 : decode cX12_opens 20 = .ok (.getfield 358, 3) := by decide +kernel
theorem dX12_opens_23 : decode cX12_opens 23 = .ok (.iconst 1, 1) := by decide +kernel
theorem dX12_opens_24 : decode cX12_opens 24 = .ok (.iadd, 1) := by decide +kernel
theorem dX12_opens_25 : decode cX12_opens 25 = .ok (.putfield 358, 3) := by decide +kernel
theorem dX12_opens_28 : decode cX12_opens 28 = .ok (.aload_n 0, 1) := by decide +kernel
theorem dX12_opens_29 : decode cX12_opens 29 = .ok (.dup, 1) := by decide +kernel
theorem dX12_opens_30 : decode cX12_opens 30 = .ok (.getfield 333, 3) := by decide +kernel
theorem dX12_opens_33 : decode cX12_opens 33 = .ok (.iload_n 1, 1) := by decide +kernel
theorem dX12_opens_34 : decode cX12_opens 34 = .ok (.iadd, 1) := by decide +kernel
theorem dX12_opens_35 : decode cX12_opens 35 = .ok (.putfield 333, 3) := by decide +kernel
theorem dX12_opens_38 : decode cX12_opens 38 = .ok (.return_, 1) := by decide +kernel
theorem dX12_named_0 : decode cX12_named 0 = .ok (.aload_n 0, 1) := by decide +kernel
theorem dX12_named_1 : decode cX12_named 1 = .ok (.getfield 63, 3) := by decide +kernel
theorem dX12_named_4 : decode cX12_named 4 = .ok (.iconst (-1), 1) := by decide +kernel
theorem dX12_named_5 : decode cX12_named 5 = .ok (.if_icmp .ne 7, 3) := by decide +kernel
theorem dX12_named_8 : decode cX12_named 8 = .ok (.iconst 0, 1) := by decide +kernel
theorem dX12_named_9 : decode cX12_named 9 = .ok (.goto 17, 3) := by decide +kernel
theorem dX12_named_12 : decode cX12_named 12 = .ok (.aload_n 0, 1) := by decide +kernel
theorem dX12_named_13 : decode cX12_named 13 = .ok (.getfield 66, 3) := by decide +kernel
theorem dX12_named_16 : decode cX12_named 16 = .ok (.aload_n 0, 1) := by decide +kernel
theorem dX12_named_17 : decode cX12_named 17 = .ok (.getfield 63, 3) := by decide +kernel
theorem dX12_named_20 : decode cX12_named 20 = .ok (.iaload, 1) := by decide +kernel
theorem dX12_named_21 : decode cX12_named 21 = .ok (.aload_n 0, 1) := by decide +kernel
theorem dX12_named_22 : decode cX12_named 22 = .ok (.getfield 59, 3) := by decide +kernel
theorem dX12_named_25 : decode cX12_named 25 = .ok (.isub, 1) := by decide +kernel
theorem dX12_named_26 : decode cX12_named 26 = .ok (.istore_n 2, 1) := by decide +kernel
theorem dX12_named_27 : decode cX12_named 27 = .ok (.aload_n 0, 1) := by decide +kernel
theorem dX12_named_28 : decode cX12_named 28 = .ok (.getfield 63, 3) := by decide +kernel
theorem dX12_named_31 : decode cX12_named 31 = .ok (.iconst (-1), 1) := by decide +kernel
theorem dX12_named_32 : decode cX12_named 32 = .ok (.if_icmp .ne 7, 3) := by decide +kernel
theorem dX12_named_35 : decode cX12_named 35 = .ok (.iconst 0, 1) := by decide +kernel
theorem dX12_named_36 : decode cX12_named 36 = .ok (.goto 20, 3) := by decide +kernel
theorem dX12_named_39 : decode cX12_named 39 = .ok (.aload_n 0, 1) := by decide +kernel
theorem dX12_named_40 : decode cX12_named 40 = .ok (.aload_n 0, 1) := by decide +kernel
theorem dX12_named_41 : decode cX12_named 41 = .ok (.getfield 63, 3) := by decide +kernel
theorem dX12_named_44 : decode cX12_named 44 = .ok (.aload_n 0, 1) := by decide +kernel
theorem dX12_named_45 : decode cX12_named 45 = .ok (.getfield 307, 3) := by decide +kernel
theorem dX12_named_48 : decode cX12_named 48 = .ok (.invokevirtual 292, 3) := by decide +kernel
theorem dX12_named_51 : decode cX12_named 51 = .ok (.aload_n 0, 1) := by decide +kernel
theorem dX12_named_52 : decode cX12_named 52 = .ok (.getfield 304, 3) := by decide +kernel
theorem dX12_named_55 : decode cX12_named 55 = .ok (.isub, 1) := by decide +kernel
theorem dX12_named_56 : decode cX12_named 56 = .ok (.istore_n 3, 1) := by decide +kernel
theorem dX12_named_57 : decode cX12_named 57 = .ok (.iconst 0, 1) := by decide +kernel
theorem dX12_named_58 : decode cX12_named 58 = .ok (.istore 4, 2) := by decide +kernel
theorem dX12_named_60 : decode cX12_named 60 = .ok (.iconst 0, 1) := by decide +kernel
theorem dX12_named_61 : decode cX12_named 61 = .ok (.istore 5, 2) := by decide +kernel
theorem dX12_named_63 : decode cX12_named 63 = .ok (.iload 5, 2) := by decide +kernel
