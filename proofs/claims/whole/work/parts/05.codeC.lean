theorem dX9_init_0 : decode cX9_init 0 = .ok (.aload_n 0, 1) := by decide +kernel
theorem dX9_init_1 : decode cX9_init 1 = .ok (.invokespecial 3, 3) := by decide +kernel
theorem dX9_init_4 : decode cX9_init 4 = .ok (.aload_n 0, 1) := by decide +kernel
theorem dX9_init_5 : decode cX9_init 5 = .ok (.bipush 69, 2) := by decide +kernel
theorem dX9_init_7 : decode cX9_init 7 = .ok (.newarray .int, 2) := by decide +kernel
theorem dX9_init_9 : decode cX9_init 9 = .ok (.putfield 9, 3) := by decide +kernel
theorem dX9_init_12 : decode cX9_init 12 = .ok (.aload_n 0, 1) := by decide +kernel
theorem dX9_init_13 : decode cX9_init 13 = .ok (.bipush 69, 2) := by decide +kernel
theorem dX9_init_15 : decode cX9_init 15 = .ok (.newarray .int, 2) := by decide +kernel
theorem dX9_init_17 : decode cX9_init 17 = .ok (.putfield 15, 3) := by decide +kernel
theorem dX9_init_20 : decode cX9_init 20 = .ok (.aload_n 0, 1) := by decide +kernel
theorem dX9_init_21 : decode cX9_init 21 = .ok (.bipush 69, 2) := by decide +kernel
theorem dX9_init_23 : decode cX9_init 23 = .ok (.newarray .int, 2) := by decide +kernel
theorem dX9_init_25 : decode cX9_init 25 = .ok (.putfield 18, 3) := by decide +kernel
theorem dX9_init_28 : decode cX9_init 28 = .ok (.aload_n 0, 1) := by decide +kernel
theorem dX9_init_29 : decode cX9_init 29 = .ok (.iconst 4, 1) := by decide +kernel
theorem dX9_init_30 : decode cX9_init 30 = .ok (.newarray .long, 2) := by decide +kernel
theorem dX9_init_32 : decode cX9_init 32 = .ok (.putfield 21, 3) := by decide +kernel
theorem dX9_init_35 : decode cX9_init 35 = .ok (.aload_n 0, 1) := by decide +kernel
theorem dX9_init_36 : decode cX9_init 36 = .ok (.iconst 4, 1) := by decide +kernel
theorem dX9_init_37 : decode cX9_init 37 = .ok (.newarray .long, 2) := by decide +kernel
theorem dX9_init_39 : decode cX9_init 39 = .ok (.putfield 25, 3) := by decide +kernel
theorem dX9_init_42 : decode cX9_init 42 = .ok (.aload_n 0, 1) := by decide +kernel
theorem dX9_init_43 : decode cX9_init 43 = .ok (.iconst 4, 1) := by decide +kernel
theorem dX9_init_44 : decode cX9_init 44 = .ok (.newarray .long, 2) := by decide +kernel
theorem dX9_init_46 : decode cX9_init 46 = .ok (.putfield 28, 3) := by decide +kernel
theorem dX9_init_49 : decode cX9_init 49 = .ok (.aload_n 0, 1) := by decide +kernel
theorem dX9_init_50 : decode cX9_init 50 = .ok (.sipush 400, 3) := by decide +kernel
theorem dX9_init_53 : decode cX9_init 53 = .ok (.newarray .int, 2) := by decide +kernel
theorem dX9_init_55 : decode cX9_init 55 = .ok (.putfield 31, 3) := by decide +kernel
theorem dX9_init_58 : decode cX9_init 58 = .ok (.aload_n 0, 1) := by decide +kernel
theorem dX9_init_59 : decode cX9_init 59 = .ok (.bipush 100, 2) := by decide +kernel
theorem dX9_init_61 : decode cX9_init 61 = .ok (.newarray .int, 2) := by decide +kernel
theorem dX9_init_63 : decode cX9_init 63 = .ok (.putfield 34, 3) := by decide +kernel
theorem dX9_init_66 : decode cX9_init 66 = .ok (.aload_n 0, 1) := by decide +kernel
theorem dX9_init_67 : decode cX9_init 67 = .ok (.bipush 12, 2) := by decide +kernel
theorem dX9_init_69 : decode cX9_init 69 = .ok (.newarray .int, 2) := by decide +kernel
theorem dX9_init_71 : decode cX9_init 71 = .ok (.putfield 37, 3) := by decide +kernel
theorem dX9_init_74 : decode cX9_init 74 = .ok (.aload_n 0, 1) := by decide +kernel
theorem dX9_init_75 : decode cX9_init 75 = .ok (.bipush 12, 2) := by decide +kernel
theorem dX9_init_77 : decode cX9_init 77 = .ok (.newarray .int, 2) := by decide +kernel
theorem dX9_init_79 : decode cX9_init 79 = .ok (.putfield 40, 3) := by decide +kernel
theorem dX9_init_82 : decode cX9_init 82 = .ok (.aload_n 0, 1) := by decide +kernel
theorem dX9_init_83 : decode cX9_init 83 = .ok (.bipush 6, 2) := by decide +kernel
theorem dX9_init_85 : decode cX9_init 85 = .ok (.newarray .int, 2) := by decide +kernel
theorem dX9_init_87 : decode cX9_init 87 = .ok (.putfield 43, 3) := by decide +kernel
theorem dX9_init_90 : decode cX9_init 90 = .ok (.aload_n 0, 1) := by decide +kernel
theorem dX9_init_91 : decode cX9_init 91 = .ok (.bipush 6, 2) := by decide +kernel
theorem dX9_init_93 : decode cX9_init 93 = .ok (.newarray .int, 2) := by decide +kernel
theorem dX9_init_95 : decode cX9_init 95 = .ok (.putfield 46, 3) := by decide +kernel
theorem dX9_init_98 : decode cX9_init 98 = .ok (.aload_n 0, 1) := by decide +kernel
theorem dX9_init_99 : decode cX9_init 99 = .ok (.sipush 360, 3) := by decide +kernel
theorem dX9_init_102 : decode cX9_init 102 = .ok (.newarray .long, 2) := by decide +kernel
theorem dX9_init_104 : decode cX9_init 104 = .ok (.putfield 49, 3) := by decide +kernel
theorem dX9_init_107 : decode cX9_init 107 = .ok (.aload_n 0, 1) := by decide +kernel
theorem dX9_init_108 : decode cX9_init 108 = .ok (.bipush 60, 2) := by decide +kernel
theorem dX9_init_110 : decode cX9_init 110 = .ok (.newarray .long, 2) := by decide +kernel
theorem dX9_init_112 : decode cX9_init 112 = .ok (.putfield 52, 3) := by decide +kernel
theorem dX9_init_115 : decode cX9_init 115 = .ok (.aload_n 0, 1) := by decide +kernel
theorem dX9_init_116 : decode cX9_init 116 = .ok (.getfield 9, 3) := by decide +kernel
theorem dX9_init_119 : decode cX9_init 119 = .ok (.iconst 2, 1) := by decide +kernel
theorem dX9_init_120 : decode cX9_init 120 = .ok (.iconst 4, 1) := by decide +kernel
theorem dX9_init_121 : decode cX9_init 121 = .ok (.iastore, 1) := by decide +kernel
theorem dX9_init_122 : decode cX9_init 122 = .ok (.aload_n 0, 1) := by decide +kernel
theorem dX9_init_123 : decode cX9_init 123 = .ok (.getfield 9, 3) := by decide +kernel
theorem dX9_init_126 : decode cX9_init 126 = .ok (.iconst 5, 1) := by decide +kernel
theorem dX9_init_127 : decode cX9_init 127 = .ok (.bipush 20, 2) := by decide +kernel
theorem dX9_init_129 : decode cX9_init 129 = .ok (.iastore, 1) := by decide +kernel
theorem dX9_init_130 : decode cX9_init 130 = .ok (.aload_n 0, 1) := by decide +kernel
theorem dX9_init_131 : decode cX9_init 131 = .ok (.getfield 9, 3) := by decide +kernel
theorem dX9_init_134 : decode cX9_init 134 = .ok (.bipush 6, 2) := by decide +kernel
theorem dX9_init_136 : decode cX9_init 136 = .ok (.bipush 10, 2) := by decide +kernel
theorem dX9_init_138 : decode cX9_init 138 = .ok (.iastore, 1) := by decide +kernel
theorem dX9_init_139 : decode cX9_init 139 = .ok (.return_, 1) := by decide +kernel
theorem dX9_within_0 : decode cX9_within 0 = .ok (.iload_n 0, 1) := by decide +kernel
theorem dX9_within_1 : decode cX9_within 1 = .ok (.iload_n 1, 1) := by decide +kernel
theorem dX9_within_2 : decode cX9_within 2 = .ok (.if_icmp .lt 12, 3) := by decide +kernel
theorem dX9_within_5 : decode cX9_within 5 = .ok (.iload_n 0, 1) := by decide +kernel
theorem dX9_within_6 : decode cX9_within 6 = .ok (.iload_n 2, 1) := by decide +kernel
theorem dX9_within_7 : decode cX9_within 7 = .ok (.if_icmp .gt 7, 3) := by decide +kernel
theorem dX9_within_10 : decode cX9_within 10 = .ok (.iconst 1, 1) := by decide +kernel
theorem dX9_within_11 : decode cX9_within 11 = .ok (.goto 4, 3) := by decide +kernel
theorem dX9_within_14 : decode cX9_within 14 = .ok (.iconst 0, 1) := by decide +kernel
theorem dX9_within_15 : decode cX9_within 15 = .ok (.ireturn, 1) := by decide +kernel
theorem dX9_isSo_0 : decode cX9_isSo 0 = .ok (.iload_n 0, 1) := by decide +kernel
theorem dX9_isSo_1 : decode cX9_isSo 1 = .ok (.tableswitch 94 0 5 #[39, 50, 61, 69, 77, 86], 39) := by decide +kernel
theorem dX9_isSo_40 : decode cX9_isSo 40 = .ok (.iload_n 1, 1) := by decide +kernel
theorem dX9_isSo_41 : decode cX9_isSo 41 = .ok (.sipush (-300), 3) := by decide +kernel
theorem dX9_isSo_44 : decode cX9_isSo 44 = .ok (.sipush 300, 3) := by decide +kernel
theorem dX9_isSo_47 : decode cX9_isSo 47 = .ok (.invokestatic 55, 3) := by decide +kernel
theorem dX9_isSo_50 : decode cX9_isSo 50 = .ok (.ireturn, 1) := by decide +kernel
theorem dX9_isSo_51 : decode cX9_isSo 51 = .ok (.iload_n 1, 1) := by decide +kernel
theorem dX9_isSo_52 : decode cX9_isSo 52 = .ok (.sipush (-400), 3) := by decide +kernel
theorem dX9_isSo_55 : decode cX9_isSo 55 = .ok (.sipush 400, 3) := by decide +kernel
theorem dX9_isSo_58 : decode cX9_isSo 58 = .ok (.invokestatic 55, 3) := by decide +kernel
theorem dX9_isSo_61 : decode cX9_isSo 61 = .ok (.ireturn, 1) := by decide +kernel
theorem dX9_isSo_62 : decode cX9_isSo 62 = .ok (.iload_n 1, 1) := by decide +kernel
theorem dX9_isSo_63 : decode cX9_isSo 63 = .ok (.iconst 1, 1) := by decide +kernel
theorem dX9_isSo_64 : decode cX9_isSo 64 = .ok (.bipush 32, 2) := by decide +kernel
theorem dX9_isSo_66 : decode cX9_isSo 66 = .ok (.invokestatic 55, 3) := by decide +kernel
theorem dX9_isSo_69 : decode cX9_isSo 69 = .ok (.ireturn, 1) := by decide +kernel
theorem dX9_isSo_70 : decode cX9_isSo 70 = .ok (.iload_n 1, 1) := by decide +kernel
theorem dX9_isSo_71 : decode cX9_isSo 71 = .ok (.iconst 0, 1) := by decide +kernel
theorem dX9_isSo_72 : decode cX9_isSo 72 = .ok (.bipush 9, 2) := by decide +kernel
theorem dX9_isSo_74 : decode cX9_isSo 74 = .ok (.invokestatic 55, 3) := by decide +kernel
theorem dX9_isSo_77 : decode cX9_isSo 77 = .ok (.ireturn, 1) := by decide +kernel
theorem dX9_isSo_78 : decode cX9_isSo 78 = .ok (.iload_n 1, 1) := by decide +kernel
theorem dX9_isSo_79 : decode cX9_isSo 79 = .ok (.bipush (-20), 2) := by decide +kernel
theorem dX9_isSo_81 : decode cX9_isSo 81 = .ok (.bipush 20, 2) := by decide +kernel
theorem dX9_isSo_83 : decode cX9_isSo 83 = .ok (.invokestatic 55, 3) := by decide +kernel
theorem dX9_isSo_86 : decode cX9_isSo 86 = .ok (.ireturn, 1) := by decide +kernel
theorem dX9_isSo_87 : decode cX9_isSo 87 = .ok (.iload_n 1, 1) := by decide +kernel
theorem dX9_isSo_88 : decode cX9_isSo 88 = .ok (.iconst 0, 1) := by decide +kernel
theorem dX9_isSo_89 : decode cX9_isSo 89 = .ok (.bipush 60, 2) := by decide +kernel
theorem dX9_isSo_91 : decode cX9_isSo 91 = .ok (.invokestatic 55, 3) := by decide +kernel
theorem dX9_isSo_94 : decode cX9_isSo 94 = .ok (.ireturn, 1) := by decide +kernel
theorem dX9_isSo_95 : decode cX9_isSo 95 = .ok (.iload_n 1, 1) := by decide +kernel
theorem dX9_isSo_96 : decode cX9_isSo 96 = .ok (.iconst 1, 1) := by decide +kernel
theorem dX9_isSo_97 : decode cX9_isSo 97 = .ok (.bipush 99, 2) := by decide +kernel
theorem dX9_isSo_99 : decode cX9_isSo 99 = .ok (.invokestatic 55, 3) := by decide +kernel
theorem dX9_isSo_102 : decode cX9_isSo 102 = .ok (.ireturn, 1) := by decide +kernel
theorem dX9_energyNow_0 : decode cX9_energyNow 0 = .ok (.ldc2_w 59, 3) := by decide +kernel
theorem dX9_energyNow_3 : decode cX9_energyNow 3 = .ok (.aload_n 0, 1) := by decide +kernel
theorem dX9_energyNow_4 : decode cX9_energyNow 4 = .ok (.getfield 9, 3) := by decide +kernel
theorem dX9_energyNow_7 : decode cX9_energyNow 7 = .ok (.iconst 1, 1) := by decide +kernel
theorem dX9_energyNow_8 : decode cX9_energyNow 8 = .ok (.iaload, 1) := by decide +kernel
theorem dX9_energyNow_9 : decode cX9_energyNow 9 = .ok (.i2l, 1) := by decide +kernel
theorem dX9_energyNow_10 : decode cX9_energyNow 10 = .ok (.lmul, 1) := by decide +kernel
theorem dX9_energyNow_11 : decode cX9_energyNow 11 = .ok (.aload_n 0, 1) := by decide +kernel
theorem dX9_energyNow_12 : decode cX9_energyNow 12 = .ok (.getfield 9, 3) := by decide +kernel
theorem dX9_energyNow_15 : decode cX9_energyNow 15 = .ok (.iconst 1, 1) := by decide +kernel
theorem dX9_energyNow_16 : decode cX9_energyNow 16 = .ok (.iaload, 1) := by decide +kernel
theorem dX9_energyNow_17 : decode cX9_energyNow 17 = .ok (.i2l, 1) := by decide +kernel
theorem dX9_energyNow_18 : decode cX9_energyNow 18 = .ok (.lmul, 1) := by decide +kernel
theorem dX9_energyNow_19 : decode cX9_energyNow 19 = .ok (.aload_n 0, 1) := by decide +kernel
theorem dX9_energyNow_20 : decode cX9_energyNow 20 = .ok (.getfield 9, 3) := by decide +kernel
theorem dX9_energyNow_23 : decode cX9_energyNow 23 = .ok (.iconst 2, 1) := by decide +kernel
theorem dX9_energyNow_24 : decode cX9_energyNow 24 = .ok (.iaload, 1) := by decide +kernel
theorem dX9_energyNow_25 : decode cX9_energyNow 25 = .ok (.i2l, 1) := by decide +kernel
theorem dX9_energyNow_26 : decode cX9_energyNow 26 = .ok (.aload_n 0, 1) := by decide +kernel
theorem dX9_energyNow_27 : decode cX9_energyNow 27 = .ok (.getfield 9, 3) := by decide +kernel
theorem dX9_energyNow_30 : decode cX9_energyNow 30 = .ok (.iconst 0, 1) := by decide +kernel
theorem dX9_energyNow_31 : decode cX9_energyNow 31 = .ok (.iaload, 1) := by decide +kernel
theorem dX9_energyNow_32 : decode cX9_energyNow 32 = .ok (.i2l, 1) := by decide +kernel
theorem dX9_energyNow_33 : decode cX9_energyNow 33 = .ok (.lmul, 1) := by decide +kernel
theorem dX9_energyNow_34 : decode cX9_energyNow 34 = .ok (.aload_n 0, 1) := by decide +kernel
theorem dX9_energyNow_35 : decode cX9_energyNow 35 = .ok (.getfield 9, 3) := by decide +kernel
theorem dX9_energyNow_38 : decode cX9_energyNow 38 = .ok (.iconst 0, 1) := by decide +kernel
theorem dX9_energyNow_39 : decode cX9_energyNow 39 = .ok (.iaload, 1) := by decide +kernel
theorem dX9_energyNow_40 : decode cX9_energyNow 40 = .ok (.i2l, 1) := by decide +kernel
theorem dX9_energyNow_41 : decode cX9_energyNow 41 = .ok (.lmul, 1) := by decide +kernel
theorem dX9_energyNow_42 : decode cX9_energyNow 42 = .ok (.ladd, 1) := by decide +kernel
theorem dX9_energyNow_43 : decode cX9_energyNow 43 = .ok (.lreturn, 1) := by decide +kernel
theorem dX9_set_0 : decode cX9_set 0 = .ok (.iload_n 1, 1) := by decide +kernel
theorem dX9_set_1 : decode cX9_set 1 = .ok (.iconst 0, 1) := by decide +kernel
theorem dX9_set_2 : decode cX9_set 2 = .ok (.bipush 6, 2) := by decide +kernel
theorem dX9_set_4 : decode cX9_set 4 = .ok (.invokestatic 55, 3) := by decide +kernel
theorem dX9_set_7 : decode cX9_set 7 = .ok (.ifCond .ne 7, 3) := by decide +kernel
theorem dX9_set_10 : decode cX9_set 10 = .ok (.sipush (-1000), 3) := by decide +kernel
theorem dX9_set_13 : decode cX9_set 13 = .ok (.ireturn, 1) := by decide +kernel
theorem dX9_set_14 : decode cX9_set 14 = .ok (.iload_n 1, 1) := by decide +kernel
theorem dX9_set_15 : decode cX9_set 15 = .ok (.iload_n 2, 1) := by decide +kernel
theorem dX9_set_16 : decode cX9_set 16 = .ok (.invokestatic 61, 3) := by decide +kernel
theorem dX9_set_19 : decode cX9_set 19 = .ok (.ifCond .ne 7, 3) := by decide +kernel
theorem dX9_set_22 : decode cX9_set 22 = .ok (.sipush (-1001), 3) := by decide +kernel
theorem dX9_set_25 : decode cX9_set 25 = .ok (.ireturn, 1) := by decide +kernel
theorem dX9_set_26 : decode cX9_set 26 = .ok (.aload_n 0, 1) := by decide +kernel
theorem dX9_set_27 : decode cX9_set 27 = .ok (.getfield 9, 3) := by decide +kernel
theorem dX9_set_30 : decode cX9_set 30 = .ok (.iload_n 1, 1) := by decide +kernel
theorem dX9_set_31 : decode cX9_set 31 = .ok (.iaload, 1) := by decide +kernel
theorem dX9_set_32 : decode cX9_set 32 = .ok (.istore_n 3, 1) := by decide +kernel
theorem dX9_set_33 : decode cX9_set 33 = .ok (.aload_n 0, 1) := by decide +kernel
theorem dX9_set_34 : decode cX9_set 34 = .ok (.invokevirtual 65, 3) := by decide +kernel
theorem dX9_set_37 : decode cX9_set 37 = .ok (.lstore 4, 2) := by decide +kernel
theorem dX9_set_39 : decode cX9_set 39 = .ok (.aload_n 0, 1) := by decide +kernel
theorem dX9_set_40 : decode cX9_set 40 = .ok (.getfield 9, 3) := by decide +kernel
theorem dX9_set_43 : decode cX9_set 43 = .ok (.iload_n 1, 1) := by decide +kernel
theorem dX9_set_44 : decode cX9_set 44 = .ok (.iload_n 2, 1) := by decide +kernel
theorem dX9_set_45 : decode cX9_set 45 = .ok (.iastore, 1) := by decide +kernel
theorem dX9_set_46 : decode cX9_set 46 = .ok (.aload_n 0, 1) := by decide +kernel
theorem dX9_set_47 : decode cX9_set 47 = .ok (.getfield 21, 3) := by decide +kernel
theorem dX9_set_50 : decode cX9_set 50 = .ok (.iconst 0, 1) := by decide +kernel
theorem dX9_set_51 : decode cX9_set 51 = .ok (.dup2, 1) := by decide +kernel
theorem dX9_set_52 : decode cX9_set 52 = .ok (.laload, 1) := by decide +kernel
theorem dX9_set_53 : decode cX9_set 53 = .ok (.aload_n 0, 1) := by decide +kernel
theorem dX9_set_54 : decode cX9_set 54 = .ok (.invokevirtual 65, 3) := by decide +kernel
theorem dX9_set_57 : decode cX9_set 57 = .ok (.lload 4, 2) := by decide +kernel
theorem dX9_set_59 : decode cX9_set 59 = .ok (.lsub, 1) := by decide +kernel
theorem dX9_set_60 : decode cX9_set 60 = .ok (.ladd, 1) := by decide +kernel
theorem dX9_set_61 : decode cX9_set 61 = .ok (.lastore, 1) := by decide +kernel
theorem dX9_set_62 : decode cX9_set 62 = .ok (.iload_n 3, 1) := by decide +kernel
theorem dX9_set_63 : decode cX9_set 63 = .ok (.ireturn, 1) := by decide +kernel
theorem dX9_told_0 : decode cX9_told 0 = .ok (.iload_n 1, 1) := by decide +kernel
theorem dX9_told_1 : decode cX9_told 1 = .ok (.iconst 0, 1) := by decide +kernel
theorem dX9_told_2 : decode cX9_told 2 = .ok (.bipush 12, 2) := by decide +kernel
theorem dX9_told_4 : decode cX9_told 4 = .ok (.invokestatic 55, 3) := by decide +kernel
theorem dX9_told_7 : decode cX9_told 7 = .ok (.ifCond .eq 12, 3) := by decide +kernel
theorem dX9_told_10 : decode cX9_told 10 = .ok (.aload_n 0, 1) := by decide +kernel
theorem dX9_told_11 : decode cX9_told 11 = .ok (.getfield 9, 3) := by decide +kernel
theorem dX9_told_14 : decode cX9_told 14 = .ok (.iload_n 1, 1) := by decide +kernel
theorem dX9_told_15 : decode cX9_told 15 = .ok (.iaload, 1) := by decide +kernel
theorem dX9_told_16 : decode cX9_told 16 = .ok (.goto 6, 3) := by decide +kernel
theorem dX9_told_19 : decode cX9_told 19 = .ok (.sipush (-1000), 3) := by decide +kernel
theorem dX9_told_22 : decode cX9_told 22 = .ok (.ireturn, 1) := by decide +kernel
theorem dX9_push_0 : decode cX9_push 0 = .ok (.iload_n 2, 1) := by decide +kernel
theorem dX9_push_1 : decode cX9_push 1 = .ok (.iconst 0, 1) := by decide +kernel
theorem dX9_push_2 : decode cX9_push 2 = .ok (.iconst 3, 1) := by decide +kernel
theorem dX9_push_3 : decode cX9_push 3 = .ok (.invokestatic 55, 3) := by decide +kernel
theorem dX9_push_6 : decode cX9_push 6 = .ok (.ifCond .ne 5, 3) := by decide +kernel
theorem dX9_push_9 : decode cX9_push 9 = .ok (.iconst (-1), 1) := by decide +kernel
theorem dX9_push_10 : decode cX9_push 10 = .ok (.ireturn, 1) := by decide +kernel
theorem dX9_push_11 : decode cX9_push 11 = .ok (.iload_n 1, 1) := by decide +kernel
theorem dX9_push_12 : decode cX9_push 12 = .ok (.aload_n 0, 1) := by decide +kernel
theorem dX9_push_13 : decode cX9_push 13 = .ok (.getfield 9, 3) := by decide +kernel
theorem dX9_push_16 : decode cX9_push 16 = .ok (.bipush 8, 2) := by decide +kernel
theorem dX9_push_18 : decode cX9_push 18 = .ok (.iaload, 1) := by decide +kernel
theorem dX9_push_19 : decode cX9_push 19 = .ok (.ldc 69, 2) := by decide +kernel
theorem dX9_push_21 : decode cX9_push 21 = .ok (.invokestatic 55, 3) := by decide +kernel
theorem dX9_push_24 : decode cX9_push 24 = .ok (.ifCond .eq 53, 3) := by decide +kernel
theorem dX9_push_27 : decode cX9_push 27 = .ok (.iload_n 3, 1) := by decide +kernel
theorem dX9_push_28 : decode cX9_push 28 = .ok (.iload_n 2, 1) := by decide +kernel
theorem dX9_push_29 : decode cX9_push 29 = .ok (.iconst 2, 1) := by decide +kernel
theorem dX9_push_30 : decode cX9_push 30 = .ok (.if_icmp .ne 8, 3) := by decide +kernel
theorem dX9_push_33 : decode cX9_push 33 = .ok (.bipush (-20), 2) := by decide +kernel
theorem dX9_push_35 : decode cX9_push 35 = .ok (.goto 14, 3) := by decide +kernel
theorem dX9_push_38 : decode cX9_push 38 = .ok (.iload_n 2, 1) := by decide +kernel
theorem dX9_push_39 : decode cX9_push 39 = .ok (.iconst 3, 1) := by decide +kernel
theorem dX9_push_40 : decode cX9_push 40 = .ok (.if_icmp .ne 7, 3) := by decide +kernel
theorem dX9_push_43 : decode cX9_push 43 = .ok (.iconst 0, 1) := by decide +kernel
theorem dX9_push_44 : decode cX9_push 44 = .ok (.goto 5, 3) := by decide +kernel
theorem dX9_push_47 : decode cX9_push 47 = .ok (.bipush (-99), 2) := by decide +kernel
theorem dX9_push_49 : decode cX9_push 49 = .ok (.iload_n 2, 1) := by decide +kernel
theorem dX9_push_50 : decode cX9_push 50 = .ok (.iconst 2, 1) := by decide +kernel
theorem dX9_push_51 : decode cX9_push 51 = .ok (.if_icmp .ne 8, 3) := by decide +kernel
theorem dX9_push_54 : decode cX9_push 54 = .ok (.bipush 20, 2) := by decide +kernel
theorem dX9_push_56 : decode cX9_push 56 = .ok (.goto 15, 3) := by decide +kernel
theorem dX9_push_59 : decode cX9_push 59 = .ok (.iload_n 2, 1) := by decide +kernel
theorem dX9_push_60 : decode cX9_push 60 = .ok (.iconst 3, 1) := by decide +kernel
theorem dX9_push_61 : decode cX9_push 61 = .ok (.if_icmp .ne 8, 3) := by decide +kernel
theorem dX9_push_64 : decode cX9_push 64 = .ok (.bipush 9, 2) := by decide +kernel
theorem dX9_push_66 : decode cX9_push 66 = .ok (.goto 5, 3) := by decide +kernel
theorem dX9_push_69 : decode cX9_push 69 = .ok (.bipush 99, 2) := by decide +kernel
theorem dX9_push_71 : decode cX9_push 71 = .ok (.invokestatic 55, 3) := by decide +kernel
theorem dX9_push_74 : decode cX9_push 74 = .ok (.ifCond .ne 6, 3) := by decide +kernel
theorem dX9_push_77 : decode cX9_push 77 = .ok (.bipush (-2), 2) := by decide +kernel
theorem dX9_push_79 : decode cX9_push 79 = .ok (.ireturn, 1) := by decide +kernel
theorem dX9_push_80 : decode cX9_push 80 = .ok (.aload_n 0, 1) := by decide +kernel
theorem dX9_push_81 : decode cX9_push 81 = .ok (.getfield 9, 3) := by decide +kernel
theorem dX9_push_84 : decode cX9_push 84 = .ok (.bipush 11, 2) := by decide +kernel
theorem dX9_push_86 : decode cX9_push 86 = .ok (.iaload, 1) := by decide +kernel
theorem dX9_push_87 : decode cX9_push 87 = .ok (.bipush 8, 2) := by decide +kernel
theorem dX9_push_89 : decode cX9_push 89 = .ok (.if_icmp .ne 6, 3) := by decide +kernel
theorem dX9_push_92 : decode cX9_push 92 = .ok (.bipush (-4), 2) := by decide +kernel
theorem dX9_push_94 : decode cX9_push 94 = .ok (.ireturn, 1) := by decide +kernel
theorem dX9_push_95 : decode cX9_push 95 = .ok (.bipush 15, 2) := by decide +kernel
theorem dX9_push_97 : decode cX9_push 97 = .ok (.iconst 3, 1) := by decide +kernel
theorem dX9_push_98 : decode cX9_push 98 = .ok (.aload_n 0, 1) := by decide +kernel
theorem dX9_push_99 : decode cX9_push 99 = .ok (.getfield 9, 3) := by decide +kernel
theorem dX9_push_102 : decode cX9_push 102 = .ok (.bipush 11, 2) := by decide +kernel
theorem dX9_push_104 : decode cX9_push 104 = .ok (.iaload, 1) := by decide +kernel
theorem dX9_push_105 : decode cX9_push 105 = .ok (.imul, 1) := by decide +kernel
theorem dX9_push_106 : decode cX9_push 106 = .ok (.iadd, 1) := by decide +kernel
theorem dX9_push_107 : decode cX9_push 107 = .ok (.istore 4, 2) := by decide +kernel
theorem dX9_push_109 : decode cX9_push 109 = .ok (.aload_n 0, 1) := by decide +kernel
theorem dX9_push_110 : decode cX9_push 110 = .ok (.getfield 9, 3) := by decide +kernel
theorem dX9_push_113 : decode cX9_push 113 = .ok (.iload 4, 2) := by decide +kernel
theorem dX9_push_115 : decode cX9_push 115 = .ok (.iload_n 1, 1) := by decide +kernel
theorem dX9_push_116 : decode cX9_push 116 = .ok (.iastore, 1) := by decide +kernel
theorem dX9_push_117 : decode cX9_push 117 = .ok (.aload_n 0, 1) := by decide +kernel
theorem dX9_push_118 : decode cX9_push 118 = .ok (.getfield 9, 3) := by decide +kernel
theorem dX9_push_121 : decode cX9_push 121 = .ok (.iload 4, 2) := by decide +kernel
theorem dX9_push_123 : decode cX9_push 123 = .ok (.iconst 1, 1) := by decide +kernel
theorem dX9_push_124 : decode cX9_push 124 = .ok (.iadd, 1) := by decide +kernel
theorem dX9_push_125 : decode cX9_push 125 = .ok (.iload_n 2, 1) := by decide +kernel
theorem dX9_push_126 : decode cX9_push 126 = .ok (.iastore, 1) := by decide +kernel
theorem dX9_push_127 : decode cX9_push 127 = .ok (.aload_n 0, 1) := by decide +kernel
theorem dX9_push_128 : decode cX9_push 128 = .ok (.getfield 9, 3) := by decide +kernel
theorem dX9_push_131 : decode cX9_push 131 = .ok (.iload 4, 2) := by decide +kernel
theorem dX9_push_133 : decode cX9_push 133 = .ok (.iconst 2, 1) := by decide +kernel
theorem dX9_push_134 : decode cX9_push 134 = .ok (.iadd, 1) := by decide +kernel
theorem dX9_push_135 : decode cX9_push 135 = .ok (.iload_n 3, 1) := by decide +kernel
theorem dX9_push_136 : decode cX9_push 136 = .ok (.iastore, 1) := by decide +kernel
theorem dX9_push_137 : decode cX9_push 137 = .ok (.aload_n 0, 1) := by decide +kernel
theorem dX9_push_138 : decode cX9_push 138 = .ok (.getfield 9, 3) := by decide +kernel
theorem dX9_push_141 : decode cX9_push 141 = .ok (.bipush 11, 2) := by decide +kernel
theorem dX9_push_143 : decode cX9_push 143 = .ok (.dup2, 1) := by decide +kernel
theorem dX9_push_144 : decode cX9_push 144 = .ok (.iaload, 1) := by decide +kernel
theorem dX9_push_145 : decode cX9_push 145 = .ok (.iconst 1, 1) := by decide +kernel
theorem dX9_push_146 : decode cX9_push 146 = .ok (.iadd, 1) := by decide +kernel
theorem dX9_push_147 : decode cX9_push 147 = .ok (.dup_x2, 1) := by decide +kernel
theorem dX9_push_148 : decode cX9_push 148 = .ok (.iastore, 1) := by decide +kernel
theorem dX9_push_149 : decode cX9_push 149 = .ok (.ireturn, 1) := by decide +kernel
theorem dX9_pushOf_0 : decode cX9_pushOf 0 = .ok (.iload_n 1, 1) := by decide +kernel
theorem dX9_pushOf_1 : decode cX9_pushOf 1 = .ok (.iconst 0, 1) := by decide +kernel
theorem dX9_pushOf_2 : decode cX9_pushOf 2 = .ok (.aload_n 0, 1) := by decide +kernel
theorem dX9_pushOf_3 : decode cX9_pushOf 3 = .ok (.getfield 9, 3) := by decide +kernel
theorem dX9_pushOf_6 : decode cX9_pushOf 6 = .ok (.bipush 11, 2) := by decide +kernel
theorem dX9_pushOf_8 : decode cX9_pushOf 8 = .ok (.iaload, 1) := by decide +kernel
theorem dX9_pushOf_9 : decode cX9_pushOf 9 = .ok (.iconst 1, 1) := by decide +kernel
theorem dX9_pushOf_10 : decode cX9_pushOf 10 = .ok (.isub, 1) := by decide +kernel
theorem dX9_pushOf_11 : decode cX9_pushOf 11 = .ok (.invokestatic 55, 3) := by decide +kernel
theorem dX9_pushOf_14 : decode cX9_pushOf 14 = .ok (.ifCond .eq 12, 3) := by decide +kernel
theorem dX9_pushOf_17 : decode cX9_pushOf 17 = .ok (.iload_n 2, 1) := by decide +kernel
theorem dX9_pushOf_18 : decode cX9_pushOf 18 = .ok (.iconst 0, 1) := by decide +kernel
theorem dX9_pushOf_19 : decode cX9_pushOf 19 = .ok (.iconst 2, 1) := by decide +kernel
theorem dX9_pushOf_20 : decode cX9_pushOf 20 = .ok (.invokestatic 55, 3) := by decide +kernel
theorem dX9_pushOf_23 : decode cX9_pushOf 23 = .ok (.ifCond .ne 7, 3) := by decide +kernel
theorem dX9_pushOf_26 : decode cX9_pushOf 26 = .ok (.sipush (-1000), 3) := by decide +kernel
theorem dX9_pushOf_29 : decode cX9_pushOf 29 = .ok (.ireturn, 1) := by decide +kernel
theorem dX9_pushOf_30 : decode cX9_pushOf 30 = .ok (.iconst 0, 1) := by decide +kernel
theorem dX9_pushOf_31 : decode cX9_pushOf 31 = .ok (.istore_n 3, 1) := by decide +kernel
theorem dX9_pushOf_32 : decode cX9_pushOf 32 = .ok (.iload_n 3, 1) := by decide +kernel
theorem dX9_pushOf_33 : decode cX9_pushOf 33 = .ok (.aload_n 0, 1) := by decide +kernel
theorem dX9_pushOf_34 : decode cX9_pushOf 34 = .ok (.getfield 9, 3) := by decide +kernel
theorem dX9_pushOf_37 : decode cX9_pushOf 37 = .ok (.bipush 11, 2) := by decide +kernel
theorem dX9_pushOf_39 : decode cX9_pushOf 39 = .ok (.iaload, 1) := by decide +kernel
theorem dX9_pushOf_40 : decode cX9_pushOf 40 = .ok (.if_icmp .ge 98, 3) := by decide +kernel
theorem dX9_pushOf_43 : decode cX9_pushOf 43 = .ok (.iconst 0, 1) := by decide +kernel
theorem dX9_pushOf_44 : decode cX9_pushOf 44 = .ok (.istore 4, 2) := by decide +kernel
theorem dX9_pushOf_46 : decode cX9_pushOf 46 = .ok (.iconst 0, 1) := by decide +kernel
theorem dX9_pushOf_47 : decode cX9_pushOf 47 = .ok (.istore 5, 2) := by decide +kernel
theorem dX9_pushOf_49 : decode cX9_pushOf 49 = .ok (.iload 5, 2) := by decide +kernel
theorem dX9_pushOf_51 : decode cX9_pushOf 51 = .ok (.aload_n 0, 1) := by decide +kernel
theorem dX9_pushOf_52 : decode cX9_pushOf 52 = .ok (.getfield 9, 3) := by decide +kernel
theorem dX9_pushOf_55 : decode cX9_pushOf 55 = .ok (.bipush 11, 2) := by decide +kernel
theorem dX9_pushOf_57 : decode cX9_pushOf 57 = .ok (.iaload, 1) := by decide +kernel
theorem dX9_pushOf_58 : decode cX9_pushOf 58 = .ok (.if_icmp .ge 54, 3) := by decide +kernel
theorem dX9_pushOf_61 : decode cX9_pushOf 61 = .ok (.aload_n 0, 1) := by decide +kernel
theorem dX9_pushOf_62 : decode cX9_pushOf 62 = .ok (.getfield 9, 3) := by decide +kernel
theorem dX9_pushOf_65 : decode cX9_pushOf 65 = .ok (.bipush 15, 2) := by decide +kernel
theorem dX9_pushOf_67 : decode cX9_pushOf 67 = .ok (.iconst 3, 1) := by decide +kernel
theorem dX9_pushOf_68 : decode cX9_pushOf 68 = .ok (.iload 5, 2) := by decide +kernel
theorem dX9_pushOf_70 : decode cX9_pushOf 70 = .ok (.imul, 1) := by decide +kernel
theorem dX9_pushOf_71 : decode cX9_pushOf 71 = .ok (.iadd, 1) := by decide +kernel
theorem dX9_pushOf_72 : decode cX9_pushOf 72 = .ok (.iaload, 1) := by decide +kernel
theorem dX9_pushOf_73 : decode cX9_pushOf 73 = .ok (.aload_n 0, 1) := by decide +kernel
theorem dX9_pushOf_74 : decode cX9_pushOf 74 = .ok (.getfield 9, 3) := by decide +kernel
theorem dX9_pushOf_77 : decode cX9_pushOf 77 = .ok (.bipush 15, 2) := by decide +kernel
theorem dX9_pushOf_79 : decode cX9_pushOf 79 = .ok (.iconst 3, 1) := by decide +kernel
theorem dX9_pushOf_80 : decode cX9_pushOf 80 = .ok (.iload_n 3, 1) := by decide +kernel
theorem dX9_pushOf_81 : decode cX9_pushOf 81 = .ok (.imul, 1) := by decide +kernel
theorem dX9_pushOf_82 : decode cX9_pushOf 82 = .ok (.iadd, 1) := by decide +kernel
theorem dX9_pushOf_83 : decode cX9_pushOf 83 = .ok (.iaload, 1) := by decide +kernel
theorem dX9_pushOf_84 : decode cX9_pushOf 84 = .ok (.isub, 1) := by decide +kernel
theorem dX9_pushOf_85 : decode cX9_pushOf 85 = .ok (.istore 6, 2) := by decide +kernel
theorem dX9_pushOf_87 : decode cX9_pushOf 87 = .ok (.iload 6, 2) := by decide +kernel
theorem dX9_pushOf_89 : decode cX9_pushOf 89 = .ok (.ifCond .lt 14, 3) := by decide +kernel
theorem dX9_pushOf_92 : decode cX9_pushOf 92 = .ok (.iload 6, 2) := by decide +kernel
theorem dX9_pushOf_94 : decode cX9_pushOf 94 = .ok (.ifCond .ne 12, 3) := by decide +kernel
theorem dX9_pushOf_97 : decode cX9_pushOf 97 = .ok (.iload 5, 2) := by decide +kernel
theorem dX9_pushOf_99 : decode cX9_pushOf 99 = .ok (.iload_n 3, 1) := by decide +kernel
theorem dX9_pushOf_100 : decode cX9_pushOf 100 = .ok (.if_icmp .ge 6, 3) := by decide +kernel
theorem dX9_pushOf_103 : decode cX9_pushOf 103 = .ok (.iinc 4 1, 3) := by decide +kernel
theorem dX9_pushOf_106 : decode cX9_pushOf 106 = .ok (.iinc 5 1, 3) := by decide +kernel
theorem dX9_pushOf_109 : decode cX9_pushOf 109 = .ok (.goto (-60), 3) := by decide +kernel
theorem dX9_pushOf_112 : decode cX9_pushOf 112 = .ok (.iload 4, 2) := by decide +kernel
theorem dX9_pushOf_114 : decode cX9_pushOf 114 = .ok (.iload_n 1, 1) := by decide +kernel
theorem dX9_pushOf_115 : decode cX9_pushOf 115 = .ok (.if_icmp .ne 17, 3) := by decide +kernel
theorem dX9_pushOf_118 : decode cX9_pushOf 118 = .ok (.aload_n 0, 1) := by decide +kernel
theorem dX9_pushOf_119 : decode cX9_pushOf 119 = .ok (.getfield 9, 3) := by decide +kernel
theorem dX9_pushOf_122 : decode cX9_pushOf 122 = .ok (.bipush 15, 2) := by decide +kernel
theorem dX9_pushOf_124 : decode cX9_pushOf 124 = .ok (.iconst 3, 1) := by decide +kernel
theorem dX9_pushOf_125 : decode cX9_pushOf 125 = .ok (.iload_n 3, 1) := by decide +kernel
theorem dX9_pushOf_126 : decode cX9_pushOf 126 = .ok (.imul, 1) := by decide +kernel
theorem dX9_pushOf_127 : decode cX9_pushOf 127 = .ok (.iadd, 1) := by decide +kernel
theorem dX9_pushOf_128 : decode cX9_pushOf 128 = .ok (.iload_n 2, 1) := by decide +kernel
theorem dX9_pushOf_129 : decode cX9_pushOf 129 = .ok (.iadd, 1) := by decide +kernel
theorem dX9_pushOf_130 : decode cX9_pushOf 130 = .ok (.iaload, 1) := by decide +kernel
theorem dX9_pushOf_131 : decode cX9_pushOf 131 = .ok (.ireturn, 1) := by decide +kernel
theorem dX9_pushOf_132 : decode cX9_pushOf 132 = .ok (.iinc 3 1, 3) := by decide +kernel
theorem dX9_pushOf_135 : decode cX9_pushOf 135 = .ok (.goto (-103), 3) := by decide +kernel
theorem dX9_pushOf_138 : decode cX9_pushOf 138 = .ok (.sipush (-1000), 3) := by decide +kernel
theorem dX9_pushOf_141 : decode cX9_pushOf 141 = .ok (.ireturn, 1) := by decide +kernel
theorem dX9_pushes_0 : decode cX9_pushes 0 = .ok (.iconst 0, 1) := by decide +kernel
theorem dX9_pushes_1 : decode cX9_pushes 1 = .ok (.istore_n 1, 1) := by decide +kernel
theorem dX9_pushes_2 : decode cX9_pushes 2 = .ok (.aload_n 0, 1) := by decide +kernel
theorem dX9_pushes_3 : decode cX9_pushes 3 = .ok (.getfield 9, 3) := by decide +kernel
theorem dX9_pushes_6 : decode cX9_pushes 6 = .ok (.bipush 11, 2) := by decide +kernel
theorem dX9_pushes_8 : decode cX9_pushes 8 = .ok (.iaload, 1) := by decide +kernel
theorem dX9_pushes_9 : decode cX9_pushes 9 = .ok (.istore_n 2, 1) := by decide +kernel
theorem dX9_pushes_10 : decode cX9_pushes 10 = .ok (.iconst 0, 1) := by decide +kernel
theorem dX9_pushes_11 : decode cX9_pushes 11 = .ok (.istore_n 3, 1) := by decide +kernel
theorem dX9_pushes_12 : decode cX9_pushes 12 = .ok (.iload_n 3, 1) := by decide +kernel
theorem dX9_pushes_13 : decode cX9_pushes 13 = .ok (.iload_n 2, 1) := by decide +kernel
theorem dX9_pushes_14 : decode cX9_pushes 14 = .ok (.if_icmp .ge 184, 3) := by decide +kernel
theorem dX9_pushes_17 : decode cX9_pushes 17 = .ok (.bipush 15, 2) := by decide +kernel
theorem dX9_pushes_19 : decode cX9_pushes 19 = .ok (.iconst 3, 1) := by decide +kernel
theorem dX9_pushes_20 : decode cX9_pushes 20 = .ok (.iload_n 3, 1) := by decide +kernel
theorem dX9_pushes_21 : decode cX9_pushes 21 = .ok (.imul, 1) := by decide +kernel
theorem dX9_pushes_22 : decode cX9_pushes 22 = .ok (.iadd, 1) := by decide +kernel
theorem dX9_pushes_23 : decode cX9_pushes 23 = .ok (.istore 4, 2) := by decide +kernel
theorem dX9_pushes_25 : decode cX9_pushes 25 = .ok (.aload_n 0, 1) := by decide +kernel
theorem dX9_pushes_26 : decode cX9_pushes 26 = .ok (.getfield 9, 3) := by decide +kernel
theorem dX9_pushes_29 : decode cX9_pushes 29 = .ok (.iload 4, 2) := by decide +kernel
theorem dX9_pushes_31 : decode cX9_pushes 31 = .ok (.iconst 2, 1) := by decide +kernel
theorem dX9_pushes_32 : decode cX9_pushes 32 = .ok (.iadd, 1) := by decide +kernel
theorem dX9_pushes_33 : decode cX9_pushes 33 = .ok (.iaload, 1) := by decide +kernel
theorem dX9_pushes_34 : decode cX9_pushes 34 = .ok (.istore 5, 2) := by decide +kernel
theorem dX9_pushes_36 : decode cX9_pushes 36 = .ok (.aload_n 0, 1) := by decide +kernel
theorem dX9_pushes_37 : decode cX9_pushes 37 = .ok (.getfield 9, 3) := by decide +kernel
theorem dX9_pushes_40 : decode cX9_pushes 40 = .ok (.iload 4, 2) := by decide +kernel
theorem dX9_pushes_42 : decode cX9_pushes 42 = .ok (.iaload, 1) := by decide +kernel
theorem dX9_pushes_43 : decode cX9_pushes 43 = .ok (.aload_n 0, 1) := by decide +kernel
theorem dX9_pushes_44 : decode cX9_pushes 44 = .ok (.getfield 9, 3) := by decide +kernel
theorem dX9_pushes_47 : decode cX9_pushes 47 = .ok (.bipush 8, 2) := by decide +kernel
theorem dX9_pushes_49 : decode cX9_pushes 49 = .ok (.iaload, 1) := by decide +kernel
theorem dX9_pushes_50 : decode cX9_pushes 50 = .ok (.if_icmp .eq 48, 3) := by decide +kernel
theorem dX9_pushes_53 : decode cX9_pushes 53 = .ok (.iconst 0, 1) := by decide +kernel
theorem dX9_pushes_54 : decode cX9_pushes 54 = .ok (.istore 6, 2) := by decide +kernel
theorem dX9_pushes_56 : decode cX9_pushes 56 = .ok (.iload 6, 2) := by decide +kernel
theorem dX9_pushes_58 : decode cX9_pushes 58 = .ok (.iconst 3, 1) := by decide +kernel
theorem dX9_pushes_59 : decode cX9_pushes 59 = .ok (.if_icmp .ge 33, 3) := by decide +kernel
theorem dX9_pushes_62 : decode cX9_pushes 62 = .ok (.aload_n 0, 1) := by decide +kernel
theorem dX9_pushes_63 : decode cX9_pushes 63 = .ok (.getfield 9, 3) := by decide +kernel
theorem dX9_pushes_66 : decode cX9_pushes 66 = .ok (.bipush 15, 2) := by decide +kernel
theorem dX9_pushes_68 : decode cX9_pushes 68 = .ok (.iconst 3, 1) := by decide +kernel
theorem dX9_pushes_69 : decode cX9_pushes 69 = .ok (.iload_n 1, 1) := by decide +kernel
theorem dX9_pushes_70 : decode cX9_pushes 70 = .ok (.imul, 1) := by decide +kernel
theorem dX9_pushes_71 : decode cX9_pushes 71 = .ok (.iadd, 1) := by decide +kernel
theorem dX9_pushes_72 : decode cX9_pushes 72 = .ok (.iload 6, 2) := by decide +kernel
theorem dX9_pushes_74 : decode cX9_pushes 74 = .ok (.iadd, 1) := by decide +kernel
theorem dX9_pushes_75 : decode cX9_pushes 75 = .ok (.aload_n 0, 1) := by decide +kernel
theorem dX9_pushes_76 : decode cX9_pushes 76 = .ok (.getfield 9, 3) := by decide +kernel
theorem dX9_pushes_79 : decode cX9_pushes 79 = .ok (.iload 4, 2) := by decide +kernel
theorem dX9_pushes_81 : decode cX9_pushes 81 = .ok (.iload 6, 2) := by decide +kernel
theorem dX9_pushes_83 : decode cX9_pushes 83 = .ok (.iadd, 1) := by decide +kernel
theorem dX9_pushes_84 : decode cX9_pushes 84 = .ok (.iaload, 1) := by decide +kernel
theorem dX9_pushes_85 : decode cX9_pushes 85 = .ok (.iastore, 1) := by decide +kernel
theorem dX9_pushes_86 : decode cX9_pushes 86 = .ok (.iinc 6 1, 3) := by decide +kernel
theorem dX9_pushes_89 : decode cX9_pushes 89 = .ok (.goto (-33), 3) := by decide +kernel
theorem dX9_pushes_92 : decode cX9_pushes 92 = .ok (.iinc 1 1, 3) := by decide +kernel
theorem dX9_pushes_95 : decode cX9_pushes 95 = .ok (.goto 97, 3) := by decide +kernel
theorem dX9_pushes_98 : decode cX9_pushes 98 = .ok (.aload_n 0, 1) := by decide +kernel
theorem dX9_pushes_99 : decode cX9_pushes 99 = .ok (.getfield 9, 3) := by decide +kernel
theorem dX9_pushes_102 : decode cX9_pushes 102 = .ok (.iload 4, 2) := by decide +kernel
theorem dX9_pushes_104 : decode cX9_pushes 104 = .ok (.iconst 1, 1) := by decide +kernel
theorem dX9_pushes_105 : decode cX9_pushes 105 = .ok (.iadd, 1) := by decide +kernel
theorem dX9_pushes_106 : decode cX9_pushes 106 = .ok (.iaload, 1) := by decide +kernel
theorem dX9_pushes_107 : decode cX9_pushes 107 = .ok (.tableswitch 77 0 2 #[25, 39, 66], 25) := by decide +kernel
theorem dX9_pushes_132 : decode cX9_pushes 132 = .ok (.aload_n 0, 1) := by decide +kernel
theorem dX9_pushes_133 : decode cX9_pushes 133 = .ok (.getfield 9, 3) := by decide +kernel
theorem dX9_pushes_136 : decode cX9_pushes 136 = .ok (.iconst 1, 1) := by decide +kernel
theorem dX9_pushes_137 : decode cX9_pushes 137 = .ok (.dup2, 1) := by decide +kernel
theorem dX9_pushes_138 : decode cX9_pushes 138 = .ok (.iaload, 1) := by decide +kernel
theorem dX9_pushes_139 : decode cX9_pushes 139 = .ok (.iload 5, 2) := by decide +kernel
theorem dX9_pushes_141 : decode cX9_pushes 141 = .ok (.iadd, 1) := by decide +kernel
theorem dX9_pushes_142 : decode cX9_pushes 142 = .ok (.iastore, 1) := by decide +kernel
theorem dX9_pushes_143 : decode cX9_pushes 143 = .ok (.goto 49, 3) := by decide +kernel
theorem dX9_pushes_146 : decode cX9_pushes 146 = .ok (.aload_n 0, 1) := by decide +kernel
theorem dX9_pushes_147 : decode cX9_pushes 147 = .ok (.getfield 9, 3) := by decide +kernel
theorem dX9_pushes_150 : decode cX9_pushes 150 = .ok (.iconst 5, 1) := by decide +kernel
theorem dX9_pushes_151 : decode cX9_pushes 151 = .ok (.iconst 0, 1) := by decide +kernel
theorem dX9_pushes_152 : decode cX9_pushes 152 = .ok (.bipush 60, 2) := by decide +kernel
theorem dX9_pushes_154 : decode cX9_pushes 154 = .ok (.aload_n 0, 1) := by decide +kernel
theorem dX9_pushes_155 : decode cX9_pushes 155 = .ok (.getfield 9, 3) := by decide +kernel
theorem dX9_pushes_158 : decode cX9_pushes 158 = .ok (.iconst 5, 1) := by decide +kernel
theorem dX9_pushes_159 : decode cX9_pushes 159 = .ok (.iaload, 1) := by decide +kernel
theorem dX9_pushes_160 : decode cX9_pushes 160 = .ok (.iload 5, 2) := by decide +kernel
theorem dX9_pushes_162 : decode cX9_pushes 162 = .ok (.iadd, 1) := by decide +kernel
theorem dX9_pushes_163 : decode cX9_pushes 163 = .ok (.invokestatic 70, 3) := by decide +kernel
theorem dX9_pushes_166 : decode cX9_pushes 166 = .ok (.invokestatic 76, 3) := by decide +kernel
theorem dX9_pushes_169 : decode cX9_pushes 169 = .ok (.iastore, 1) := by decide +kernel
theorem dX9_pushes_170 : decode cX9_pushes 170 = .ok (.goto 22, 3) := by decide +kernel
theorem dX9_pushes_173 : decode cX9_pushes 173 = .ok (.aload_n 0, 1) := by decide +kernel
theorem dX9_pushes_174 : decode cX9_pushes 174 = .ok (.getfield 9, 3) := by decide +kernel
theorem dX9_pushes_177 : decode cX9_pushes 177 = .ok (.iconst 4, 1) := by decide +kernel
theorem dX9_pushes_178 : decode cX9_pushes 178 = .ok (.iload 5, 2) := by decide +kernel
theorem dX9_pushes_180 : decode cX9_pushes 180 = .ok (.iastore, 1) := by decide +kernel
theorem dX9_pushes_181 : decode cX9_pushes 181 = .ok (.goto 11, 3) := by decide +kernel
theorem dX9_pushes_184 : decode cX9_pushes 184 = .ok (.aload_n 0, 1) := by decide +kernel
theorem dX9_pushes_185 : decode cX9_pushes 185 = .ok (.getfield 9, 3) := by decide +kernel
theorem dX9_pushes_188 : decode cX9_pushes 188 = .ok (.iconst 3, 1) := by decide +kernel
theorem dX9_pushes_189 : decode cX9_pushes 189 = .ok (.iload 5, 2) := by decide +kernel
theorem dX9_pushes_191 : decode cX9_pushes 191 = .ok (.iastore, 1) := by decide +kernel
theorem dX9_pushes_192 : decode cX9_pushes 192 = .ok (.iinc 3 1, 3) := by decide +kernel
theorem dX9_pushes_195 : decode cX9_pushes 195 = .ok (.goto (-183), 3) := by decide +kernel
theorem dX9_pushes_198 : decode cX9_pushes 198 = .ok (.aload_n 0, 1) := by decide +kernel
theorem dX9_pushes_199 : decode cX9_pushes 199 = .ok (.getfield 9, 3) := by decide +kernel
theorem dX9_pushes_202 : decode cX9_pushes 202 = .ok (.bipush 11, 2) := by decide +kernel
theorem dX9_pushes_204 : decode cX9_pushes 204 = .ok (.iload_n 1, 1) := by decide +kernel
theorem dX9_pushes_205 : decode cX9_pushes 205 = .ok (.iastore, 1) := by decide +kernel
theorem dX9_pushes_206 : decode cX9_pushes 206 = .ok (.return_, 1) := by decide +kernel
theorem dX9_accounts_0 : decode cX9_accounts 0 = .ok (.aload_n 0, 1) := by decide +kernel
theorem dX9_accounts_1 : decode cX9_accounts 1 = .ok (.invokevirtual 65, 3) := by decide +kernel
theorem dX9_accounts_4 : decode cX9_accounts 4 = .ok (.lstore 4, 2) := by decide +kernel
theorem dX9_accounts_6 : decode cX9_accounts 6 = .ok (.aload_n 0, 1) := by decide +kernel
theorem dX9_accounts_7 : decode cX9_accounts 7 = .ok (.getfield 21, 3) := by decide +kernel
theorem dX9_accounts_10 : decode cX9_accounts 10 = .ok (.iload_n 1, 1) := by decide +kernel
theorem dX9_accounts_11 : decode cX9_accounts 11 = .ok (.dup2, 1) := by decide +kernel
theorem dX9_accounts_12 : decode cX9_accounts 12 = .ok (.laload, 1) := by decide +kernel
theorem dX9_accounts_13 : decode cX9_accounts 13 = .ok (.lload 4, 2) := by decide +kernel
theorem dX9_accounts_15 : decode cX9_accounts 15 = .ok (.lload_n 2, 1) := by decide +kernel
theorem dX9_accounts_16 : decode cX9_accounts 16 = .ok (.lsub, 1) := by decide +kernel
theorem dX9_accounts_17 : decode cX9_accounts 17 = .ok (.ladd, 1) := by decide +kernel
theorem dX9_accounts_18 : decode cX9_accounts 18 = .ok (.lastore, 1) := by decide +kernel
theorem dX9_accounts_19 : decode cX9_accounts 19 = .ok (.lload 4, 2) := by decide +kernel
theorem dX9_accounts_21 : decode cX9_accounts 21 = .ok (.lreturn, 1) := by decide +kernel
theorem dX9_tick_0 : decode cX9_tick 0 = .ok (.aload_n 0, 1) := by decide +kernel
theorem dX9_tick_1 : decode cX9_tick 1 = .ok (.invokevirtual 65, 3) := by decide +kernel
theorem dX9_tick_4 : decode cX9_tick 4 = .ok (.lstore_n 1, 1) := by decide +kernel
theorem dX9_tick_5 : decode cX9_tick 5 = .ok (.aload_n 0, 1) := by decide +kernel
theorem dX9_tick_6 : decode cX9_tick 6 = .ok (.getfield 9, 3) := by decide +kernel
theorem dX9_tick_9 : decode cX9_tick 9 = .ok (.bipush 11, 2) := by decide +kernel
theorem dX9_tick_11 : decode cX9_tick 11 = .ok (.iaload, 1) := by decide +kernel
theorem dX9_tick_12 : decode cX9_tick 12 = .ok (.ifCond .le 7, 3) := by decide +kernel
theorem dX9_tick_15 : decode cX9_tick 15 = .ok (.aload_n 0, 1) := by decide +kernel
theorem dX9_tick_16 : decode cX9_tick 16 = .ok (.invokevirtual 79, 3) := by decide +kernel
theorem dX9_tick_19 : decode cX9_tick 19 = .ok (.aload_n 0, 1) := by decide +kernel
theorem dX9_tick_20 : decode cX9_tick 20 = .ok (.iconst 0, 1) := by decide +kernel
theorem dX9_tick_21 : decode cX9_tick 21 = .ok (.lload_n 1, 1) := by decide +kernel
theorem dX9_tick_22 : decode cX9_tick 22 = .ok (.invokevirtual 82, 3) := by decide +kernel
theorem dX9_tick_25 : decode cX9_tick 25 = .ok (.lstore_n 1, 1) := by decide +kernel
theorem dX9_tick_26 : decode cX9_tick 26 = .ok (.aload_n 0, 1) := by decide +kernel
theorem dX9_tick_27 : decode cX9_tick 27 = .ok (.getfield 9, 3) := by decide +kernel
theorem dX9_tick_30 : decode cX9_tick 30 = .ok (.iconst 1, 1) := by decide +kernel
theorem dX9_tick_31 : decode cX9_tick 31 = .ok (.dup2, 1) := by decide +kernel
theorem dX9_tick_32 : decode cX9_tick 32 = .ok (.iaload, 1) := by decide +kernel
theorem dX9_tick_33 : decode cX9_tick 33 = .ok (.aload_n 0, 1) := by decide +kernel
theorem dX9_tick_34 : decode cX9_tick 34 = .ok (.getfield 9, 3) := by decide +kernel
theorem dX9_tick_37 : decode cX9_tick 37 = .ok (.iconst 0, 1) := by decide +kernel
theorem dX9_tick_38 : decode cX9_tick 38 = .ok (.iaload, 1) := by decide +kernel
theorem dX9_tick_39 : decode cX9_tick 39 = .ok (.aload_n 0, 1) := by decide +kernel
theorem dX9_tick_40 : decode cX9_tick 40 = .ok (.getfield 9, 3) := by decide +kernel
theorem dX9_tick_43 : decode cX9_tick 43 = .ok (.iconst 2, 1) := by decide +kernel
theorem dX9_tick_44 : decode cX9_tick 44 = .ok (.iaload, 1) := by decide +kernel
theorem dX9_tick_45 : decode cX9_tick 45 = .ok (.imul, 1) := by decide +kernel
theorem dX9_tick_46 : decode cX9_tick 46 = .ok (.bipush 32, 2) := by decide +kernel
theorem dX9_tick_48 : decode cX9_tick 48 = .ok (.idiv, 1) := by decide +kernel
theorem dX9_tick_49 : decode cX9_tick 49 = .ok (.isub, 1) := by decide +kernel
theorem dX9_tick_50 : decode cX9_tick 50 = .ok (.iastore, 1) := by decide +kernel
theorem dX9_tick_51 : decode cX9_tick 51 = .ok (.aload_n 0, 1) := by decide +kernel
theorem dX9_tick_52 : decode cX9_tick 52 = .ok (.iconst 1, 1) := by decide +kernel
theorem dX9_tick_53 : decode cX9_tick 53 = .ok (.lload_n 1, 1) := by decide +kernel
theorem dX9_tick_54 : decode cX9_tick 54 = .ok (.invokevirtual 82, 3) := by decide +kernel
theorem dX9_tick_57 : decode cX9_tick 57 = .ok (.lstore_n 1, 1) := by decide +kernel
theorem dX9_tick_58 : decode cX9_tick 58 = .ok (.aload_n 0, 1) := by decide +kernel
theorem dX9_tick_59 : decode cX9_tick 59 = .ok (.getfield 9, 3) := by decide +kernel
theorem dX9_tick_62 : decode cX9_tick 62 = .ok (.iconst 1, 1) := by decide +kernel
theorem dX9_tick_63 : decode cX9_tick 63 = .ok (.iaload, 1) := by decide +kernel
theorem dX9_tick_64 : decode cX9_tick 64 = .ok (.istore_n 3, 1) := by decide +kernel
theorem dX9_tick_65 : decode cX9_tick 65 = .ok (.aload_n 0, 1) := by decide +kernel
theorem dX9_tick_66 : decode cX9_tick 66 = .ok (.getfield 9, 3) := by decide +kernel
theorem dX9_tick_69 : decode cX9_tick 69 = .ok (.iconst 1, 1) := by decide +kernel
theorem dX9_tick_70 : decode cX9_tick 70 = .ok (.iload_n 3, 1) := by decide +kernel
theorem dX9_tick_71 : decode cX9_tick 71 = .ok (.ifCond .le 18, 3) := by decide +kernel
theorem dX9_tick_74 : decode cX9_tick 74 = .ok (.iconst 0, 1) := by decide +kernel
theorem dX9_tick_75 : decode cX9_tick 75 = .ok (.iload_n 3, 1) := by decide +kernel
theorem dX9_tick_76 : decode cX9_tick 76 = .ok (.aload_n 0, 1) := by decide +kernel
theorem dX9_tick_77 : decode cX9_tick 77 = .ok (.getfield 9, 3) := by decide +kernel
theorem dX9_tick_80 : decode cX9_tick 80 = .ok (.iconst 3, 1) := by decide +kernel
theorem dX9_tick_81 : decode cX9_tick 81 = .ok (.iaload, 1) := by decide +kernel
theorem dX9_tick_82 : decode cX9_tick 82 = .ok (.isub, 1) := by decide +kernel
theorem dX9_tick_83 : decode cX9_tick 83 = .ok (.invokestatic 76, 3) := by decide +kernel
theorem dX9_tick_86 : decode cX9_tick 86 = .ok (.goto 15, 3) := by decide +kernel
theorem dX9_tick_89 : decode cX9_tick 89 = .ok (.iconst 0, 1) := by decide +kernel
theorem dX9_tick_90 : decode cX9_tick 90 = .ok (.iload_n 3, 1) := by decide +kernel
theorem dX9_tick_91 : decode cX9_tick 91 = .ok (.aload_n 0, 1) := by decide +kernel
theorem dX9_tick_92 : decode cX9_tick 92 = .ok (.getfield 9, 3) := by decide +kernel
theorem dX9_tick_95 : decode cX9_tick 95 = .ok (.iconst 3, 1) := by decide +kernel
theorem dX9_tick_96 : decode cX9_tick 96 = .ok (.iaload, 1) := by decide +kernel
theorem dX9_tick_97 : decode cX9_tick 97 = .ok (.iadd, 1) := by decide +kernel
theorem dX9_tick_98 : decode cX9_tick 98 = .ok (.invokestatic 70, 3) := by decide +kernel
theorem dX9_tick_101 : decode cX9_tick 101 = .ok (.iastore, 1) := by decide +kernel
theorem dX9_tick_102 : decode cX9_tick 102 = .ok (.aload_n 0, 1) := by decide +kernel
theorem dX9_tick_103 : decode cX9_tick 103 = .ok (.iconst 2, 1) := by decide +kernel
theorem dX9_tick_104 : decode cX9_tick 104 = .ok (.lload_n 1, 1) := by decide +kernel
theorem dX9_tick_105 : decode cX9_tick 105 = .ok (.invokevirtual 82, 3) := by decide +kernel
theorem dX9_tick_108 : decode cX9_tick 108 = .ok (.lstore_n 1, 1) := by decide +kernel
theorem dX9_tick_109 : decode cX9_tick 109 = .ok (.aload_n 0, 1) := by decide +kernel
theorem dX9_tick_110 : decode cX9_tick 110 = .ok (.getfield 9, 3) := by decide +kernel
theorem dX9_tick_113 : decode cX9_tick 113 = .ok (.iconst 0, 1) := by decide +kernel
theorem dX9_tick_114 : decode cX9_tick 114 = .ok (.iaload, 1) := by decide +kernel
theorem dX9_tick_115 : decode cX9_tick 115 = .ok (.istore 4, 2) := by decide +kernel
theorem dX9_tick_117 : decode cX9_tick 117 = .ok (.aload_n 0, 1) := by decide +kernel
theorem dX9_tick_118 : decode cX9_tick 118 = .ok (.getfield 9, 3) := by decide +kernel
theorem dX9_tick_121 : decode cX9_tick 121 = .ok (.iconst 0, 1) := by decide +kernel
theorem dX9_tick_122 : decode cX9_tick 122 = .ok (.dup2, 1) := by decide +kernel
theorem dX9_tick_123 : decode cX9_tick 123 = .ok (.iaload, 1) := by decide +kernel
theorem dX9_tick_124 : decode cX9_tick 124 = .ok (.aload_n 0, 1) := by decide +kernel
theorem dX9_tick_125 : decode cX9_tick 125 = .ok (.getfield 9, 3) := by decide +kernel
theorem dX9_tick_128 : decode cX9_tick 128 = .ok (.iconst 1, 1) := by decide +kernel
theorem dX9_tick_129 : decode cX9_tick 129 = .ok (.iaload, 1) := by decide +kernel
theorem dX9_tick_130 : decode cX9_tick 130 = .ok (.iadd, 1) := by decide +kernel
theorem dX9_tick_131 : decode cX9_tick 131 = .ok (.iastore, 1) := by decide +kernel
theorem dX9_tick_132 : decode cX9_tick 132 = .ok (.aload_n 0, 1) := by decide +kernel
theorem dX9_tick_133 : decode cX9_tick 133 = .ok (.getfield 9, 3) := by decide +kernel
theorem dX9_tick_136 : decode cX9_tick 136 = .ok (.iconst 0, 1) := by decide +kernel
theorem dX9_tick_137 : decode cX9_tick 137 = .ok (.iaload, 1) := by decide +kernel
theorem dX9_tick_138 : decode cX9_tick 138 = .ok (.sipush (-300), 3) := by decide +kernel
theorem dX9_tick_141 : decode cX9_tick 141 = .ok (.sipush 300, 3) := by decide +kernel
theorem dX9_tick_144 : decode cX9_tick 144 = .ok (.invokestatic 55, 3) := by decide +kernel
theorem dX9_tick_147 : decode cX9_tick 147 = .ok (.ifCond .ne 45, 3) := by decide +kernel
theorem dX9_tick_150 : decode cX9_tick 150 = .ok (.aload_n 0, 1) := by decide +kernel
theorem dX9_tick_151 : decode cX9_tick 151 = .ok (.getfield 9, 3) := by decide +kernel
theorem dX9_tick_154 : decode cX9_tick 154 = .ok (.iconst 0, 1) := by decide +kernel
theorem dX9_tick_155 : decode cX9_tick 155 = .ok (.aload_n 0, 1) := by decide +kernel
theorem dX9_tick_156 : decode cX9_tick 156 = .ok (.getfield 9, 3) := by decide +kernel
theorem dX9_tick_159 : decode cX9_tick 159 = .ok (.iconst 0, 1) := by decide +kernel
theorem dX9_tick_160 : decode cX9_tick 160 = .ok (.iaload, 1) := by decide +kernel
theorem dX9_tick_161 : decode cX9_tick 161 = .ok (.ifCond .le 9, 3) := by decide +kernel
theorem dX9_tick_164 : decode cX9_tick 164 = .ok (.sipush 300, 3) := by decide +kernel
theorem dX9_tick_167 : decode cX9_tick 167 = .ok (.goto 6, 3) := by decide +kernel
theorem dX9_tick_170 : decode cX9_tick 170 = .ok (.sipush (-300), 3) := by decide +kernel
theorem dX9_tick_173 : decode cX9_tick 173 = .ok (.iastore, 1) := by decide +kernel
theorem dX9_tick_174 : decode cX9_tick 174 = .ok (.aload_n 0, 1) := by decide +kernel
theorem dX9_tick_175 : decode cX9_tick 175 = .ok (.getfield 9, 3) := by decide +kernel
theorem dX9_tick_178 : decode cX9_tick 178 = .ok (.iconst 1, 1) := by decide +kernel
theorem dX9_tick_179 : decode cX9_tick 179 = .ok (.iconst 0, 1) := by decide +kernel
theorem dX9_tick_180 : decode cX9_tick 180 = .ok (.iastore, 1) := by decide +kernel
theorem dX9_tick_181 : decode cX9_tick 181 = .ok (.aload_n 0, 1) := by decide +kernel
theorem dX9_tick_182 : decode cX9_tick 182 = .ok (.getfield 9, 3) := by decide +kernel
theorem dX9_tick_185 : decode cX9_tick 185 = .ok (.bipush 10, 2) := by decide +kernel
theorem dX9_tick_187 : decode cX9_tick 187 = .ok (.dup2, 1) := by decide +kernel
theorem dX9_tick_188 : decode cX9_tick 188 = .ok (.iaload, 1) := by decide +kernel
theorem dX9_tick_189 : decode cX9_tick 189 = .ok (.iconst 1, 1) := by decide +kernel
theorem dX9_tick_190 : decode cX9_tick 190 = .ok (.iadd, 1) := by decide +kernel
theorem dX9_tick_191 : decode cX9_tick 191 = .ok (.iastore, 1) := by decide +kernel
theorem dX9_tick_192 : decode cX9_tick 192 = .ok (.aload_n 0, 1) := by decide +kernel
theorem dX9_tick_193 : decode cX9_tick 193 = .ok (.iconst 1, 1) := by decide +kernel
theorem dX9_tick_194 : decode cX9_tick 194 = .ok (.lload_n 1, 1) := by decide +kernel
theorem dX9_tick_195 : decode cX9_tick 195 = .ok (.invokevirtual 82, 3) := by decide +kernel
theorem dX9_tick_198 : decode cX9_tick 198 = .ok (.lstore_n 1, 1) := by decide +kernel
theorem dX9_tick_199 : decode cX9_tick 199 = .ok (.aload_n 0, 1) := by decide +kernel
theorem dX9_tick_200 : decode cX9_tick 200 = .ok (.getfield 9, 3) := by decide +kernel
theorem dX9_tick_203 : decode cX9_tick 203 = .ok (.bipush 7, 2) := by decide +kernel
theorem dX9_tick_205 : decode cX9_tick 205 = .ok (.iaload, 1) := by decide +kernel
theorem dX9_tick_206 : decode cX9_tick 206 = .ok (.ifCond .ne 7, 3) := by decide +kernel
theorem dX9_tick_209 : decode cX9_tick 209 = .ok (.iconst 1, 1) := by decide +kernel
theorem dX9_tick_210 : decode cX9_tick 210 = .ok (.goto 4, 3) := by decide +kernel
theorem dX9_tick_213 : decode cX9_tick 213 = .ok (.iconst 0, 1) := by decide +kernel
theorem dX9_tick_214 : decode cX9_tick 214 = .ok (.istore 5, 2) := by decide +kernel
theorem dX9_tick_216 : decode cX9_tick 216 = .ok (.aload_n 0, 1) := by decide +kernel
theorem dX9_tick_217 : decode cX9_tick 217 = .ok (.getfield 9, 3) := by decide +kernel
theorem dX9_tick_220 : decode cX9_tick 220 = .ok (.iconst 4, 1) := by decide +kernel
theorem dX9_tick_221 : decode cX9_tick 221 = .ok (.iaload, 1) := by decide +kernel
theorem dX9_tick_222 : decode cX9_tick 222 = .ok (.istore 6, 2) := by decide +kernel
theorem dX9_tick_224 : decode cX9_tick 224 = .ok (.iload 5, 2) := by decide +kernel
theorem dX9_tick_226 : decode cX9_tick 226 = .ok (.ifCond .eq 29, 3) := by decide +kernel
theorem dX9_tick_229 : decode cX9_tick 229 = .ok (.iload 4, 2) := by decide +kernel
theorem dX9_tick_231 : decode cX9_tick 231 = .ok (.iload 6, 2) := by decide +kernel
theorem dX9_tick_233 : decode cX9_tick 233 = .ok (.if_icmp .gt 18, 3) := by decide +kernel
theorem dX9_tick_236 : decode cX9_tick 236 = .ok (.aload_n 0, 1) := by decide +kernel
theorem dX9_tick_237 : decode cX9_tick 237 = .ok (.getfield 9, 3) := by decide +kernel
theorem dX9_tick_240 : decode cX9_tick 240 = .ok (.iconst 0, 1) := by decide +kernel
theorem dX9_tick_241 : decode cX9_tick 241 = .ok (.iaload, 1) := by decide +kernel
theorem dX9_tick_242 : decode cX9_tick 242 = .ok (.iload 6, 2) := by decide +kernel
theorem dX9_tick_244 : decode cX9_tick 244 = .ok (.if_icmp .le 7, 3) := by decide +kernel
theorem dX9_tick_247 : decode cX9_tick 247 = .ok (.iconst 1, 1) := by decide +kernel
theorem dX9_tick_248 : decode cX9_tick 248 = .ok (.goto 30, 3) := by decide +kernel
theorem dX9_tick_251 : decode cX9_tick 251 = .ok (.iconst 0, 1) := by decide +kernel
theorem dX9_tick_252 : decode cX9_tick 252 = .ok (.goto 26, 3) := by decide +kernel
theorem dX9_tick_255 : decode cX9_tick 255 = .ok (.iload 4, 2) := by decide +kernel
theorem dX9_tick_257 : decode cX9_tick 257 = .ok (.iload 6, 2) := by decide +kernel
theorem dX9_tick_259 : decode cX9_tick 259 = .ok (.if_icmp .lt 18, 3) := by decide +kernel
theorem dX9_tick_262 : decode cX9_tick 262 = .ok (.aload_n 0, 1) := by decide +kernel
theorem dX9_tick_263 : decode cX9_tick 263 = .ok (.getfield 9, 3) := by decide +kernel
theorem dX9_tick_266 : decode cX9_tick 266 = .ok (.iconst 0, 1) := by decide +kernel
theorem dX9_tick_267 : decode cX9_tick 267 = .ok (.iaload, 1) := by decide +kernel
theorem dX9_tick_268 : decode cX9_tick 268 = .ok (.iload 6, 2) := by decide +kernel
theorem dX9_tick_270 : decode cX9_tick 270 = .ok (.if_icmp .ge 7, 3) := by decide +kernel
theorem dX9_tick_273 : decode cX9_tick 273 = .ok (.iconst 1, 1) := by decide +kernel
theorem dX9_tick_274 : decode cX9_tick 274 = .ok (.goto 4, 3) := by decide +kernel
theorem dX9_tick_277 : decode cX9_tick 277 = .ok (.iconst 0, 1) := by decide +kernel
theorem dX9_tick_278 : decode cX9_tick 278 = .ok (.istore 7, 2) := by decide +kernel
theorem dX9_tick_280 : decode cX9_tick 280 = .ok (.aload_n 0, 1) := by decide +kernel
theorem dX9_tick_281 : decode cX9_tick 281 = .ok (.getfield 9, 3) := by decide +kernel
theorem dX9_tick_284 : decode cX9_tick 284 = .ok (.iconst 5, 1) := by decide +kernel
theorem dX9_tick_285 : decode cX9_tick 285 = .ok (.iaload, 1) := by decide +kernel
theorem dX9_tick_286 : decode cX9_tick 286 = .ok (.ifCond .le 138, 3) := by decide +kernel
theorem dX9_tick_289 : decode cX9_tick 289 = .ok (.iload 7, 2) := by decide +kernel
theorem dX9_tick_291 : decode cX9_tick 291 = .ok (.ifCond .eq 133, 3) := by decide +kernel
theorem dX9_tick_294 : decode cX9_tick 294 = .ok (.aload_n 0, 1) := by decide +kernel
theorem dX9_tick_295 : decode cX9_tick 295 = .ok (.getfield 9, 3) := by decide +kernel
theorem dX9_tick_298 : decode cX9_tick 298 = .ok (.iconst 5, 1) := by decide +kernel
theorem dX9_tick_299 : decode cX9_tick 299 = .ok (.iaload, 1) := by decide +kernel
theorem dX9_tick_300 : decode cX9_tick 300 = .ok (.iconst 3, 1) := by decide +kernel
theorem dX9_tick_301 : decode cX9_tick 301 = .ok (.iadd, 1) := by decide +kernel
theorem dX9_tick_302 : decode cX9_tick 302 = .ok (.iconst 4, 1) := by decide +kernel
theorem dX9_tick_303 : decode cX9_tick 303 = .ok (.idiv, 1) := by decide +kernel
theorem dX9_tick_304 : decode cX9_tick 304 = .ok (.istore 8, 2) := by decide +kernel
theorem dX9_tick_306 : decode cX9_tick 306 = .ok (.aload_n 0, 1) := by decide +kernel
theorem dX9_tick_307 : decode cX9_tick 307 = .ok (.getfield 9, 3) := by decide +kernel
theorem dX9_tick_310 : decode cX9_tick 310 = .ok (.iconst 1, 1) := by decide +kernel
theorem dX9_tick_311 : decode cX9_tick 311 = .ok (.dup2, 1) := by decide +kernel
theorem dX9_tick_312 : decode cX9_tick 312 = .ok (.iaload, 1) := by decide +kernel
theorem dX9_tick_313 : decode cX9_tick 313 = .ok (.iload 5, 2) := by decide +kernel
theorem dX9_tick_315 : decode cX9_tick 315 = .ok (.ifCond .eq 8, 3) := by decide +kernel
theorem dX9_tick_318 : decode cX9_tick 318 = .ok (.iload 8, 2) := by decide +kernel
theorem dX9_tick_320 : decode cX9_tick 320 = .ok (.goto 6, 3) := by decide +kernel
theorem dX9_tick_323 : decode cX9_tick 323 = .ok (.iload 8, 2) := by decide +kernel
theorem dX9_tick_325 : decode cX9_tick 325 = .ok (.ineg, 1) := by decide +kernel
theorem dX9_tick_326 : decode cX9_tick 326 = .ok (.iadd, 1) := by decide +kernel
theorem dX9_tick_327 : decode cX9_tick 327 = .ok (.iastore, 1) := by decide +kernel
theorem dX9_tick_328 : decode cX9_tick 328 = .ok (.aload_n 0, 1) := by decide +kernel
theorem dX9_tick_329 : decode cX9_tick 329 = .ok (.getfield 9, 3) := by decide +kernel
theorem dX9_tick_332 : decode cX9_tick 332 = .ok (.bipush 7, 2) := by decide +kernel
theorem dX9_tick_334 : decode cX9_tick 334 = .ok (.iconst 1, 1) := by decide +kernel
theorem dX9_tick_335 : decode cX9_tick 335 = .ok (.aload_n 0, 1) := by decide +kernel
theorem dX9_tick_336 : decode cX9_tick 336 = .ok (.getfield 9, 3) := by decide +kernel
theorem dX9_tick_339 : decode cX9_tick 339 = .ok (.bipush 7, 2) := by decide +kernel
theorem dX9_tick_341 : decode cX9_tick 341 = .ok (.iaload, 1) := by decide +kernel
theorem dX9_tick_342 : decode cX9_tick 342 = .ok (.isub, 1) := by decide +kernel
theorem dX9_tick_343 : decode cX9_tick 343 = .ok (.iastore, 1) := by decide +kernel
theorem dX9_tick_344 : decode cX9_tick 344 = .ok (.aload_n 0, 1) := by decide +kernel
theorem dX9_tick_345 : decode cX9_tick 345 = .ok (.getfield 9, 3) := by decide +kernel
theorem dX9_tick_348 : decode cX9_tick 348 = .ok (.bipush 9, 2) := by decide +kernel
theorem dX9_tick_350 : decode cX9_tick 350 = .ok (.dup2, 1) := by decide +kernel
theorem dX9_tick_351 : decode cX9_tick 351 = .ok (.iaload, 1) := by decide +kernel
theorem dX9_tick_352 : decode cX9_tick 352 = .ok (.iconst 1, 1) := by decide +kernel
theorem dX9_tick_353 : decode cX9_tick 353 = .ok (.iadd, 1) := by decide +kernel
theorem dX9_tick_354 : decode cX9_tick 354 = .ok (.iastore, 1) := by decide +kernel
theorem dX9_tick_355 : decode cX9_tick 355 = .ok (.aload_n 0, 1) := by decide +kernel
theorem dX9_tick_356 : decode cX9_tick 356 = .ok (.getfield 9, 3) := by decide +kernel
theorem dX9_tick_359 : decode cX9_tick 359 = .ok (.bipush 9, 2) := by decide +kernel
theorem dX9_tick_361 : decode cX9_tick 361 = .ok (.iaload, 1) := by decide +kernel
theorem dX9_tick_362 : decode cX9_tick 362 = .ok (.aload_n 0, 1) := by decide +kernel
theorem dX9_tick_363 : decode cX9_tick 363 = .ok (.getfield 9, 3) := by decide +kernel
theorem dX9_tick_366 : decode cX9_tick 366 = .ok (.bipush 6, 2) := by decide +kernel
theorem dX9_tick_368 : decode cX9_tick 368 = .ok (.iaload, 1) := by decide +kernel
theorem dX9_tick_369 : decode cX9_tick 369 = .ok (.irem, 1) := by decide +kernel
theorem dX9_tick_370 : decode cX9_tick 370 = .ok (.ifCond .ne 13, 3) := by decide +kernel
theorem dX9_tick_373 : decode cX9_tick 373 = .ok (.aload_n 0, 1) := by decide +kernel
theorem dX9_tick_374 : decode cX9_tick 374 = .ok (.getfield 9, 3) := by decide +kernel
theorem dX9_tick_377 : decode cX9_tick 377 = .ok (.iconst 5, 1) := by decide +kernel
theorem dX9_tick_378 : decode cX9_tick 378 = .ok (.dup2, 1) := by decide +kernel
theorem dX9_tick_379 : decode cX9_tick 379 = .ok (.iaload, 1) := by decide +kernel
theorem dX9_tick_380 : decode cX9_tick 380 = .ok (.iconst 1, 1) := by decide +kernel
theorem dX9_tick_381 : decode cX9_tick 381 = .ok (.isub, 1) := by decide +kernel
theorem dX9_tick_382 : decode cX9_tick 382 = .ok (.iastore, 1) := by decide +kernel
theorem dX9_tick_383 : decode cX9_tick 383 = .ok (.aload_n 0, 1) := by decide +kernel
theorem dX9_tick_384 : decode cX9_tick 384 = .ok (.getfield 86, 3) := by decide +kernel
theorem dX9_tick_387 : decode cX9_tick 387 = .ok (.sipush 400, 3) := by decide +kernel
theorem dX9_tick_390 : decode cX9_tick 390 = .ok (.if_icmp .ge 24, 3) := by decide +kernel
theorem dX9_tick_393 : decode cX9_tick 393 = .ok (.aload_n 0, 1) := by decide +kernel
theorem dX9_tick_394 : decode cX9_tick 394 = .ok (.getfield 31, 3) := by decide +kernel
theorem dX9_tick_397 : decode cX9_tick 397 = .ok (.aload_n 0, 1) := by decide +kernel
theorem dX9_tick_398 : decode cX9_tick 398 = .ok (.getfield 86, 3) := by decide +kernel
theorem dX9_tick_401 : decode cX9_tick 401 = .ok (.aload_n 0, 1) := by decide +kernel
theorem dX9_tick_402 : decode cX9_tick 402 = .ok (.getfield 9, 3) := by decide +kernel
theorem dX9_tick_405 : decode cX9_tick 405 = .ok (.bipush 8, 2) := by decide +kernel
theorem dX9_tick_407 : decode cX9_tick 407 = .ok (.iaload, 1) := by decide +kernel
theorem dX9_tick_408 : decode cX9_tick 408 = .ok (.aload_n 0, 1) := by decide +kernel
theorem dX9_tick_409 : decode cX9_tick 409 = .ok (.getfield 90, 3) := by decide +kernel
theorem dX9_tick_412 : decode cX9_tick 412 = .ok (.isub, 1) := by decide +kernel
theorem dX9_tick_413 : decode cX9_tick 413 = .ok (.iastore, 1) := by decide +kernel
theorem dX9_tick_414 : decode cX9_tick 414 = .ok (.aload_n 0, 1) := by decide +kernel
theorem dX9_tick_415 : decode cX9_tick 415 = .ok (.dup, 1) := by decide +kernel
theorem dX9_tick_416 : decode cX9_tick 416 = .ok (.getfield 86, 3) := by decide +kernel
theorem dX9_tick_419 : decode cX9_tick 419 = .ok (.iconst 1, 1) := by decide +kernel
theorem dX9_tick_420 : decode cX9_tick 420 = .ok (.iadd, 1) := by decide +kernel
theorem dX9_tick_421 : decode cX9_tick 421 = .ok (.putfield 86, 3) := by decide +kernel
theorem dX9_tick_424 : decode cX9_tick 424 = .ok (.aload_n 0, 1) := by decide +kernel
theorem dX9_tick_425 : decode cX9_tick 425 = .ok (.iconst 3, 1) := by decide +kernel
theorem dX9_tick_426 : decode cX9_tick 426 = .ok (.lload_n 1, 1) := by decide +kernel
theorem dX9_tick_427 : decode cX9_tick 427 = .ok (.invokevirtual 82, 3) := by decide +kernel
theorem dX9_tick_430 : decode cX9_tick 430 = .ok (.pop2, 1) := by decide +kernel
theorem dX9_tick_431 : decode cX9_tick 431 = .ok (.aload_n 0, 1) := by decide +kernel
theorem dX9_tick_432 : decode cX9_tick 432 = .ok (.getfield 9, 3) := by decide +kernel
theorem dX9_tick_435 : decode cX9_tick 435 = .ok (.bipush 8, 2) := by decide +kernel
theorem dX9_tick_437 : decode cX9_tick 437 = .ok (.dup2, 1) := by decide +kernel
theorem dX9_tick_438 : decode cX9_tick 438 = .ok (.iaload, 1) := by decide +kernel
theorem dX9_tick_439 : decode cX9_tick 439 = .ok (.iconst 1, 1) := by decide +kernel
theorem dX9_tick_440 : decode cX9_tick 440 = .ok (.iadd, 1) := by decide +kernel
theorem dX9_tick_441 : decode cX9_tick 441 = .ok (.iastore, 1) := by decide +kernel
theorem dX9_tick_442 : decode cX9_tick 442 = .ok (.return_, 1) := by decide +kernel
theorem dX9_goes_0 : decode cX9_goes 0 = .ok (.aload_n 0, 1) := by decide +kernel
theorem dX9_goes_1 : decode cX9_goes 1 = .ok (.iconst 0, 1) := by decide +kernel
theorem dX9_goes_2 : decode cX9_goes 2 = .ok (.putfield 86, 3) := by decide +kernel
theorem dX9_goes_5 : decode cX9_goes 5 = .ok (.aload_n 0, 1) := by decide +kernel
theorem dX9_goes_6 : decode cX9_goes 6 = .ok (.aload_n 0, 1) := by decide +kernel
theorem dX9_goes_7 : decode cX9_goes 7 = .ok (.getfield 9, 3) := by decide +kernel
theorem dX9_goes_10 : decode cX9_goes 10 = .ok (.bipush 8, 2) := by decide +kernel
theorem dX9_goes_12 : decode cX9_goes 12 = .ok (.iaload, 1) := by decide +kernel
theorem dX9_goes_13 : decode cX9_goes 13 = .ok (.putfield 90, 3) := by decide +kernel
theorem dX9_goes_16 : decode cX9_goes 16 = .ok (.iconst 0, 1) := by decide +kernel
theorem dX9_goes_17 : decode cX9_goes 17 = .ok (.istore_n 2, 1) := by decide +kernel
theorem dX9_goes_18 : decode cX9_goes 18 = .ok (.iload_n 2, 1) := by decide +kernel
theorem dX9_goes_19 : decode cX9_goes 19 = .ok (.iload_n 1, 1) := by decide +kernel
theorem dX9_goes_20 : decode cX9_goes 20 = .ok (.if_icmp .ge 13, 3) := by decide +kernel
theorem dX9_goes_23 : decode cX9_goes 23 = .ok (.aload_n 0, 1) := by decide +kernel
theorem dX9_goes_24 : decode cX9_goes 24 = .ok (.invokevirtual 93, 3) := by decide +kernel
theorem dX9_goes_27 : decode cX9_goes 27 = .ok (.iinc 2 1, 3) := by decide +kernel
theorem dX9_goes_30 : decode cX9_goes 30 = .ok (.goto (-12), 3) := by decide +kernel
theorem dX9_goes_33 : decode cX9_goes 33 = .ok (.return_, 1) := by decide +kernel
theorem dX9_go_0 : decode cX9_go 0 = .ok (.iload_n 1, 1) := by decide +kernel
theorem dX9_go_1 : decode cX9_go 1 = .ok (.iconst 1, 1) := by decide +kernel
theorem dX9_go_2 : decode cX9_go 2 = .ok (.sipush 400, 3) := by decide +kernel
theorem dX9_go_5 : decode cX9_go 5 = .ok (.invokestatic 55, 3) := by decide +kernel
theorem dX9_go_8 : decode cX9_go 8 = .ok (.ifCond .ne 6, 3) := by decide +kernel
theorem dX9_go_11 : decode cX9_go 11 = .ok (.bipush (-2), 2) := by decide +kernel
theorem dX9_go_13 : decode cX9_go 13 = .ok (.ireturn, 1) := by decide +kernel
theorem dX9_go_14 : decode cX9_go 14 = .ok (.aload_n 0, 1) := by decide +kernel
theorem dX9_go_15 : decode cX9_go 15 = .ok (.getfield 9, 3) := by decide +kernel
theorem dX9_go_18 : decode cX9_go 18 = .ok (.bipush 8, 2) := by decide +kernel
theorem dX9_go_20 : decode cX9_go 20 = .ok (.iaload, 1) := by decide +kernel
theorem dX9_go_21 : decode cX9_go 21 = .ok (.iload_n 1, 1) := by decide +kernel
theorem dX9_go_22 : decode cX9_go 22 = .ok (.iadd, 1) := by decide +kernel
theorem dX9_go_23 : decode cX9_go 23 = .ok (.ldc 69, 2) := by decide +kernel
theorem dX9_go_25 : decode cX9_go 25 = .ok (.if_icmp .le 6, 3) := by decide +kernel
theorem dX9_go_28 : decode cX9_go 28 = .ok (.bipush (-4), 2) := by decide +kernel
theorem dX9_go_30 : decode cX9_go 30 = .ok (.ireturn, 1) := by decide +kernel
theorem dX9_go_31 : decode cX9_go 31 = .ok (.aload_n 0, 1) := by decide +kernel
theorem dX9_go_32 : decode cX9_go 32 = .ok (.iload_n 1, 1) := by decide +kernel
theorem dX9_go_33 : decode cX9_go 33 = .ok (.invokevirtual 96, 3) := by decide +kernel
theorem dX9_go_36 : decode cX9_go 36 = .ok (.aload_n 0, 1) := by decide +kernel
theorem dX9_go_37 : decode cX9_go 37 = .ok (.getfield 86, 3) := by decide +kernel
theorem dX9_go_40 : decode cX9_go 40 = .ok (.ireturn, 1) := by decide +kernel
theorem dX9_wheel_0 : decode cX9_wheel 0 = .ok (.iload_n 1, 1) := by decide +kernel
theorem dX9_wheel_1 : decode cX9_wheel 1 = .ok (.iconst 2, 1) := by decide +kernel
theorem dX9_wheel_2 : decode cX9_wheel 2 = .ok (.bipush 99, 2) := by decide +kernel
theorem dX9_wheel_4 : decode cX9_wheel 4 = .ok (.invokestatic 55, 3) := by decide +kernel
theorem dX9_wheel_7 : decode cX9_wheel 7 = .ok (.ifCond .ne 6, 3) := by decide +kernel
theorem dX9_wheel_10 : decode cX9_wheel 10 = .ok (.bipush (-2), 2) := by decide +kernel
theorem dX9_wheel_12 : decode cX9_wheel 12 = .ok (.ireturn, 1) := by decide +kernel
theorem dX9_wheel_13 : decode cX9_wheel 13 = .ok (.aload_n 0, 1) := by decide +kernel
theorem dX9_wheel_14 : decode cX9_wheel 14 = .ok (.getfield 9, 3) := by decide +kernel
theorem dX9_wheel_17 : decode cX9_wheel 17 = .ok (.bipush 12, 2) := by decide +kernel
theorem dX9_wheel_19 : decode cX9_wheel 19 = .ok (.iaload, 1) := by decide +kernel
theorem dX9_wheel_20 : decode cX9_wheel 20 = .ok (.iconst 4, 1) := by decide +kernel
theorem dX9_wheel_21 : decode cX9_wheel 21 = .ok (.if_icmp .ne 6, 3) := by decide +kernel
theorem dX9_wheel_24 : decode cX9_wheel 24 = .ok (.bipush (-4), 2) := by decide +kernel
theorem dX9_wheel_26 : decode cX9_wheel 26 = .ok (.ireturn, 1) := by decide +kernel
theorem dX9_wheel_27 : decode cX9_wheel 27 = .ok (.aload_n 0, 1) := by decide +kernel
theorem dX9_wheel_28 : decode cX9_wheel 28 = .ok (.getfield 9, 3) := by decide +kernel
theorem dX9_wheel_31 : decode cX9_wheel 31 = .ok (.bipush 39, 2) := by decide +kernel
theorem dX9_wheel_33 : decode cX9_wheel 33 = .ok (.aload_n 0, 1) := by decide +kernel
theorem dX9_wheel_34 : decode cX9_wheel 34 = .ok (.getfield 9, 3) := by decide +kernel
theorem dX9_wheel_37 : decode cX9_wheel 37 = .ok (.bipush 12, 2) := by decide +kernel
theorem dX9_wheel_39 : decode cX9_wheel 39 = .ok (.iaload, 1) := by decide +kernel
theorem dX9_wheel_40 : decode cX9_wheel 40 = .ok (.iadd, 1) := by decide +kernel
theorem dX9_wheel_41 : decode cX9_wheel 41 = .ok (.iload_n 1, 1) := by decide +kernel
theorem dX9_wheel_42 : decode cX9_wheel 42 = .ok (.iastore, 1) := by decide +kernel
theorem dX9_wheel_43 : decode cX9_wheel 43 = .ok (.aload_n 0, 1) := by decide +kernel
theorem dX9_wheel_44 : decode cX9_wheel 44 = .ok (.getfield 9, 3) := by decide +kernel
theorem dX9_wheel_47 : decode cX9_wheel 47 = .ok (.bipush 12, 2) := by decide +kernel
theorem dX9_wheel_49 : decode cX9_wheel 49 = .ok (.dup2, 1) := by decide +kernel
theorem dX9_wheel_50 : decode cX9_wheel 50 = .ok (.iaload, 1) := by decide +kernel
theorem dX9_wheel_51 : decode cX9_wheel 51 = .ok (.dup_x2, 1) := by decide +kernel
theorem dX9_wheel_52 : decode cX9_wheel 52 = .ok (.iconst 1, 1) := by decide +kernel
theorem dX9_wheel_53 : decode cX9_wheel 53 = .ok (.iadd, 1) := by decide +kernel
theorem dX9_wheel_54 : decode cX9_wheel 54 = .ok (.iastore, 1) := by decide +kernel
theorem dX9_wheel_55 : decode cX9_wheel 55 = .ok (.ireturn, 1) := by decide +kernel
theorem dX9_lowest_0 : decode cX9_lowest 0 = .ok (.lload_n 0, 1) := by decide +kernel
theorem dX9_lowest_1 : decode cX9_lowest 1 = .ok (.lstore 5, 2) := by decide +kernel
theorem dX9_lowest_3 : decode cX9_lowest 3 = .ok (.lload_n 2, 1) := by decide +kernel
theorem dX9_lowest_4 : decode cX9_lowest 4 = .ok (.lstore 7, 2) := by decide +kernel
theorem dX9_lowest_6 : decode cX9_lowest 6 = .ok (.lload 7, 2) := by decide +kernel
theorem dX9_lowest_8 : decode cX9_lowest 8 = .ok (.lconst 0, 1) := by decide +kernel
theorem dX9_lowest_9 : decode cX9_lowest 9 = .ok (.lcmp, 1) := by decide +kernel
theorem dX9_lowest_10 : decode cX9_lowest 10 = .ok (.ifCond .eq 21, 3) := by decide +kernel
theorem dX9_lowest_13 : decode cX9_lowest 13 = .ok (.lload 5, 2) := by decide +kernel
theorem dX9_lowest_15 : decode cX9_lowest 15 = .ok (.lload 7, 2) := by decide +kernel
theorem dX9_lowest_17 : decode cX9_lowest 17 = .ok (.lrem, 1) := by decide +kernel
theorem dX9_lowest_18 : decode cX9_lowest 18 = .ok (.lstore 9, 2) := by decide +kernel
theorem dX9_lowest_20 : decode cX9_lowest 20 = .ok (.lload 7, 2) := by decide +kernel
theorem dX9_lowest_22 : decode cX9_lowest 22 = .ok (.lstore 5, 2) := by decide +kernel
theorem dX9_lowest_24 : decode cX9_lowest 24 = .ok (.lload 9, 2) := by decide +kernel
theorem dX9_lowest_26 : decode cX9_lowest 26 = .ok (.lstore 7, 2) := by decide +kernel
theorem dX9_lowest_28 : decode cX9_lowest 28 = .ok (.goto (-22), 3) := by decide +kernel
theorem dX9_lowest_31 : decode cX9_lowest 31 = .ok (.iload 4, 2) := by decide +kernel
theorem dX9_lowest_33 : decode cX9_lowest 33 = .ok (.ifCond .ne 10, 3) := by decide +kernel
theorem dX9_lowest_36 : decode cX9_lowest 36 = .ok (.lload_n 0, 1) := by decide +kernel
theorem dX9_lowest_37 : decode cX9_lowest 37 = .ok (.lload 5, 2) := by decide +kernel
theorem dX9_lowest_39 : decode cX9_lowest 39 = .ok (.ldiv, 1) := by decide +kernel
theorem dX9_lowest_40 : decode cX9_lowest 40 = .ok (.goto 7, 3) := by decide +kernel
theorem dX9_lowest_43 : decode cX9_lowest 43 = .ok (.lload_n 2, 1) := by decide +kernel
theorem dX9_lowest_44 : decode cX9_lowest 44 = .ok (.lload 5, 2) := by decide +kernel
theorem dX9_lowest_46 : decode cX9_lowest 46 = .ok (.ldiv, 1) := by decide +kernel
theorem dX9_lowest_47 : decode cX9_lowest 47 = .ok (.lreturn, 1) := by decide +kernel
theorem dX9_turns_0 : decode cX9_turns 0 = .ok (.iload_n 1, 1) := by decide +kernel
theorem dX9_turns_1 : decode cX9_turns 1 = .ok (.iconst 0, 1) := by decide +kernel
theorem dX9_turns_2 : decode cX9_turns 2 = .ok (.aload_n 0, 1) := by decide +kernel
theorem dX9_turns_3 : decode cX9_turns 3 = .ok (.getfield 9, 3) := by decide +kernel
theorem dX9_turns_6 : decode cX9_turns 6 = .ok (.bipush 12, 2) := by decide +kernel
theorem dX9_turns_8 : decode cX9_turns 8 = .ok (.iaload, 1) := by decide +kernel
theorem dX9_turns_9 : decode cX9_turns 9 = .ok (.iconst 1, 1) := by decide +kernel
theorem dX9_turns_10 : decode cX9_turns 10 = .ok (.isub, 1) := by decide +kernel
theorem dX9_turns_11 : decode cX9_turns 11 = .ok (.invokestatic 55, 3) := by decide +kernel
theorem dX9_turns_14 : decode cX9_turns 14 = .ok (.ifCond .eq 12, 3) := by decide +kernel
theorem dX9_turns_17 : decode cX9_turns 17 = .ok (.iload_n 2, 1) := by decide +kernel
theorem dX9_turns_18 : decode cX9_turns 18 = .ok (.iconst 0, 1) := by decide +kernel
theorem dX9_turns_19 : decode cX9_turns 19 = .ok (.iconst 1, 1) := by decide +kernel
theorem dX9_turns_20 : decode cX9_turns 20 = .ok (.invokestatic 55, 3) := by decide +kernel
theorem dX9_turns_23 : decode cX9_turns 23 = .ok (.ifCond .ne 7, 3) := by decide +kernel
theorem dX9_turns_26 : decode cX9_turns 26 = .ok (.ldc2_w 100, 3) := by decide +kernel
theorem dX9_turns_29 : decode cX9_turns 29 = .ok (.lreturn, 1) := by decide +kernel
theorem dX9_turns_30 : decode cX9_turns 30 = .ok (.ldc2_w 102, 3) := by decide +kernel
theorem dX9_turns_33 : decode cX9_turns 33 = .ok (.lstore_n 3, 1) := by decide +kernel
theorem dX9_turns_34 : decode cX9_turns 34 = .ok (.iconst 0, 1) := by decide +kernel
theorem dX9_turns_35 : decode cX9_turns 35 = .ok (.istore 5, 2) := by decide +kernel
theorem dX9_turns_37 : decode cX9_turns 37 = .ok (.iload 5, 2) := by decide +kernel
theorem dX9_turns_39 : decode cX9_turns 39 = .ok (.iload_n 1, 1) := by decide +kernel
theorem dX9_turns_40 : decode cX9_turns 40 = .ok (.if_icmp .gt 23, 3) := by decide +kernel
theorem dX9_turns_43 : decode cX9_turns 43 = .ok (.lload_n 3, 1) := by decide +kernel
theorem dX9_turns_44 : decode cX9_turns 44 = .ok (.aload_n 0, 1) := by decide +kernel
theorem dX9_turns_45 : decode cX9_turns 45 = .ok (.getfield 9, 3) := by decide +kernel
theorem dX9_turns_48 : decode cX9_turns 48 = .ok (.bipush 39, 2) := by decide +kernel
theorem dX9_turns_50 : decode cX9_turns 50 = .ok (.iload 5, 2) := by decide +kernel
theorem dX9_turns_52 : decode cX9_turns 52 = .ok (.iadd, 1) := by decide +kernel
theorem dX9_turns_53 : decode cX9_turns 53 = .ok (.iaload, 1) := by decide +kernel
theorem dX9_turns_54 : decode cX9_turns 54 = .ok (.i2l, 1) := by decide +kernel
theorem dX9_turns_55 : decode cX9_turns 55 = .ok (.lmul, 1) := by decide +kernel
theorem dX9_turns_56 : decode cX9_turns 56 = .ok (.lstore_n 3, 1) := by decide +kernel
theorem dX9_turns_57 : decode cX9_turns 57 = .ok (.iinc 5 1, 3) := by decide +kernel
theorem dX9_turns_60 : decode cX9_turns 60 = .ok (.goto (-23), 3) := by decide +kernel
theorem dX9_turns_63 : decode cX9_turns 63 = .ok (.aload_n 0, 1) := by decide +kernel
theorem dX9_turns_64 : decode cX9_turns 64 = .ok (.getfield 9, 3) := by decide +kernel
theorem dX9_turns_67 : decode cX9_turns 67 = .ok (.bipush 9, 2) := by decide +kernel
theorem dX9_turns_69 : decode cX9_turns 69 = .ok (.iaload, 1) := by decide +kernel
theorem dX9_turns_70 : decode cX9_turns 70 = .ok (.i2l, 1) := by decide +kernel
theorem dX9_turns_71 : decode cX9_turns 71 = .ok (.lload_n 3, 1) := by decide +kernel
theorem dX9_turns_72 : decode cX9_turns 72 = .ok (.iload_n 2, 1) := by decide +kernel
theorem dX9_turns_73 : decode cX9_turns 73 = .ok (.invokestatic 104, 3) := by decide +kernel
theorem dX9_turns_76 : decode cX9_turns 76 = .ok (.lreturn, 1) := by decide +kernel
theorem dX9_energy_0 : decode cX9_energy 0 = .ok (.iload_n 1, 1) := by decide +kernel
theorem dX9_energy_1 : decode cX9_energy 1 = .ok (.iconst 0, 1) := by decide +kernel
theorem dX9_energy_2 : decode cX9_energy 2 = .ok (.iconst 4, 1) := by decide +kernel
theorem dX9_energy_3 : decode cX9_energy 3 = .ok (.invokestatic 55, 3) := by decide +kernel
theorem dX9_energy_6 : decode cX9_energy 6 = .ok (.ifCond .ne 7, 3) := by decide +kernel
theorem dX9_energy_9 : decode cX9_energy 9 = .ok (.ldc2_w 100, 3) := by decide +kernel
theorem dX9_energy_12 : decode cX9_energy 12 = .ok (.lreturn, 1) := by decide +kernel
theorem dX9_energy_13 : decode cX9_energy 13 = .ok (.iload_n 1, 1) := by decide +kernel
theorem dX9_energy_14 : decode cX9_energy 14 = .ok (.iconst 4, 1) := by decide +kernel
theorem dX9_energy_15 : decode cX9_energy 15 = .ok (.if_icmp .ne 10, 3) := by decide +kernel
theorem dX9_energy_18 : decode cX9_energy 18 = .ok (.aload_n 0, 1) := by decide +kernel
theorem dX9_energy_19 : decode cX9_energy 19 = .ok (.invokevirtual 65, 3) := by decide +kernel
theorem dX9_energy_22 : decode cX9_energy 22 = .ok (.goto 9, 3) := by decide +kernel
theorem dX9_energy_25 : decode cX9_energy 25 = .ok (.aload_n 0, 1) := by decide +kernel
theorem dX9_energy_26 : decode cX9_energy 26 = .ok (.getfield 21, 3) := by decide +kernel
theorem dX9_energy_29 : decode cX9_energy 29 = .ok (.iload_n 1, 1) := by decide +kernel
theorem dX9_energy_30 : decode cX9_energy 30 = .ok (.laload, 1) := by decide +kernel
theorem dX9_energy_31 : decode cX9_energy 31 = .ok (.lreturn, 1) := by decide +kernel
theorem dX9_feed_0 : decode cX9_feed 0 = .ok (.iload_n 1, 1) := by decide +kernel
theorem dX9_feed_1 : decode cX9_feed 1 = .ok (.iconst 0, 1) := by decide +kernel
theorem dX9_feed_2 : decode cX9_feed 2 = .ok (.bipush 127, 2) := by decide +kernel
theorem dX9_feed_4 : decode cX9_feed 4 = .ok (.invokestatic 55, 3) := by decide +kernel
theorem dX9_feed_7 : decode cX9_feed 7 = .ok (.ifCond .ne 6, 3) := by decide +kernel
theorem dX9_feed_10 : decode cX9_feed 10 = .ok (.bipush (-2), 2) := by decide +kernel
theorem dX9_feed_12 : decode cX9_feed 12 = .ok (.ireturn, 1) := by decide +kernel
theorem dX9_feed_13 : decode cX9_feed 13 = .ok (.aload_n 0, 1) := by decide +kernel
theorem dX9_feed_14 : decode cX9_feed 14 = .ok (.getfield 108, 3) := by decide +kernel
theorem dX9_feed_17 : decode cX9_feed 17 = .ok (.bipush 100, 2) := by decide +kernel
theorem dX9_feed_19 : decode cX9_feed 19 = .ok (.if_icmp .ne 6, 3) := by decide +kernel
theorem dX9_feed_22 : decode cX9_feed 22 = .ok (.bipush (-4), 2) := by decide +kernel
theorem dX9_feed_24 : decode cX9_feed 24 = .ok (.ireturn, 1) := by decide +kernel
theorem dX9_feed_25 : decode cX9_feed 25 = .ok (.aload_n 0, 1) := by decide +kernel
theorem dX9_feed_26 : decode cX9_feed 26 = .ok (.getfield 34, 3) := by decide +kernel
theorem dX9_feed_29 : decode cX9_feed 29 = .ok (.aload_n 0, 1) := by decide +kernel
theorem dX9_feed_30 : decode cX9_feed 30 = .ok (.dup, 1) := by decide +kernel
theorem dX9_feed_31 : decode cX9_feed 31 = .ok (.getfield 108, 3) := by decide +kernel
theorem dX9_feed_34 : decode cX9_feed 34 = .ok (.dup_x1, 1) := by decide +kernel
theorem dX9_feed_35 : decode cX9_feed 35 = .ok (.iconst 1, 1) := by decide +kernel
theorem dX9_feed_36 : decode cX9_feed 36 = .ok (.iadd, 1) := by decide +kernel
theorem dX9_feed_37 : decode cX9_feed 37 = .ok (.putfield 108, 3) := by decide +kernel
theorem dX9_feed_40 : decode cX9_feed 40 = .ok (.iload_n 1, 1) := by decide +kernel
theorem dX9_feed_41 : decode cX9_feed 41 = .ok (.iastore, 1) := by decide +kernel
theorem dX9_feed_42 : decode cX9_feed 42 = .ok (.aload_n 0, 1) := by decide +kernel
theorem dX9_feed_43 : decode cX9_feed 43 = .ok (.getfield 108, 3) := by decide +kernel
theorem dX9_feed_46 : decode cX9_feed 46 = .ok (.ireturn, 1) := by decide +kernel
theorem dX9_isFrom_0 : decode cX9_isFrom 0 = .ok (.aload_n 0, 1) := by decide +kernel
theorem dX9_isFrom_1 : decode cX9_isFrom 1 = .ok (.getfield 111, 3) := by decide +kernel
theorem dX9_isFrom_4 : decode cX9_isFrom 4 = .ok (.aload_n 0, 1) := by decide +kernel
theorem dX9_isFrom_5 : decode cX9_isFrom 5 = .ok (.getfield 108, 3) := by decide +kernel
theorem dX9_isFrom_8 : decode cX9_isFrom 8 = .ok (.if_icmp .ge 24, 3) := by decide +kernel
theorem dX9_isFrom_11 : decode cX9_isFrom 11 = .ok (.aload_n 0, 1) := by decide +kernel
theorem dX9_isFrom_12 : decode cX9_isFrom 12 = .ok (.getfield 34, 3) := by decide +kernel
theorem dX9_isFrom_15 : decode cX9_isFrom 15 = .ok (.aload_n 0, 1) := by decide +kernel
theorem dX9_isFrom_16 : decode cX9_isFrom 16 = .ok (.getfield 111, 3) := by decide +kernel
theorem dX9_isFrom_19 : decode cX9_isFrom 19 = .ok (.iaload, 1) := by decide +kernel
theorem dX9_isFrom_20 : decode cX9_isFrom 20 = .ok (.iload_n 1, 1) := by decide +kernel
theorem dX9_isFrom_21 : decode cX9_isFrom 21 = .ok (.iload_n 2, 1) := by decide +kernel
theorem dX9_isFrom_22 : decode cX9_isFrom 22 = .ok (.invokestatic 55, 3) := by decide +kernel
theorem dX9_isFrom_25 : decode cX9_isFrom 25 = .ok (.ifCond .eq 7, 3) := by decide +kernel
theorem dX9_isFrom_28 : decode cX9_isFrom 28 = .ok (.iconst 1, 1) := by decide +kernel
theorem dX9_isFrom_29 : decode cX9_isFrom 29 = .ok (.goto 4, 3) := by decide +kernel
theorem dX9_isFrom_32 : decode cX9_isFrom 32 = .ok (.iconst 0, 1) := by decide +kernel
theorem dX9_isFrom_33 : decode cX9_isFrom 33 = .ok (.ireturn, 1) := by decide +kernel
theorem dX9_letter_0 : decode cX9_letter 0 = .ok (.iload_n 0, 1) := by decide +kernel
theorem dX9_letter_1 : decode cX9_letter 1 = .ok (.bipush 97, 2) := by decide +kernel
theorem dX9_letter_3 : decode cX9_letter 3 = .ok (.if_icmp .ne 7, 3) := by decide +kernel
theorem dX9_letter_6 : decode cX9_letter 6 = .ok (.iconst 0, 1) := by decide +kernel
theorem dX9_letter_7 : decode cX9_letter 7 = .ok (.goto 87, 3) := by decide +kernel
theorem dX9_letter_10 : decode cX9_letter 10 = .ok (.iload_n 0, 1) := by decide +kernel
theorem dX9_letter_11 : decode cX9_letter 11 = .ok (.bipush 118, 2) := by decide +kernel
theorem dX9_letter_13 : decode cX9_letter 13 = .ok (.if_icmp .ne 7, 3) := by decide +kernel
theorem dX9_letter_16 : decode cX9_letter 16 = .ok (.iconst 1, 1) := by decide +kernel
theorem dX9_letter_17 : decode cX9_letter 17 = .ok (.goto 77, 3) := by decide +kernel
theorem dX9_letter_20 : decode cX9_letter 20 = .ok (.iload_n 0, 1) := by decide +kernel
theorem dX9_letter_21 : decode cX9_letter 21 = .ok (.bipush 115, 2) := by decide +kernel
theorem dX9_letter_23 : decode cX9_letter 23 = .ok (.if_icmp .ne 7, 3) := by decide +kernel
theorem dX9_letter_26 : decode cX9_letter 26 = .ok (.iconst 2, 1) := by decide +kernel
theorem dX9_letter_27 : decode cX9_letter 27 = .ok (.goto 67, 3) := by decide +kernel
theorem dX9_letter_30 : decode cX9_letter 30 = .ok (.iload_n 0, 1) := by decide +kernel
theorem dX9_letter_31 : decode cX9_letter 31 = .ok (.bipush 103, 2) := by decide +kernel
theorem dX9_letter_33 : decode cX9_letter 33 = .ok (.if_icmp .ne 7, 3) := by decide +kernel
theorem dX9_letter_36 : decode cX9_letter 36 = .ok (.iconst 3, 1) := by decide +kernel
theorem dX9_letter_37 : decode cX9_letter 37 = .ok (.goto 57, 3) := by decide +kernel
theorem dX9_letter_40 : decode cX9_letter 40 = .ok (.iload_n 0, 1) := by decide +kernel
theorem dX9_letter_41 : decode cX9_letter 41 = .ok (.bipush 111, 2) := by decide +kernel
theorem dX9_letter_43 : decode cX9_letter 43 = .ok (.if_icmp .ne 7, 3) := by decide +kernel
theorem dX9_letter_46 : decode cX9_letter 46 = .ok (.iconst 4, 1) := by decide +kernel
theorem dX9_letter_47 : decode cX9_letter 47 = .ok (.goto 47, 3) := by decide +kernel
theorem dX9_letter_50 : decode cX9_letter 50 = .ok (.iload_n 0, 1) := by decide +kernel
theorem dX9_letter_51 : decode cX9_letter 51 = .ok (.bipush 102, 2) := by decide +kernel
theorem dX9_letter_53 : decode cX9_letter 53 = .ok (.if_icmp .ne 7, 3) := by decide +kernel
theorem dX9_letter_56 : decode cX9_letter 56 = .ok (.iconst 5, 1) := by decide +kernel
theorem dX9_letter_57 : decode cX9_letter 57 = .ok (.goto 37, 3) := by decide +kernel
theorem dX9_letter_60 : decode cX9_letter 60 = .ok (.iload_n 0, 1) := by decide +kernel
theorem dX9_letter_61 : decode cX9_letter 61 = .ok (.bipush 108, 2) := by decide +kernel
theorem dX9_letter_63 : decode cX9_letter 63 = .ok (.if_icmp .ne 8, 3) := by decide +kernel
theorem dX9_letter_66 : decode cX9_letter 66 = .ok (.bipush 6, 2) := by decide +kernel
theorem dX9_letter_68 : decode cX9_letter 68 = .ok (.goto 26, 3) := by decide +kernel
theorem dX9_letter_71 : decode cX9_letter 71 = .ok (.iload_n 0, 1) := by decide +kernel
theorem dX9_letter_72 : decode cX9_letter 72 = .ok (.bipush 119, 2) := by decide +kernel
theorem dX9_letter_74 : decode cX9_letter 74 = .ok (.if_icmp .ne 8, 3) := by decide +kernel
theorem dX9_letter_77 : decode cX9_letter 77 = .ok (.bipush 7, 2) := by decide +kernel
theorem dX9_letter_79 : decode cX9_letter 79 = .ok (.goto 15, 3) := by decide +kernel
theorem dX9_letter_82 : decode cX9_letter 82 = .ok (.iload_n 0, 1) := by decide +kernel
theorem dX9_letter_83 : decode cX9_letter 83 = .ok (.bipush 116, 2) := by decide +kernel
theorem dX9_letter_85 : decode cX9_letter 85 = .ok (.if_icmp .ne 8, 3) := by decide +kernel
theorem dX9_letter_88 : decode cX9_letter 88 = .ok (.bipush 8, 2) := by decide +kernel
theorem dX9_letter_90 : decode cX9_letter 90 = .ok (.goto 4, 3) := by decide +kernel
theorem dX9_letter_93 : decode cX9_letter 93 = .ok (.iconst (-1), 1) := by decide +kernel
theorem dX9_letter_94 : decode cX9_letter 94 = .ok (.ireturn, 1) := by decide +kernel
theorem dX9_reads_0 : decode cX9_reads 0 = .ok (.aload_n 0, 1) := by decide +kernel
theorem dX9_reads_1 : decode cX9_reads 1 = .ok (.getfield 111, 3) := by decide +kernel
theorem dX9_reads_4 : decode cX9_reads 4 = .ok (.aload_n 0, 1) := by decide +kernel
theorem dX9_reads_5 : decode cX9_reads 5 = .ok (.getfield 108, 3) := by decide +kernel
theorem dX9_reads_8 : decode cX9_reads 8 = .ok (.if_icmp .ge 18, 3) := by decide +kernel
theorem dX9_reads_11 : decode cX9_reads 11 = .ok (.aload_n 0, 1) := by decide +kernel
theorem dX9_reads_12 : decode cX9_reads 12 = .ok (.getfield 34, 3) := by decide +kernel
theorem dX9_reads_15 : decode cX9_reads 15 = .ok (.aload_n 0, 1) := by decide +kernel
theorem dX9_reads_16 : decode cX9_reads 16 = .ok (.getfield 111, 3) := by decide +kernel
theorem dX9_reads_19 : decode cX9_reads 19 = .ok (.iaload, 1) := by decide +kernel
theorem dX9_reads_20 : decode cX9_reads 20 = .ok (.invokestatic 114, 3) := by decide +kernel
theorem dX9_reads_23 : decode cX9_reads 23 = .ok (.goto 4, 3) := by decide +kernel
theorem dX9_reads_26 : decode cX9_reads 26 = .ok (.iconst (-1), 1) := by decide +kernel
theorem dX9_reads_27 : decode cX9_reads 27 = .ok (.istore_n 1, 1) := by decide +kernel
theorem dX9_reads_28 : decode cX9_reads 28 = .ok (.iload_n 1, 1) := by decide +kernel
theorem dX9_reads_29 : decode cX9_reads 29 = .ok (.iconst (-1), 1) := by decide +kernel
theorem dX9_reads_30 : decode cX9_reads 30 = .ok (.if_icmp .ne 12, 3) := by decide +kernel
theorem dX9_reads_33 : decode cX9_reads 33 = .ok (.aload_n 0, 1) := by decide +kernel
theorem dX9_reads_34 : decode cX9_reads 34 = .ok (.aload_n 0, 1) := by decide +kernel
theorem dX9_reads_35 : decode cX9_reads 35 = .ok (.getfield 111, 3) := by decide +kernel
theorem dX9_reads_38 : decode cX9_reads 38 = .ok (.putfield 118, 3) := by decide +kernel
theorem dX9_reads_41 : decode cX9_reads 41 = .ok (.return_, 1) := by decide +kernel
theorem dX9_reads_42 : decode cX9_reads 42 = .ok (.aload_n 0, 1) := by decide +kernel
theorem dX9_reads_43 : decode cX9_reads 43 = .ok (.dup, 1) := by decide +kernel
theorem dX9_reads_44 : decode cX9_reads 44 = .ok (.getfield 111, 3) := by decide +kernel
theorem dX9_reads_47 : decode cX9_reads 47 = .ok (.iconst 1, 1) := by decide +kernel
theorem dX9_reads_48 : decode cX9_reads 48 = .ok (.iadd, 1) := by decide +kernel
theorem dX9_reads_49 : decode cX9_reads 49 = .ok (.putfield 111, 3) := by decide +kernel
theorem dX9_reads_52 : decode cX9_reads 52 = .ok (.aload_n 0, 1) := by decide +kernel
theorem dX9_reads_53 : decode cX9_reads 53 = .ok (.bipush 45, 2) := by decide +kernel
theorem dX9_reads_55 : decode cX9_reads 55 = .ok (.bipush 45, 2) := by decide +kernel
theorem dX9_reads_57 : decode cX9_reads 57 = .ok (.invokevirtual 121, 3) := by decide +kernel
theorem dX9_reads_60 : decode cX9_reads 60 = .ok (.istore_n 2, 1) := by decide +kernel
theorem dX9_reads_61 : decode cX9_reads 61 = .ok (.iload_n 2, 1) := by decide +kernel
theorem dX9_reads_62 : decode cX9_reads 62 = .ok (.ifCond .eq 13, 3) := by decide +kernel
theorem dX9_reads_65 : decode cX9_reads 65 = .ok (.aload_n 0, 1) := by decide +kernel
theorem dX9_reads_66 : decode cX9_reads 66 = .ok (.dup, 1) := by decide +kernel
theorem dX9_reads_67 : decode cX9_reads 67 = .ok (.getfield 111, 3) := by decide +kernel
theorem dX9_reads_70 : decode cX9_reads 70 = .ok (.iconst 1, 1) := by decide +kernel
theorem dX9_reads_71 : decode cX9_reads 71 = .ok (.iadd, 1) := by decide +kernel
theorem dX9_reads_72 : decode cX9_reads 72 = .ok (.putfield 111, 3) := by decide +kernel
theorem dX9_reads_75 : decode cX9_reads 75 = .ok (.iconst 0, 1) := by decide +kernel
theorem dX9_reads_76 : decode cX9_reads 76 = .ok (.istore_n 3, 1) := by decide +kernel
theorem dX9_reads_77 : decode cX9_reads 77 = .ok (.iconst 0, 1) := by decide +kernel
theorem dX9_reads_78 : decode cX9_reads 78 = .ok (.istore 4, 2) := by decide +kernel
theorem dX9_reads_80 : decode cX9_reads 80 = .ok (.iload 4, 2) := by decide +kernel
theorem dX9_reads_82 : decode cX9_reads 82 = .ok (.iconst 3, 1) := by decide +kernel
theorem dX9_reads_83 : decode cX9_reads 83 = .ok (.if_icmp .ge 48, 3) := by decide +kernel
theorem dX9_reads_86 : decode cX9_reads 86 = .ok (.aload_n 0, 1) := by decide +kernel
theorem dX9_reads_87 : decode cX9_reads 87 = .ok (.bipush 48, 2) := by decide +kernel
theorem dX9_reads_89 : decode cX9_reads 89 = .ok (.bipush 57, 2) := by decide +kernel
theorem dX9_reads_91 : decode cX9_reads 91 = .ok (.invokevirtual 121, 3) := by decide +kernel
theorem dX9_reads_94 : decode cX9_reads 94 = .ok (.ifCond .eq 37, 3) := by decide +kernel
theorem dX9_reads_97 : decode cX9_reads 97 = .ok (.bipush 10, 2) := by decide +kernel
theorem dX9_reads_99 : decode cX9_reads 99 = .ok (.iload_n 3, 1) := by decide +kernel
theorem dX9_reads_100 : decode cX9_reads 100 = .ok (.imul, 1) := by decide +kernel
theorem dX9_reads_101 : decode cX9_reads 101 = .ok (.aload_n 0, 1) := by decide +kernel
theorem dX9_reads_102 : decode cX9_reads 102 = .ok (.getfield 34, 3) := by decide +kernel
theorem dX9_reads_105 : decode cX9_reads 105 = .ok (.aload_n 0, 1) := by decide +kernel
theorem dX9_reads_106 : decode cX9_reads 106 = .ok (.getfield 111, 3) := by decide +kernel
theorem dX9_reads_109 : decode cX9_reads 109 = .ok (.iaload, 1) := by decide +kernel
theorem dX9_reads_110 : decode cX9_reads 110 = .ok (.iadd, 1) := by decide +kernel
theorem dX9_reads_111 : decode cX9_reads 111 = .ok (.bipush 48, 2) := by decide +kernel
theorem dX9_reads_113 : decode cX9_reads 113 = .ok (.isub, 1) := by decide +kernel
theorem dX9_reads_114 : decode cX9_reads 114 = .ok (.istore_n 3, 1) := by decide +kernel
theorem dX9_reads_115 : decode cX9_reads 115 = .ok (.aload_n 0, 1) := by decide +kernel
theorem dX9_reads_116 : decode cX9_reads 116 = .ok (.dup, 1) := by decide +kernel
theorem dX9_reads_117 : decode cX9_reads 117 = .ok (.getfield 111, 3) := by decide +kernel
theorem dX9_reads_120 : decode cX9_reads 120 = .ok (.iconst 1, 1) := by decide +kernel
theorem dX9_reads_121 : decode cX9_reads 121 = .ok (.iadd, 1) := by decide +kernel
theorem dX9_reads_122 : decode cX9_reads 122 = .ok (.putfield 111, 3) := by decide +kernel
theorem dX9_reads_125 : decode cX9_reads 125 = .ok (.iinc 4 1, 3) := by decide +kernel
theorem dX9_reads_128 : decode cX9_reads 128 = .ok (.goto (-48), 3) := by decide +kernel
theorem dX9_reads_131 : decode cX9_reads 131 = .ok (.iload 4, 2) := by decide +kernel
theorem dX9_reads_133 : decode cX9_reads 133 = .ok (.ifCond .ne 12, 3) := by decide +kernel
theorem dX9_reads_136 : decode cX9_reads 136 = .ok (.aload_n 0, 1) := by decide +kernel
theorem dX9_reads_137 : decode cX9_reads 137 = .ok (.aload_n 0, 1) := by decide +kernel
theorem dX9_reads_138 : decode cX9_reads 138 = .ok (.getfield 111, 3) := by decide +kernel
theorem dX9_reads_141 : decode cX9_reads 141 = .ok (.putfield 118, 3) := by decide +kernel
theorem dX9_reads_144 : decode cX9_reads 144 = .ok (.return_, 1) := by decide +kernel
theorem dX9_reads_145 : decode cX9_reads 145 = .ok (.aload_n 0, 1) := by decide +kernel
theorem dX9_reads_146 : decode cX9_reads 146 = .ok (.getfield 37, 3) := by decide +kernel
theorem dX9_reads_149 : decode cX9_reads 149 = .ok (.aload_n 0, 1) := by decide +kernel
theorem dX9_reads_150 : decode cX9_reads 150 = .ok (.getfield 124, 3) := by decide +kernel
theorem dX9_reads_153 : decode cX9_reads 153 = .ok (.iload_n 1, 1) := by decide +kernel
theorem dX9_reads_154 : decode cX9_reads 154 = .ok (.iastore, 1) := by decide +kernel
theorem dX9_reads_155 : decode cX9_reads 155 = .ok (.aload_n 0, 1) := by decide +kernel
theorem dX9_reads_156 : decode cX9_reads 156 = .ok (.getfield 40, 3) := by decide +kernel
theorem dX9_reads_159 : decode cX9_reads 159 = .ok (.aload_n 0, 1) := by decide +kernel
theorem dX9_reads_160 : decode cX9_reads 160 = .ok (.getfield 124, 3) := by decide +kernel
theorem dX9_reads_163 : decode cX9_reads 163 = .ok (.iload_n 2, 1) := by decide +kernel
theorem dX9_reads_164 : decode cX9_reads 164 = .ok (.ifCond .eq 8, 3) := by decide +kernel
theorem dX9_reads_167 : decode cX9_reads 167 = .ok (.iload_n 3, 1) := by decide +kernel
theorem dX9_reads_168 : decode cX9_reads 168 = .ok (.ineg, 1) := by decide +kernel
theorem dX9_reads_169 : decode cX9_reads 169 = .ok (.goto 4, 3) := by decide +kernel
theorem dX9_reads_172 : decode cX9_reads 172 = .ok (.iload_n 3, 1) := by decide +kernel
theorem dX9_reads_173 : decode cX9_reads 173 = .ok (.iastore, 1) := by decide +kernel
theorem dX9_reads_174 : decode cX9_reads 174 = .ok (.aload_n 0, 1) := by decide +kernel
theorem dX9_reads_175 : decode cX9_reads 175 = .ok (.dup, 1) := by decide +kernel
theorem dX9_reads_176 : decode cX9_reads 176 = .ok (.getfield 124, 3) := by decide +kernel
theorem dX9_reads_179 : decode cX9_reads 179 = .ok (.iconst 1, 1) := by decide +kernel
theorem dX9_reads_180 : decode cX9_reads 180 = .ok (.iadd, 1) := by decide +kernel
theorem dX9_reads_181 : decode cX9_reads 181 = .ok (.putfield 124, 3) := by decide +kernel
theorem dX9_reads_184 : decode cX9_reads 184 = .ok (.return_, 1) := by decide +kernel
theorem dX9_does_0 : decode cX9_does 0 = .ok (.aload_n 0, 1) := by decide +kernel
theorem dX9_does_1 : decode cX9_does 1 = .ok (.getfield 40, 3) := by decide +kernel
theorem dX9_does_4 : decode cX9_does 4 = .ok (.iload_n 1, 1) := by decide +kernel
theorem dX9_does_5 : decode cX9_does 5 = .ok (.iaload, 1) := by decide +kernel
theorem dX9_does_6 : decode cX9_does 6 = .ok (.istore_n 2, 1) := by decide +kernel
theorem dX9_does_7 : decode cX9_does 7 = .ok (.aload_n 0, 1) := by decide +kernel
theorem dX9_does_8 : decode cX9_does 8 = .ok (.getfield 37, 3) := by decide +kernel
theorem dX9_does_11 : decode cX9_does 11 = .ok (.iload_n 1, 1) := by decide +kernel
theorem dX9_does_12 : decode cX9_does 12 = .ok (.iaload, 1) := by decide +kernel
theorem dX9_does_13 : decode cX9_does 13 = .ok (.bipush 7, 2) := by decide +kernel
theorem dX9_does_15 : decode cX9_does 15 = .ok (.if_icmp .ge 26, 3) := by decide +kernel
theorem dX9_does_18 : decode cX9_does 18 = .ok (.aload_n 0, 1) := by decide +kernel
theorem dX9_does_19 : decode cX9_does 19 = .ok (.aload_n 0, 1) := by decide +kernel
theorem dX9_does_20 : decode cX9_does 20 = .ok (.getfield 37, 3) := by decide +kernel
theorem dX9_does_23 : decode cX9_does 23 = .ok (.iload_n 1, 1) := by decide +kernel
theorem dX9_does_24 : decode cX9_does 24 = .ok (.iaload, 1) := by decide +kernel
theorem dX9_does_25 : decode cX9_does 25 = .ok (.iload_n 2, 1) := by decide +kernel
theorem dX9_does_26 : decode cX9_does 26 = .ok (.invokevirtual 127, 3) := by decide +kernel
theorem dX9_does_29 : decode cX9_does 29 = .ok (.sipush (-1000), 3) := by decide +kernel
theorem dX9_does_32 : decode cX9_does 32 = .ok (.if_icmp .le 7, 3) := by decide +kernel
theorem dX9_does_35 : decode cX9_does 35 = .ok (.iconst 1, 1) := by decide +kernel
theorem dX9_does_36 : decode cX9_does 36 = .ok (.goto 4, 3) := by decide +kernel
theorem dX9_does_39 : decode cX9_does 39 = .ok (.iconst 0, 1) := by decide +kernel
theorem dX9_does_40 : decode cX9_does 40 = .ok (.ireturn, 1) := by decide +kernel
theorem dX9_does_41 : decode cX9_does 41 = .ok (.aload_n 0, 1) := by decide +kernel
theorem dX9_does_42 : decode cX9_does 42 = .ok (.getfield 37, 3) := by decide +kernel
theorem dX9_does_45 : decode cX9_does 45 = .ok (.iload_n 1, 1) := by decide +kernel
theorem dX9_does_46 : decode cX9_does 46 = .ok (.iaload, 1) := by decide +kernel
theorem dX9_does_47 : decode cX9_does 47 = .ok (.bipush 7, 2) := by decide +kernel
theorem dX9_does_49 : decode cX9_does 49 = .ok (.if_icmp .ne 19, 3) := by decide +kernel
theorem dX9_does_52 : decode cX9_does 52 = .ok (.aload_n 0, 1) := by decide +kernel
theorem dX9_does_53 : decode cX9_does 53 = .ok (.iload_n 2, 1) := by decide +kernel
theorem dX9_does_54 : decode cX9_does 54 = .ok (.invokevirtual 130, 3) := by decide +kernel
theorem dX9_does_57 : decode cX9_does 57 = .ok (.ifCond .lt 7, 3) := by decide +kernel
theorem dX9_does_60 : decode cX9_does 60 = .ok (.iconst 1, 1) := by decide +kernel
theorem dX9_does_61 : decode cX9_does 61 = .ok (.goto 20, 3) := by decide +kernel
theorem dX9_does_64 : decode cX9_does 64 = .ok (.iconst 0, 1) := by decide +kernel
theorem dX9_does_65 : decode cX9_does 65 = .ok (.goto 16, 3) := by decide +kernel
theorem dX9_does_68 : decode cX9_does 68 = .ok (.aload_n 0, 1) := by decide +kernel
theorem dX9_does_69 : decode cX9_does 69 = .ok (.iload_n 2, 1) := by decide +kernel
theorem dX9_does_70 : decode cX9_does 70 = .ok (.invokevirtual 133, 3) := by decide +kernel
theorem dX9_does_73 : decode cX9_does 73 = .ok (.ifCond .lt 7, 3) := by decide +kernel
theorem dX9_does_76 : decode cX9_does 76 = .ok (.iconst 1, 1) := by decide +kernel
theorem dX9_does_77 : decode cX9_does 77 = .ok (.goto 4, 3) := by decide +kernel
theorem dX9_does_80 : decode cX9_does 80 = .ok (.iconst 0, 1) := by decide +kernel
theorem dX9_does_81 : decode cX9_does 81 = .ok (.ireturn, 1) := by decide +kernel
theorem dX9_read_0 : decode cX9_read 0 = .ok (.aload_n 0, 1) := by decide +kernel
theorem dX9_read_1 : decode cX9_read 1 = .ok (.iconst 0, 1) := by decide +kernel
theorem dX9_read_2 : decode cX9_read 2 = .ok (.putfield 111, 3) := by decide +kernel
theorem dX9_read_5 : decode cX9_read 5 = .ok (.aload_n 0, 1) := by decide +kernel
theorem dX9_read_6 : decode cX9_read 6 = .ok (.iconst (-1), 1) := by decide +kernel
theorem dX9_read_7 : decode cX9_read 7 = .ok (.putfield 118, 3) := by decide +kernel
theorem dX9_read_10 : decode cX9_read 10 = .ok (.aload_n 0, 1) := by decide +kernel
theorem dX9_read_11 : decode cX9_read 11 = .ok (.iconst 0, 1) := by decide +kernel
theorem dX9_read_12 : decode cX9_read 12 = .ok (.putfield 124, 3) := by decide +kernel
theorem dX9_read_15 : decode cX9_read 15 = .ok (.aload_n 0, 1) := by decide +kernel
theorem dX9_read_16 : decode cX9_read 16 = .ok (.invokevirtual 136, 3) := by decide +kernel
theorem dX9_read_19 : decode cX9_read 19 = .ok (.aload_n 0, 1) := by decide +kernel
theorem dX9_read_20 : decode cX9_read 20 = .ok (.getfield 118, 3) := by decide +kernel
theorem dX9_read_23 : decode cX9_read 23 = .ok (.ifCond .ge 69, 3) := by decide +kernel
theorem dX9_read_26 : decode cX9_read 26 = .ok (.aload_n 0, 1) := by decide +kernel
theorem dX9_read_27 : decode cX9_read 27 = .ok (.getfield 111, 3) := by decide +kernel
theorem dX9_read_30 : decode cX9_read 30 = .ok (.aload_n 0, 1) := by decide +kernel
theorem dX9_read_31 : decode cX9_read 31 = .ok (.getfield 108, 3) := by decide +kernel
theorem dX9_read_34 : decode cX9_read 34 = .ok (.if_icmp .ge 58, 3) := by decide +kernel
theorem dX9_read_37 : decode cX9_read 37 = .ok (.aload_n 0, 1) := by decide +kernel
theorem dX9_read_38 : decode cX9_read 38 = .ok (.getfield 34, 3) := by decide +kernel
theorem dX9_read_41 : decode cX9_read 41 = .ok (.aload_n 0, 1) := by decide +kernel
theorem dX9_read_42 : decode cX9_read 42 = .ok (.getfield 111, 3) := by decide +kernel
theorem dX9_read_45 : decode cX9_read 45 = .ok (.iaload, 1) := by decide +kernel
theorem dX9_read_46 : decode cX9_read 46 = .ok (.bipush 59, 2) := by decide +kernel
theorem dX9_read_48 : decode cX9_read 48 = .ok (.if_icmp .ne 12, 3) := by decide +kernel
theorem dX9_read_51 : decode cX9_read 51 = .ok (.aload_n 0, 1) := by decide +kernel
theorem dX9_read_52 : decode cX9_read 52 = .ok (.getfield 124, 3) := by decide +kernel
theorem dX9_read_55 : decode cX9_read 55 = .ok (.bipush 12, 2) := by decide +kernel
theorem dX9_read_57 : decode cX9_read 57 = .ok (.if_icmp .ne 11, 3) := by decide +kernel
theorem dX9_read_60 : decode cX9_read 60 = .ok (.aload_n 0, 1) := by decide +kernel
theorem dX9_read_61 : decode cX9_read 61 = .ok (.aload_n 0, 1) := by decide +kernel
theorem dX9_read_62 : decode cX9_read 62 = .ok (.getfield 111, 3) := by decide +kernel
theorem dX9_read_65 : decode cX9_read 65 = .ok (.putfield 118, 3) := by decide +kernel
theorem dX9_read_68 : decode cX9_read 68 = .ok (.aload_n 0, 1) := by decide +kernel
theorem dX9_read_69 : decode cX9_read 69 = .ok (.dup, 1) := by decide +kernel
theorem dX9_read_70 : decode cX9_read 70 = .ok (.getfield 111, 3) := by decide +kernel
theorem dX9_read_73 : decode cX9_read 73 = .ok (.iconst 1, 1) := by decide +kernel
theorem dX9_read_74 : decode cX9_read 74 = .ok (.iadd, 1) := by decide +kernel
theorem dX9_read_75 : decode cX9_read 75 = .ok (.putfield 111, 3) := by decide +kernel
theorem dX9_read_78 : decode cX9_read 78 = .ok (.aload_n 0, 1) := by decide +kernel
theorem dX9_read_79 : decode cX9_read 79 = .ok (.getfield 118, 3) := by decide +kernel
theorem dX9_read_82 : decode cX9_read 82 = .ok (.ifCond .ge (-63), 3) := by decide +kernel
theorem dX9_read_85 : decode cX9_read 85 = .ok (.aload_n 0, 1) := by decide +kernel
theorem dX9_read_86 : decode cX9_read 86 = .ok (.invokevirtual 136, 3) := by decide +kernel
theorem dX9_read_89 : decode cX9_read 89 = .ok (.goto (-70), 3) := by decide +kernel
theorem dX9_read_92 : decode cX9_read 92 = .ok (.aload_n 0, 1) := by decide +kernel
theorem dX9_read_93 : decode cX9_read 93 = .ok (.iconst 0, 1) := by decide +kernel
theorem dX9_read_94 : decode cX9_read 94 = .ok (.putfield 108, 3) := by decide +kernel
theorem dX9_read_97 : decode cX9_read 97 = .ok (.aload_n 0, 1) := by decide +kernel
theorem dX9_read_98 : decode cX9_read 98 = .ok (.getfield 118, 3) := by decide +kernel
theorem dX9_read_101 : decode cX9_read 101 = .ok (.ifCond .lt 11, 3) := by decide +kernel
theorem dX9_read_104 : decode cX9_read 104 = .ok (.bipush (-10), 2) := by decide +kernel
theorem dX9_read_106 : decode cX9_read 106 = .ok (.aload_n 0, 1) := by decide +kernel
theorem dX9_read_107 : decode cX9_read 107 = .ok (.getfield 118, 3) := by decide +kernel
theorem dX9_read_110 : decode cX9_read 110 = .ok (.isub, 1) := by decide +kernel
theorem dX9_read_111 : decode cX9_read 111 = .ok (.ireturn, 1) := by decide +kernel
theorem dX9_read_112 : decode cX9_read 112 = .ok (.iconst 0, 1) := by decide +kernel
theorem dX9_read_113 : decode cX9_read 113 = .ok (.istore_n 1, 1) := by decide +kernel
theorem dX9_read_114 : decode cX9_read 114 = .ok (.iconst 0, 1) := by decide +kernel
theorem dX9_read_115 : decode cX9_read 115 = .ok (.istore_n 2, 1) := by decide +kernel
theorem dX9_read_116 : decode cX9_read 116 = .ok (.iload_n 2, 1) := by decide +kernel
theorem dX9_read_117 : decode cX9_read 117 = .ok (.aload_n 0, 1) := by decide +kernel
theorem dX9_read_118 : decode cX9_read 118 = .ok (.getfield 124, 3) := by decide +kernel
theorem dX9_read_121 : decode cX9_read 121 = .ok (.if_icmp .ge 20, 3) := by decide +kernel
theorem dX9_read_124 : decode cX9_read 124 = .ok (.aload_n 0, 1) := by decide +kernel
theorem dX9_read_125 : decode cX9_read 125 = .ok (.iload_n 2, 1) := by decide +kernel
theorem dX9_read_126 : decode cX9_read 126 = .ok (.invokevirtual 139, 3) := by decide +kernel
theorem dX9_read_129 : decode cX9_read 129 = .ok (.ifCond .eq 6, 3) := by decide +kernel
theorem dX9_read_132 : decode cX9_read 132 = .ok (.iinc 1 1, 3) := by decide +kernel
theorem dX9_read_135 : decode cX9_read 135 = .ok (.iinc 2 1, 3) := by decide +kernel
theorem dX9_read_138 : decode cX9_read 138 = .ok (.goto (-22), 3) := by decide +kernel
theorem dX9_read_141 : decode cX9_read 141 = .ok (.iload_n 1, 1) := by decide +kernel
theorem dX9_read_142 : decode cX9_read 142 = .ok (.ireturn, 1) := by decide +kernel
theorem dX9_pours_0 : decode cX9_pours 0 = .ok (.iconst 0, 1) := by decide +kernel
theorem dX9_pours_1 : decode cX9_pours 1 = .ok (.istore_n 2, 1) := by decide +kernel
theorem dX9_pours_2 : decode cX9_pours 2 = .ok (.iload_n 2, 1) := by decide +kernel
theorem dX9_pours_3 : decode cX9_pours 3 = .ok (.bipush 69, 2) := by decide +kernel
theorem dX9_pours_5 : decode cX9_pours 5 = .ok (.if_icmp .ge 15, 3) := by decide +kernel
theorem dX9_pours_8 : decode cX9_pours 8 = .ok (.aload_n 1, 1) := by decide +kernel
theorem dX9_pours_9 : decode cX9_pours 9 = .ok (.iload_n 2, 1) := by decide +kernel
theorem dX9_pours_10 : decode cX9_pours 10 = .ok (.aload_n 0, 1) := by decide +kernel
theorem dX9_pours_11 : decode cX9_pours 11 = .ok (.iload_n 2, 1) := by decide +kernel
theorem dX9_pours_12 : decode cX9_pours 12 = .ok (.iaload, 1) := by decide +kernel
theorem dX9_pours_13 : decode cX9_pours 13 = .ok (.iastore, 1) := by decide +kernel
theorem dX9_pours_14 : decode cX9_pours 14 = .ok (.iinc 2 1, 3) := by decide +kernel
theorem dX9_pours_17 : decode cX9_pours 17 = .ok (.goto (-15), 3) := by decide +kernel
theorem dX9_pours_20 : decode cX9_pours 20 = .ok (.return_, 1) := by decide +kernel
theorem dX9_poursLongs_0 : decode cX9_poursLongs 0 = .ok (.iconst 0, 1) := by decide +kernel
theorem dX9_poursLongs_1 : decode cX9_poursLongs 1 = .ok (.istore_n 2, 1) := by decide +kernel
theorem dX9_poursLongs_2 : decode cX9_poursLongs 2 = .ok (.iload_n 2, 1) := by decide +kernel
theorem dX9_poursLongs_3 : decode cX9_poursLongs 3 = .ok (.iconst 4, 1) := by decide +kernel
theorem dX9_poursLongs_4 : decode cX9_poursLongs 4 = .ok (.if_icmp .ge 15, 3) := by decide +kernel
theorem dX9_poursLongs_7 : decode cX9_poursLongs 7 = .ok (.aload_n 1, 1) := by decide +kernel
theorem dX9_poursLongs_8 : decode cX9_poursLongs 8 = .ok (.iload_n 2, 1) := by decide +kernel
theorem dX9_poursLongs_9 : decode cX9_poursLongs 9 = .ok (.aload_n 0, 1) := by decide +kernel
theorem dX9_poursLongs_10 : decode cX9_poursLongs 10 = .ok (.iload_n 2, 1) := by decide +kernel
theorem dX9_poursLongs_11 : decode cX9_poursLongs 11 = .ok (.laload, 1) := by decide +kernel
theorem dX9_poursLongs_12 : decode cX9_poursLongs 12 = .ok (.lastore, 1) := by decide +kernel
theorem dX9_poursLongs_13 : decode cX9_poursLongs 13 = .ok (.iinc 2 1, 3) := by decide +kernel
theorem dX9_poursLongs_16 : decode cX9_poursLongs 16 = .ok (.goto (-14), 3) := by decide +kernel
theorem dX9_poursLongs_19 : decode cX9_poursLongs 19 = .ok (.return_, 1) := by decide +kernel
theorem dX9_lays_0 : decode cX9_lays 0 = .ok (.aload_n 0, 1) := by decide +kernel
theorem dX9_lays_1 : decode cX9_lays 1 = .ok (.getfield 9, 3) := by decide +kernel
theorem dX9_lays_4 : decode cX9_lays 4 = .ok (.aload_n 0, 1) := by decide +kernel
theorem dX9_lays_5 : decode cX9_lays 5 = .ok (.getfield 18, 3) := by decide +kernel
theorem dX9_lays_8 : decode cX9_lays 8 = .ok (.invokestatic 143, 3) := by decide +kernel
theorem dX9_lays_11 : decode cX9_lays 11 = .ok (.aload_n 0, 1) := by decide +kernel
theorem dX9_lays_12 : decode cX9_lays 12 = .ok (.getfield 21, 3) := by decide +kernel
theorem dX9_lays_15 : decode cX9_lays 15 = .ok (.aload_n 0, 1) := by decide +kernel
theorem dX9_lays_16 : decode cX9_lays 16 = .ok (.getfield 28, 3) := by decide +kernel
theorem dX9_lays_19 : decode cX9_lays 19 = .ok (.invokestatic 147, 3) := by decide +kernel
theorem dX9_lays_22 : decode cX9_lays 22 = .ok (.return_, 1) := by decide +kernel
theorem dX9_back_0 : decode cX9_back 0 = .ok (.aload_n 0, 1) := by decide +kernel
theorem dX9_back_1 : decode cX9_back 1 = .ok (.getfield 18, 3) := by decide +kernel
theorem dX9_back_4 : decode cX9_back 4 = .ok (.aload_n 0, 1) := by decide +kernel
theorem dX9_back_5 : decode cX9_back 5 = .ok (.getfield 9, 3) := by decide +kernel
theorem dX9_back_8 : decode cX9_back 8 = .ok (.invokestatic 143, 3) := by decide +kernel
theorem dX9_back_11 : decode cX9_back 11 = .ok (.aload_n 0, 1) := by decide +kernel
theorem dX9_back_12 : decode cX9_back 12 = .ok (.getfield 28, 3) := by decide +kernel
theorem dX9_back_15 : decode cX9_back 15 = .ok (.aload_n 0, 1) := by decide +kernel
theorem dX9_back_16 : decode cX9_back 16 = .ok (.getfield 21, 3) := by decide +kernel
theorem dX9_back_19 : decode cX9_back 19 = .ok (.invokestatic 147, 3) := by decide +kernel
theorem dX9_back_22 : decode cX9_back 22 = .ok (.return_, 1) := by decide +kernel
theorem dX9_ahead_0 : decode cX9_ahead 0 = .ok (.iload_n 1, 1) := by decide +kernel
theorem dX9_ahead_1 : decode cX9_ahead 1 = .ok (.iconst 0, 1) := by decide +kernel
theorem dX9_ahead_2 : decode cX9_ahead 2 = .ok (.sipush 400, 3) := by decide +kernel
theorem dX9_ahead_5 : decode cX9_ahead 5 = .ok (.invokestatic 55, 3) := by decide +kernel
theorem dX9_ahead_8 : decode cX9_ahead 8 = .ok (.ifCond .eq 12, 3) := by decide +kernel
theorem dX9_ahead_11 : decode cX9_ahead 11 = .ok (.iload_n 2, 1) := by decide +kernel
theorem dX9_ahead_12 : decode cX9_ahead 12 = .ok (.iconst 0, 1) := by decide +kernel
theorem dX9_ahead_13 : decode cX9_ahead 13 = .ok (.iconst 5, 1) := by decide +kernel
theorem dX9_ahead_14 : decode cX9_ahead 14 = .ok (.invokestatic 55, 3) := by decide +kernel
theorem dX9_ahead_17 : decode cX9_ahead 17 = .ok (.ifCond .ne 7, 3) := by decide +kernel
theorem dX9_ahead_20 : decode cX9_ahead 20 = .ok (.sipush (-1000), 3) := by decide +kernel
theorem dX9_ahead_23 : decode cX9_ahead 23 = .ok (.ireturn, 1) := by decide +kernel
theorem dX9_ahead_24 : decode cX9_ahead 24 = .ok (.aload_n 0, 1) := by decide +kernel
theorem dX9_ahead_25 : decode cX9_ahead 25 = .ok (.invokevirtual 151, 3) := by decide +kernel
theorem dX9_ahead_28 : decode cX9_ahead 28 = .ok (.aload_n 0, 1) := by decide +kernel
theorem dX9_ahead_29 : decode cX9_ahead 29 = .ok (.iload_n 1, 1) := by decide +kernel
theorem dX9_ahead_30 : decode cX9_ahead 30 = .ok (.invokevirtual 96, 3) := by decide +kernel
theorem dX9_ahead_33 : decode cX9_ahead 33 = .ok (.iload_n 2, 1) := by decide +kernel
theorem dX9_ahead_34 : decode cX9_ahead 34 = .ok (.iconst 2, 1) := by decide +kernel
theorem dX9_ahead_35 : decode cX9_ahead 35 = .ok (.if_icmp .ge 12, 3) := by decide +kernel
theorem dX9_ahead_38 : decode cX9_ahead 38 = .ok (.aload_n 0, 1) := by decide +kernel
theorem dX9_ahead_39 : decode cX9_ahead 39 = .ok (.getfield 9, 3) := by decide +kernel
theorem dX9_ahead_42 : decode cX9_ahead 42 = .ok (.iload_n 2, 1) := by decide +kernel
theorem dX9_ahead_43 : decode cX9_ahead 43 = .ok (.iaload, 1) := by decide +kernel
theorem dX9_ahead_44 : decode cX9_ahead 44 = .ok (.goto 54, 3) := by decide +kernel
theorem dX9_ahead_47 : decode cX9_ahead 47 = .ok (.iload_n 2, 1) := by decide +kernel
theorem dX9_ahead_48 : decode cX9_ahead 48 = .ok (.iconst 2, 1) := by decide +kernel
theorem dX9_ahead_49 : decode cX9_ahead 49 = .ok (.if_icmp .ne 12, 3) := by decide +kernel
theorem dX9_ahead_52 : decode cX9_ahead 52 = .ok (.aload_n 0, 1) := by decide +kernel
theorem dX9_ahead_53 : decode cX9_ahead 53 = .ok (.getfield 9, 3) := by decide +kernel
theorem dX9_ahead_56 : decode cX9_ahead 56 = .ok (.iconst 5, 1) := by decide +kernel
theorem dX9_ahead_57 : decode cX9_ahead 57 = .ok (.iaload, 1) := by decide +kernel
theorem dX9_ahead_58 : decode cX9_ahead 58 = .ok (.goto 40, 3) := by decide +kernel
theorem dX9_ahead_61 : decode cX9_ahead 61 = .ok (.iload_n 2, 1) := by decide +kernel
theorem dX9_ahead_62 : decode cX9_ahead 62 = .ok (.iconst 3, 1) := by decide +kernel
theorem dX9_ahead_63 : decode cX9_ahead 63 = .ok (.if_icmp .ne 13, 3) := by decide +kernel
theorem dX9_ahead_66 : decode cX9_ahead 66 = .ok (.aload_n 0, 1) := by decide +kernel
theorem dX9_ahead_67 : decode cX9_ahead 67 = .ok (.getfield 9, 3) := by decide +kernel
theorem dX9_ahead_70 : decode cX9_ahead 70 = .ok (.bipush 9, 2) := by decide +kernel
theorem dX9_ahead_72 : decode cX9_ahead 72 = .ok (.iaload, 1) := by decide +kernel
theorem dX9_ahead_73 : decode cX9_ahead 73 = .ok (.goto 25, 3) := by decide +kernel
theorem dX9_ahead_76 : decode cX9_ahead 76 = .ok (.iload_n 2, 1) := by decide +kernel
theorem dX9_ahead_77 : decode cX9_ahead 77 = .ok (.iconst 4, 1) := by decide +kernel
theorem dX9_ahead_78 : decode cX9_ahead 78 = .ok (.if_icmp .ne 13, 3) := by decide +kernel
theorem dX9_ahead_81 : decode cX9_ahead 81 = .ok (.aload_n 0, 1) := by decide +kernel
theorem dX9_ahead_82 : decode cX9_ahead 82 = .ok (.getfield 9, 3) := by decide +kernel
theorem dX9_ahead_85 : decode cX9_ahead 85 = .ok (.bipush 10, 2) := by decide +kernel
theorem dX9_ahead_87 : decode cX9_ahead 87 = .ok (.iaload, 1) := by decide +kernel
theorem dX9_ahead_88 : decode cX9_ahead 88 = .ok (.goto 10, 3) := by decide +kernel
theorem dX9_ahead_91 : decode cX9_ahead 91 = .ok (.aload_n 0, 1) := by decide +kernel
theorem dX9_ahead_92 : decode cX9_ahead 92 = .ok (.getfield 9, 3) := by decide +kernel
theorem dX9_ahead_95 : decode cX9_ahead 95 = .ok (.bipush 7, 2) := by decide +kernel
theorem dX9_ahead_97 : decode cX9_ahead 97 = .ok (.iaload, 1) := by decide +kernel
theorem dX9_ahead_98 : decode cX9_ahead 98 = .ok (.istore_n 3, 1) := by decide +kernel
theorem dX9_ahead_99 : decode cX9_ahead 99 = .ok (.aload_n 0, 1) := by decide +kernel
theorem dX9_ahead_100 : decode cX9_ahead 100 = .ok (.invokevirtual 154, 3) := by decide +kernel
theorem dX9_ahead_103 : decode cX9_ahead 103 = .ok (.iload_n 3, 1) := by decide +kernel
theorem dX9_ahead_104 : decode cX9_ahead 104 = .ok (.ireturn, 1) := by decide +kernel
theorem dX9_energyAt_0 : decode cX9_energyAt 0 = .ok (.iload_n 1, 1) := by decide +kernel
theorem dX9_energyAt_1 : decode cX9_energyAt 1 = .ok (.iconst 0, 1) := by decide +kernel
theorem dX9_energyAt_2 : decode cX9_energyAt 2 = .ok (.sipush 400, 3) := by decide +kernel
theorem dX9_energyAt_5 : decode cX9_energyAt 5 = .ok (.invokestatic 55, 3) := by decide +kernel
theorem dX9_energyAt_8 : decode cX9_energyAt 8 = .ok (.ifCond .ne 7, 3) := by decide +kernel
theorem dX9_energyAt_11 : decode cX9_energyAt 11 = .ok (.ldc2_w 100, 3) := by decide +kernel
theorem dX9_energyAt_14 : decode cX9_energyAt 14 = .ok (.lreturn, 1) := by decide +kernel
theorem dX9_energyAt_15 : decode cX9_energyAt 15 = .ok (.aload_n 0, 1) := by decide +kernel
theorem dX9_energyAt_16 : decode cX9_energyAt 16 = .ok (.invokevirtual 151, 3) := by decide +kernel
theorem dX9_energyAt_19 : decode cX9_energyAt 19 = .ok (.aload_n 0, 1) := by decide +kernel
theorem dX9_energyAt_20 : decode cX9_energyAt 20 = .ok (.iload_n 1, 1) := by decide +kernel
theorem dX9_energyAt_21 : decode cX9_energyAt 21 = .ok (.invokevirtual 96, 3) := by decide +kernel
theorem dX9_energyAt_24 : decode cX9_energyAt 24 = .ok (.aload_n 0, 1) := by decide +kernel
theorem dX9_energyAt_25 : decode cX9_energyAt 25 = .ok (.invokevirtual 65, 3) := by decide +kernel
theorem dX9_energyAt_28 : decode cX9_energyAt 28 = .ok (.lstore_n 2, 1) := by decide +kernel
theorem dX9_energyAt_29 : decode cX9_energyAt 29 = .ok (.aload_n 0, 1) := by decide +kernel
theorem dX9_energyAt_30 : decode cX9_energyAt 30 = .ok (.invokevirtual 154, 3) := by decide +kernel
theorem dX9_energyAt_33 : decode cX9_energyAt 33 = .ok (.lload_n 2, 1) := by decide +kernel
theorem dX9_energyAt_34 : decode cX9_energyAt 34 = .ok (.lreturn, 1) := by decide +kernel
theorem dX9_hears_0 : decode cX9_hears 0 = .ok (.aload_n 0, 1) := by decide +kernel
theorem dX9_hears_1 : decode cX9_hears 1 = .ok (.invokevirtual 151, 3) := by decide +kernel
theorem dX9_hears_4 : decode cX9_hears 4 = .ok (.aload_n 0, 1) := by decide +kernel
theorem dX9_hears_5 : decode cX9_hears 5 = .ok (.getfield 9, 3) := by decide +kernel
theorem dX9_hears_8 : decode cX9_hears 8 = .ok (.iload_n 1, 1) := by decide +kernel
theorem dX9_hears_9 : decode cX9_hears 9 = .ok (.iload_n 2, 1) := by decide +kernel
theorem dX9_hears_10 : decode cX9_hears 10 = .ok (.iastore, 1) := by decide +kernel
theorem dX9_hears_11 : decode cX9_hears 11 = .ok (.aload_n 0, 1) := by decide +kernel
theorem dX9_hears_12 : decode cX9_hears 12 = .ok (.sipush 400, 3) := by decide +kernel
theorem dX9_hears_15 : decode cX9_hears 15 = .ok (.invokevirtual 96, 3) := by decide +kernel
theorem dX9_hears_18 : decode cX9_hears 18 = .ok (.aload_n 0, 1) := by decide +kernel
theorem dX9_hears_19 : decode cX9_hears 19 = .ok (.invokevirtual 154, 3) := by decide +kernel
theorem dX9_hears_22 : decode cX9_hears 22 = .ok (.return_, 1) := by decide +kernel
theorem dX9_hears__0 : decode cX9_hears_ 0 = .ok (.aload_n 0, 1) := by decide +kernel
theorem dX9_hears__1 : decode cX9_hears_ 1 = .ok (.iconst 0, 1) := by decide +kernel
theorem dX9_hears__2 : decode cX9_hears_ 2 = .ok (.aload_n 0, 1) := by decide +kernel
theorem dX9_hears__3 : decode cX9_hears_ 3 = .ok (.getfield 9, 3) := by decide +kernel
theorem dX9_hears__6 : decode cX9_hears_ 6 = .ok (.iconst 0, 1) := by decide +kernel
theorem dX9_hears__7 : decode cX9_hears_ 7 = .ok (.iaload, 1) := by decide +kernel
theorem dX9_hears__8 : decode cX9_hears_ 8 = .ok (.invokevirtual 157, 3) := by decide +kernel
theorem dX9_hears__11 : decode cX9_hears_ 11 = .ok (.return_, 1) := by decide +kernel
theorem dX9_heard_0 : decode cX9_heard 0 = .ok (.iload_n 1, 1) := by decide +kernel
theorem dX9_heard_1 : decode cX9_heard 1 = .ok (.ifCond .ge 5, 3) := by decide +kernel
theorem dX9_heard_4 : decode cX9_heard 4 = .ok (.iconst (-1), 1) := by decide +kernel
theorem dX9_heard_5 : decode cX9_heard 5 = .ok (.ireturn, 1) := by decide +kernel
theorem dX9_heard_6 : decode cX9_heard 6 = .ok (.aload_n 0, 1) := by decide +kernel
theorem dX9_heard_7 : decode cX9_heard 7 = .ok (.invokevirtual 161, 3) := by decide +kernel
theorem dX9_heard_10 : decode cX9_heard 10 = .ok (.iload_n 1, 1) := by decide +kernel
theorem dX9_heard_11 : decode cX9_heard 11 = .ok (.aload_n 0, 1) := by decide +kernel
theorem dX9_heard_12 : decode cX9_heard 12 = .ok (.getfield 86, 3) := by decide +kernel
theorem dX9_heard_15 : decode cX9_heard 15 = .ok (.if_icmp .ge 12, 3) := by decide +kernel
theorem dX9_heard_18 : decode cX9_heard 18 = .ok (.aload_n 0, 1) := by decide +kernel
theorem dX9_heard_19 : decode cX9_heard 19 = .ok (.getfield 31, 3) := by decide +kernel
theorem dX9_heard_22 : decode cX9_heard 22 = .ok (.iload_n 1, 1) := by decide +kernel
theorem dX9_heard_23 : decode cX9_heard 23 = .ok (.iaload, 1) := by decide +kernel
theorem dX9_heard_24 : decode cX9_heard 24 = .ok (.goto 5, 3) := by decide +kernel
theorem dX9_heard_27 : decode cX9_heard 27 = .ok (.bipush (-5), 2) := by decide +kernel
theorem dX9_heard_29 : decode cX9_heard 29 = .ok (.ireturn, 1) := by decide +kernel
theorem dX9_gaps_0 : decode cX9_gaps 0 = .ok (.iconst 0, 1) := by decide +kernel
theorem dX9_gaps_1 : decode cX9_gaps 1 = .ok (.aload_n 0, 1) := by decide +kernel
theorem dX9_gaps_2 : decode cX9_gaps 2 = .ok (.getfield 86, 3) := by decide +kernel
theorem dX9_gaps_5 : decode cX9_gaps 5 = .ok (.iconst 1, 1) := by decide +kernel
theorem dX9_gaps_6 : decode cX9_gaps 6 = .ok (.isub, 1) := by decide +kernel
theorem dX9_gaps_7 : decode cX9_gaps 7 = .ok (.invokestatic 76, 3) := by decide +kernel
theorem dX9_gaps_10 : decode cX9_gaps 10 = .ok (.ireturn, 1) := by decide +kernel
theorem dX9_gapOf_0 : decode cX9_gapOf 0 = .ok (.aload_n 0, 1) := by decide +kernel
theorem dX9_gapOf_1 : decode cX9_gapOf 1 = .ok (.getfield 31, 3) := by decide +kernel
theorem dX9_gapOf_4 : decode cX9_gapOf 4 = .ok (.iload_n 1, 1) := by decide +kernel
theorem dX9_gapOf_5 : decode cX9_gapOf 5 = .ok (.iconst 1, 1) := by decide +kernel
theorem dX9_gapOf_6 : decode cX9_gapOf 6 = .ok (.iadd, 1) := by decide +kernel
theorem dX9_gapOf_7 : decode cX9_gapOf 7 = .ok (.iaload, 1) := by decide +kernel
theorem dX9_gapOf_8 : decode cX9_gapOf 8 = .ok (.aload_n 0, 1) := by decide +kernel
theorem dX9_gapOf_9 : decode cX9_gapOf 9 = .ok (.getfield 31, 3) := by decide +kernel
theorem dX9_gapOf_12 : decode cX9_gapOf 12 = .ok (.iload_n 1, 1) := by decide +kernel
theorem dX9_gapOf_13 : decode cX9_gapOf 13 = .ok (.iaload, 1) := by decide +kernel
theorem dX9_gapOf_14 : decode cX9_gapOf 14 = .ok (.isub, 1) := by decide +kernel
theorem dX9_gapOf_15 : decode cX9_gapOf 15 = .ok (.ireturn, 1) := by decide +kernel
theorem dX9_uneven_0 : decode cX9_uneven 0 = .ok (.iconst 0, 1) := by decide +kernel
theorem dX9_uneven_1 : decode cX9_uneven 1 = .ok (.istore_n 1, 1) := by decide +kernel
theorem dX9_uneven_2 : decode cX9_uneven 2 = .ok (.iconst 0, 1) := by decide +kernel
theorem dX9_uneven_3 : decode cX9_uneven 3 = .ok (.istore_n 2, 1) := by decide +kernel
theorem dX9_uneven_4 : decode cX9_uneven 4 = .ok (.iload_n 2, 1) := by decide +kernel
theorem dX9_uneven_5 : decode cX9_uneven 5 = .ok (.iconst 1, 1) := by decide +kernel
theorem dX9_uneven_6 : decode cX9_uneven 6 = .ok (.iadd, 1) := by decide +kernel
theorem dX9_uneven_7 : decode cX9_uneven 7 = .ok (.aload_n 0, 1) := by decide +kernel
theorem dX9_uneven_8 : decode cX9_uneven 8 = .ok (.invokevirtual 163, 3) := by decide +kernel
theorem dX9_uneven_11 : decode cX9_uneven 11 = .ok (.if_icmp .ge 25, 3) := by decide +kernel
theorem dX9_uneven_14 : decode cX9_uneven 14 = .ok (.iload_n 1, 1) := by decide +kernel
theorem dX9_uneven_15 : decode cX9_uneven 15 = .ok (.aload_n 0, 1) := by decide +kernel
theorem dX9_uneven_16 : decode cX9_uneven 16 = .ok (.iload_n 2, 1) := by decide +kernel
theorem dX9_uneven_17 : decode cX9_uneven 17 = .ok (.invokevirtual 167, 3) := by decide +kernel
theorem dX9_uneven_20 : decode cX9_uneven 20 = .ok (.aload_n 0, 1) := by decide +kernel
theorem dX9_uneven_21 : decode cX9_uneven 21 = .ok (.iload_n 2, 1) := by decide +kernel
theorem dX9_uneven_22 : decode cX9_uneven 22 = .ok (.iconst 1, 1) := by decide +kernel
theorem dX9_uneven_23 : decode cX9_uneven 23 = .ok (.iadd, 1) := by decide +kernel
theorem dX9_uneven_24 : decode cX9_uneven 24 = .ok (.invokevirtual 167, 3) := by decide +kernel
theorem dX9_uneven_27 : decode cX9_uneven 27 = .ok (.isub, 1) := by decide +kernel
theorem dX9_uneven_28 : decode cX9_uneven 28 = .ok (.iadd, 1) := by decide +kernel
theorem dX9_uneven_29 : decode cX9_uneven 29 = .ok (.istore_n 1, 1) := by decide +kernel
theorem dX9_uneven_30 : decode cX9_uneven 30 = .ok (.iinc 2 2, 3) := by decide +kernel
theorem dX9_uneven_33 : decode cX9_uneven 33 = .ok (.goto (-29), 3) := by decide +kernel
theorem dX9_uneven_36 : decode cX9_uneven 36 = .ok (.iload_n 1, 1) := by decide +kernel
theorem dX9_uneven_37 : decode cX9_uneven 37 = .ok (.ireturn, 1) := by decide +kernel
theorem dX9_evenest_0 : decode cX9_evenest 0 = .ok (.iconst 0, 1) := by decide +kernel
theorem dX9_evenest_1 : decode cX9_evenest 1 = .ok (.istore_n 1, 1) := by decide +kernel
theorem dX9_evenest_2 : decode cX9_evenest 2 = .ok (.iconst (-1), 1) := by decide +kernel
theorem dX9_evenest_3 : decode cX9_evenest 3 = .ok (.istore_n 2, 1) := by decide +kernel
theorem dX9_evenest_4 : decode cX9_evenest 4 = .ok (.iconst 0, 1) := by decide +kernel
theorem dX9_evenest_5 : decode cX9_evenest 5 = .ok (.istore_n 3, 1) := by decide +kernel
theorem dX9_evenest_6 : decode cX9_evenest 6 = .ok (.aload_n 0, 1) := by decide +kernel
theorem dX9_evenest_7 : decode cX9_evenest 7 = .ok (.getfield 9, 3) := by decide +kernel
theorem dX9_evenest_10 : decode cX9_evenest 10 = .ok (.iconst 4, 1) := by decide +kernel
theorem dX9_evenest_11 : decode cX9_evenest 11 = .ok (.iaload, 1) := by decide +kernel
theorem dX9_evenest_12 : decode cX9_evenest 12 = .ok (.istore 4, 2) := by decide +kernel
theorem dX9_evenest_14 : decode cX9_evenest 14 = .ok (.bipush (-20), 2) := by decide +kernel
theorem dX9_evenest_16 : decode cX9_evenest 16 = .ok (.istore 5, 2) := by decide +kernel
theorem dX9_evenest_18 : decode cX9_evenest 18 = .ok (.iload 5, 2) := by decide +kernel
theorem dX9_evenest_20 : decode cX9_evenest 20 = .ok (.bipush 20, 2) := by decide +kernel
theorem dX9_evenest_22 : decode cX9_evenest 22 = .ok (.if_icmp .gt 100, 3) := by decide +kernel
theorem dX9_evenest_25 : decode cX9_evenest 25 = .ok (.aload_n 0, 1) := by decide +kernel
theorem dX9_evenest_26 : decode cX9_evenest 26 = .ok (.iconst 4, 1) := by decide +kernel
theorem dX9_evenest_27 : decode cX9_evenest 27 = .ok (.iload 5, 2) := by decide +kernel
theorem dX9_evenest_29 : decode cX9_evenest 29 = .ok (.invokevirtual 157, 3) := by decide +kernel
theorem dX9_evenest_32 : decode cX9_evenest 32 = .ok (.aload_n 0, 1) := by decide +kernel
theorem dX9_evenest_33 : decode cX9_evenest 33 = .ok (.invokevirtual 170, 3) := by decide +kernel
theorem dX9_evenest_36 : decode cX9_evenest 36 = .ok (.invokestatic 173, 3) := by decide +kernel
theorem dX9_evenest_39 : decode cX9_evenest 39 = .ok (.istore 6, 2) := by decide +kernel
theorem dX9_evenest_41 : decode cX9_evenest 41 = .ok (.iload_n 2, 1) := by decide +kernel
theorem dX9_evenest_42 : decode cX9_evenest 42 = .ok (.ifCond .ge 7, 3) := by decide +kernel
theorem dX9_evenest_45 : decode cX9_evenest 45 = .ok (.iconst 1, 1) := by decide +kernel
theorem dX9_evenest_46 : decode cX9_evenest 46 = .ok (.goto 49, 3) := by decide +kernel
theorem dX9_evenest_49 : decode cX9_evenest 49 = .ok (.aload_n 0, 1) := by decide +kernel
theorem dX9_evenest_50 : decode cX9_evenest 50 = .ok (.getfield 86, 3) := by decide +kernel
theorem dX9_evenest_53 : decode cX9_evenest 53 = .ok (.iload_n 2, 1) := by decide +kernel
theorem dX9_evenest_54 : decode cX9_evenest 54 = .ok (.if_icmp .eq 12, 3) := by decide +kernel
theorem dX9_evenest_57 : decode cX9_evenest 57 = .ok (.aload_n 0, 1) := by decide +kernel
theorem dX9_evenest_58 : decode cX9_evenest 58 = .ok (.getfield 86, 3) := by decide +kernel
theorem dX9_evenest_61 : decode cX9_evenest 61 = .ok (.iload_n 2, 1) := by decide +kernel
theorem dX9_evenest_62 : decode cX9_evenest 62 = .ok (.isub, 1) := by decide +kernel
theorem dX9_evenest_63 : decode cX9_evenest 63 = .ok (.goto 32, 3) := by decide +kernel
theorem dX9_evenest_66 : decode cX9_evenest 66 = .ok (.iload 6, 2) := by decide +kernel
theorem dX9_evenest_68 : decode cX9_evenest 68 = .ok (.iload_n 3, 1) := by decide +kernel
theorem dX9_evenest_69 : decode cX9_evenest 69 = .ok (.if_icmp .eq 10, 3) := by decide +kernel
theorem dX9_evenest_72 : decode cX9_evenest 72 = .ok (.iload_n 3, 1) := by decide +kernel
theorem dX9_evenest_73 : decode cX9_evenest 73 = .ok (.iload 6, 2) := by decide +kernel
theorem dX9_evenest_75 : decode cX9_evenest 75 = .ok (.isub, 1) := by decide +kernel
theorem dX9_evenest_76 : decode cX9_evenest 76 = .ok (.goto 19, 3) := by decide +kernel
theorem dX9_evenest_79 : decode cX9_evenest 79 = .ok (.iload_n 1, 1) := by decide +kernel
theorem dX9_evenest_80 : decode cX9_evenest 80 = .ok (.iload 4, 2) := by decide +kernel
theorem dX9_evenest_82 : decode cX9_evenest 82 = .ok (.isub, 1) := by decide +kernel
theorem dX9_evenest_83 : decode cX9_evenest 83 = .ok (.invokestatic 173, 3) := by decide +kernel
theorem dX9_evenest_86 : decode cX9_evenest 86 = .ok (.iload 5, 2) := by decide +kernel
theorem dX9_evenest_88 : decode cX9_evenest 88 = .ok (.iload 4, 2) := by decide +kernel
theorem dX9_evenest_90 : decode cX9_evenest 90 = .ok (.isub, 1) := by decide +kernel
theorem dX9_evenest_91 : decode cX9_evenest 91 = .ok (.invokestatic 173, 3) := by decide +kernel
theorem dX9_evenest_94 : decode cX9_evenest 94 = .ok (.isub, 1) := by decide +kernel
theorem dX9_evenest_95 : decode cX9_evenest 95 = .ok (.istore 7, 2) := by decide +kernel
theorem dX9_evenest_97 : decode cX9_evenest 97 = .ok (.iload 7, 2) := by decide +kernel
theorem dX9_evenest_99 : decode cX9_evenest 99 = .ok (.ifCond .gt 6, 3) := by decide +kernel
theorem dX9_evenest_102 : decode cX9_evenest 102 = .ok (.goto 14, 3) := by decide +kernel
theorem dX9_evenest_105 : decode cX9_evenest 105 = .ok (.iload 5, 2) := by decide +kernel
theorem dX9_evenest_107 : decode cX9_evenest 107 = .ok (.istore_n 1, 1) := by decide +kernel
theorem dX9_evenest_108 : decode cX9_evenest 108 = .ok (.aload_n 0, 1) := by decide +kernel
theorem dX9_evenest_109 : decode cX9_evenest 109 = .ok (.getfield 86, 3) := by decide +kernel
theorem dX9_evenest_112 : decode cX9_evenest 112 = .ok (.istore_n 2, 1) := by decide +kernel
theorem dX9_evenest_113 : decode cX9_evenest 113 = .ok (.iload 6, 2) := by decide +kernel
theorem dX9_evenest_115 : decode cX9_evenest 115 = .ok (.istore_n 3, 1) := by decide +kernel
theorem dX9_evenest_116 : decode cX9_evenest 116 = .ok (.iinc 5 1, 3) := by decide +kernel
theorem dX9_evenest_119 : decode cX9_evenest 119 = .ok (.goto (-101), 3) := by decide +kernel
theorem dX9_evenest_122 : decode cX9_evenest 122 = .ok (.iload_n 1, 1) := by decide +kernel
theorem dX9_evenest_123 : decode cX9_evenest 123 = .ok (.ireturn, 1) := by decide +kernel
theorem dX9_beat_0 : decode cX9_beat 0 = .ok (.iload_n 1, 1) := by decide +kernel
theorem dX9_beat_1 : decode cX9_beat 1 = .ok (.iconst 0, 1) := by decide +kernel
theorem dX9_beat_2 : decode cX9_beat 2 = .ok (.iconst 4, 1) := by decide +kernel
theorem dX9_beat_3 : decode cX9_beat 3 = .ok (.invokestatic 55, 3) := by decide +kernel
theorem dX9_beat_6 : decode cX9_beat 6 = .ok (.ifCond .ne 7, 3) := by decide +kernel
theorem dX9_beat_9 : decode cX9_beat 9 = .ok (.sipush (-1000), 3) := by decide +kernel
theorem dX9_beat_12 : decode cX9_beat 12 = .ok (.ireturn, 1) := by decide +kernel
theorem dX9_beat_13 : decode cX9_beat 13 = .ok (.iload_n 1, 1) := by decide +kernel
theorem dX9_beat_14 : decode cX9_beat 14 = .ok (.iconst 3, 1) := by decide +kernel
theorem dX9_beat_15 : decode cX9_beat 15 = .ok (.if_icmp .ne 8, 3) := by decide +kernel
theorem dX9_beat_18 : decode cX9_beat 18 = .ok (.aload_n 0, 1) := by decide +kernel
theorem dX9_beat_19 : decode cX9_beat 19 = .ok (.invokevirtual 176, 3) := by decide +kernel
theorem dX9_beat_22 : decode cX9_beat 22 = .ok (.ireturn, 1) := by decide +kernel
theorem dX9_beat_23 : decode cX9_beat 23 = .ok (.aload_n 0, 1) := by decide +kernel
theorem dX9_beat_24 : decode cX9_beat 24 = .ok (.invokevirtual 161, 3) := by decide +kernel
theorem dX9_beat_27 : decode cX9_beat 27 = .ok (.iload_n 1, 1) := by decide +kernel
theorem dX9_beat_28 : decode cX9_beat 28 = .ok (.ifCond .ne 10, 3) := by decide +kernel
theorem dX9_beat_31 : decode cX9_beat 31 = .ok (.aload_n 0, 1) := by decide +kernel
theorem dX9_beat_32 : decode cX9_beat 32 = .ok (.getfield 86, 3) := by decide +kernel
theorem dX9_beat_35 : decode cX9_beat 35 = .ok (.goto 51, 3) := by decide +kernel
theorem dX9_beat_38 : decode cX9_beat 38 = .ok (.iload_n 1, 1) := by decide +kernel
theorem dX9_beat_39 : decode cX9_beat 39 = .ok (.iconst 1, 1) := by decide +kernel
theorem dX9_beat_40 : decode cX9_beat 40 = .ok (.if_icmp .ne 10, 3) := by decide +kernel
theorem dX9_beat_43 : decode cX9_beat 43 = .ok (.aload_n 0, 1) := by decide +kernel
theorem dX9_beat_44 : decode cX9_beat 44 = .ok (.invokevirtual 163, 3) := by decide +kernel
theorem dX9_beat_47 : decode cX9_beat 47 = .ok (.goto 39, 3) := by decide +kernel
theorem dX9_beat_50 : decode cX9_beat 50 = .ok (.iload_n 1, 1) := by decide +kernel
theorem dX9_beat_51 : decode cX9_beat 51 = .ok (.iconst 2, 1) := by decide +kernel
theorem dX9_beat_52 : decode cX9_beat 52 = .ok (.if_icmp .ne 10, 3) := by decide +kernel
theorem dX9_beat_55 : decode cX9_beat 55 = .ok (.aload_n 0, 1) := by decide +kernel
theorem dX9_beat_56 : decode cX9_beat 56 = .ok (.invokevirtual 170, 3) := by decide +kernel
theorem dX9_beat_59 : decode cX9_beat 59 = .ok (.goto 27, 3) := by decide +kernel
theorem dX9_beat_62 : decode cX9_beat 62 = .ok (.aload_n 0, 1) := by decide +kernel
theorem dX9_beat_63 : decode cX9_beat 63 = .ok (.getfield 86, 3) := by decide +kernel
theorem dX9_beat_66 : decode cX9_beat 66 = .ok (.ifCond .ne 9, 3) := by decide +kernel
theorem dX9_beat_69 : decode cX9_beat 69 = .ok (.sipush (-500), 3) := by decide +kernel
theorem dX9_beat_72 : decode cX9_beat 72 = .ok (.goto 14, 3) := by decide +kernel
theorem dX9_beat_75 : decode cX9_beat 75 = .ok (.aload_n 0, 1) := by decide +kernel
theorem dX9_beat_76 : decode cX9_beat 76 = .ok (.getfield 31, 3) := by decide +kernel
theorem dX9_beat_79 : decode cX9_beat 79 = .ok (.aload_n 0, 1) := by decide +kernel
theorem dX9_beat_80 : decode cX9_beat 80 = .ok (.getfield 86, 3) := by decide +kernel
theorem dX9_beat_83 : decode cX9_beat 83 = .ok (.iconst 1, 1) := by decide +kernel
theorem dX9_beat_84 : decode cX9_beat 84 = .ok (.isub, 1) := by decide +kernel
theorem dX9_beat_85 : decode cX9_beat 85 = .ok (.iaload, 1) := by decide +kernel
theorem dX9_beat_86 : decode cX9_beat 86 = .ok (.ireturn, 1) := by decide +kernel
theorem dX9_gap_0 : decode cX9_gap 0 = .ok (.iload_n 1, 1) := by decide +kernel
theorem dX9_gap_1 : decode cX9_gap 1 = .ok (.ifCond .ge 5, 3) := by decide +kernel
theorem dX9_gap_4 : decode cX9_gap 4 = .ok (.iconst (-1), 1) := by decide +kernel
theorem dX9_gap_5 : decode cX9_gap 5 = .ok (.ireturn, 1) := by decide +kernel
theorem dX9_gap_6 : decode cX9_gap 6 = .ok (.aload_n 0, 1) := by decide +kernel
theorem dX9_gap_7 : decode cX9_gap 7 = .ok (.invokevirtual 161, 3) := by decide +kernel
theorem dX9_gap_10 : decode cX9_gap 10 = .ok (.iload_n 1, 1) := by decide +kernel
theorem dX9_gap_11 : decode cX9_gap 11 = .ok (.aload_n 0, 1) := by decide +kernel
theorem dX9_gap_12 : decode cX9_gap 12 = .ok (.invokevirtual 163, 3) := by decide +kernel
theorem dX9_gap_15 : decode cX9_gap 15 = .ok (.if_icmp .ge 11, 3) := by decide +kernel
theorem dX9_gap_18 : decode cX9_gap 18 = .ok (.aload_n 0, 1) := by decide +kernel
theorem dX9_gap_19 : decode cX9_gap 19 = .ok (.iload_n 1, 1) := by decide +kernel
theorem dX9_gap_20 : decode cX9_gap 20 = .ok (.invokevirtual 167, 3) := by decide +kernel
theorem dX9_gap_23 : decode cX9_gap 23 = .ok (.goto 5, 3) := by decide +kernel
theorem dX9_gap_26 : decode cX9_gap 26 = .ok (.bipush (-5), 2) := by decide +kernel
theorem dX9_gap_28 : decode cX9_gap 28 = .ok (.ireturn, 1) := by decide +kernel
theorem dX9_longest_0 : decode cX9_longest 0 = .ok (.iload_n 1, 1) := by decide +kernel
theorem dX9_longest_1 : decode cX9_longest 1 = .ok (.ifCond .lt 12, 3) := by decide +kernel
theorem dX9_longest_4 : decode cX9_longest 4 = .ok (.iload_n 2, 1) := by decide +kernel
theorem dX9_longest_5 : decode cX9_longest 5 = .ok (.iconst 0, 1) := by decide +kernel
theorem dX9_longest_6 : decode cX9_longest 6 = .ok (.iconst 1, 1) := by decide +kernel
theorem dX9_longest_7 : decode cX9_longest 7 = .ok (.invokestatic 55, 3) := by decide +kernel
theorem dX9_longest_10 : decode cX9_longest 10 = .ok (.ifCond .ne 5, 3) := by decide +kernel
theorem dX9_longest_13 : decode cX9_longest 13 = .ok (.iconst (-1), 1) := by decide +kernel
theorem dX9_longest_14 : decode cX9_longest 14 = .ok (.ireturn, 1) := by decide +kernel
theorem dX9_longest_15 : decode cX9_longest 15 = .ok (.aload_n 0, 1) := by decide +kernel
theorem dX9_longest_16 : decode cX9_longest 16 = .ok (.invokevirtual 161, 3) := by decide +kernel
theorem dX9_longest_19 : decode cX9_longest 19 = .ok (.iconst 0, 1) := by decide +kernel
theorem dX9_longest_20 : decode cX9_longest 20 = .ok (.istore_n 3, 1) := by decide +kernel
theorem dX9_longest_21 : decode cX9_longest 21 = .ok (.iload_n 3, 1) := by decide +kernel
theorem dX9_longest_22 : decode cX9_longest 22 = .ok (.aload_n 0, 1) := by decide +kernel
theorem dX9_longest_23 : decode cX9_longest 23 = .ok (.invokevirtual 163, 3) := by decide +kernel
theorem dX9_longest_26 : decode cX9_longest 26 = .ok (.if_icmp .ge 87, 3) := by decide +kernel
theorem dX9_longest_29 : decode cX9_longest 29 = .ok (.iconst 0, 1) := by decide +kernel
theorem dX9_longest_30 : decode cX9_longest 30 = .ok (.istore 4, 2) := by decide +kernel
theorem dX9_longest_32 : decode cX9_longest 32 = .ok (.iconst 0, 1) := by decide +kernel
theorem dX9_longest_33 : decode cX9_longest 33 = .ok (.istore 5, 2) := by decide +kernel
theorem dX9_longest_35 : decode cX9_longest 35 = .ok (.iload 5, 2) := by decide +kernel
theorem dX9_longest_37 : decode cX9_longest 37 = .ok (.aload_n 0, 1) := by decide +kernel
theorem dX9_longest_38 : decode cX9_longest 38 = .ok (.invokevirtual 163, 3) := by decide +kernel
theorem dX9_longest_41 : decode cX9_longest 41 = .ok (.if_icmp .ge 46, 3) := by decide +kernel
theorem dX9_longest_44 : decode cX9_longest 44 = .ok (.aload_n 0, 1) := by decide +kernel
theorem dX9_longest_45 : decode cX9_longest 45 = .ok (.iload 5, 2) := by decide +kernel
theorem dX9_longest_47 : decode cX9_longest 47 = .ok (.invokevirtual 167, 3) := by decide +kernel
theorem dX9_longest_50 : decode cX9_longest 50 = .ok (.aload_n 0, 1) := by decide +kernel
theorem dX9_longest_51 : decode cX9_longest 51 = .ok (.iload_n 3, 1) := by decide +kernel
theorem dX9_longest_52 : decode cX9_longest 52 = .ok (.invokevirtual 167, 3) := by decide +kernel
theorem dX9_longest_55 : decode cX9_longest 55 = .ok (.if_icmp .gt 23, 3) := by decide +kernel
theorem dX9_longest_58 : decode cX9_longest 58 = .ok (.aload_n 0, 1) := by decide +kernel
theorem dX9_longest_59 : decode cX9_longest 59 = .ok (.iload 5, 2) := by decide +kernel
theorem dX9_longest_61 : decode cX9_longest 61 = .ok (.invokevirtual 167, 3) := by decide +kernel
theorem dX9_longest_64 : decode cX9_longest 64 = .ok (.aload_n 0, 1) := by decide +kernel
theorem dX9_longest_65 : decode cX9_longest 65 = .ok (.iload_n 3, 1) := by decide +kernel
theorem dX9_longest_66 : decode cX9_longest 66 = .ok (.invokevirtual 167, 3) := by decide +kernel
theorem dX9_longest_69 : decode cX9_longest 69 = .ok (.if_icmp .ne 12, 3) := by decide +kernel
theorem dX9_longest_72 : decode cX9_longest 72 = .ok (.iload 5, 2) := by decide +kernel
theorem dX9_longest_74 : decode cX9_longest 74 = .ok (.iload_n 3, 1) := by decide +kernel
theorem dX9_longest_75 : decode cX9_longest 75 = .ok (.if_icmp .ge 6, 3) := by decide +kernel
theorem dX9_longest_78 : decode cX9_longest 78 = .ok (.iinc 4 1, 3) := by decide +kernel
theorem dX9_longest_81 : decode cX9_longest 81 = .ok (.iinc 5 1, 3) := by decide +kernel
theorem dX9_longest_84 : decode cX9_longest 84 = .ok (.goto (-49), 3) := by decide +kernel
theorem dX9_longest_87 : decode cX9_longest 87 = .ok (.iload 4, 2) := by decide +kernel
theorem dX9_longest_89 : decode cX9_longest 89 = .ok (.iload_n 1, 1) := by decide +kernel
theorem dX9_longest_90 : decode cX9_longest 90 = .ok (.if_icmp .ne 17, 3) := by decide +kernel
theorem dX9_longest_93 : decode cX9_longest 93 = .ok (.iload_n 2, 1) := by decide +kernel
theorem dX9_longest_94 : decode cX9_longest 94 = .ok (.ifCond .ne 11, 3) := by decide +kernel
theorem dX9_longest_97 : decode cX9_longest 97 = .ok (.aload_n 0, 1) := by decide +kernel
theorem dX9_longest_98 : decode cX9_longest 98 = .ok (.iload_n 3, 1) := by decide +kernel
theorem dX9_longest_99 : decode cX9_longest 99 = .ok (.invokevirtual 167, 3) := by decide +kernel
theorem dX9_longest_102 : decode cX9_longest 102 = .ok (.goto 4, 3) := by decide +kernel
theorem dX9_longest_105 : decode cX9_longest 105 = .ok (.iload_n 3, 1) := by decide +kernel
theorem dX9_longest_106 : decode cX9_longest 106 = .ok (.ireturn, 1) := by decide +kernel
theorem dX9_longest_107 : decode cX9_longest 107 = .ok (.iinc 3 1, 3) := by decide +kernel
theorem dX9_longest_110 : decode cX9_longest 110 = .ok (.goto (-89), 3) := by decide +kernel
theorem dX9_longest_113 : decode cX9_longest 113 = .ok (.bipush (-5), 2) := by decide +kernel
theorem dX9_longest_115 : decode cX9_longest 115 = .ok (.ireturn, 1) := by decide +kernel
theorem dX9_see_0 : decode cX9_see 0 = .ok (.iload_n 1, 1) := by decide +kernel
theorem dX9_see_1 : decode cX9_see 1 = .ok (.iconst (-1), 1) := by decide +kernel
theorem dX9_see_2 : decode cX9_see 2 = .ok (.if_icmp .ne 13, 3) := by decide +kernel
theorem dX9_see_5 : decode cX9_see 5 = .ok (.aload_n 0, 1) := by decide +kernel
theorem dX9_see_6 : decode cX9_see 6 = .ok (.getfield 9, 3) := by decide +kernel
theorem dX9_see_9 : decode cX9_see 9 = .ok (.bipush 13, 2) := by decide +kernel
theorem dX9_see_11 : decode cX9_see 11 = .ok (.iconst 0, 1) := by decide +kernel
theorem dX9_see_12 : decode cX9_see 12 = .ok (.iastore, 1) := by decide +kernel
theorem dX9_see_13 : decode cX9_see 13 = .ok (.iconst 0, 1) := by decide +kernel
theorem dX9_see_14 : decode cX9_see 14 = .ok (.ireturn, 1) := by decide +kernel
theorem dX9_see_15 : decode cX9_see 15 = .ok (.iload_n 1, 1) := by decide +kernel
theorem dX9_see_16 : decode cX9_see 16 = .ok (.iconst 0, 1) := by decide +kernel
theorem dX9_see_17 : decode cX9_see 17 = .ok (.sipush 400, 3) := by decide +kernel
theorem dX9_see_20 : decode cX9_see 20 = .ok (.invokestatic 55, 3) := by decide +kernel
theorem dX9_see_23 : decode cX9_see 23 = .ok (.ifCond .eq 16, 3) := by decide +kernel
theorem dX9_see_26 : decode cX9_see 26 = .ok (.iload_n 2, 1) := by decide +kernel
theorem dX9_see_27 : decode cX9_see 27 = .ok (.sipush (-300), 3) := by decide +kernel
theorem dX9_see_30 : decode cX9_see 30 = .ok (.sipush 300, 3) := by decide +kernel
theorem dX9_see_33 : decode cX9_see 33 = .ok (.invokestatic 55, 3) := by decide +kernel
theorem dX9_see_36 : decode cX9_see 36 = .ok (.ifCond .ne 6, 3) := by decide +kernel
theorem dX9_see_39 : decode cX9_see 39 = .ok (.bipush (-2), 2) := by decide +kernel
theorem dX9_see_41 : decode cX9_see 41 = .ok (.ireturn, 1) := by decide +kernel
theorem dX9_see_42 : decode cX9_see 42 = .ok (.aload_n 0, 1) := by decide +kernel
theorem dX9_see_43 : decode cX9_see 43 = .ok (.getfield 9, 3) := by decide +kernel
theorem dX9_see_46 : decode cX9_see 46 = .ok (.bipush 13, 2) := by decide +kernel
theorem dX9_see_48 : decode cX9_see 48 = .ok (.iaload, 1) := by decide +kernel
theorem dX9_see_49 : decode cX9_see 49 = .ok (.iconst 5, 1) := by decide +kernel
theorem dX9_see_50 : decode cX9_see 50 = .ok (.if_icmp .ne 6, 3) := by decide +kernel
theorem dX9_see_53 : decode cX9_see 53 = .ok (.bipush (-4), 2) := by decide +kernel
theorem dX9_see_55 : decode cX9_see 55 = .ok (.ireturn, 1) := by decide +kernel
theorem dX9_see_56 : decode cX9_see 56 = .ok (.aload_n 0, 1) := by decide +kernel
theorem dX9_see_57 : decode cX9_see 57 = .ok (.getfield 9, 3) := by decide +kernel
theorem dX9_see_60 : decode cX9_see 60 = .ok (.bipush 43, 2) := by decide +kernel
theorem dX9_see_62 : decode cX9_see 62 = .ok (.iconst 2, 1) := by decide +kernel
theorem dX9_see_63 : decode cX9_see 63 = .ok (.aload_n 0, 1) := by decide +kernel
theorem dX9_see_64 : decode cX9_see 64 = .ok (.getfield 9, 3) := by decide +kernel
theorem dX9_see_67 : decode cX9_see 67 = .ok (.bipush 13, 2) := by decide +kernel
theorem dX9_see_69 : decode cX9_see 69 = .ok (.iaload, 1) := by decide +kernel
theorem dX9_see_70 : decode cX9_see 70 = .ok (.imul, 1) := by decide +kernel
theorem dX9_see_71 : decode cX9_see 71 = .ok (.iadd, 1) := by decide +kernel
theorem dX9_see_72 : decode cX9_see 72 = .ok (.iload_n 1, 1) := by decide +kernel
theorem dX9_see_73 : decode cX9_see 73 = .ok (.iastore, 1) := by decide +kernel
theorem dX9_see_74 : decode cX9_see 74 = .ok (.aload_n 0, 1) := by decide +kernel
theorem dX9_see_75 : decode cX9_see 75 = .ok (.getfield 9, 3) := by decide +kernel
theorem dX9_see_78 : decode cX9_see 78 = .ok (.bipush 43, 2) := by decide +kernel
theorem dX9_see_80 : decode cX9_see 80 = .ok (.iconst 2, 1) := by decide +kernel
theorem dX9_see_81 : decode cX9_see 81 = .ok (.aload_n 0, 1) := by decide +kernel
theorem dX9_see_82 : decode cX9_see 82 = .ok (.getfield 9, 3) := by decide +kernel
theorem dX9_see_85 : decode cX9_see 85 = .ok (.bipush 13, 2) := by decide +kernel
theorem dX9_see_87 : decode cX9_see 87 = .ok (.iaload, 1) := by decide +kernel
theorem dX9_see_88 : decode cX9_see 88 = .ok (.imul, 1) := by decide +kernel
theorem dX9_see_89 : decode cX9_see 89 = .ok (.iadd, 1) := by decide +kernel
theorem dX9_see_90 : decode cX9_see 90 = .ok (.iconst 1, 1) := by decide +kernel
theorem dX9_see_91 : decode cX9_see 91 = .ok (.iadd, 1) := by decide +kernel
theorem dX9_see_92 : decode cX9_see 92 = .ok (.iload_n 2, 1) := by decide +kernel
theorem dX9_see_93 : decode cX9_see 93 = .ok (.iastore, 1) := by decide +kernel
theorem dX9_see_94 : decode cX9_see 94 = .ok (.aload_n 0, 1) := by decide +kernel
theorem dX9_see_95 : decode cX9_see 95 = .ok (.getfield 9, 3) := by decide +kernel
theorem dX9_see_98 : decode cX9_see 98 = .ok (.bipush 13, 2) := by decide +kernel
theorem dX9_see_100 : decode cX9_see 100 = .ok (.dup2, 1) := by decide +kernel
theorem dX9_see_101 : decode cX9_see 101 = .ok (.iaload, 1) := by decide +kernel
theorem dX9_see_102 : decode cX9_see 102 = .ok (.iconst 1, 1) := by decide +kernel
theorem dX9_see_103 : decode cX9_see 103 = .ok (.iadd, 1) := by decide +kernel
theorem dX9_see_104 : decode cX9_see 104 = .ok (.dup_x2, 1) := by decide +kernel
theorem dX9_see_105 : decode cX9_see 105 = .ok (.iastore, 1) := by decide +kernel
theorem dX9_see_106 : decode cX9_see 106 = .ok (.ireturn, 1) := by decide +kernel
theorem dX9_isSeen_0 : decode cX9_isSeen 0 = .ok (.iconst 1, 1) := by decide +kernel
theorem dX9_isSeen_1 : decode cX9_isSeen 1 = .ok (.istore_n 1, 1) := by decide +kernel
theorem dX9_isSeen_2 : decode cX9_isSeen 2 = .ok (.iconst 0, 1) := by decide +kernel
theorem dX9_isSeen_3 : decode cX9_isSeen 3 = .ok (.istore_n 2, 1) := by decide +kernel
theorem dX9_isSeen_4 : decode cX9_isSeen 4 = .ok (.iload_n 2, 1) := by decide +kernel
theorem dX9_isSeen_5 : decode cX9_isSeen 5 = .ok (.sipush 400, 3) := by decide +kernel
theorem dX9_isSeen_8 : decode cX9_isSeen 8 = .ok (.if_icmp .gt 75, 3) := by decide +kernel
theorem dX9_isSeen_11 : decode cX9_isSeen 11 = .ok (.iload_n 1, 1) := by decide +kernel
theorem dX9_isSeen_12 : decode cX9_isSeen 12 = .ok (.ifCond .eq 71, 3) := by decide +kernel
theorem dX9_isSeen_15 : decode cX9_isSeen 15 = .ok (.iconst 0, 1) := by decide +kernel
theorem dX9_isSeen_16 : decode cX9_isSeen 16 = .ok (.istore_n 3, 1) := by decide +kernel
theorem dX9_isSeen_17 : decode cX9_isSeen 17 = .ok (.iload_n 3, 1) := by decide +kernel
theorem dX9_isSeen_18 : decode cX9_isSeen 18 = .ok (.aload_n 0, 1) := by decide +kernel
theorem dX9_isSeen_19 : decode cX9_isSeen 19 = .ok (.getfield 9, 3) := by decide +kernel
theorem dX9_isSeen_22 : decode cX9_isSeen 22 = .ok (.bipush 13, 2) := by decide +kernel
theorem dX9_isSeen_24 : decode cX9_isSeen 24 = .ok (.iaload, 1) := by decide +kernel
theorem dX9_isSeen_25 : decode cX9_isSeen 25 = .ok (.if_icmp .ge 48, 3) := by decide +kernel
theorem dX9_isSeen_28 : decode cX9_isSeen 28 = .ok (.aload_n 0, 1) := by decide +kernel
theorem dX9_isSeen_29 : decode cX9_isSeen 29 = .ok (.getfield 9, 3) := by decide +kernel
theorem dX9_isSeen_32 : decode cX9_isSeen 32 = .ok (.bipush 43, 2) := by decide +kernel
theorem dX9_isSeen_34 : decode cX9_isSeen 34 = .ok (.iconst 2, 1) := by decide +kernel
theorem dX9_isSeen_35 : decode cX9_isSeen 35 = .ok (.iload_n 3, 1) := by decide +kernel
theorem dX9_isSeen_36 : decode cX9_isSeen 36 = .ok (.imul, 1) := by decide +kernel
theorem dX9_isSeen_37 : decode cX9_isSeen 37 = .ok (.iadd, 1) := by decide +kernel
theorem dX9_isSeen_38 : decode cX9_isSeen 38 = .ok (.iaload, 1) := by decide +kernel
theorem dX9_isSeen_39 : decode cX9_isSeen 39 = .ok (.iload_n 2, 1) := by decide +kernel
theorem dX9_isSeen_40 : decode cX9_isSeen 40 = .ok (.if_icmp .ne 27, 3) := by decide +kernel
theorem dX9_isSeen_43 : decode cX9_isSeen 43 = .ok (.aload_n 0, 1) := by decide +kernel
theorem dX9_isSeen_44 : decode cX9_isSeen 44 = .ok (.getfield 9, 3) := by decide +kernel
theorem dX9_isSeen_47 : decode cX9_isSeen 47 = .ok (.bipush 43, 2) := by decide +kernel
theorem dX9_isSeen_49 : decode cX9_isSeen 49 = .ok (.iconst 2, 1) := by decide +kernel
theorem dX9_isSeen_50 : decode cX9_isSeen 50 = .ok (.iload_n 3, 1) := by decide +kernel
theorem dX9_isSeen_51 : decode cX9_isSeen 51 = .ok (.imul, 1) := by decide +kernel
theorem dX9_isSeen_52 : decode cX9_isSeen 52 = .ok (.iadd, 1) := by decide +kernel
theorem dX9_isSeen_53 : decode cX9_isSeen 53 = .ok (.iconst 1, 1) := by decide +kernel
theorem dX9_isSeen_54 : decode cX9_isSeen 54 = .ok (.iadd, 1) := by decide +kernel
theorem dX9_isSeen_55 : decode cX9_isSeen 55 = .ok (.iaload, 1) := by decide +kernel
theorem dX9_isSeen_56 : decode cX9_isSeen 56 = .ok (.aload_n 0, 1) := by decide +kernel
theorem dX9_isSeen_57 : decode cX9_isSeen 57 = .ok (.getfield 9, 3) := by decide +kernel
theorem dX9_isSeen_60 : decode cX9_isSeen 60 = .ok (.iconst 0, 1) := by decide +kernel
theorem dX9_isSeen_61 : decode cX9_isSeen 61 = .ok (.iaload, 1) := by decide +kernel
theorem dX9_isSeen_62 : decode cX9_isSeen 62 = .ok (.if_icmp .eq 5, 3) := by decide +kernel
theorem dX9_isSeen_65 : decode cX9_isSeen 65 = .ok (.iconst 0, 1) := by decide +kernel
theorem dX9_isSeen_66 : decode cX9_isSeen 66 = .ok (.istore_n 1, 1) := by decide +kernel
theorem dX9_isSeen_67 : decode cX9_isSeen 67 = .ok (.iinc 3 1, 3) := by decide +kernel
theorem dX9_isSeen_70 : decode cX9_isSeen 70 = .ok (.goto (-53), 3) := by decide +kernel
theorem dX9_isSeen_73 : decode cX9_isSeen 73 = .ok (.aload_n 0, 1) := by decide +kernel
theorem dX9_isSeen_74 : decode cX9_isSeen 74 = .ok (.invokevirtual 93, 3) := by decide +kernel
theorem dX9_isSeen_77 : decode cX9_isSeen 77 = .ok (.iinc 2 1, 3) := by decide +kernel
theorem dX9_isSeen_80 : decode cX9_isSeen 80 = .ok (.goto (-76), 3) := by decide +kernel
theorem dX9_isSeen_83 : decode cX9_isSeen 83 = .ok (.iload_n 1, 1) := by decide +kernel
theorem dX9_isSeen_84 : decode cX9_isSeen 84 = .ok (.ireturn, 1) := by decide +kernel
theorem dX9_fits_0 : decode cX9_fits 0 = .ok (.iload_n 1, 1) := by decide +kernel
theorem dX9_fits_1 : decode cX9_fits 1 = .ok (.iconst 0, 1) := by decide +kernel
theorem dX9_fits_2 : decode cX9_fits 2 = .ok (.iconst 1, 1) := by decide +kernel
theorem dX9_fits_3 : decode cX9_fits 3 = .ok (.invokestatic 55, 3) := by decide +kernel
theorem dX9_fits_6 : decode cX9_fits 6 = .ok (.ifCond .ne 5, 3) := by decide +kernel
theorem dX9_fits_9 : decode cX9_fits 9 = .ok (.iconst (-1), 1) := by decide +kernel
theorem dX9_fits_10 : decode cX9_fits 10 = .ok (.ireturn, 1) := by decide +kernel
theorem dX9_fits_11 : decode cX9_fits 11 = .ok (.iconst 0, 1) := by decide +kernel
theorem dX9_fits_12 : decode cX9_fits 12 = .ok (.istore_n 2, 1) := by decide +kernel
theorem dX9_fits_13 : decode cX9_fits 13 = .ok (.bipush (-5), 2) := by decide +kernel
theorem dX9_fits_15 : decode cX9_fits 15 = .ok (.istore_n 3, 1) := by decide +kernel
theorem dX9_fits_16 : decode cX9_fits 16 = .ok (.bipush 32, 2) := by decide +kernel
theorem dX9_fits_18 : decode cX9_fits 18 = .ok (.istore 4, 2) := by decide +kernel
theorem dX9_fits_20 : decode cX9_fits 20 = .ok (.iload 4, 2) := by decide +kernel
theorem dX9_fits_22 : decode cX9_fits 22 = .ok (.ifCond .le 45, 3) := by decide +kernel
theorem dX9_fits_25 : decode cX9_fits 25 = .ok (.aload_n 0, 1) := by decide +kernel
theorem dX9_fits_26 : decode cX9_fits 26 = .ok (.invokevirtual 151, 3) := by decide +kernel
theorem dX9_fits_29 : decode cX9_fits 29 = .ok (.aload_n 0, 1) := by decide +kernel
theorem dX9_fits_30 : decode cX9_fits 30 = .ok (.getfield 9, 3) := by decide +kernel
theorem dX9_fits_33 : decode cX9_fits 33 = .ok (.iconst 2, 1) := by decide +kernel
theorem dX9_fits_34 : decode cX9_fits 34 = .ok (.iload 4, 2) := by decide +kernel
theorem dX9_fits_36 : decode cX9_fits 36 = .ok (.iastore, 1) := by decide +kernel
theorem dX9_fits_37 : decode cX9_fits 37 = .ok (.aload_n 0, 1) := by decide +kernel
theorem dX9_fits_38 : decode cX9_fits 38 = .ok (.invokevirtual 179, 3) := by decide +kernel
theorem dX9_fits_41 : decode cX9_fits 41 = .ok (.istore 5, 2) := by decide +kernel
theorem dX9_fits_43 : decode cX9_fits 43 = .ok (.aload_n 0, 1) := by decide +kernel
theorem dX9_fits_44 : decode cX9_fits 44 = .ok (.invokevirtual 154, 3) := by decide +kernel
theorem dX9_fits_47 : decode cX9_fits 47 = .ok (.iload 5, 2) := by decide +kernel
theorem dX9_fits_49 : decode cX9_fits 49 = .ok (.ifCond .ne 6, 3) := by decide +kernel
theorem dX9_fits_52 : decode cX9_fits 52 = .ok (.goto 9, 3) := by decide +kernel
theorem dX9_fits_55 : decode cX9_fits 55 = .ok (.iinc 2 1, 3) := by decide +kernel
theorem dX9_fits_58 : decode cX9_fits 58 = .ok (.iload 4, 2) := by decide +kernel
theorem dX9_fits_60 : decode cX9_fits 60 = .ok (.istore_n 3, 1) := by decide +kernel
theorem dX9_fits_61 : decode cX9_fits 61 = .ok (.iinc 4 (-1), 3) := by decide +kernel
theorem dX9_fits_64 : decode cX9_fits 64 = .ok (.goto (-44), 3) := by decide +kernel
theorem dX9_fits_67 : decode cX9_fits 67 = .ok (.iload_n 1, 1) := by decide +kernel
theorem dX9_fits_68 : decode cX9_fits 68 = .ok (.ifCond .ne 7, 3) := by decide +kernel
theorem dX9_fits_71 : decode cX9_fits 71 = .ok (.iload_n 2, 1) := by decide +kernel
theorem dX9_fits_72 : decode cX9_fits 72 = .ok (.goto 4, 3) := by decide +kernel
theorem dX9_fits_75 : decode cX9_fits 75 = .ok (.iload_n 3, 1) := by decide +kernel
theorem dX9_fits_76 : decode cX9_fits 76 = .ok (.ireturn, 1) := by decide +kernel
theorem dX9_odds_0 : decode cX9_odds 0 = .ok (.iload_n 1, 1) := by decide +kernel
theorem dX9_odds_1 : decode cX9_odds 1 = .ok (.iconst 0, 1) := by decide +kernel
theorem dX9_odds_2 : decode cX9_odds 2 = .ok (.bipush 99, 2) := by decide +kernel
theorem dX9_odds_4 : decode cX9_odds 4 = .ok (.invokestatic 55, 3) := by decide +kernel
theorem dX9_odds_7 : decode cX9_odds 7 = .ok (.ifCond .eq 12, 3) := by decide +kernel
theorem dX9_odds_10 : decode cX9_odds 10 = .ok (.iload_n 2, 1) := by decide +kernel
theorem dX9_odds_11 : decode cX9_odds 11 = .ok (.iconst 0, 1) := by decide +kernel
theorem dX9_odds_12 : decode cX9_odds 12 = .ok (.iconst 1, 1) := by decide +kernel
theorem dX9_odds_13 : decode cX9_odds 13 = .ok (.invokestatic 55, 3) := by decide +kernel
theorem dX9_odds_16 : decode cX9_odds 16 = .ok (.ifCond .ne 7, 3) := by decide +kernel
theorem dX9_odds_19 : decode cX9_odds 19 = .ok (.ldc2_w 100, 3) := by decide +kernel
theorem dX9_odds_22 : decode cX9_odds 22 = .ok (.lreturn, 1) := by decide +kernel
theorem dX9_odds_23 : decode cX9_odds 23 = .ok (.iconst 0, 1) := by decide +kernel
theorem dX9_odds_24 : decode cX9_odds 24 = .ok (.istore_n 3, 1) := by decide +kernel
theorem dX9_odds_25 : decode cX9_odds 25 = .ok (.bipush (-20), 2) := by decide +kernel
theorem dX9_odds_27 : decode cX9_odds 27 = .ok (.istore 4, 2) := by decide +kernel
theorem dX9_odds_29 : decode cX9_odds 29 = .ok (.iload 4, 2) := by decide +kernel
theorem dX9_odds_31 : decode cX9_odds 31 = .ok (.bipush 20, 2) := by decide +kernel
theorem dX9_odds_33 : decode cX9_odds 33 = .ok (.if_icmp .gt 27, 3) := by decide +kernel
theorem dX9_odds_36 : decode cX9_odds 36 = .ok (.aload_n 0, 1) := by decide +kernel
theorem dX9_odds_37 : decode cX9_odds 37 = .ok (.iconst 1, 1) := by decide +kernel
theorem dX9_odds_38 : decode cX9_odds 38 = .ok (.iload 4, 2) := by decide +kernel
theorem dX9_odds_40 : decode cX9_odds 40 = .ok (.invokevirtual 157, 3) := by decide +kernel
theorem dX9_odds_43 : decode cX9_odds 43 = .ok (.aload_n 0, 1) := by decide +kernel
theorem dX9_odds_44 : decode cX9_odds 44 = .ok (.getfield 86, 3) := by decide +kernel
theorem dX9_odds_47 : decode cX9_odds 47 = .ok (.iload_n 1, 1) := by decide +kernel
theorem dX9_odds_48 : decode cX9_odds 48 = .ok (.if_icmp .lt 6, 3) := by decide +kernel
theorem dX9_odds_51 : decode cX9_odds 51 = .ok (.iinc 3 1, 3) := by decide +kernel
theorem dX9_odds_54 : decode cX9_odds 54 = .ok (.iinc 4 4, 3) := by decide +kernel
theorem dX9_odds_57 : decode cX9_odds 57 = .ok (.goto (-28), 3) := by decide +kernel
theorem dX9_odds_60 : decode cX9_odds 60 = .ok (.iload_n 3, 1) := by decide +kernel
theorem dX9_odds_61 : decode cX9_odds 61 = .ok (.i2l, 1) := by decide +kernel
theorem dX9_odds_62 : decode cX9_odds 62 = .ok (.ldc2_w 183, 3) := by decide +kernel
theorem dX9_odds_65 : decode cX9_odds 65 = .ok (.iload_n 2, 1) := by decide +kernel
theorem dX9_odds_66 : decode cX9_odds 66 = .ok (.invokestatic 104, 3) := by decide +kernel
theorem dX9_odds_69 : decode cX9_odds 69 = .ok (.lreturn, 1) := by decide +kernel
theorem dX9_mean_0 : decode cX9_mean 0 = .ok (.iload_n 1, 1) := by decide +kernel
theorem dX9_mean_1 : decode cX9_mean 1 = .ok (.iconst 0, 1) := by decide +kernel
theorem dX9_mean_2 : decode cX9_mean 2 = .ok (.iconst 1, 1) := by decide +kernel
theorem dX9_mean_3 : decode cX9_mean 3 = .ok (.invokestatic 55, 3) := by decide +kernel
theorem dX9_mean_6 : decode cX9_mean 6 = .ok (.ifCond .ne 7, 3) := by decide +kernel
theorem dX9_mean_9 : decode cX9_mean 9 = .ok (.ldc2_w 100, 3) := by decide +kernel
theorem dX9_mean_12 : decode cX9_mean 12 = .ok (.lreturn, 1) := by decide +kernel
theorem dX9_mean_13 : decode cX9_mean 13 = .ok (.aload_n 0, 1) := by decide +kernel
theorem dX9_mean_14 : decode cX9_mean 14 = .ok (.invokevirtual 161, 3) := by decide +kernel
theorem dX9_mean_17 : decode cX9_mean 17 = .ok (.aload_n 0, 1) := by decide +kernel
theorem dX9_mean_18 : decode cX9_mean 18 = .ok (.invokevirtual 163, 3) := by decide +kernel
theorem dX9_mean_21 : decode cX9_mean 21 = .ok (.ifCond .ne 9, 3) := by decide +kernel
theorem dX9_mean_24 : decode cX9_mean 24 = .ok (.ldc2_w 100, 3) := by decide +kernel
theorem dX9_mean_27 : decode cX9_mean 27 = .ok (.goto 31, 3) := by decide +kernel
theorem dX9_mean_30 : decode cX9_mean 30 = .ok (.aload_n 0, 1) := by decide +kernel
theorem dX9_mean_31 : decode cX9_mean 31 = .ok (.getfield 31, 3) := by decide +kernel
theorem dX9_mean_34 : decode cX9_mean 34 = .ok (.aload_n 0, 1) := by decide +kernel
theorem dX9_mean_35 : decode cX9_mean 35 = .ok (.getfield 86, 3) := by decide +kernel
theorem dX9_mean_38 : decode cX9_mean 38 = .ok (.iconst 1, 1) := by decide +kernel
theorem dX9_mean_39 : decode cX9_mean 39 = .ok (.isub, 1) := by decide +kernel
theorem dX9_mean_40 : decode cX9_mean 40 = .ok (.iaload, 1) := by decide +kernel
theorem dX9_mean_41 : decode cX9_mean 41 = .ok (.aload_n 0, 1) := by decide +kernel
theorem dX9_mean_42 : decode cX9_mean 42 = .ok (.getfield 31, 3) := by decide +kernel
theorem dX9_mean_45 : decode cX9_mean 45 = .ok (.iconst 0, 1) := by decide +kernel
theorem dX9_mean_46 : decode cX9_mean 46 = .ok (.iaload, 1) := by decide +kernel
theorem dX9_mean_47 : decode cX9_mean 47 = .ok (.isub, 1) := by decide +kernel
theorem dX9_mean_48 : decode cX9_mean 48 = .ok (.i2l, 1) := by decide +kernel
theorem dX9_mean_49 : decode cX9_mean 49 = .ok (.aload_n 0, 1) := by decide +kernel
theorem dX9_mean_50 : decode cX9_mean 50 = .ok (.invokevirtual 163, 3) := by decide +kernel
theorem dX9_mean_53 : decode cX9_mean 53 = .ok (.i2l, 1) := by decide +kernel
theorem dX9_mean_54 : decode cX9_mean 54 = .ok (.iload_n 1, 1) := by decide +kernel
theorem dX9_mean_55 : decode cX9_mean 55 = .ok (.invokestatic 104, 3) := by decide +kernel
theorem dX9_mean_58 : decode cX9_mean 58 = .ok (.lreturn, 1) := by decide +kernel
theorem dX9_book_0 : decode cX9_book 0 = .ok (.iload_n 1, 1) := by decide +kernel
theorem dX9_book_1 : decode cX9_book 1 = .ok (.iconst (-1), 1) := by decide +kernel
theorem dX9_book_2 : decode cX9_book 2 = .ok (.if_icmp .ne 13, 3) := by decide +kernel
theorem dX9_book_5 : decode cX9_book 5 = .ok (.aload_n 0, 1) := by decide +kernel
theorem dX9_book_6 : decode cX9_book 6 = .ok (.getfield 9, 3) := by decide +kernel
theorem dX9_book_9 : decode cX9_book 9 = .ok (.bipush 14, 2) := by decide +kernel
theorem dX9_book_11 : decode cX9_book 11 = .ok (.iconst 0, 1) := by decide +kernel
theorem dX9_book_12 : decode cX9_book 12 = .ok (.iastore, 1) := by decide +kernel
theorem dX9_book_13 : decode cX9_book 13 = .ok (.iconst 0, 1) := by decide +kernel
theorem dX9_book_14 : decode cX9_book 14 = .ok (.ireturn, 1) := by decide +kernel
theorem dX9_book_15 : decode cX9_book 15 = .ok (.iload_n 1, 1) := by decide +kernel
theorem dX9_book_16 : decode cX9_book 16 = .ok (.iconst 0, 1) := by decide +kernel
theorem dX9_book_17 : decode cX9_book 17 = .ok (.bipush 99, 2) := by decide +kernel
theorem dX9_book_19 : decode cX9_book 19 = .ok (.invokestatic 55, 3) := by decide +kernel
theorem dX9_book_22 : decode cX9_book 22 = .ok (.ifCond .eq 14, 3) := by decide +kernel
theorem dX9_book_25 : decode cX9_book 25 = .ok (.iload_n 2, 1) := by decide +kernel
theorem dX9_book_26 : decode cX9_book 26 = .ok (.iconst 0, 1) := by decide +kernel
theorem dX9_book_27 : decode cX9_book 27 = .ok (.sipush 400, 3) := by decide +kernel
theorem dX9_book_30 : decode cX9_book 30 = .ok (.invokestatic 55, 3) := by decide +kernel
theorem dX9_book_33 : decode cX9_book 33 = .ok (.ifCond .ne 6, 3) := by decide +kernel
theorem dX9_book_36 : decode cX9_book 36 = .ok (.bipush (-2), 2) := by decide +kernel
theorem dX9_book_38 : decode cX9_book 38 = .ok (.ireturn, 1) := by decide +kernel
theorem dX9_book_39 : decode cX9_book 39 = .ok (.aload_n 0, 1) := by decide +kernel
theorem dX9_book_40 : decode cX9_book 40 = .ok (.getfield 9, 3) := by decide +kernel
theorem dX9_book_43 : decode cX9_book 43 = .ok (.bipush 14, 2) := by decide +kernel
theorem dX9_book_45 : decode cX9_book 45 = .ok (.iaload, 1) := by decide +kernel
theorem dX9_book_46 : decode cX9_book 46 = .ok (.bipush 8, 2) := by decide +kernel
theorem dX9_book_48 : decode cX9_book 48 = .ok (.if_icmp .ne 6, 3) := by decide +kernel
theorem dX9_book_51 : decode cX9_book 51 = .ok (.bipush (-4), 2) := by decide +kernel
theorem dX9_book_53 : decode cX9_book 53 = .ok (.ireturn, 1) := by decide +kernel
theorem dX9_book_54 : decode cX9_book 54 = .ok (.aload_n 0, 1) := by decide +kernel
theorem dX9_book_55 : decode cX9_book 55 = .ok (.getfield 9, 3) := by decide +kernel
theorem dX9_book_58 : decode cX9_book 58 = .ok (.bipush 53, 2) := by decide +kernel
theorem dX9_book_60 : decode cX9_book 60 = .ok (.iconst 2, 1) := by decide +kernel
theorem dX9_book_61 : decode cX9_book 61 = .ok (.aload_n 0, 1) := by decide +kernel
theorem dX9_book_62 : decode cX9_book 62 = .ok (.getfield 9, 3) := by decide +kernel
theorem dX9_book_65 : decode cX9_book 65 = .ok (.bipush 14, 2) := by decide +kernel
theorem dX9_book_67 : decode cX9_book 67 = .ok (.iaload, 1) := by decide +kernel
theorem dX9_book_68 : decode cX9_book 68 = .ok (.imul, 1) := by decide +kernel
theorem dX9_book_69 : decode cX9_book 69 = .ok (.iadd, 1) := by decide +kernel
theorem dX9_book_70 : decode cX9_book 70 = .ok (.iload_n 1, 1) := by decide +kernel
theorem dX9_book_71 : decode cX9_book 71 = .ok (.iastore, 1) := by decide +kernel
theorem dX9_book_72 : decode cX9_book 72 = .ok (.aload_n 0, 1) := by decide +kernel
theorem dX9_book_73 : decode cX9_book 73 = .ok (.getfield 9, 3) := by decide +kernel
theorem dX9_book_76 : decode cX9_book 76 = .ok (.bipush 53, 2) := by decide +kernel
theorem dX9_book_78 : decode cX9_book 78 = .ok (.iconst 2, 1) := by decide +kernel
theorem dX9_book_79 : decode cX9_book 79 = .ok (.aload_n 0, 1) := by decide +kernel
theorem dX9_book_80 : decode cX9_book 80 = .ok (.getfield 9, 3) := by decide +kernel
theorem dX9_book_83 : decode cX9_book 83 = .ok (.bipush 14, 2) := by decide +kernel
theorem dX9_book_85 : decode cX9_book 85 = .ok (.iaload, 1) := by decide +kernel
theorem dX9_book_86 : decode cX9_book 86 = .ok (.imul, 1) := by decide +kernel
theorem dX9_book_87 : decode cX9_book 87 = .ok (.iadd, 1) := by decide +kernel
theorem dX9_book_88 : decode cX9_book 88 = .ok (.iconst 1, 1) := by decide +kernel
theorem dX9_book_89 : decode cX9_book 89 = .ok (.iadd, 1) := by decide +kernel
theorem dX9_book_90 : decode cX9_book 90 = .ok (.iload_n 2, 1) := by decide +kernel
theorem dX9_book_91 : decode cX9_book 91 = .ok (.iastore, 1) := by decide +kernel
theorem dX9_book_92 : decode cX9_book 92 = .ok (.aload_n 0, 1) := by decide +kernel
theorem dX9_book_93 : decode cX9_book 93 = .ok (.getfield 9, 3) := by decide +kernel
theorem dX9_book_96 : decode cX9_book 96 = .ok (.bipush 14, 2) := by decide +kernel
theorem dX9_book_98 : decode cX9_book 98 = .ok (.dup2, 1) := by decide +kernel
theorem dX9_book_99 : decode cX9_book 99 = .ok (.iaload, 1) := by decide +kernel
theorem dX9_book_100 : decode cX9_book 100 = .ok (.iconst 1, 1) := by decide +kernel
theorem dX9_book_101 : decode cX9_book 101 = .ok (.iadd, 1) := by decide +kernel
theorem dX9_book_102 : decode cX9_book 102 = .ok (.dup_x2, 1) := by decide +kernel
theorem dX9_book_103 : decode cX9_book 103 = .ok (.iastore, 1) := by decide +kernel
theorem dX9_book_104 : decode cX9_book 104 = .ok (.ireturn, 1) := by decide +kernel
theorem dX9_looked_0 : decode cX9_looked 0 = .ok (.aload_n 0, 1) := by decide +kernel
theorem dX9_looked_1 : decode cX9_looked 1 = .ok (.invokevirtual 161, 3) := by decide +kernel
theorem dX9_looked_4 : decode cX9_looked 4 = .ok (.iconst 0, 1) := by decide +kernel
theorem dX9_looked_5 : decode cX9_looked 5 = .ok (.istore_n 1, 1) := by decide +kernel
theorem dX9_looked_6 : decode cX9_looked 6 = .ok (.iload_n 1, 1) := by decide +kernel
theorem dX9_looked_7 : decode cX9_looked 7 = .ok (.aload_n 0, 1) := by decide +kernel
theorem dX9_looked_8 : decode cX9_looked 8 = .ok (.getfield 9, 3) := by decide +kernel
theorem dX9_looked_11 : decode cX9_looked 11 = .ok (.bipush 14, 2) := by decide +kernel
theorem dX9_looked_13 : decode cX9_looked 13 = .ok (.iaload, 1) := by decide +kernel
theorem dX9_looked_14 : decode cX9_looked 14 = .ok (.if_icmp .ge 53, 3) := by decide +kernel
theorem dX9_looked_17 : decode cX9_looked 17 = .ok (.aload_n 0, 1) := by decide +kernel
theorem dX9_looked_18 : decode cX9_looked 18 = .ok (.getfield 9, 3) := by decide +kernel
theorem dX9_looked_21 : decode cX9_looked 21 = .ok (.bipush 53, 2) := by decide +kernel
theorem dX9_looked_23 : decode cX9_looked 23 = .ok (.iconst 2, 1) := by decide +kernel
theorem dX9_looked_24 : decode cX9_looked 24 = .ok (.iload_n 1, 1) := by decide +kernel
theorem dX9_looked_25 : decode cX9_looked 25 = .ok (.imul, 1) := by decide +kernel
theorem dX9_looked_26 : decode cX9_looked 26 = .ok (.iadd, 1) := by decide +kernel
theorem dX9_looked_27 : decode cX9_looked 27 = .ok (.iaload, 1) := by decide +kernel
theorem dX9_looked_28 : decode cX9_looked 28 = .ok (.istore_n 2, 1) := by decide +kernel
theorem dX9_looked_29 : decode cX9_looked 29 = .ok (.iload_n 2, 1) := by decide +kernel
theorem dX9_looked_30 : decode cX9_looked 30 = .ok (.aload_n 0, 1) := by decide +kernel
theorem dX9_looked_31 : decode cX9_looked 31 = .ok (.getfield 86, 3) := by decide +kernel
theorem dX9_looked_34 : decode cX9_looked 34 = .ok (.if_icmp .ge 25, 3) := by decide +kernel
theorem dX9_looked_37 : decode cX9_looked 37 = .ok (.aload_n 0, 1) := by decide +kernel
theorem dX9_looked_38 : decode cX9_looked 38 = .ok (.getfield 31, 3) := by decide +kernel
theorem dX9_looked_41 : decode cX9_looked 41 = .ok (.iload_n 2, 1) := by decide +kernel
theorem dX9_looked_42 : decode cX9_looked 42 = .ok (.iaload, 1) := by decide +kernel
theorem dX9_looked_43 : decode cX9_looked 43 = .ok (.aload_n 0, 1) := by decide +kernel
theorem dX9_looked_44 : decode cX9_looked 44 = .ok (.getfield 9, 3) := by decide +kernel
theorem dX9_looked_47 : decode cX9_looked 47 = .ok (.bipush 53, 2) := by decide +kernel
theorem dX9_looked_49 : decode cX9_looked 49 = .ok (.iconst 2, 1) := by decide +kernel
theorem dX9_looked_50 : decode cX9_looked 50 = .ok (.iload_n 1, 1) := by decide +kernel
theorem dX9_looked_51 : decode cX9_looked 51 = .ok (.imul, 1) := by decide +kernel
theorem dX9_looked_52 : decode cX9_looked 52 = .ok (.iadd, 1) := by decide +kernel
theorem dX9_looked_53 : decode cX9_looked 53 = .ok (.iconst 1, 1) := by decide +kernel
theorem dX9_looked_54 : decode cX9_looked 54 = .ok (.iadd, 1) := by decide +kernel
theorem dX9_looked_55 : decode cX9_looked 55 = .ok (.iaload, 1) := by decide +kernel
theorem dX9_looked_56 : decode cX9_looked 56 = .ok (.if_icmp .eq 5, 3) := by decide +kernel
theorem dX9_looked_59 : decode cX9_looked 59 = .ok (.iload_n 1, 1) := by decide +kernel
theorem dX9_looked_60 : decode cX9_looked 60 = .ok (.ireturn, 1) := by decide +kernel
theorem dX9_looked_61 : decode cX9_looked 61 = .ok (.iinc 1 1, 3) := by decide +kernel
theorem dX9_looked_64 : decode cX9_looked 64 = .ok (.goto (-58), 3) := by decide +kernel
theorem dX9_looked_67 : decode cX9_looked 67 = .ok (.bipush (-5), 2) := by decide +kernel
theorem dX9_looked_69 : decode cX9_looked 69 = .ok (.ireturn, 1) := by decide +kernel
theorem dX9_isTape_0 : decode cX9_isTape 0 = .ok (.iload_n 0, 1) := by decide +kernel
theorem dX9_isTape_1 : decode cX9_isTape 1 = .ok (.iconst 0, 1) := by decide +kernel
theorem dX9_isTape_2 : decode cX9_isTape 2 = .ok (.iconst 5, 1) := by decide +kernel
theorem dX9_isTape_3 : decode cX9_isTape 3 = .ok (.invokestatic 55, 3) := by decide +kernel
theorem dX9_isTape_6 : decode cX9_isTape 6 = .ok (.ireturn, 1) := by decide +kernel
theorem dX9_judge_0 : decode cX9_judge 0 = .ok (.iload_n 1, 1) := by decide +kernel
theorem dX9_judge_1 : decode cX9_judge 1 = .ok (.invokestatic 185, 3) := by decide +kernel
theorem dX9_judge_4 : decode cX9_judge 4 = .ok (.ifCond .ne 5, 3) := by decide +kernel
theorem dX9_judge_7 : decode cX9_judge 7 = .ok (.iconst (-1), 1) := by decide +kernel
theorem dX9_judge_8 : decode cX9_judge 8 = .ok (.ireturn, 1) := by decide +kernel
theorem dX9_judge_9 : decode cX9_judge 9 = .ok (.aload_n 0, 1) := by decide +kernel
theorem dX9_judge_10 : decode cX9_judge 10 = .ok (.getfield 43, 3) := by decide +kernel
theorem dX9_judge_13 : decode cX9_judge 13 = .ok (.iload_n 1, 1) := by decide +kernel
theorem dX9_judge_14 : decode cX9_judge 14 = .ok (.iaload, 1) := by decide +kernel
theorem dX9_judge_15 : decode cX9_judge 15 = .ok (.ifCond .eq 16, 3) := by decide +kernel
theorem dX9_judge_18 : decode cX9_judge 18 = .ok (.aload_n 0, 1) := by decide +kernel
theorem dX9_judge_19 : decode cX9_judge 19 = .ok (.getfield 43, 3) := by decide +kernel
theorem dX9_judge_22 : decode cX9_judge 22 = .ok (.iload_n 1, 1) := by decide +kernel
theorem dX9_judge_23 : decode cX9_judge 23 = .ok (.iaload, 1) := by decide +kernel
theorem dX9_judge_24 : decode cX9_judge 24 = .ok (.iconst 2, 1) := by decide +kernel
theorem dX9_judge_25 : decode cX9_judge 25 = .ok (.if_icmp .eq 6, 3) := by decide +kernel
theorem dX9_judge_28 : decode cX9_judge 28 = .ok (.bipush (-12), 2) := by decide +kernel
theorem dX9_judge_30 : decode cX9_judge 30 = .ok (.ireturn, 1) := by decide +kernel
theorem dX9_judge_31 : decode cX9_judge 31 = .ok (.aload_n 0, 1) := by decide +kernel
theorem dX9_judge_32 : decode cX9_judge 32 = .ok (.invokevirtual 161, 3) := by decide +kernel
theorem dX9_judge_35 : decode cX9_judge 35 = .ok (.iconst 0, 1) := by decide +kernel
theorem dX9_judge_36 : decode cX9_judge 36 = .ok (.istore_n 3, 1) := by decide +kernel
theorem dX9_judge_37 : decode cX9_judge 37 = .ok (.iload_n 3, 1) := by decide +kernel
theorem dX9_judge_38 : decode cX9_judge 38 = .ok (.aload_n 0, 1) := by decide +kernel
theorem dX9_judge_39 : decode cX9_judge 39 = .ok (.getfield 86, 3) := by decide +kernel
theorem dX9_judge_42 : decode cX9_judge 42 = .ok (.if_icmp .ge 60, 3) := by decide +kernel
theorem dX9_judge_45 : decode cX9_judge 45 = .ok (.iload_n 2, 1) := by decide +kernel
theorem dX9_judge_46 : decode cX9_judge 46 = .ok (.ifCond .lt 19, 3) := by decide +kernel
theorem dX9_judge_49 : decode cX9_judge 49 = .ok (.iload_n 2, 1) := by decide +kernel
theorem dX9_judge_50 : decode cX9_judge 50 = .ok (.i2l, 1) := by decide +kernel
theorem dX9_judge_51 : decode cX9_judge 51 = .ok (.iload_n 3, 1) := by decide +kernel
theorem dX9_judge_52 : decode cX9_judge 52 = .ok (.i2l, 1) := by decide +kernel
theorem dX9_judge_53 : decode cX9_judge 53 = .ok (.ladd, 1) := by decide +kernel
theorem dX9_judge_54 : decode cX9_judge 54 = .ok (.aload_n 0, 1) := by decide +kernel
theorem dX9_judge_55 : decode cX9_judge 55 = .ok (.getfield 46, 3) := by decide +kernel
theorem dX9_judge_58 : decode cX9_judge 58 = .ok (.iload_n 1, 1) := by decide +kernel
theorem dX9_judge_59 : decode cX9_judge 59 = .ok (.iaload, 1) := by decide +kernel
theorem dX9_judge_60 : decode cX9_judge 60 = .ok (.i2l, 1) := by decide +kernel
theorem dX9_judge_61 : decode cX9_judge 61 = .ok (.lcmp, 1) := by decide +kernel
theorem dX9_judge_62 : decode cX9_judge 62 = .ok (.ifCond .lt 8, 3) := by decide +kernel
theorem dX9_judge_65 : decode cX9_judge 65 = .ok (.bipush 100, 2) := by decide +kernel
theorem dX9_judge_67 : decode cX9_judge 67 = .ok (.iload_n 3, 1) := by decide +kernel
theorem dX9_judge_68 : decode cX9_judge 68 = .ok (.iadd, 1) := by decide +kernel
theorem dX9_judge_69 : decode cX9_judge 69 = .ok (.ireturn, 1) := by decide +kernel
theorem dX9_judge_70 : decode cX9_judge 70 = .ok (.aload_n 0, 1) := by decide +kernel
theorem dX9_judge_71 : decode cX9_judge 71 = .ok (.getfield 49, 3) := by decide +kernel
theorem dX9_judge_74 : decode cX9_judge 74 = .ok (.bipush 60, 2) := by decide +kernel
theorem dX9_judge_76 : decode cX9_judge 76 = .ok (.iload_n 1, 1) := by decide +kernel
theorem dX9_judge_77 : decode cX9_judge 77 = .ok (.imul, 1) := by decide +kernel
theorem dX9_judge_78 : decode cX9_judge 78 = .ok (.iload_n 2, 1) := by decide +kernel
theorem dX9_judge_79 : decode cX9_judge 79 = .ok (.iadd, 1) := by decide +kernel
theorem dX9_judge_80 : decode cX9_judge 80 = .ok (.iload_n 3, 1) := by decide +kernel
theorem dX9_judge_81 : decode cX9_judge 81 = .ok (.iadd, 1) := by decide +kernel
theorem dX9_judge_82 : decode cX9_judge 82 = .ok (.laload, 1) := by decide +kernel
theorem dX9_judge_83 : decode cX9_judge 83 = .ok (.aload_n 0, 1) := by decide +kernel
theorem dX9_judge_84 : decode cX9_judge 84 = .ok (.getfield 31, 3) := by decide +kernel
theorem dX9_judge_87 : decode cX9_judge 87 = .ok (.iload_n 3, 1) := by decide +kernel
theorem dX9_judge_88 : decode cX9_judge 88 = .ok (.iaload, 1) := by decide +kernel
theorem dX9_judge_89 : decode cX9_judge 89 = .ok (.i2l, 1) := by decide +kernel
theorem dX9_judge_90 : decode cX9_judge 90 = .ok (.lcmp, 1) := by decide +kernel
theorem dX9_judge_91 : decode cX9_judge 91 = .ok (.ifCond .eq 5, 3) := by decide +kernel
theorem dX9_judge_94 : decode cX9_judge 94 = .ok (.iload_n 3, 1) := by decide +kernel
theorem dX9_judge_95 : decode cX9_judge 95 = .ok (.ireturn, 1) := by decide +kernel
theorem dX9_judge_96 : decode cX9_judge 96 = .ok (.iinc 3 1, 3) := by decide +kernel
theorem dX9_judge_99 : decode cX9_judge 99 = .ok (.goto (-62), 3) := by decide +kernel
theorem dX9_judge_102 : decode cX9_judge 102 = .ok (.bipush (-5), 2) := by decide +kernel
theorem dX9_judge_104 : decode cX9_judge 104 = .ok (.ireturn, 1) := by decide +kernel
theorem dX9_image_0 : decode cX9_image 0 = .ok (.aload_n 0, 1) := by decide +kernel
theorem dX9_image_1 : decode cX9_image 1 = .ok (.iconst 1, 1) := by decide +kernel
theorem dX9_image_2 : decode cX9_image 2 = .ok (.putfield 188, 3) := by decide +kernel
theorem dX9_image_5 : decode cX9_image 5 = .ok (.aload_n 0, 1) := by decide +kernel
theorem dX9_image_6 : decode cX9_image 6 = .ok (.getfield 9, 3) := by decide +kernel
theorem dX9_image_9 : decode cX9_image 9 = .ok (.aload_n 0, 1) := by decide +kernel
theorem dX9_image_10 : decode cX9_image 10 = .ok (.getfield 15, 3) := by decide +kernel
theorem dX9_image_13 : decode cX9_image 13 = .ok (.invokestatic 143, 3) := by decide +kernel
theorem dX9_image_16 : decode cX9_image 16 = .ok (.aload_n 0, 1) := by decide +kernel
theorem dX9_image_17 : decode cX9_image 17 = .ok (.getfield 21, 3) := by decide +kernel
theorem dX9_image_20 : decode cX9_image 20 = .ok (.aload_n 0, 1) := by decide +kernel
theorem dX9_image_21 : decode cX9_image 21 = .ok (.getfield 25, 3) := by decide +kernel
theorem dX9_image_24 : decode cX9_image 24 = .ok (.invokestatic 147, 3) := by decide +kernel
theorem dX9_image_27 : decode cX9_image 27 = .ok (.aload_n 0, 1) := by decide +kernel
theorem dX9_image_28 : decode cX9_image 28 = .ok (.getfield 9, 3) := by decide +kernel
theorem dX9_image_31 : decode cX9_image 31 = .ok (.bipush 9, 2) := by decide +kernel
theorem dX9_image_33 : decode cX9_image 33 = .ok (.iaload, 1) := by decide +kernel
theorem dX9_image_34 : decode cX9_image 34 = .ok (.ireturn, 1) := by decide +kernel
theorem dX9_undo_0 : decode cX9_undo 0 = .ok (.aload_n 0, 1) := by decide +kernel
theorem dX9_undo_1 : decode cX9_undo 1 = .ok (.getfield 188, 3) := by decide +kernel
theorem dX9_undo_4 : decode cX9_undo 4 = .ok (.ifCond .ne 6, 3) := by decide +kernel
theorem dX9_undo_7 : decode cX9_undo 7 = .ok (.bipush (-3), 2) := by decide +kernel
theorem dX9_undo_9 : decode cX9_undo 9 = .ok (.ireturn, 1) := by decide +kernel
theorem dX9_undo_10 : decode cX9_undo 10 = .ok (.aload_n 0, 1) := by decide +kernel
theorem dX9_undo_11 : decode cX9_undo 11 = .ok (.getfield 15, 3) := by decide +kernel
theorem dX9_undo_14 : decode cX9_undo 14 = .ok (.aload_n 0, 1) := by decide +kernel
theorem dX9_undo_15 : decode cX9_undo 15 = .ok (.getfield 9, 3) := by decide +kernel
theorem dX9_undo_18 : decode cX9_undo 18 = .ok (.invokestatic 143, 3) := by decide +kernel
theorem dX9_undo_21 : decode cX9_undo 21 = .ok (.aload_n 0, 1) := by decide +kernel
theorem dX9_undo_22 : decode cX9_undo 22 = .ok (.getfield 25, 3) := by decide +kernel
theorem dX9_undo_25 : decode cX9_undo 25 = .ok (.aload_n 0, 1) := by decide +kernel
theorem dX9_undo_26 : decode cX9_undo 26 = .ok (.getfield 21, 3) := by decide +kernel
theorem dX9_undo_29 : decode cX9_undo 29 = .ok (.invokestatic 147, 3) := by decide +kernel
theorem dX9_undo_32 : decode cX9_undo 32 = .ok (.aload_n 0, 1) := by decide +kernel
theorem dX9_undo_33 : decode cX9_undo 33 = .ok (.getfield 9, 3) := by decide +kernel
theorem dX9_undo_36 : decode cX9_undo 36 = .ok (.bipush 9, 2) := by decide +kernel
theorem dX9_undo_38 : decode cX9_undo 38 = .ok (.iaload, 1) := by decide +kernel
theorem dX9_undo_39 : decode cX9_undo 39 = .ok (.ireturn, 1) := by decide +kernel
theorem dX9_count_0 : decode cX9_count 0 = .ok (.iload_n 1, 1) := by decide +kernel
theorem dX9_count_1 : decode cX9_count 1 = .ok (.ifCond .ne 13, 3) := by decide +kernel
theorem dX9_count_4 : decode cX9_count 4 = .ok (.aload_n 0, 1) := by decide +kernel
theorem dX9_count_5 : decode cX9_count 5 = .ok (.getfield 9, 3) := by decide +kernel
theorem dX9_count_8 : decode cX9_count 8 = .ok (.bipush 13, 2) := by decide +kernel
theorem dX9_count_10 : decode cX9_count 10 = .ok (.iaload, 1) := by decide +kernel
theorem dX9_count_11 : decode cX9_count 11 = .ok (.goto 32, 3) := by decide +kernel
theorem dX9_count_14 : decode cX9_count 14 = .ok (.iload_n 1, 1) := by decide +kernel
theorem dX9_count_15 : decode cX9_count 15 = .ok (.iconst 1, 1) := by decide +kernel
theorem dX9_count_16 : decode cX9_count 16 = .ok (.if_icmp .ne 13, 3) := by decide +kernel
theorem dX9_count_19 : decode cX9_count 19 = .ok (.aload_n 0, 1) := by decide +kernel
theorem dX9_count_20 : decode cX9_count 20 = .ok (.getfield 9, 3) := by decide +kernel
theorem dX9_count_23 : decode cX9_count 23 = .ok (.bipush 14, 2) := by decide +kernel
theorem dX9_count_25 : decode cX9_count 25 = .ok (.iaload, 1) := by decide +kernel
theorem dX9_count_26 : decode cX9_count 26 = .ok (.goto 17, 3) := by decide +kernel
theorem dX9_count_29 : decode cX9_count 29 = .ok (.iload_n 1, 1) := by decide +kernel
theorem dX9_count_30 : decode cX9_count 30 = .ok (.iconst 2, 1) := by decide +kernel
theorem dX9_count_31 : decode cX9_count 31 = .ok (.if_icmp .ne 10, 3) := by decide +kernel
theorem dX9_count_34 : decode cX9_count 34 = .ok (.aload_n 0, 1) := by decide +kernel
theorem dX9_count_35 : decode cX9_count 35 = .ok (.getfield 108, 3) := by decide +kernel
theorem dX9_count_38 : decode cX9_count 38 = .ok (.goto 5, 3) := by decide +kernel
theorem dX9_count_41 : decode cX9_count 41 = .ok (.bipush (-2), 2) := by decide +kernel
theorem dX9_count_43 : decode cX9_count 43 = .ok (.ireturn, 1) := by decide +kernel
theorem dX9_tape_0 : decode cX9_tape 0 = .ok (.iload_n 1, 1) := by decide +kernel
theorem dX9_tape_1 : decode cX9_tape 1 = .ok (.invokestatic 185, 3) := by decide +kernel
theorem dX9_tape_4 : decode cX9_tape 4 = .ok (.ifCond .ne 5, 3) := by decide +kernel
theorem dX9_tape_7 : decode cX9_tape 7 = .ok (.iconst (-1), 1) := by decide +kernel
theorem dX9_tape_8 : decode cX9_tape 8 = .ok (.ireturn, 1) := by decide +kernel
theorem dX9_tape_9 : decode cX9_tape 9 = .ok (.iload_n 2, 1) := by decide +kernel
theorem dX9_tape_10 : decode cX9_tape 10 = .ok (.iconst (-1), 1) := by decide +kernel
theorem dX9_tape_11 : decode cX9_tape 11 = .ok (.iconst 4, 1) := by decide +kernel
theorem dX9_tape_12 : decode cX9_tape 12 = .ok (.invokestatic 55, 3) := by decide +kernel
theorem dX9_tape_15 : decode cX9_tape 15 = .ok (.ifCond .eq 13, 3) := by decide +kernel
theorem dX9_tape_18 : decode cX9_tape 18 = .ok (.iload_n 2, 1) := by decide +kernel
theorem dX9_tape_19 : decode cX9_tape 19 = .ok (.ifCond .lt 12, 3) := by decide +kernel
theorem dX9_tape_22 : decode cX9_tape 22 = .ok (.iload_n 3, 1) := by decide +kernel
theorem dX9_tape_23 : decode cX9_tape 23 = .ok (.bipush 60, 2) := by decide +kernel
theorem dX9_tape_25 : decode cX9_tape 25 = .ok (.if_icmp .le 6, 3) := by decide +kernel
theorem dX9_tape_28 : decode cX9_tape 28 = .ok (.bipush (-2), 2) := by decide +kernel
theorem dX9_tape_30 : decode cX9_tape 30 = .ok (.ireturn, 1) := by decide +kernel
theorem dX9_tape_31 : decode cX9_tape 31 = .ok (.iload_n 2, 1) := by decide +kernel
theorem dX9_tape_32 : decode cX9_tape 32 = .ok (.ifCond .lt 10, 3) := by decide +kernel
theorem dX9_tape_35 : decode cX9_tape 35 = .ok (.iload_n 3, 1) := by decide +kernel
theorem dX9_tape_36 : decode cX9_tape 36 = .ok (.ifCond .ge 6, 3) := by decide +kernel
theorem dX9_tape_39 : decode cX9_tape 39 = .ok (.bipush (-14), 2) := by decide +kernel
theorem dX9_tape_41 : decode cX9_tape 41 = .ok (.ireturn, 1) := by decide +kernel
theorem dX9_tape_42 : decode cX9_tape 42 = .ok (.aload_n 0, 1) := by decide +kernel
theorem dX9_tape_43 : decode cX9_tape 43 = .ok (.getfield 43, 3) := by decide +kernel
theorem dX9_tape_46 : decode cX9_tape 46 = .ok (.iload_n 1, 1) := by decide +kernel
theorem dX9_tape_47 : decode cX9_tape 47 = .ok (.iload_n 2, 1) := by decide +kernel
theorem dX9_tape_48 : decode cX9_tape 48 = .ok (.iconst 1, 1) := by decide +kernel
theorem dX9_tape_49 : decode cX9_tape 49 = .ok (.iadd, 1) := by decide +kernel
theorem dX9_tape_50 : decode cX9_tape 50 = .ok (.iastore, 1) := by decide +kernel
theorem dX9_tape_51 : decode cX9_tape 51 = .ok (.aload_n 0, 1) := by decide +kernel
theorem dX9_tape_52 : decode cX9_tape 52 = .ok (.getfield 46, 3) := by decide +kernel
theorem dX9_tape_55 : decode cX9_tape 55 = .ok (.iload_n 1, 1) := by decide +kernel
theorem dX9_tape_56 : decode cX9_tape 56 = .ok (.iload_n 2, 1) := by decide +kernel
theorem dX9_tape_57 : decode cX9_tape 57 = .ok (.ifCond .ge 7, 3) := by decide +kernel
theorem dX9_tape_60 : decode cX9_tape 60 = .ok (.iconst 0, 1) := by decide +kernel
theorem dX9_tape_61 : decode cX9_tape 61 = .ok (.goto 4, 3) := by decide +kernel
theorem dX9_tape_64 : decode cX9_tape 64 = .ok (.iload_n 3, 1) := by decide +kernel
theorem dX9_tape_65 : decode cX9_tape 65 = .ok (.iastore, 1) := by decide +kernel
theorem dX9_tape_66 : decode cX9_tape 66 = .ok (.iconst 0, 1) := by decide +kernel
theorem dX9_tape_67 : decode cX9_tape 67 = .ok (.istore 4, 2) := by decide +kernel
theorem dX9_tape_69 : decode cX9_tape 69 = .ok (.iload 4, 2) := by decide +kernel
theorem dX9_tape_71 : decode cX9_tape 71 = .ok (.bipush 60, 2) := by decide +kernel
theorem dX9_tape_73 : decode cX9_tape 73 = .ok (.if_icmp .ge 22, 3) := by decide +kernel
theorem dX9_tape_76 : decode cX9_tape 76 = .ok (.aload_n 0, 1) := by decide +kernel
theorem dX9_tape_77 : decode cX9_tape 77 = .ok (.getfield 49, 3) := by decide +kernel
theorem dX9_tape_80 : decode cX9_tape 80 = .ok (.bipush 60, 2) := by decide +kernel
theorem dX9_tape_82 : decode cX9_tape 82 = .ok (.iload_n 1, 1) := by decide +kernel
theorem dX9_tape_83 : decode cX9_tape 83 = .ok (.imul, 1) := by decide +kernel
theorem dX9_tape_84 : decode cX9_tape 84 = .ok (.iload 4, 2) := by decide +kernel
theorem dX9_tape_86 : decode cX9_tape 86 = .ok (.iadd, 1) := by decide +kernel
theorem dX9_tape_87 : decode cX9_tape 87 = .ok (.lconst 0, 1) := by decide +kernel
theorem dX9_tape_88 : decode cX9_tape 88 = .ok (.lastore, 1) := by decide +kernel
theorem dX9_tape_89 : decode cX9_tape 89 = .ok (.iinc 4 1, 3) := by decide +kernel
theorem dX9_tape_92 : decode cX9_tape 92 = .ok (.goto (-23), 3) := by decide +kernel
theorem dX9_tape_95 : decode cX9_tape 95 = .ok (.iconst 1, 1) := by decide +kernel
theorem dX9_tape_96 : decode cX9_tape 96 = .ok (.ireturn, 1) := by decide +kernel
theorem dX9_item_0 : decode cX9_item 0 = .ok (.iload_n 1, 1) := by decide +kernel
theorem dX9_item_1 : decode cX9_item 1 = .ok (.invokestatic 185, 3) := by decide +kernel
theorem dX9_item_4 : decode cX9_item 4 = .ok (.ifCond .ne 5, 3) := by decide +kernel
theorem dX9_item_7 : decode cX9_item 7 = .ok (.iconst (-1), 1) := by decide +kernel
theorem dX9_item_8 : decode cX9_item 8 = .ok (.ireturn, 1) := by decide +kernel
theorem dX9_item_9 : decode cX9_item 9 = .ok (.aload_n 0, 1) := by decide +kernel
theorem dX9_item_10 : decode cX9_item 10 = .ok (.getfield 43, 3) := by decide +kernel
theorem dX9_item_13 : decode cX9_item 13 = .ok (.iload_n 1, 1) := by decide +kernel
theorem dX9_item_14 : decode cX9_item 14 = .ok (.iaload, 1) := by decide +kernel
theorem dX9_item_15 : decode cX9_item 15 = .ok (.ifCond .ne 6, 3) := by decide +kernel
theorem dX9_item_18 : decode cX9_item 18 = .ok (.bipush (-11), 2) := by decide +kernel
theorem dX9_item_20 : decode cX9_item 20 = .ok (.ireturn, 1) := by decide +kernel
theorem dX9_item_21 : decode cX9_item 21 = .ok (.iload_n 2, 1) := by decide +kernel
theorem dX9_item_22 : decode cX9_item 22 = .ok (.iconst 0, 1) := by decide +kernel
theorem dX9_item_23 : decode cX9_item 23 = .ok (.aload_n 0, 1) := by decide +kernel
theorem dX9_item_24 : decode cX9_item 24 = .ok (.getfield 46, 3) := by decide +kernel
theorem dX9_item_27 : decode cX9_item 27 = .ok (.iload_n 1, 1) := by decide +kernel
theorem dX9_item_28 : decode cX9_item 28 = .ok (.iaload, 1) := by decide +kernel
theorem dX9_item_29 : decode cX9_item 29 = .ok (.iconst 1, 1) := by decide +kernel
theorem dX9_item_30 : decode cX9_item 30 = .ok (.isub, 1) := by decide +kernel
theorem dX9_item_31 : decode cX9_item 31 = .ok (.invokestatic 55, 3) := by decide +kernel
theorem dX9_item_34 : decode cX9_item 34 = .ok (.ifCond .ne 6, 3) := by decide +kernel
theorem dX9_item_37 : decode cX9_item 37 = .ok (.bipush (-13), 2) := by decide +kernel
theorem dX9_item_39 : decode cX9_item 39 = .ok (.ireturn, 1) := by decide +kernel
theorem dX9_item_40 : decode cX9_item 40 = .ok (.aload_n 0, 1) := by decide +kernel
theorem dX9_item_41 : decode cX9_item 41 = .ok (.getfield 43, 3) := by decide +kernel
theorem dX9_item_44 : decode cX9_item 44 = .ok (.iload_n 1, 1) := by decide +kernel
theorem dX9_item_45 : decode cX9_item 45 = .ok (.iaload, 1) := by decide +kernel
theorem dX9_item_46 : decode cX9_item 46 = .ok (.istore 5, 2) := by decide +kernel
theorem dX9_item_48 : decode cX9_item 48 = .ok (.aload_n 0, 1) := by decide +kernel
theorem dX9_item_49 : decode cX9_item 49 = .ok (.getfield 49, 3) := by decide +kernel
theorem dX9_item_52 : decode cX9_item 52 = .ok (.bipush 60, 2) := by decide +kernel
theorem dX9_item_54 : decode cX9_item 54 = .ok (.iload_n 1, 1) := by decide +kernel
theorem dX9_item_55 : decode cX9_item 55 = .ok (.imul, 1) := by decide +kernel
theorem dX9_item_56 : decode cX9_item 56 = .ok (.iload_n 2, 1) := by decide +kernel
theorem dX9_item_57 : decode cX9_item 57 = .ok (.iadd, 1) := by decide +kernel
theorem dX9_item_58 : decode cX9_item 58 = .ok (.iload 5, 2) := by decide +kernel
theorem dX9_item_60 : decode cX9_item 60 = .ok (.iconst 1, 1) := by decide +kernel
theorem dX9_item_61 : decode cX9_item 61 = .ok (.if_icmp .ne 10, 3) := by decide +kernel
theorem dX9_item_64 : decode cX9_item 64 = .ok (.lload_n 3, 1) := by decide +kernel
theorem dX9_item_65 : decode cX9_item 65 = .ok (.l2i, 1) := by decide +kernel
theorem dX9_item_66 : decode cX9_item 66 = .ok (.i2b, 1) := by decide +kernel
theorem dX9_item_67 : decode cX9_item 67 = .ok (.i2l, 1) := by decide +kernel
theorem dX9_item_68 : decode cX9_item 68 = .ok (.goto 49, 3) := by decide +kernel
theorem dX9_item_71 : decode cX9_item 71 = .ok (.iload 5, 2) := by decide +kernel
theorem dX9_item_73 : decode cX9_item 73 = .ok (.iconst 2, 1) := by decide +kernel
theorem dX9_item_74 : decode cX9_item 74 = .ok (.if_icmp .ne 10, 3) := by decide +kernel
theorem dX9_item_77 : decode cX9_item 77 = .ok (.lload_n 3, 1) := by decide +kernel
theorem dX9_item_78 : decode cX9_item 78 = .ok (.l2i, 1) := by decide +kernel
theorem dX9_item_79 : decode cX9_item 79 = .ok (.i2s, 1) := by decide +kernel
theorem dX9_item_80 : decode cX9_item 80 = .ok (.i2l, 1) := by decide +kernel
theorem dX9_item_81 : decode cX9_item 81 = .ok (.goto 36, 3) := by decide +kernel
theorem dX9_item_84 : decode cX9_item 84 = .ok (.iload 5, 2) := by decide +kernel
theorem dX9_item_86 : decode cX9_item 86 = .ok (.iconst 3, 1) := by decide +kernel
theorem dX9_item_87 : decode cX9_item 87 = .ok (.if_icmp .ne 9, 3) := by decide +kernel
theorem dX9_item_90 : decode cX9_item 90 = .ok (.lload_n 3, 1) := by decide +kernel
theorem dX9_item_91 : decode cX9_item 91 = .ok (.l2i, 1) := by decide +kernel
theorem dX9_item_92 : decode cX9_item 92 = .ok (.i2l, 1) := by decide +kernel
theorem dX9_item_93 : decode cX9_item 93 = .ok (.goto 24, 3) := by decide +kernel
theorem dX9_item_96 : decode cX9_item 96 = .ok (.iload 5, 2) := by decide +kernel
theorem dX9_item_98 : decode cX9_item 98 = .ok (.iconst 4, 1) := by decide +kernel
theorem dX9_item_99 : decode cX9_item 99 = .ok (.if_icmp .ne 7, 3) := by decide +kernel
theorem dX9_item_102 : decode cX9_item 102 = .ok (.lload_n 3, 1) := by decide +kernel
theorem dX9_item_103 : decode cX9_item 103 = .ok (.goto 14, 3) := by decide +kernel
theorem dX9_item_106 : decode cX9_item 106 = .ok (.lload_n 3, 1) := by decide +kernel
theorem dX9_item_107 : decode cX9_item 107 = .ok (.lconst 0, 1) := by decide +kernel
theorem dX9_item_108 : decode cX9_item 108 = .ok (.lcmp, 1) := by decide +kernel
theorem dX9_item_109 : decode cX9_item 109 = .ok (.ifCond .eq 7, 3) := by decide +kernel
theorem dX9_item_112 : decode cX9_item 112 = .ok (.lconst 1, 1) := by decide +kernel
theorem dX9_item_113 : decode cX9_item 113 = .ok (.goto 4, 3) := by decide +kernel
theorem dX9_item_116 : decode cX9_item 116 = .ok (.lconst 0, 1) := by decide +kernel
theorem dX9_item_117 : decode cX9_item 117 = .ok (.lastore, 1) := by decide +kernel
theorem dX9_item_118 : decode cX9_item 118 = .ok (.iconst 1, 1) := by decide +kernel
theorem dX9_item_119 : decode cX9_item 119 = .ok (.ireturn, 1) := by decide +kernel
theorem dX9_peek_0 : decode cX9_peek 0 = .ok (.iload_n 1, 1) := by decide +kernel
theorem dX9_peek_1 : decode cX9_peek 1 = .ok (.invokestatic 185, 3) := by decide +kernel
theorem dX9_peek_4 : decode cX9_peek 4 = .ok (.ifCond .eq 33, 3) := by decide +kernel
theorem dX9_peek_7 : decode cX9_peek 7 = .ok (.iload_n 2, 1) := by decide +kernel
theorem dX9_peek_8 : decode cX9_peek 8 = .ok (.iconst 0, 1) := by decide +kernel
theorem dX9_peek_9 : decode cX9_peek 9 = .ok (.aload_n 0, 1) := by decide +kernel
theorem dX9_peek_10 : decode cX9_peek 10 = .ok (.getfield 46, 3) := by decide +kernel
theorem dX9_peek_13 : decode cX9_peek 13 = .ok (.iload_n 1, 1) := by decide +kernel
theorem dX9_peek_14 : decode cX9_peek 14 = .ok (.iaload, 1) := by decide +kernel
theorem dX9_peek_15 : decode cX9_peek 15 = .ok (.iconst 1, 1) := by decide +kernel
theorem dX9_peek_16 : decode cX9_peek 16 = .ok (.isub, 1) := by decide +kernel
theorem dX9_peek_17 : decode cX9_peek 17 = .ok (.invokestatic 55, 3) := by decide +kernel
theorem dX9_peek_20 : decode cX9_peek 20 = .ok (.ifCond .eq 17, 3) := by decide +kernel
theorem dX9_peek_23 : decode cX9_peek 23 = .ok (.aload_n 0, 1) := by decide +kernel
theorem dX9_peek_24 : decode cX9_peek 24 = .ok (.getfield 49, 3) := by decide +kernel
theorem dX9_peek_27 : decode cX9_peek 27 = .ok (.bipush 60, 2) := by decide +kernel
theorem dX9_peek_29 : decode cX9_peek 29 = .ok (.iload_n 1, 1) := by decide +kernel
theorem dX9_peek_30 : decode cX9_peek 30 = .ok (.imul, 1) := by decide +kernel
theorem dX9_peek_31 : decode cX9_peek 31 = .ok (.iload_n 2, 1) := by decide +kernel
theorem dX9_peek_32 : decode cX9_peek 32 = .ok (.iadd, 1) := by decide +kernel
theorem dX9_peek_33 : decode cX9_peek 33 = .ok (.laload, 1) := by decide +kernel
theorem dX9_peek_34 : decode cX9_peek 34 = .ok (.goto 6, 3) := by decide +kernel
theorem dX9_peek_37 : decode cX9_peek 37 = .ok (.ldc2_w 100, 3) := by decide +kernel
theorem dX9_peek_40 : decode cX9_peek 40 = .ok (.lreturn, 1) := by decide +kernel
theorem dX9_shift_0 : decode cX9_shift 0 = .ok (.iload_n 1, 1) := by decide +kernel
theorem dX9_shift_1 : decode cX9_shift 1 = .ok (.invokestatic 185, 3) := by decide +kernel
theorem dX9_shift_4 : decode cX9_shift 4 = .ok (.ifCond .eq 10, 3) := by decide +kernel
theorem dX9_shift_7 : decode cX9_shift 7 = .ok (.iload_n 3, 1) := by decide +kernel
theorem dX9_shift_8 : decode cX9_shift 8 = .ok (.invokestatic 185, 3) := by decide +kernel
theorem dX9_shift_11 : decode cX9_shift 11 = .ok (.ifCond .ne 5, 3) := by decide +kernel
theorem dX9_shift_14 : decode cX9_shift 14 = .ok (.iconst (-1), 1) := by decide +kernel
theorem dX9_shift_15 : decode cX9_shift 15 = .ok (.ireturn, 1) := by decide +kernel
theorem dX9_shift_16 : decode cX9_shift 16 = .ok (.aload_n 0, 1) := by decide +kernel
theorem dX9_shift_17 : decode cX9_shift 17 = .ok (.getfield 43, 3) := by decide +kernel
theorem dX9_shift_20 : decode cX9_shift 20 = .ok (.iload_n 1, 1) := by decide +kernel
theorem dX9_shift_21 : decode cX9_shift 21 = .ok (.iaload, 1) := by decide +kernel
theorem dX9_shift_22 : decode cX9_shift 22 = .ok (.ifCond .eq 12, 3) := by decide +kernel
theorem dX9_shift_25 : decode cX9_shift 25 = .ok (.aload_n 0, 1) := by decide +kernel
theorem dX9_shift_26 : decode cX9_shift 26 = .ok (.getfield 43, 3) := by decide +kernel
theorem dX9_shift_29 : decode cX9_shift 29 = .ok (.iload_n 3, 1) := by decide +kernel
theorem dX9_shift_30 : decode cX9_shift 30 = .ok (.iaload, 1) := by decide +kernel
theorem dX9_shift_31 : decode cX9_shift 31 = .ok (.ifCond .ne 6, 3) := by decide +kernel
theorem dX9_shift_34 : decode cX9_shift 34 = .ok (.bipush (-11), 2) := by decide +kernel
theorem dX9_shift_36 : decode cX9_shift 36 = .ok (.ireturn, 1) := by decide +kernel
theorem dX9_shift_37 : decode cX9_shift 37 = .ok (.aload_n 0, 1) := by decide +kernel
theorem dX9_shift_38 : decode cX9_shift 38 = .ok (.getfield 43, 3) := by decide +kernel
theorem dX9_shift_41 : decode cX9_shift 41 = .ok (.iload_n 1, 1) := by decide +kernel
theorem dX9_shift_42 : decode cX9_shift 42 = .ok (.iaload, 1) := by decide +kernel
theorem dX9_shift_43 : decode cX9_shift 43 = .ok (.aload_n 0, 1) := by decide +kernel
theorem dX9_shift_44 : decode cX9_shift 44 = .ok (.getfield 43, 3) := by decide +kernel
theorem dX9_shift_47 : decode cX9_shift 47 = .ok (.iload_n 3, 1) := by decide +kernel
theorem dX9_shift_48 : decode cX9_shift 48 = .ok (.iaload, 1) := by decide +kernel
theorem dX9_shift_49 : decode cX9_shift 49 = .ok (.if_icmp .eq 6, 3) := by decide +kernel
theorem dX9_shift_52 : decode cX9_shift 52 = .ok (.bipush (-12), 2) := by decide +kernel
theorem dX9_shift_54 : decode cX9_shift 54 = .ok (.ireturn, 1) := by decide +kernel
theorem dX9_shift_55 : decode cX9_shift 55 = .ok (.iload 5, 2) := by decide +kernel
theorem dX9_shift_57 : decode cX9_shift 57 = .ok (.ifCond .lt 47, 3) := by decide +kernel
theorem dX9_shift_60 : decode cX9_shift 60 = .ok (.iload_n 2, 1) := by decide +kernel
theorem dX9_shift_61 : decode cX9_shift 61 = .ok (.ifCond .lt 43, 3) := by decide +kernel
theorem dX9_shift_64 : decode cX9_shift 64 = .ok (.iload 4, 2) := by decide +kernel
theorem dX9_shift_66 : decode cX9_shift 66 = .ok (.ifCond .lt 38, 3) := by decide +kernel
theorem dX9_shift_69 : decode cX9_shift 69 = .ok (.iload_n 2, 1) := by decide +kernel
theorem dX9_shift_70 : decode cX9_shift 70 = .ok (.i2l, 1) := by decide +kernel
theorem dX9_shift_71 : decode cX9_shift 71 = .ok (.iload 5, 2) := by decide +kernel
theorem dX9_shift_73 : decode cX9_shift 73 = .ok (.i2l, 1) := by decide +kernel
theorem dX9_shift_74 : decode cX9_shift 74 = .ok (.ladd, 1) := by decide +kernel
theorem dX9_shift_75 : decode cX9_shift 75 = .ok (.aload_n 0, 1) := by decide +kernel
theorem dX9_shift_76 : decode cX9_shift 76 = .ok (.getfield 46, 3) := by decide +kernel
theorem dX9_shift_79 : decode cX9_shift 79 = .ok (.iload_n 1, 1) := by decide +kernel
theorem dX9_shift_80 : decode cX9_shift 80 = .ok (.iaload, 1) := by decide +kernel
theorem dX9_shift_81 : decode cX9_shift 81 = .ok (.i2l, 1) := by decide +kernel
theorem dX9_shift_82 : decode cX9_shift 82 = .ok (.lcmp, 1) := by decide +kernel
theorem dX9_shift_83 : decode cX9_shift 83 = .ok (.ifCond .gt 21, 3) := by decide +kernel
theorem dX9_shift_86 : decode cX9_shift 86 = .ok (.iload 4, 2) := by decide +kernel
theorem dX9_shift_88 : decode cX9_shift 88 = .ok (.i2l, 1) := by decide +kernel
theorem dX9_shift_89 : decode cX9_shift 89 = .ok (.iload 5, 2) := by decide +kernel
theorem dX9_shift_91 : decode cX9_shift 91 = .ok (.i2l, 1) := by decide +kernel
theorem dX9_shift_92 : decode cX9_shift 92 = .ok (.ladd, 1) := by decide +kernel
theorem dX9_shift_93 : decode cX9_shift 93 = .ok (.aload_n 0, 1) := by decide +kernel
theorem dX9_shift_94 : decode cX9_shift 94 = .ok (.getfield 46, 3) := by decide +kernel
theorem dX9_shift_97 : decode cX9_shift 97 = .ok (.iload_n 3, 1) := by decide +kernel
theorem dX9_shift_98 : decode cX9_shift 98 = .ok (.iaload, 1) := by decide +kernel
theorem dX9_shift_99 : decode cX9_shift 99 = .ok (.i2l, 1) := by decide +kernel
theorem dX9_shift_100 : decode cX9_shift 100 = .ok (.lcmp, 1) := by decide +kernel
theorem dX9_shift_101 : decode cX9_shift 101 = .ok (.ifCond .le 6, 3) := by decide +kernel
theorem dX9_shift_104 : decode cX9_shift 104 = .ok (.bipush (-13), 2) := by decide +kernel
theorem dX9_shift_106 : decode cX9_shift 106 = .ok (.ireturn, 1) := by decide +kernel
theorem dX9_shift_107 : decode cX9_shift 107 = .ok (.iconst 0, 1) := by decide +kernel
theorem dX9_shift_108 : decode cX9_shift 108 = .ok (.istore 6, 2) := by decide +kernel
theorem dX9_shift_110 : decode cX9_shift 110 = .ok (.iload 6, 2) := by decide +kernel
theorem dX9_shift_112 : decode cX9_shift 112 = .ok (.iload 5, 2) := by decide +kernel
theorem dX9_shift_114 : decode cX9_shift 114 = .ok (.if_icmp .ge 30, 3) := by decide +kernel
theorem dX9_shift_117 : decode cX9_shift 117 = .ok (.aload_n 0, 1) := by decide +kernel
theorem dX9_shift_118 : decode cX9_shift 118 = .ok (.getfield 52, 3) := by decide +kernel
theorem dX9_shift_121 : decode cX9_shift 121 = .ok (.iload 6, 2) := by decide +kernel
theorem dX9_shift_123 : decode cX9_shift 123 = .ok (.aload_n 0, 1) := by decide +kernel
theorem dX9_shift_124 : decode cX9_shift 124 = .ok (.getfield 49, 3) := by decide +kernel
theorem dX9_shift_127 : decode cX9_shift 127 = .ok (.bipush 60, 2) := by decide +kernel
theorem dX9_shift_129 : decode cX9_shift 129 = .ok (.iload_n 1, 1) := by decide +kernel
theorem dX9_shift_130 : decode cX9_shift 130 = .ok (.imul, 1) := by decide +kernel
theorem dX9_shift_131 : decode cX9_shift 131 = .ok (.iload_n 2, 1) := by decide +kernel
theorem dX9_shift_132 : decode cX9_shift 132 = .ok (.iadd, 1) := by decide +kernel
theorem dX9_shift_133 : decode cX9_shift 133 = .ok (.iload 6, 2) := by decide +kernel
theorem dX9_shift_135 : decode cX9_shift 135 = .ok (.iadd, 1) := by decide +kernel
theorem dX9_shift_136 : decode cX9_shift 136 = .ok (.laload, 1) := by decide +kernel
theorem dX9_shift_137 : decode cX9_shift 137 = .ok (.lastore, 1) := by decide +kernel
theorem dX9_shift_138 : decode cX9_shift 138 = .ok (.iinc 6 1, 3) := by decide +kernel
theorem dX9_shift_141 : decode cX9_shift 141 = .ok (.goto (-31), 3) := by decide +kernel
theorem dX9_shift_144 : decode cX9_shift 144 = .ok (.iconst 0, 1) := by decide +kernel
theorem dX9_shift_145 : decode cX9_shift 145 = .ok (.istore 6, 2) := by decide +kernel
theorem dX9_shift_147 : decode cX9_shift 147 = .ok (.iload 6, 2) := by decide +kernel
theorem dX9_shift_149 : decode cX9_shift 149 = .ok (.iload 5, 2) := by decide +kernel
theorem dX9_shift_151 : decode cX9_shift 151 = .ok (.if_icmp .ge 31, 3) := by decide +kernel
theorem dX9_shift_154 : decode cX9_shift 154 = .ok (.aload_n 0, 1) := by decide +kernel
theorem dX9_shift_155 : decode cX9_shift 155 = .ok (.getfield 49, 3) := by decide +kernel
theorem dX9_shift_158 : decode cX9_shift 158 = .ok (.bipush 60, 2) := by decide +kernel
theorem dX9_shift_160 : decode cX9_shift 160 = .ok (.iload_n 3, 1) := by decide +kernel
theorem dX9_shift_161 : decode cX9_shift 161 = .ok (.imul, 1) := by decide +kernel
theorem dX9_shift_162 : decode cX9_shift 162 = .ok (.iload 4, 2) := by decide +kernel
theorem dX9_shift_164 : decode cX9_shift 164 = .ok (.iadd, 1) := by decide +kernel
theorem dX9_shift_165 : decode cX9_shift 165 = .ok (.iload 6, 2) := by decide +kernel
theorem dX9_shift_167 : decode cX9_shift 167 = .ok (.iadd, 1) := by decide +kernel
theorem dX9_shift_168 : decode cX9_shift 168 = .ok (.aload_n 0, 1) := by decide +kernel
theorem dX9_shift_169 : decode cX9_shift 169 = .ok (.getfield 52, 3) := by decide +kernel
theorem dX9_shift_172 : decode cX9_shift 172 = .ok (.iload 6, 2) := by decide +kernel
theorem dX9_shift_174 : decode cX9_shift 174 = .ok (.laload, 1) := by decide +kernel
theorem dX9_shift_175 : decode cX9_shift 175 = .ok (.lastore, 1) := by decide +kernel
theorem dX9_shift_176 : decode cX9_shift 176 = .ok (.iinc 6 1, 3) := by decide +kernel
theorem dX9_shift_179 : decode cX9_shift 179 = .ok (.goto (-32), 3) := by decide +kernel
theorem dX9_shift_182 : decode cX9_shift 182 = .ok (.iload 5, 2) := by decide +kernel
theorem dX9_shift_184 : decode cX9_shift 184 = .ok (.ireturn, 1) := by decide +kernel
