theorem dX0_init_0 : decode cX0_init 0 = .ok (.aload_n 0, 1) := by decide +kernel
theorem dX0_init_1 : decode cX0_init 1 = .ok (.invokespecial 3, 3) := by decide +kernel
theorem dX0_init_4 : decode cX0_init 4 = .ok (.aload_n 0, 1) := by decide +kernel
theorem dX0_init_5 : decode cX0_init 5 = .ok (.iconst 4, 1) := by decide +kernel
theorem dX0_init_6 : decode cX0_init 6 = .ok (.putfield 9, 3) := by decide +kernel
theorem dX0_init_9 : decode cX0_init 9 = .ok (.aload_n 0, 1) := by decide +kernel
theorem dX0_init_10 : decode cX0_init 10 = .ok (.bipush 20, 2) := by decide +kernel
theorem dX0_init_12 : decode cX0_init 12 = .ok (.putfield 15, 3) := by decide +kernel
theorem dX0_init_15 : decode cX0_init 15 = .ok (.aload_n 0, 1) := by decide +kernel
theorem dX0_init_16 : decode cX0_init 16 = .ok (.bipush 10, 2) := by decide +kernel
theorem dX0_init_18 : decode cX0_init 18 = .ok (.putfield 18, 3) := by decide +kernel
theorem dX0_init_21 : decode cX0_init 21 = .ok (.aload_n 0, 1) := by decide +kernel
theorem dX0_init_22 : decode cX0_init 22 = .ok (.new 21, 3) := by decide +kernel
theorem dX0_init_25 : decode cX0_init 25 = .ok (.dup, 1) := by decide +kernel
theorem dX0_init_26 : decode cX0_init 26 = .ok (.invokespecial 23, 3) := by decide +kernel
theorem dX0_init_29 : decode cX0_init 29 = .ok (.putfield 24, 3) := by decide +kernel
theorem dX0_init_32 : decode cX0_init 32 = .ok (.aload_n 0, 1) := by decide +kernel
theorem dX0_init_33 : decode cX0_init 33 = .ok (.iconst 4, 1) := by decide +kernel
theorem dX0_init_34 : decode cX0_init 34 = .ok (.newarray .long, 2) := by decide +kernel
theorem dX0_init_36 : decode cX0_init 36 = .ok (.putfield 28, 3) := by decide +kernel
theorem dX0_init_39 : decode cX0_init 39 = .ok (.aload_n 0, 1) := by decide +kernel
theorem dX0_init_40 : decode cX0_init 40 = .ok (.iload_n 1, 1) := by decide +kernel
theorem dX0_init_41 : decode cX0_init 41 = .ok (.putfield 32, 3) := by decide +kernel
theorem dX0_init_44 : decode cX0_init 44 = .ok (.return_, 1) := by decide +kernel
theorem dX0_copy_0 : decode cX0_copy 0 = .ok (.aload_n 0, 1) := by decide +kernel
theorem dX0_copy_1 : decode cX0_copy 1 = .ok (.aload_n 1, 1) := by decide +kernel
theorem dX0_copy_2 : decode cX0_copy 2 = .ok (.getfield 36, 3) := by decide +kernel
theorem dX0_copy_5 : decode cX0_copy 5 = .ok (.putfield 36, 3) := by decide +kernel
theorem dX0_copy_8 : decode cX0_copy 8 = .ok (.aload_n 0, 1) := by decide +kernel
theorem dX0_copy_9 : decode cX0_copy 9 = .ok (.aload_n 1, 1) := by decide +kernel
theorem dX0_copy_10 : decode cX0_copy 10 = .ok (.getfield 39, 3) := by decide +kernel
theorem dX0_copy_13 : decode cX0_copy 13 = .ok (.putfield 39, 3) := by decide +kernel
theorem dX0_copy_16 : decode cX0_copy 16 = .ok (.aload_n 0, 1) := by decide +kernel
theorem dX0_copy_17 : decode cX0_copy 17 = .ok (.aload_n 1, 1) := by decide +kernel
theorem dX0_copy_18 : decode cX0_copy 18 = .ok (.getfield 9, 3) := by decide +kernel
theorem dX0_copy_21 : decode cX0_copy 21 = .ok (.putfield 9, 3) := by decide +kernel
theorem dX0_copy_24 : decode cX0_copy 24 = .ok (.aload_n 0, 1) := by decide +kernel
theorem dX0_copy_25 : decode cX0_copy 25 = .ok (.aload_n 1, 1) := by decide +kernel
theorem dX0_copy_26 : decode cX0_copy 26 = .ok (.getfield 42, 3) := by decide +kernel
theorem dX0_copy_29 : decode cX0_copy 29 = .ok (.putfield 42, 3) := by decide +kernel
theorem dX0_copy_32 : decode cX0_copy 32 = .ok (.aload_n 0, 1) := by decide +kernel
theorem dX0_copy_33 : decode cX0_copy 33 = .ok (.aload_n 1, 1) := by decide +kernel
theorem dX0_copy_34 : decode cX0_copy 34 = .ok (.getfield 45, 3) := by decide +kernel
theorem dX0_copy_37 : decode cX0_copy 37 = .ok (.putfield 45, 3) := by decide +kernel
theorem dX0_copy_40 : decode cX0_copy 40 = .ok (.aload_n 0, 1) := by decide +kernel
theorem dX0_copy_41 : decode cX0_copy 41 = .ok (.aload_n 1, 1) := by decide +kernel
theorem dX0_copy_42 : decode cX0_copy 42 = .ok (.getfield 15, 3) := by decide +kernel
theorem dX0_copy_45 : decode cX0_copy 45 = .ok (.putfield 15, 3) := by decide +kernel
theorem dX0_copy_48 : decode cX0_copy 48 = .ok (.aload_n 0, 1) := by decide +kernel
theorem dX0_copy_49 : decode cX0_copy 49 = .ok (.aload_n 1, 1) := by decide +kernel
theorem dX0_copy_50 : decode cX0_copy 50 = .ok (.getfield 18, 3) := by decide +kernel
theorem dX0_copy_53 : decode cX0_copy 53 = .ok (.putfield 18, 3) := by decide +kernel
theorem dX0_copy_56 : decode cX0_copy 56 = .ok (.aload_n 0, 1) := by decide +kernel
theorem dX0_copy_57 : decode cX0_copy 57 = .ok (.aload_n 1, 1) := by decide +kernel
theorem dX0_copy_58 : decode cX0_copy 58 = .ok (.getfield 48, 3) := by decide +kernel
theorem dX0_copy_61 : decode cX0_copy 61 = .ok (.putfield 48, 3) := by decide +kernel
theorem dX0_copy_64 : decode cX0_copy 64 = .ok (.aload_n 0, 1) := by decide +kernel
theorem dX0_copy_65 : decode cX0_copy 65 = .ok (.aload_n 1, 1) := by decide +kernel
theorem dX0_copy_66 : decode cX0_copy 66 = .ok (.getfield 51, 3) := by decide +kernel
theorem dX0_copy_69 : decode cX0_copy 69 = .ok (.putfield 51, 3) := by decide +kernel
theorem dX0_copy_72 : decode cX0_copy 72 = .ok (.aload_n 0, 1) := by decide +kernel
theorem dX0_copy_73 : decode cX0_copy 73 = .ok (.aload_n 1, 1) := by decide +kernel
theorem dX0_copy_74 : decode cX0_copy 74 = .ok (.getfield 54, 3) := by decide +kernel
theorem dX0_copy_77 : decode cX0_copy 77 = .ok (.putfield 54, 3) := by decide +kernel
theorem dX0_copy_80 : decode cX0_copy 80 = .ok (.aload_n 0, 1) := by decide +kernel
theorem dX0_copy_81 : decode cX0_copy 81 = .ok (.aload_n 1, 1) := by decide +kernel
theorem dX0_copy_82 : decode cX0_copy 82 = .ok (.getfield 57, 3) := by decide +kernel
theorem dX0_copy_85 : decode cX0_copy 85 = .ok (.putfield 57, 3) := by decide +kernel
theorem dX0_copy_88 : decode cX0_copy 88 = .ok (.aload_n 0, 1) := by decide +kernel
theorem dX0_copy_89 : decode cX0_copy 89 = .ok (.aload_n 1, 1) := by decide +kernel
theorem dX0_copy_90 : decode cX0_copy 90 = .ok (.getfield 60, 3) := by decide +kernel
theorem dX0_copy_93 : decode cX0_copy 93 = .ok (.putfield 60, 3) := by decide +kernel
theorem dX0_copy_96 : decode cX0_copy 96 = .ok (.aload_n 0, 1) := by decide +kernel
theorem dX0_copy_97 : decode cX0_copy 97 = .ok (.getfield 24, 3) := by decide +kernel
theorem dX0_copy_100 : decode cX0_copy 100 = .ok (.aload_n 1, 1) := by decide +kernel
theorem dX0_copy_101 : decode cX0_copy 101 = .ok (.getfield 24, 3) := by decide +kernel
theorem dX0_copy_104 : decode cX0_copy 104 = .ok (.invokevirtual 64, 3) := by decide +kernel
theorem dX0_copy_107 : decode cX0_copy 107 = .ok (.iconst 0, 1) := by decide +kernel
theorem dX0_copy_108 : decode cX0_copy 108 = .ok (.istore_n 2, 1) := by decide +kernel
theorem dX0_copy_109 : decode cX0_copy 109 = .ok (.iload_n 2, 1) := by decide +kernel
theorem dX0_copy_110 : decode cX0_copy 110 = .ok (.aload_n 0, 1) := by decide +kernel
theorem dX0_copy_111 : decode cX0_copy 111 = .ok (.getfield 28, 3) := by decide +kernel
theorem dX0_copy_114 : decode cX0_copy 114 = .ok (.arraylength, 1) := by decide +kernel
theorem dX0_copy_115 : decode cX0_copy 115 = .ok (.if_icmp .ge 30, 3) := by decide +kernel
theorem dX0_copy_118 : decode cX0_copy 118 = .ok (.iload_n 2, 1) := by decide +kernel
theorem dX0_copy_119 : decode cX0_copy 119 = .ok (.aload_n 1, 1) := by decide +kernel
theorem dX0_copy_120 : decode cX0_copy 120 = .ok (.getfield 28, 3) := by decide +kernel
theorem dX0_copy_123 : decode cX0_copy 123 = .ok (.arraylength, 1) := by decide +kernel
theorem dX0_copy_124 : decode cX0_copy 124 = .ok (.if_icmp .ge 21, 3) := by decide +kernel
theorem dX0_copy_127 : decode cX0_copy 127 = .ok (.aload_n 0, 1) := by decide +kernel
theorem dX0_copy_128 : decode cX0_copy 128 = .ok (.getfield 28, 3) := by decide +kernel
theorem dX0_copy_131 : decode cX0_copy 131 = .ok (.iload_n 2, 1) := by decide +kernel
theorem dX0_copy_132 : decode cX0_copy 132 = .ok (.aload_n 1, 1) := by decide +kernel
theorem dX0_copy_133 : decode cX0_copy 133 = .ok (.getfield 28, 3) := by decide +kernel
theorem dX0_copy_136 : decode cX0_copy 136 = .ok (.iload_n 2, 1) := by decide +kernel
theorem dX0_copy_137 : decode cX0_copy 137 = .ok (.laload, 1) := by decide +kernel
theorem dX0_copy_138 : decode cX0_copy 138 = .ok (.lastore, 1) := by decide +kernel
theorem dX0_copy_139 : decode cX0_copy 139 = .ok (.iinc 2 1, 3) := by decide +kernel
theorem dX0_copy_142 : decode cX0_copy 142 = .ok (.goto (-33), 3) := by decide +kernel
theorem dX0_copy_145 : decode cX0_copy 145 = .ok (.return_, 1) := by decide +kernel
theorem dX0_valueOf_0 : decode cX0_valueOf 0 = .ok (.iload_n 1, 1) := by decide +kernel
theorem dX0_valueOf_1 : decode cX0_valueOf 1 = .ok (.tableswitch 126 0 11 #[63, 68, 73, 78, 83, 88, 93, 98, 103, 108, 113, 118], 63) := by decide +kernel
theorem dX0_valueOf_64 : decode cX0_valueOf 64 = .ok (.aload_n 0, 1) := by decide +kernel
theorem dX0_valueOf_65 : decode cX0_valueOf 65 = .ok (.getfield 36, 3) := by decide +kernel
theorem dX0_valueOf_68 : decode cX0_valueOf 68 = .ok (.ireturn, 1) := by decide +kernel
theorem dX0_valueOf_69 : decode cX0_valueOf 69 = .ok (.aload_n 0, 1) := by decide +kernel
theorem dX0_valueOf_70 : decode cX0_valueOf 70 = .ok (.getfield 39, 3) := by decide +kernel
theorem dX0_valueOf_73 : decode cX0_valueOf 73 = .ok (.ireturn, 1) := by decide +kernel
theorem dX0_valueOf_74 : decode cX0_valueOf 74 = .ok (.aload_n 0, 1) := by decide +kernel
theorem dX0_valueOf_75 : decode cX0_valueOf 75 = .ok (.getfield 9, 3) := by decide +kernel
theorem dX0_valueOf_78 : decode cX0_valueOf 78 = .ok (.ireturn, 1) := by decide +kernel
theorem dX0_valueOf_79 : decode cX0_valueOf 79 = .ok (.aload_n 0, 1) := by decide +kernel
theorem dX0_valueOf_80 : decode cX0_valueOf 80 = .ok (.getfield 42, 3) := by decide +kernel
theorem dX0_valueOf_83 : decode cX0_valueOf 83 = .ok (.ireturn, 1) := by decide +kernel
theorem dX0_valueOf_84 : decode cX0_valueOf 84 = .ok (.aload_n 0, 1) := by decide +kernel
theorem dX0_valueOf_85 : decode cX0_valueOf 85 = .ok (.getfield 45, 3) := by decide +kernel
theorem dX0_valueOf_88 : decode cX0_valueOf 88 = .ok (.ireturn, 1) := by decide +kernel
theorem dX0_valueOf_89 : decode cX0_valueOf 89 = .ok (.aload_n 0, 1) := by decide +kernel
theorem dX0_valueOf_90 : decode cX0_valueOf 90 = .ok (.getfield 15, 3) := by decide +kernel
theorem dX0_valueOf_93 : decode cX0_valueOf 93 = .ok (.ireturn, 1) := by decide +kernel
theorem dX0_valueOf_94 : decode cX0_valueOf 94 = .ok (.aload_n 0, 1) := by decide +kernel
theorem dX0_valueOf_95 : decode cX0_valueOf 95 = .ok (.getfield 18, 3) := by decide +kernel
theorem dX0_valueOf_98 : decode cX0_valueOf 98 = .ok (.ireturn, 1) := by decide +kernel
theorem dX0_valueOf_99 : decode cX0_valueOf 99 = .ok (.aload_n 0, 1) := by decide +kernel
theorem dX0_valueOf_100 : decode cX0_valueOf 100 = .ok (.getfield 48, 3) := by decide +kernel
theorem dX0_valueOf_103 : decode cX0_valueOf 103 = .ok (.ireturn, 1) := by decide +kernel
theorem dX0_valueOf_104 : decode cX0_valueOf 104 = .ok (.aload_n 0, 1) := by decide +kernel
theorem dX0_valueOf_105 : decode cX0_valueOf 105 = .ok (.getfield 51, 3) := by decide +kernel
theorem dX0_valueOf_108 : decode cX0_valueOf 108 = .ok (.ireturn, 1) := by decide +kernel
theorem dX0_valueOf_109 : decode cX0_valueOf 109 = .ok (.aload_n 0, 1) := by decide +kernel
theorem dX0_valueOf_110 : decode cX0_valueOf 110 = .ok (.getfield 54, 3) := by decide +kernel
theorem dX0_valueOf_113 : decode cX0_valueOf 113 = .ok (.ireturn, 1) := by decide +kernel
theorem dX0_valueOf_114 : decode cX0_valueOf 114 = .ok (.aload_n 0, 1) := by decide +kernel
theorem dX0_valueOf_115 : decode cX0_valueOf 115 = .ok (.getfield 57, 3) := by decide +kernel
theorem dX0_valueOf_118 : decode cX0_valueOf 118 = .ok (.ireturn, 1) := by decide +kernel
theorem dX0_valueOf_119 : decode cX0_valueOf 119 = .ok (.aload_n 0, 1) := by decide +kernel
theorem dX0_valueOf_120 : decode cX0_valueOf 120 = .ok (.getfield 24, 3) := by decide +kernel
theorem dX0_valueOf_123 : decode cX0_valueOf 123 = .ok (.getfield 68, 3) := by decide +kernel
theorem dX0_valueOf_126 : decode cX0_valueOf 126 = .ok (.ireturn, 1) := by decide +kernel
theorem dX0_valueOf_127 : decode cX0_valueOf 127 = .ok (.sipush (-1000), 3) := by decide +kernel
theorem dX0_valueOf_130 : decode cX0_valueOf 130 = .ok (.ireturn, 1) := by decide +kernel
theorem dX0_put_0 : decode cX0_put 0 = .ok (.iload_n 1, 1) := by decide +kernel
theorem dX0_put_1 : decode cX0_put 1 = .ok (.tableswitch 99 0 6 #[43, 51, 59, 67, 75, 83, 91], 43) := by decide +kernel
theorem dX0_put_44 : decode cX0_put 44 = .ok (.aload_n 0, 1) := by decide +kernel
theorem dX0_put_45 : decode cX0_put 45 = .ok (.iload_n 2, 1) := by decide +kernel
theorem dX0_put_46 : decode cX0_put 46 = .ok (.putfield 36, 3) := by decide +kernel
theorem dX0_put_49 : decode cX0_put 49 = .ok (.goto 51, 3) := by decide +kernel
theorem dX0_put_52 : decode cX0_put 52 = .ok (.aload_n 0, 1) := by decide +kernel
theorem dX0_put_53 : decode cX0_put 53 = .ok (.iload_n 2, 1) := by decide +kernel
theorem dX0_put_54 : decode cX0_put 54 = .ok (.putfield 39, 3) := by decide +kernel
theorem dX0_put_57 : decode cX0_put 57 = .ok (.goto 43, 3) := by decide +kernel
theorem dX0_put_60 : decode cX0_put 60 = .ok (.aload_n 0, 1) := by decide +kernel
theorem dX0_put_61 : decode cX0_put 61 = .ok (.iload_n 2, 1) := by decide +kernel
theorem dX0_put_62 : decode cX0_put 62 = .ok (.putfield 9, 3) := by decide +kernel
theorem dX0_put_65 : decode cX0_put 65 = .ok (.goto 35, 3) := by decide +kernel
theorem dX0_put_68 : decode cX0_put 68 = .ok (.aload_n 0, 1) := by decide +kernel
theorem dX0_put_69 : decode cX0_put 69 = .ok (.iload_n 2, 1) := by decide +kernel
theorem dX0_put_70 : decode cX0_put 70 = .ok (.putfield 42, 3) := by decide +kernel
theorem dX0_put_73 : decode cX0_put 73 = .ok (.goto 27, 3) := by decide +kernel
theorem dX0_put_76 : decode cX0_put 76 = .ok (.aload_n 0, 1) := by decide +kernel
theorem dX0_put_77 : decode cX0_put 77 = .ok (.iload_n 2, 1) := by decide +kernel
theorem dX0_put_78 : decode cX0_put 78 = .ok (.putfield 45, 3) := by decide +kernel
theorem dX0_put_81 : decode cX0_put 81 = .ok (.goto 19, 3) := by decide +kernel
theorem dX0_put_84 : decode cX0_put 84 = .ok (.aload_n 0, 1) := by decide +kernel
theorem dX0_put_85 : decode cX0_put 85 = .ok (.iload_n 2, 1) := by decide +kernel
theorem dX0_put_86 : decode cX0_put 86 = .ok (.putfield 15, 3) := by decide +kernel
theorem dX0_put_89 : decode cX0_put 89 = .ok (.goto 11, 3) := by decide +kernel
theorem dX0_put_92 : decode cX0_put 92 = .ok (.aload_n 0, 1) := by decide +kernel
theorem dX0_put_93 : decode cX0_put 93 = .ok (.iload_n 2, 1) := by decide +kernel
theorem dX0_put_94 : decode cX0_put 94 = .ok (.putfield 18, 3) := by decide +kernel
theorem dX0_put_97 : decode cX0_put 97 = .ok (.goto 3, 3) := by decide +kernel
theorem dX0_put_100 : decode cX0_put 100 = .ok (.return_, 1) := by decide +kernel
theorem dX0_putByHand_0 : decode cX0_putByHand 0 = .ok (.aload_n 0, 1) := by decide +kernel
theorem dX0_putByHand_1 : decode cX0_putByHand 1 = .ok (.iload_n 1, 1) := by decide +kernel
theorem dX0_putByHand_2 : decode cX0_putByHand 2 = .ok (.iload_n 2, 1) := by decide +kernel
theorem dX0_putByHand_3 : decode cX0_putByHand 3 = .ok (.invokevirtual 71, 3) := by decide +kernel
theorem dX0_putByHand_6 : decode cX0_putByHand 6 = .ok (.aload_n 0, 1) := by decide +kernel
theorem dX0_putByHand_7 : decode cX0_putByHand 7 = .ok (.iconst 0, 1) := by decide +kernel
theorem dX0_putByHand_8 : decode cX0_putByHand 8 = .ok (.invokevirtual 75, 3) := by decide +kernel
theorem dX0_putByHand_11 : decode cX0_putByHand 11 = .ok (.return_, 1) := by decide +kernel
theorem dX0_energyNow_0 : decode cX0_energyNow 0 = .ok (.ldc2_w 79, 3) := by decide +kernel
theorem dX0_energyNow_3 : decode cX0_energyNow 3 = .ok (.aload_n 0, 1) := by decide +kernel
theorem dX0_energyNow_4 : decode cX0_energyNow 4 = .ok (.getfield 39, 3) := by decide +kernel
theorem dX0_energyNow_7 : decode cX0_energyNow 7 = .ok (.i2l, 1) := by decide +kernel
theorem dX0_energyNow_8 : decode cX0_energyNow 8 = .ok (.lmul, 1) := by decide +kernel
theorem dX0_energyNow_9 : decode cX0_energyNow 9 = .ok (.aload_n 0, 1) := by decide +kernel
theorem dX0_energyNow_10 : decode cX0_energyNow 10 = .ok (.getfield 39, 3) := by decide +kernel
theorem dX0_energyNow_13 : decode cX0_energyNow 13 = .ok (.i2l, 1) := by decide +kernel
theorem dX0_energyNow_14 : decode cX0_energyNow 14 = .ok (.lmul, 1) := by decide +kernel
theorem dX0_energyNow_15 : decode cX0_energyNow 15 = .ok (.aload_n 0, 1) := by decide +kernel
theorem dX0_energyNow_16 : decode cX0_energyNow 16 = .ok (.getfield 9, 3) := by decide +kernel
theorem dX0_energyNow_19 : decode cX0_energyNow 19 = .ok (.i2l, 1) := by decide +kernel
theorem dX0_energyNow_20 : decode cX0_energyNow 20 = .ok (.aload_n 0, 1) := by decide +kernel
theorem dX0_energyNow_21 : decode cX0_energyNow 21 = .ok (.getfield 36, 3) := by decide +kernel
theorem dX0_energyNow_24 : decode cX0_energyNow 24 = .ok (.i2l, 1) := by decide +kernel
theorem dX0_energyNow_25 : decode cX0_energyNow 25 = .ok (.lmul, 1) := by decide +kernel
theorem dX0_energyNow_26 : decode cX0_energyNow 26 = .ok (.aload_n 0, 1) := by decide +kernel
theorem dX0_energyNow_27 : decode cX0_energyNow 27 = .ok (.getfield 36, 3) := by decide +kernel
theorem dX0_energyNow_30 : decode cX0_energyNow 30 = .ok (.i2l, 1) := by decide +kernel
theorem dX0_energyNow_31 : decode cX0_energyNow 31 = .ok (.lmul, 1) := by decide +kernel
theorem dX0_energyNow_32 : decode cX0_energyNow 32 = .ok (.ladd, 1) := by decide +kernel
theorem dX0_energyNow_33 : decode cX0_energyNow 33 = .ok (.lreturn, 1) := by decide +kernel
theorem dX0_settle_0 : decode cX0_settle 0 = .ok (.aload_n 0, 1) := by decide +kernel
theorem dX0_settle_1 : decode cX0_settle 1 = .ok (.getfield 32, 3) := by decide +kernel
theorem dX0_settle_4 : decode cX0_settle 4 = .ok (.ifCond .eq 16, 3) := by decide +kernel
theorem dX0_settle_7 : decode cX0_settle 7 = .ok (.iload_n 1, 1) := by decide +kernel
theorem dX0_settle_8 : decode cX0_settle 8 = .ok (.ifCond .lt 12, 3) := by decide +kernel
theorem dX0_settle_11 : decode cX0_settle 11 = .ok (.iload_n 1, 1) := by decide +kernel
theorem dX0_settle_12 : decode cX0_settle 12 = .ok (.aload_n 0, 1) := by decide +kernel
theorem dX0_settle_13 : decode cX0_settle 13 = .ok (.getfield 28, 3) := by decide +kernel
theorem dX0_settle_16 : decode cX0_settle 16 = .ok (.arraylength, 1) := by decide +kernel
theorem dX0_settle_17 : decode cX0_settle 17 = .ok (.if_icmp .lt 4, 3) := by decide +kernel
theorem dX0_settle_20 : decode cX0_settle 20 = .ok (.return_, 1) := by decide +kernel
theorem dX0_settle_21 : decode cX0_settle 21 = .ok (.aload_n 0, 1) := by decide +kernel
theorem dX0_settle_22 : decode cX0_settle 22 = .ok (.invokevirtual 81, 3) := by decide +kernel
theorem dX0_settle_25 : decode cX0_settle 25 = .ok (.lstore_n 2, 1) := by decide +kernel
theorem dX0_settle_26 : decode cX0_settle 26 = .ok (.aload_n 0, 1) := by decide +kernel
theorem dX0_settle_27 : decode cX0_settle 27 = .ok (.getfield 28, 3) := by decide +kernel
theorem dX0_settle_30 : decode cX0_settle 30 = .ok (.iload_n 1, 1) := by decide +kernel
theorem dX0_settle_31 : decode cX0_settle 31 = .ok (.dup2, 1) := by decide +kernel
theorem dX0_settle_32 : decode cX0_settle 32 = .ok (.laload, 1) := by decide +kernel
theorem dX0_settle_33 : decode cX0_settle 33 = .ok (.lload_n 2, 1) := by decide +kernel
theorem dX0_settle_34 : decode cX0_settle 34 = .ok (.aload_n 0, 1) := by decide +kernel
theorem dX0_settle_35 : decode cX0_settle 35 = .ok (.getfield 60, 3) := by decide +kernel
theorem dX0_settle_38 : decode cX0_settle 38 = .ok (.lsub, 1) := by decide +kernel
theorem dX0_settle_39 : decode cX0_settle 39 = .ok (.ladd, 1) := by decide +kernel
theorem dX0_settle_40 : decode cX0_settle 40 = .ok (.lastore, 1) := by decide +kernel
theorem dX0_settle_41 : decode cX0_settle 41 = .ok (.aload_n 0, 1) := by decide +kernel
theorem dX0_settle_42 : decode cX0_settle 42 = .ok (.lload_n 2, 1) := by decide +kernel
theorem dX0_settle_43 : decode cX0_settle 43 = .ok (.putfield 60, 3) := by decide +kernel
theorem dX0_settle_46 : decode cX0_settle 46 = .ok (.return_, 1) := by decide +kernel
theorem dX0_tick_0 : decode cX0_tick 0 = .ok (.aload_n 0, 1) := by decide +kernel
theorem dX0_tick_1 : decode cX0_tick 1 = .ok (.invokevirtual 85, 3) := by decide +kernel
theorem dX0_tick_4 : decode cX0_tick 4 = .ok (.aload_n 0, 1) := by decide +kernel
theorem dX0_tick_5 : decode cX0_tick 5 = .ok (.iconst 0, 1) := by decide +kernel
theorem dX0_tick_6 : decode cX0_tick 6 = .ok (.invokevirtual 75, 3) := by decide +kernel
theorem dX0_tick_9 : decode cX0_tick 9 = .ok (.aload_n 0, 1) := by decide +kernel
theorem dX0_tick_10 : decode cX0_tick 10 = .ok (.dup, 1) := by decide +kernel
theorem dX0_tick_11 : decode cX0_tick 11 = .ok (.getfield 39, 3) := by decide +kernel
theorem dX0_tick_14 : decode cX0_tick 14 = .ok (.aload_n 0, 1) := by decide +kernel
theorem dX0_tick_15 : decode cX0_tick 15 = .ok (.getfield 36, 3) := by decide +kernel
theorem dX0_tick_18 : decode cX0_tick 18 = .ok (.aload_n 0, 1) := by decide +kernel
theorem dX0_tick_19 : decode cX0_tick 19 = .ok (.getfield 9, 3) := by decide +kernel
theorem dX0_tick_22 : decode cX0_tick 22 = .ok (.imul, 1) := by decide +kernel
theorem dX0_tick_23 : decode cX0_tick 23 = .ok (.bipush 32, 2) := by decide +kernel
theorem dX0_tick_25 : decode cX0_tick 25 = .ok (.idiv, 1) := by decide +kernel
theorem dX0_tick_26 : decode cX0_tick 26 = .ok (.isub, 1) := by decide +kernel
theorem dX0_tick_27 : decode cX0_tick 27 = .ok (.putfield 39, 3) := by decide +kernel
theorem dX0_tick_30 : decode cX0_tick 30 = .ok (.aload_n 0, 1) := by decide +kernel
theorem dX0_tick_31 : decode cX0_tick 31 = .ok (.iconst 1, 1) := by decide +kernel
theorem dX0_tick_32 : decode cX0_tick 32 = .ok (.invokevirtual 75, 3) := by decide +kernel
theorem dX0_tick_35 : decode cX0_tick 35 = .ok (.aload_n 0, 1) := by decide +kernel
theorem dX0_tick_36 : decode cX0_tick 36 = .ok (.invokevirtual 88, 3) := by decide +kernel
theorem dX0_tick_39 : decode cX0_tick 39 = .ok (.aload_n 0, 1) := by decide +kernel
theorem dX0_tick_40 : decode cX0_tick 40 = .ok (.iconst 2, 1) := by decide +kernel
theorem dX0_tick_41 : decode cX0_tick 41 = .ok (.invokevirtual 75, 3) := by decide +kernel
theorem dX0_tick_44 : decode cX0_tick 44 = .ok (.aload_n 0, 1) := by decide +kernel
theorem dX0_tick_45 : decode cX0_tick 45 = .ok (.getfield 36, 3) := by decide +kernel
theorem dX0_tick_48 : decode cX0_tick 48 = .ok (.istore_n 1, 1) := by decide +kernel
theorem dX0_tick_49 : decode cX0_tick 49 = .ok (.aload_n 0, 1) := by decide +kernel
theorem dX0_tick_50 : decode cX0_tick 50 = .ok (.invokevirtual 91, 3) := by decide +kernel
theorem dX0_tick_53 : decode cX0_tick 53 = .ok (.aload_n 0, 1) := by decide +kernel
theorem dX0_tick_54 : decode cX0_tick 54 = .ok (.iconst 1, 1) := by decide +kernel
theorem dX0_tick_55 : decode cX0_tick 55 = .ok (.invokevirtual 75, 3) := by decide +kernel
theorem dX0_tick_58 : decode cX0_tick 58 = .ok (.aload_n 0, 1) := by decide +kernel
theorem dX0_tick_59 : decode cX0_tick 59 = .ok (.iload_n 1, 1) := by decide +kernel
theorem dX0_tick_60 : decode cX0_tick 60 = .ok (.invokevirtual 94, 3) := by decide +kernel
theorem dX0_tick_63 : decode cX0_tick 63 = .ok (.istore_n 2, 1) := by decide +kernel
theorem dX0_tick_64 : decode cX0_tick 64 = .ok (.iload_n 2, 1) := by decide +kernel
theorem dX0_tick_65 : decode cX0_tick 65 = .ok (.ifCond .eq 7, 3) := by decide +kernel
theorem dX0_tick_68 : decode cX0_tick 68 = .ok (.aload_n 0, 1) := by decide +kernel
theorem dX0_tick_69 : decode cX0_tick 69 = .ok (.invokevirtual 98, 3) := by decide +kernel
theorem dX0_tick_72 : decode cX0_tick 72 = .ok (.aload_n 0, 1) := by decide +kernel
theorem dX0_tick_73 : decode cX0_tick 73 = .ok (.iconst 3, 1) := by decide +kernel
theorem dX0_tick_74 : decode cX0_tick 74 = .ok (.invokevirtual 75, 3) := by decide +kernel
theorem dX0_tick_77 : decode cX0_tick 77 = .ok (.aload_n 0, 1) := by decide +kernel
theorem dX0_tick_78 : decode cX0_tick 78 = .ok (.dup, 1) := by decide +kernel
theorem dX0_tick_79 : decode cX0_tick 79 = .ok (.getfield 51, 3) := by decide +kernel
theorem dX0_tick_82 : decode cX0_tick 82 = .ok (.iconst 1, 1) := by decide +kernel
theorem dX0_tick_83 : decode cX0_tick 83 = .ok (.iadd, 1) := by decide +kernel
theorem dX0_tick_84 : decode cX0_tick 84 = .ok (.putfield 51, 3) := by decide +kernel
theorem dX0_tick_87 : decode cX0_tick 87 = .ok (.iload_n 2, 1) := by decide +kernel
theorem dX0_tick_88 : decode cX0_tick 88 = .ok (.ireturn, 1) := by decide +kernel
theorem dX0_bePushed_0 : decode cX0_bePushed 0 = .ok (.iconst 0, 1) := by decide +kernel
theorem dX0_bePushed_1 : decode cX0_bePushed 1 = .ok (.istore_n 1, 1) := by decide +kernel
theorem dX0_bePushed_2 : decode cX0_bePushed 2 = .ok (.iload_n 1, 1) := by decide +kernel
theorem dX0_bePushed_3 : decode cX0_bePushed 3 = .ok (.aload_n 0, 1) := by decide +kernel
theorem dX0_bePushed_4 : decode cX0_bePushed 4 = .ok (.getfield 24, 3) := by decide +kernel
theorem dX0_bePushed_7 : decode cX0_bePushed 7 = .ok (.getfield 68, 3) := by decide +kernel
theorem dX0_bePushed_10 : decode cX0_bePushed 10 = .ok (.if_icmp .ge 53, 3) := by decide +kernel
theorem dX0_bePushed_13 : decode cX0_bePushed 13 = .ok (.iload_n 1, 1) := by decide +kernel
theorem dX0_bePushed_14 : decode cX0_bePushed 14 = .ok (.bipush 8, 2) := by decide +kernel
theorem dX0_bePushed_16 : decode cX0_bePushed 16 = .ok (.if_icmp .ge 47, 3) := by decide +kernel
theorem dX0_bePushed_19 : decode cX0_bePushed 19 = .ok (.aload_n 0, 1) := by decide +kernel
theorem dX0_bePushed_20 : decode cX0_bePushed 20 = .ok (.getfield 24, 3) := by decide +kernel
theorem dX0_bePushed_23 : decode cX0_bePushed 23 = .ok (.getfield 101, 3) := by decide +kernel
theorem dX0_bePushed_26 : decode cX0_bePushed 26 = .ok (.iload_n 1, 1) := by decide +kernel
theorem dX0_bePushed_27 : decode cX0_bePushed 27 = .ok (.iaload, 1) := by decide +kernel
theorem dX0_bePushed_28 : decode cX0_bePushed 28 = .ok (.aload_n 0, 1) := by decide +kernel
theorem dX0_bePushed_29 : decode cX0_bePushed 29 = .ok (.getfield 51, 3) := by decide +kernel
theorem dX0_bePushed_32 : decode cX0_bePushed 32 = .ok (.if_icmp .ne 31, 3) := by decide +kernel
theorem dX0_bePushed_35 : decode cX0_bePushed 35 = .ok (.aload_n 0, 1) := by decide +kernel
theorem dX0_bePushed_36 : decode cX0_bePushed 36 = .ok (.aload_n 0, 1) := by decide +kernel
theorem dX0_bePushed_37 : decode cX0_bePushed 37 = .ok (.getfield 24, 3) := by decide +kernel
theorem dX0_bePushed_40 : decode cX0_bePushed 40 = .ok (.getfield 105, 3) := by decide +kernel
theorem dX0_bePushed_43 : decode cX0_bePushed 43 = .ok (.iload_n 1, 1) := by decide +kernel
theorem dX0_bePushed_44 : decode cX0_bePushed 44 = .ok (.iaload, 1) := by decide +kernel
theorem dX0_bePushed_45 : decode cX0_bePushed 45 = .ok (.aload_n 0, 1) := by decide +kernel
theorem dX0_bePushed_46 : decode cX0_bePushed 46 = .ok (.getfield 24, 3) := by decide +kernel
theorem dX0_bePushed_49 : decode cX0_bePushed 49 = .ok (.getfield 108, 3) := by decide +kernel
theorem dX0_bePushed_52 : decode cX0_bePushed 52 = .ok (.iload_n 1, 1) := by decide +kernel
theorem dX0_bePushed_53 : decode cX0_bePushed 53 = .ok (.iaload, 1) := by decide +kernel
theorem dX0_bePushed_54 : decode cX0_bePushed 54 = .ok (.invokevirtual 111, 3) := by decide +kernel
theorem dX0_bePushed_57 : decode cX0_bePushed 57 = .ok (.iinc 1 1, 3) := by decide +kernel
theorem dX0_bePushed_60 : decode cX0_bePushed 60 = .ok (.goto (-58), 3) := by decide +kernel
theorem dX0_bePushed_63 : decode cX0_bePushed 63 = .ok (.aload_n 0, 1) := by decide +kernel
theorem dX0_bePushed_64 : decode cX0_bePushed 64 = .ok (.getfield 24, 3) := by decide +kernel
theorem dX0_bePushed_67 : decode cX0_bePushed 67 = .ok (.iload_n 1, 1) := by decide +kernel
theorem dX0_bePushed_68 : decode cX0_bePushed 68 = .ok (.invokevirtual 114, 3) := by decide +kernel
theorem dX0_bePushed_71 : decode cX0_bePushed 71 = .ok (.return_, 1) := by decide +kernel
theorem dX0_doPush_0 : decode cX0_doPush 0 = .ok (.iload_n 1, 1) := by decide +kernel
theorem dX0_doPush_1 : decode cX0_doPush 1 = .ok (.tableswitch 82 0 3 #[31, 44, 66, 74], 31) := by decide +kernel
theorem dX0_doPush_32 : decode cX0_doPush 32 = .ok (.aload_n 0, 1) := by decide +kernel
theorem dX0_doPush_33 : decode cX0_doPush 33 = .ok (.dup, 1) := by decide +kernel
theorem dX0_doPush_34 : decode cX0_doPush 34 = .ok (.getfield 39, 3) := by decide +kernel
theorem dX0_doPush_37 : decode cX0_doPush 37 = .ok (.iload_n 2, 1) := by decide +kernel
theorem dX0_doPush_38 : decode cX0_doPush 38 = .ok (.iadd, 1) := by decide +kernel
theorem dX0_doPush_39 : decode cX0_doPush 39 = .ok (.putfield 39, 3) := by decide +kernel
theorem dX0_doPush_42 : decode cX0_doPush 42 = .ok (.goto 41, 3) := by decide +kernel
theorem dX0_doPush_45 : decode cX0_doPush 45 = .ok (.aload_n 0, 1) := by decide +kernel
theorem dX0_doPush_46 : decode cX0_doPush 46 = .ok (.iconst 0, 1) := by decide +kernel
theorem dX0_doPush_47 : decode cX0_doPush 47 = .ok (.bipush 60, 2) := by decide +kernel
theorem dX0_doPush_49 : decode cX0_doPush 49 = .ok (.aload_n 0, 1) := by decide +kernel
theorem dX0_doPush_50 : decode cX0_doPush 50 = .ok (.getfield 15, 3) := by decide +kernel
theorem dX0_doPush_53 : decode cX0_doPush 53 = .ok (.iload_n 2, 1) := by decide +kernel
theorem dX0_doPush_54 : decode cX0_doPush 54 = .ok (.iadd, 1) := by decide +kernel
theorem dX0_doPush_55 : decode cX0_doPush 55 = .ok (.invokestatic 117, 3) := by decide +kernel
theorem dX0_doPush_58 : decode cX0_doPush 58 = .ok (.invokestatic 123, 3) := by decide +kernel
theorem dX0_doPush_61 : decode cX0_doPush 61 = .ok (.putfield 15, 3) := by decide +kernel
theorem dX0_doPush_64 : decode cX0_doPush 64 = .ok (.goto 19, 3) := by decide +kernel
theorem dX0_doPush_67 : decode cX0_doPush 67 = .ok (.aload_n 0, 1) := by decide +kernel
theorem dX0_doPush_68 : decode cX0_doPush 68 = .ok (.iload_n 2, 1) := by decide +kernel
theorem dX0_doPush_69 : decode cX0_doPush 69 = .ok (.putfield 45, 3) := by decide +kernel
theorem dX0_doPush_72 : decode cX0_doPush 72 = .ok (.goto 11, 3) := by decide +kernel
theorem dX0_doPush_75 : decode cX0_doPush 75 = .ok (.aload_n 0, 1) := by decide +kernel
theorem dX0_doPush_76 : decode cX0_doPush 76 = .ok (.iload_n 2, 1) := by decide +kernel
theorem dX0_doPush_77 : decode cX0_doPush 77 = .ok (.putfield 42, 3) := by decide +kernel
theorem dX0_doPush_80 : decode cX0_doPush 80 = .ok (.goto 3, 3) := by decide +kernel
theorem dX0_doPush_83 : decode cX0_doPush 83 = .ok (.return_, 1) := by decide +kernel
theorem dX0_beDragged_0 : decode cX0_beDragged 0 = .ok (.aload_n 0, 1) := by decide +kernel
theorem dX0_beDragged_1 : decode cX0_beDragged 1 = .ok (.getfield 39, 3) := by decide +kernel
theorem dX0_beDragged_4 : decode cX0_beDragged 4 = .ok (.ifCond .le 23, 3) := by decide +kernel
theorem dX0_beDragged_7 : decode cX0_beDragged 7 = .ok (.aload_n 0, 1) := by decide +kernel
theorem dX0_beDragged_8 : decode cX0_beDragged 8 = .ok (.iconst 0, 1) := by decide +kernel
theorem dX0_beDragged_9 : decode cX0_beDragged 9 = .ok (.aload_n 0, 1) := by decide +kernel
theorem dX0_beDragged_10 : decode cX0_beDragged 10 = .ok (.getfield 39, 3) := by decide +kernel
theorem dX0_beDragged_13 : decode cX0_beDragged 13 = .ok (.aload_n 0, 1) := by decide +kernel
theorem dX0_beDragged_14 : decode cX0_beDragged 14 = .ok (.getfield 42, 3) := by decide +kernel
theorem dX0_beDragged_17 : decode cX0_beDragged 17 = .ok (.isub, 1) := by decide +kernel
theorem dX0_beDragged_18 : decode cX0_beDragged 18 = .ok (.invokestatic 123, 3) := by decide +kernel
theorem dX0_beDragged_21 : decode cX0_beDragged 21 = .ok (.putfield 39, 3) := by decide +kernel
theorem dX0_beDragged_24 : decode cX0_beDragged 24 = .ok (.goto 20, 3) := by decide +kernel
theorem dX0_beDragged_27 : decode cX0_beDragged 27 = .ok (.aload_n 0, 1) := by decide +kernel
theorem dX0_beDragged_28 : decode cX0_beDragged 28 = .ok (.iconst 0, 1) := by decide +kernel
theorem dX0_beDragged_29 : decode cX0_beDragged 29 = .ok (.aload_n 0, 1) := by decide +kernel
theorem dX0_beDragged_30 : decode cX0_beDragged 30 = .ok (.getfield 39, 3) := by decide +kernel
theorem dX0_beDragged_33 : decode cX0_beDragged 33 = .ok (.aload_n 0, 1) := by decide +kernel
theorem dX0_beDragged_34 : decode cX0_beDragged 34 = .ok (.getfield 42, 3) := by decide +kernel
theorem dX0_beDragged_37 : decode cX0_beDragged 37 = .ok (.iadd, 1) := by decide +kernel
theorem dX0_beDragged_38 : decode cX0_beDragged 38 = .ok (.invokestatic 117, 3) := by decide +kernel
theorem dX0_beDragged_41 : decode cX0_beDragged 41 = .ok (.putfield 39, 3) := by decide +kernel
theorem dX0_beDragged_44 : decode cX0_beDragged 44 = .ok (.return_, 1) := by decide +kernel
theorem dX0_swing_0 : decode cX0_swing 0 = .ok (.aload_n 0, 1) := by decide +kernel
theorem dX0_swing_1 : decode cX0_swing 1 = .ok (.dup, 1) := by decide +kernel
theorem dX0_swing_2 : decode cX0_swing 2 = .ok (.getfield 36, 3) := by decide +kernel
theorem dX0_swing_5 : decode cX0_swing 5 = .ok (.aload_n 0, 1) := by decide +kernel
theorem dX0_swing_6 : decode cX0_swing 6 = .ok (.getfield 39, 3) := by decide +kernel
theorem dX0_swing_9 : decode cX0_swing 9 = .ok (.iadd, 1) := by decide +kernel
theorem dX0_swing_10 : decode cX0_swing 10 = .ok (.putfield 36, 3) := by decide +kernel
theorem dX0_swing_13 : decode cX0_swing 13 = .ok (.aload_n 0, 1) := by decide +kernel
theorem dX0_swing_14 : decode cX0_swing 14 = .ok (.getfield 36, 3) := by decide +kernel
theorem dX0_swing_17 : decode cX0_swing 17 = .ok (.sipush 300, 3) := by decide +kernel
theorem dX0_swing_20 : decode cX0_swing 20 = .ok (.if_icmp .gt 13, 3) := by decide +kernel
theorem dX0_swing_23 : decode cX0_swing 23 = .ok (.aload_n 0, 1) := by decide +kernel
theorem dX0_swing_24 : decode cX0_swing 24 = .ok (.getfield 36, 3) := by decide +kernel
theorem dX0_swing_27 : decode cX0_swing 27 = .ok (.sipush (-300), 3) := by decide +kernel
theorem dX0_swing_30 : decode cX0_swing 30 = .ok (.if_icmp .ge 38, 3) := by decide +kernel
theorem dX0_swing_33 : decode cX0_swing 33 = .ok (.aload_n 0, 1) := by decide +kernel
theorem dX0_swing_34 : decode cX0_swing 34 = .ok (.aload_n 0, 1) := by decide +kernel
theorem dX0_swing_35 : decode cX0_swing 35 = .ok (.getfield 36, 3) := by decide +kernel
theorem dX0_swing_38 : decode cX0_swing 38 = .ok (.ifCond .le 9, 3) := by decide +kernel
theorem dX0_swing_41 : decode cX0_swing 41 = .ok (.sipush 300, 3) := by decide +kernel
theorem dX0_swing_44 : decode cX0_swing 44 = .ok (.goto 6, 3) := by decide +kernel
theorem dX0_swing_47 : decode cX0_swing 47 = .ok (.sipush (-300), 3) := by decide +kernel
theorem dX0_swing_50 : decode cX0_swing 50 = .ok (.putfield 36, 3) := by decide +kernel
theorem dX0_swing_53 : decode cX0_swing 53 = .ok (.aload_n 0, 1) := by decide +kernel
theorem dX0_swing_54 : decode cX0_swing 54 = .ok (.iconst 0, 1) := by decide +kernel
theorem dX0_swing_55 : decode cX0_swing 55 = .ok (.putfield 39, 3) := by decide +kernel
theorem dX0_swing_58 : decode cX0_swing 58 = .ok (.aload_n 0, 1) := by decide +kernel
theorem dX0_swing_59 : decode cX0_swing 59 = .ok (.dup, 1) := by decide +kernel
theorem dX0_swing_60 : decode cX0_swing 60 = .ok (.getfield 57, 3) := by decide +kernel
theorem dX0_swing_63 : decode cX0_swing 63 = .ok (.iconst 1, 1) := by decide +kernel
theorem dX0_swing_64 : decode cX0_swing 64 = .ok (.iadd, 1) := by decide +kernel
theorem dX0_swing_65 : decode cX0_swing 65 = .ok (.putfield 57, 3) := by decide +kernel
theorem dX0_swing_68 : decode cX0_swing 68 = .ok (.return_, 1) := by decide +kernel
theorem dX0_isLetGo_0 : decode cX0_isLetGo 0 = .ok (.aload_n 0, 1) := by decide +kernel
theorem dX0_isLetGo_1 : decode cX0_isLetGo 1 = .ok (.getfield 15, 3) := by decide +kernel
theorem dX0_isLetGo_4 : decode cX0_isLetGo 4 = .ok (.ifCond .gt 5, 3) := by decide +kernel
theorem dX0_isLetGo_7 : decode cX0_isLetGo 7 = .ok (.iconst 0, 1) := by decide +kernel
theorem dX0_isLetGo_8 : decode cX0_isLetGo 8 = .ok (.ireturn, 1) := by decide +kernel
theorem dX0_isLetGo_9 : decode cX0_isLetGo 9 = .ok (.aload_n 0, 1) := by decide +kernel
theorem dX0_isLetGo_10 : decode cX0_isLetGo 10 = .ok (.getfield 48, 3) := by decide +kernel
theorem dX0_isLetGo_13 : decode cX0_isLetGo 13 = .ok (.ifCond .ne 30, 3) := by decide +kernel
theorem dX0_isLetGo_16 : decode cX0_isLetGo 16 = .ok (.iload_n 1, 1) := by decide +kernel
theorem dX0_isLetGo_17 : decode cX0_isLetGo 17 = .ok (.aload_n 0, 1) := by decide +kernel
theorem dX0_isLetGo_18 : decode cX0_isLetGo 18 = .ok (.getfield 45, 3) := by decide +kernel
theorem dX0_isLetGo_21 : decode cX0_isLetGo 21 = .ok (.if_icmp .gt 18, 3) := by decide +kernel
theorem dX0_isLetGo_24 : decode cX0_isLetGo 24 = .ok (.aload_n 0, 1) := by decide +kernel
theorem dX0_isLetGo_25 : decode cX0_isLetGo 25 = .ok (.getfield 36, 3) := by decide +kernel
theorem dX0_isLetGo_28 : decode cX0_isLetGo 28 = .ok (.aload_n 0, 1) := by decide +kernel
theorem dX0_isLetGo_29 : decode cX0_isLetGo 29 = .ok (.getfield 45, 3) := by decide +kernel
theorem dX0_isLetGo_32 : decode cX0_isLetGo 32 = .ok (.if_icmp .le 7, 3) := by decide +kernel
theorem dX0_isLetGo_35 : decode cX0_isLetGo 35 = .ok (.iconst 1, 1) := by decide +kernel
theorem dX0_isLetGo_36 : decode cX0_isLetGo 36 = .ok (.goto 31, 3) := by decide +kernel
theorem dX0_isLetGo_39 : decode cX0_isLetGo 39 = .ok (.iconst 0, 1) := by decide +kernel
theorem dX0_isLetGo_40 : decode cX0_isLetGo 40 = .ok (.goto 27, 3) := by decide +kernel
theorem dX0_isLetGo_43 : decode cX0_isLetGo 43 = .ok (.iload_n 1, 1) := by decide +kernel
theorem dX0_isLetGo_44 : decode cX0_isLetGo 44 = .ok (.aload_n 0, 1) := by decide +kernel
theorem dX0_isLetGo_45 : decode cX0_isLetGo 45 = .ok (.getfield 45, 3) := by decide +kernel
theorem dX0_isLetGo_48 : decode cX0_isLetGo 48 = .ok (.if_icmp .lt 18, 3) := by decide +kernel
theorem dX0_isLetGo_51 : decode cX0_isLetGo 51 = .ok (.aload_n 0, 1) := by decide +kernel
theorem dX0_isLetGo_52 : decode cX0_isLetGo 52 = .ok (.getfield 36, 3) := by decide +kernel
theorem dX0_isLetGo_55 : decode cX0_isLetGo 55 = .ok (.aload_n 0, 1) := by decide +kernel
theorem dX0_isLetGo_56 : decode cX0_isLetGo 56 = .ok (.getfield 45, 3) := by decide +kernel
theorem dX0_isLetGo_59 : decode cX0_isLetGo 59 = .ok (.if_icmp .ge 7, 3) := by decide +kernel
theorem dX0_isLetGo_62 : decode cX0_isLetGo 62 = .ok (.iconst 1, 1) := by decide +kernel
theorem dX0_isLetGo_63 : decode cX0_isLetGo 63 = .ok (.goto 4, 3) := by decide +kernel
theorem dX0_isLetGo_66 : decode cX0_isLetGo 66 = .ok (.iconst 0, 1) := by decide +kernel
theorem dX0_isLetGo_67 : decode cX0_isLetGo 67 = .ok (.ireturn, 1) := by decide +kernel
theorem dX0_beKicked_0 : decode cX0_beKicked 0 = .ok (.aload_n 0, 1) := by decide +kernel
theorem dX0_beKicked_1 : decode cX0_beKicked 1 = .ok (.getfield 15, 3) := by decide +kernel
theorem dX0_beKicked_4 : decode cX0_beKicked 4 = .ok (.iconst 3, 1) := by decide +kernel
theorem dX0_beKicked_5 : decode cX0_beKicked 5 = .ok (.iadd, 1) := by decide +kernel
theorem dX0_beKicked_6 : decode cX0_beKicked 6 = .ok (.iconst 4, 1) := by decide +kernel
theorem dX0_beKicked_7 : decode cX0_beKicked 7 = .ok (.idiv, 1) := by decide +kernel
theorem dX0_beKicked_8 : decode cX0_beKicked 8 = .ok (.istore_n 1, 1) := by decide +kernel
theorem dX0_beKicked_9 : decode cX0_beKicked 9 = .ok (.aload_n 0, 1) := by decide +kernel
theorem dX0_beKicked_10 : decode cX0_beKicked 10 = .ok (.getfield 48, 3) := by decide +kernel
theorem dX0_beKicked_13 : decode cX0_beKicked 13 = .ok (.ifCond .ne 21, 3) := by decide +kernel
theorem dX0_beKicked_16 : decode cX0_beKicked 16 = .ok (.aload_n 0, 1) := by decide +kernel
theorem dX0_beKicked_17 : decode cX0_beKicked 17 = .ok (.dup, 1) := by decide +kernel
theorem dX0_beKicked_18 : decode cX0_beKicked 18 = .ok (.getfield 39, 3) := by decide +kernel
theorem dX0_beKicked_21 : decode cX0_beKicked 21 = .ok (.iload_n 1, 1) := by decide +kernel
theorem dX0_beKicked_22 : decode cX0_beKicked 22 = .ok (.iadd, 1) := by decide +kernel
theorem dX0_beKicked_23 : decode cX0_beKicked 23 = .ok (.putfield 39, 3) := by decide +kernel
theorem dX0_beKicked_26 : decode cX0_beKicked 26 = .ok (.aload_n 0, 1) := by decide +kernel
theorem dX0_beKicked_27 : decode cX0_beKicked 27 = .ok (.iconst 1, 1) := by decide +kernel
theorem dX0_beKicked_28 : decode cX0_beKicked 28 = .ok (.putfield 48, 3) := by decide +kernel
theorem dX0_beKicked_31 : decode cX0_beKicked 31 = .ok (.goto 18, 3) := by decide +kernel
theorem dX0_beKicked_34 : decode cX0_beKicked 34 = .ok (.aload_n 0, 1) := by decide +kernel
theorem dX0_beKicked_35 : decode cX0_beKicked 35 = .ok (.dup, 1) := by decide +kernel
theorem dX0_beKicked_36 : decode cX0_beKicked 36 = .ok (.getfield 39, 3) := by decide +kernel
theorem dX0_beKicked_39 : decode cX0_beKicked 39 = .ok (.iload_n 1, 1) := by decide +kernel
theorem dX0_beKicked_40 : decode cX0_beKicked 40 = .ok (.isub, 1) := by decide +kernel
theorem dX0_beKicked_41 : decode cX0_beKicked 41 = .ok (.putfield 39, 3) := by decide +kernel
theorem dX0_beKicked_44 : decode cX0_beKicked 44 = .ok (.aload_n 0, 1) := by decide +kernel
theorem dX0_beKicked_45 : decode cX0_beKicked 45 = .ok (.iconst 0, 1) := by decide +kernel
theorem dX0_beKicked_46 : decode cX0_beKicked 46 = .ok (.putfield 48, 3) := by decide +kernel
theorem dX0_beKicked_49 : decode cX0_beKicked 49 = .ok (.aload_n 0, 1) := by decide +kernel
theorem dX0_beKicked_50 : decode cX0_beKicked 50 = .ok (.dup, 1) := by decide +kernel
theorem dX0_beKicked_51 : decode cX0_beKicked 51 = .ok (.getfield 54, 3) := by decide +kernel
theorem dX0_beKicked_54 : decode cX0_beKicked 54 = .ok (.iconst 1, 1) := by decide +kernel
theorem dX0_beKicked_55 : decode cX0_beKicked 55 = .ok (.iadd, 1) := by decide +kernel
theorem dX0_beKicked_56 : decode cX0_beKicked 56 = .ok (.putfield 54, 3) := by decide +kernel
theorem dX0_beKicked_59 : decode cX0_beKicked 59 = .ok (.aload_n 0, 1) := by decide +kernel
theorem dX0_beKicked_60 : decode cX0_beKicked 60 = .ok (.getfield 18, 3) := by decide +kernel
theorem dX0_beKicked_63 : decode cX0_beKicked 63 = .ok (.ifCond .le 25, 3) := by decide +kernel
theorem dX0_beKicked_66 : decode cX0_beKicked 66 = .ok (.aload_n 0, 1) := by decide +kernel
theorem dX0_beKicked_67 : decode cX0_beKicked 67 = .ok (.getfield 54, 3) := by decide +kernel
theorem dX0_beKicked_70 : decode cX0_beKicked 70 = .ok (.aload_n 0, 1) := by decide +kernel
theorem dX0_beKicked_71 : decode cX0_beKicked 71 = .ok (.getfield 18, 3) := by decide +kernel
theorem dX0_beKicked_74 : decode cX0_beKicked 74 = .ok (.irem, 1) := by decide +kernel
theorem dX0_beKicked_75 : decode cX0_beKicked 75 = .ok (.ifCond .ne 13, 3) := by decide +kernel
theorem dX0_beKicked_78 : decode cX0_beKicked 78 = .ok (.aload_n 0, 1) := by decide +kernel
theorem dX0_beKicked_79 : decode cX0_beKicked 79 = .ok (.dup, 1) := by decide +kernel
theorem dX0_beKicked_80 : decode cX0_beKicked 80 = .ok (.getfield 15, 3) := by decide +kernel
theorem dX0_beKicked_83 : decode cX0_beKicked 83 = .ok (.iconst 1, 1) := by decide +kernel
theorem dX0_beKicked_84 : decode cX0_beKicked 84 = .ok (.isub, 1) := by decide +kernel
theorem dX0_beKicked_85 : decode cX0_beKicked 85 = .ok (.putfield 15, 3) := by decide +kernel
theorem dX0_beKicked_88 : decode cX0_beKicked 88 = .ok (.return_, 1) := by decide +kernel
theorem dX1_init_0 : decode cX1_init 0 = .ok (.aload_n 0, 1) := by decide +kernel
theorem dX1_init_1 : decode cX1_init 1 = .ok (.invokespecial 3, 3) := by decide +kernel
theorem dX1_init_4 : decode cX1_init 4 = .ok (.aload_n 0, 1) := by decide +kernel
theorem dX1_init_5 : decode cX1_init 5 = .ok (.sipush 400, 3) := by decide +kernel
theorem dX1_init_8 : decode cX1_init 8 = .ok (.newarray .int, 2) := by decide +kernel
theorem dX1_init_10 : decode cX1_init 10 = .ok (.putfield 9, 3) := by decide +kernel
theorem dX1_init_13 : decode cX1_init 13 = .ok (.return_, 1) := by decide +kernel
theorem dX1_listen_0 : decode cX1_listen 0 = .ok (.aload_n 0, 1) := by decide +kernel
theorem dX1_listen_1 : decode cX1_listen 1 = .ok (.iconst 0, 1) := by decide +kernel
theorem dX1_listen_2 : decode cX1_listen 2 = .ok (.putfield 15, 3) := by decide +kernel
theorem dX1_listen_5 : decode cX1_listen 5 = .ok (.iconst 0, 1) := by decide +kernel
theorem dX1_listen_6 : decode cX1_listen 6 = .ok (.istore_n 2, 1) := by decide +kernel
theorem dX1_listen_7 : decode cX1_listen 7 = .ok (.iload_n 2, 1) := by decide +kernel
theorem dX1_listen_8 : decode cX1_listen 8 = .ok (.sipush 400, 3) := by decide +kernel
theorem dX1_listen_11 : decode cX1_listen 11 = .ok (.if_icmp .ge 48, 3) := by decide +kernel
theorem dX1_listen_14 : decode cX1_listen 14 = .ok (.aload_n 1, 1) := by decide +kernel
theorem dX1_listen_15 : decode cX1_listen 15 = .ok (.invokevirtual 19, 3) := by decide +kernel
theorem dX1_listen_18 : decode cX1_listen 18 = .ok (.ifCond .eq 35, 3) := by decide +kernel
theorem dX1_listen_21 : decode cX1_listen 21 = .ok (.aload_n 0, 1) := by decide +kernel
theorem dX1_listen_22 : decode cX1_listen 22 = .ok (.getfield 15, 3) := by decide +kernel
theorem dX1_listen_25 : decode cX1_listen 25 = .ok (.aload_n 0, 1) := by decide +kernel
theorem dX1_listen_26 : decode cX1_listen 26 = .ok (.getfield 9, 3) := by decide +kernel
theorem dX1_listen_29 : decode cX1_listen 29 = .ok (.arraylength, 1) := by decide +kernel
theorem dX1_listen_30 : decode cX1_listen 30 = .ok (.if_icmp .ge 23, 3) := by decide +kernel
theorem dX1_listen_33 : decode cX1_listen 33 = .ok (.aload_n 0, 1) := by decide +kernel
theorem dX1_listen_34 : decode cX1_listen 34 = .ok (.getfield 9, 3) := by decide +kernel
theorem dX1_listen_37 : decode cX1_listen 37 = .ok (.aload_n 0, 1) := by decide +kernel
theorem dX1_listen_38 : decode cX1_listen 38 = .ok (.getfield 15, 3) := by decide +kernel
theorem dX1_listen_41 : decode cX1_listen 41 = .ok (.iload_n 2, 1) := by decide +kernel
theorem dX1_listen_42 : decode cX1_listen 42 = .ok (.iastore, 1) := by decide +kernel
theorem dX1_listen_43 : decode cX1_listen 43 = .ok (.aload_n 0, 1) := by decide +kernel
theorem dX1_listen_44 : decode cX1_listen 44 = .ok (.dup, 1) := by decide +kernel
theorem dX1_listen_45 : decode cX1_listen 45 = .ok (.getfield 15, 3) := by decide +kernel
theorem dX1_listen_48 : decode cX1_listen 48 = .ok (.iconst 1, 1) := by decide +kernel
theorem dX1_listen_49 : decode cX1_listen 49 = .ok (.iadd, 1) := by decide +kernel
theorem dX1_listen_50 : decode cX1_listen 50 = .ok (.putfield 15, 3) := by decide +kernel
theorem dX1_listen_53 : decode cX1_listen 53 = .ok (.iinc 2 1, 3) := by decide +kernel
theorem dX1_listen_56 : decode cX1_listen 56 = .ok (.goto (-49), 3) := by decide +kernel
theorem dX1_listen_59 : decode cX1_listen 59 = .ok (.return_, 1) := by decide +kernel
theorem dX1_beatAt_0 : decode cX1_beatAt 0 = .ok (.iload_n 1, 1) := by decide +kernel
theorem dX1_beatAt_1 : decode cX1_beatAt 1 = .ok (.ifCond .lt 29, 3) := by decide +kernel
theorem dX1_beatAt_4 : decode cX1_beatAt 4 = .ok (.iload_n 1, 1) := by decide +kernel
theorem dX1_beatAt_5 : decode cX1_beatAt 5 = .ok (.aload_n 0, 1) := by decide +kernel
theorem dX1_beatAt_6 : decode cX1_beatAt 6 = .ok (.getfield 15, 3) := by decide +kernel
theorem dX1_beatAt_9 : decode cX1_beatAt 9 = .ok (.if_icmp .ge 21, 3) := by decide +kernel
theorem dX1_beatAt_12 : decode cX1_beatAt 12 = .ok (.iload_n 1, 1) := by decide +kernel
theorem dX1_beatAt_13 : decode cX1_beatAt 13 = .ok (.aload_n 0, 1) := by decide +kernel
theorem dX1_beatAt_14 : decode cX1_beatAt 14 = .ok (.getfield 9, 3) := by decide +kernel
theorem dX1_beatAt_17 : decode cX1_beatAt 17 = .ok (.arraylength, 1) := by decide +kernel
theorem dX1_beatAt_18 : decode cX1_beatAt 18 = .ok (.if_icmp .ge 12, 3) := by decide +kernel
theorem dX1_beatAt_21 : decode cX1_beatAt 21 = .ok (.aload_n 0, 1) := by decide +kernel
theorem dX1_beatAt_22 : decode cX1_beatAt 22 = .ok (.getfield 9, 3) := by decide +kernel
theorem dX1_beatAt_25 : decode cX1_beatAt 25 = .ok (.iload_n 1, 1) := by decide +kernel
theorem dX1_beatAt_26 : decode cX1_beatAt 26 = .ok (.iaload, 1) := by decide +kernel
theorem dX1_beatAt_27 : decode cX1_beatAt 27 = .ok (.goto 5, 3) := by decide +kernel
theorem dX1_beatAt_30 : decode cX1_beatAt 30 = .ok (.bipush (-5), 2) := by decide +kernel
theorem dX1_beatAt_32 : decode cX1_beatAt 32 = .ok (.ireturn, 1) := by decide +kernel
theorem dX1_gaps_0 : decode cX1_gaps 0 = .ok (.iconst 0, 1) := by decide +kernel
theorem dX1_gaps_1 : decode cX1_gaps 1 = .ok (.aload_n 0, 1) := by decide +kernel
theorem dX1_gaps_2 : decode cX1_gaps 2 = .ok (.getfield 15, 3) := by decide +kernel
theorem dX1_gaps_5 : decode cX1_gaps 5 = .ok (.iconst 1, 1) := by decide +kernel
theorem dX1_gaps_6 : decode cX1_gaps 6 = .ok (.isub, 1) := by decide +kernel
theorem dX1_gaps_7 : decode cX1_gaps 7 = .ok (.invokestatic 25, 3) := by decide +kernel
theorem dX1_gaps_10 : decode cX1_gaps 10 = .ok (.ireturn, 1) := by decide +kernel
theorem dX1_gapAt_0 : decode cX1_gapAt 0 = .ok (.iload_n 1, 1) := by decide +kernel
theorem dX1_gapAt_1 : decode cX1_gapAt 1 = .ok (.ifCond .lt 27, 3) := by decide +kernel
theorem dX1_gapAt_4 : decode cX1_gapAt 4 = .ok (.iload_n 1, 1) := by decide +kernel
theorem dX1_gapAt_5 : decode cX1_gapAt 5 = .ok (.aload_n 0, 1) := by decide +kernel
theorem dX1_gapAt_6 : decode cX1_gapAt 6 = .ok (.invokevirtual 31, 3) := by decide +kernel
theorem dX1_gapAt_9 : decode cX1_gapAt 9 = .ok (.if_icmp .ge 19, 3) := by decide +kernel
theorem dX1_gapAt_12 : decode cX1_gapAt 12 = .ok (.aload_n 0, 1) := by decide +kernel
theorem dX1_gapAt_13 : decode cX1_gapAt 13 = .ok (.iload_n 1, 1) := by decide +kernel
theorem dX1_gapAt_14 : decode cX1_gapAt 14 = .ok (.iconst 1, 1) := by decide +kernel
theorem dX1_gapAt_15 : decode cX1_gapAt 15 = .ok (.iadd, 1) := by decide +kernel
theorem dX1_gapAt_16 : decode cX1_gapAt 16 = .ok (.invokevirtual 35, 3) := by decide +kernel
theorem dX1_gapAt_19 : decode cX1_gapAt 19 = .ok (.aload_n 0, 1) := by decide +kernel
theorem dX1_gapAt_20 : decode cX1_gapAt 20 = .ok (.iload_n 1, 1) := by decide +kernel
theorem dX1_gapAt_21 : decode cX1_gapAt 21 = .ok (.invokevirtual 35, 3) := by decide +kernel
theorem dX1_gapAt_24 : decode cX1_gapAt 24 = .ok (.isub, 1) := by decide +kernel
theorem dX1_gapAt_25 : decode cX1_gapAt 25 = .ok (.goto 5, 3) := by decide +kernel
theorem dX1_gapAt_28 : decode cX1_gapAt 28 = .ok (.bipush (-5), 2) := by decide +kernel
theorem dX1_gapAt_30 : decode cX1_gapAt 30 = .ok (.ireturn, 1) := by decide +kernel
theorem dX1_uneven_0 : decode cX1_uneven 0 = .ok (.iconst 0, 1) := by decide +kernel
theorem dX1_uneven_1 : decode cX1_uneven 1 = .ok (.istore_n 1, 1) := by decide +kernel
theorem dX1_uneven_2 : decode cX1_uneven 2 = .ok (.aload_n 0, 1) := by decide +kernel
theorem dX1_uneven_3 : decode cX1_uneven 3 = .ok (.invokevirtual 31, 3) := by decide +kernel
theorem dX1_uneven_6 : decode cX1_uneven 6 = .ok (.istore_n 2, 1) := by decide +kernel
theorem dX1_uneven_7 : decode cX1_uneven 7 = .ok (.iconst 0, 1) := by decide +kernel
theorem dX1_uneven_8 : decode cX1_uneven 8 = .ok (.istore_n 3, 1) := by decide +kernel
theorem dX1_uneven_9 : decode cX1_uneven 9 = .ok (.iload_n 3, 1) := by decide +kernel
theorem dX1_uneven_10 : decode cX1_uneven 10 = .ok (.iconst 1, 1) := by decide +kernel
theorem dX1_uneven_11 : decode cX1_uneven 11 = .ok (.iadd, 1) := by decide +kernel
theorem dX1_uneven_12 : decode cX1_uneven 12 = .ok (.iload_n 2, 1) := by decide +kernel
theorem dX1_uneven_13 : decode cX1_uneven 13 = .ok (.if_icmp .ge 25, 3) := by decide +kernel
theorem dX1_uneven_16 : decode cX1_uneven 16 = .ok (.iload_n 1, 1) := by decide +kernel
theorem dX1_uneven_17 : decode cX1_uneven 17 = .ok (.aload_n 0, 1) := by decide +kernel
theorem dX1_uneven_18 : decode cX1_uneven 18 = .ok (.iload_n 3, 1) := by decide +kernel
theorem dX1_uneven_19 : decode cX1_uneven 19 = .ok (.invokevirtual 39, 3) := by decide +kernel
theorem dX1_uneven_22 : decode cX1_uneven 22 = .ok (.aload_n 0, 1) := by decide +kernel
theorem dX1_uneven_23 : decode cX1_uneven 23 = .ok (.iload_n 3, 1) := by decide +kernel
theorem dX1_uneven_24 : decode cX1_uneven 24 = .ok (.iconst 1, 1) := by decide +kernel
theorem dX1_uneven_25 : decode cX1_uneven 25 = .ok (.iadd, 1) := by decide +kernel
theorem dX1_uneven_26 : decode cX1_uneven 26 = .ok (.invokevirtual 39, 3) := by decide +kernel
theorem dX1_uneven_29 : decode cX1_uneven 29 = .ok (.isub, 1) := by decide +kernel
theorem dX1_uneven_30 : decode cX1_uneven 30 = .ok (.iadd, 1) := by decide +kernel
theorem dX1_uneven_31 : decode cX1_uneven 31 = .ok (.istore_n 1, 1) := by decide +kernel
theorem dX1_uneven_32 : decode cX1_uneven 32 = .ok (.iinc 3 2, 3) := by decide +kernel
theorem dX1_uneven_35 : decode cX1_uneven 35 = .ok (.goto (-26), 3) := by decide +kernel
theorem dX1_uneven_38 : decode cX1_uneven 38 = .ok (.iload_n 1, 1) := by decide +kernel
theorem dX1_uneven_39 : decode cX1_uneven 39 = .ok (.ireturn, 1) := by decide +kernel
theorem dX1_longestGap_0 : decode cX1_longestGap 0 = .ok (.aload_n 0, 1) := by decide +kernel
theorem dX1_longestGap_1 : decode cX1_longestGap 1 = .ok (.invokevirtual 31, 3) := by decide +kernel
theorem dX1_longestGap_4 : decode cX1_longestGap 4 = .ok (.istore_n 2, 1) := by decide +kernel
theorem dX1_longestGap_5 : decode cX1_longestGap 5 = .ok (.iconst 0, 1) := by decide +kernel
theorem dX1_longestGap_6 : decode cX1_longestGap 6 = .ok (.istore_n 3, 1) := by decide +kernel
theorem dX1_longestGap_7 : decode cX1_longestGap 7 = .ok (.iload_n 3, 1) := by decide +kernel
theorem dX1_longestGap_8 : decode cX1_longestGap 8 = .ok (.iload_n 2, 1) := by decide +kernel
theorem dX1_longestGap_9 : decode cX1_longestGap 9 = .ok (.if_icmp .ge 20, 3) := by decide +kernel
theorem dX1_longestGap_12 : decode cX1_longestGap 12 = .ok (.aload_n 0, 1) := by decide +kernel
theorem dX1_longestGap_13 : decode cX1_longestGap 13 = .ok (.iload_n 3, 1) := by decide +kernel
theorem dX1_longestGap_14 : decode cX1_longestGap 14 = .ok (.invokevirtual 42, 3) := by decide +kernel
theorem dX1_longestGap_17 : decode cX1_longestGap 17 = .ok (.iload_n 1, 1) := by decide +kernel
theorem dX1_longestGap_18 : decode cX1_longestGap 18 = .ok (.if_icmp .ne 5, 3) := by decide +kernel
theorem dX1_longestGap_21 : decode cX1_longestGap 21 = .ok (.iload_n 3, 1) := by decide +kernel
theorem dX1_longestGap_22 : decode cX1_longestGap 22 = .ok (.ireturn, 1) := by decide +kernel
theorem dX1_longestGap_23 : decode cX1_longestGap 23 = .ok (.iinc 3 1, 3) := by decide +kernel
theorem dX1_longestGap_26 : decode cX1_longestGap 26 = .ok (.goto (-19), 3) := by decide +kernel
theorem dX1_longestGap_29 : decode cX1_longestGap 29 = .ok (.bipush (-5), 2) := by decide +kernel
theorem dX1_longestGap_31 : decode cX1_longestGap 31 = .ok (.ireturn, 1) := by decide +kernel
theorem dX1_gapsAheadOf_0 : decode cX1_gapsAheadOf 0 = .ok (.aload_n 0, 1) := by decide +kernel
theorem dX1_gapsAheadOf_1 : decode cX1_gapsAheadOf 1 = .ok (.iload_n 1, 1) := by decide +kernel
theorem dX1_gapsAheadOf_2 : decode cX1_gapsAheadOf 2 = .ok (.invokevirtual 39, 3) := by decide +kernel
theorem dX1_gapsAheadOf_5 : decode cX1_gapsAheadOf 5 = .ok (.istore_n 2, 1) := by decide +kernel
theorem dX1_gapsAheadOf_6 : decode cX1_gapsAheadOf 6 = .ok (.iconst 0, 1) := by decide +kernel
theorem dX1_gapsAheadOf_7 : decode cX1_gapsAheadOf 7 = .ok (.istore_n 3, 1) := by decide +kernel
theorem dX1_gapsAheadOf_8 : decode cX1_gapsAheadOf 8 = .ok (.aload_n 0, 1) := by decide +kernel
theorem dX1_gapsAheadOf_9 : decode cX1_gapsAheadOf 9 = .ok (.invokevirtual 31, 3) := by decide +kernel
theorem dX1_gapsAheadOf_12 : decode cX1_gapsAheadOf 12 = .ok (.istore 4, 2) := by decide +kernel
theorem dX1_gapsAheadOf_14 : decode cX1_gapsAheadOf 14 = .ok (.iconst 0, 1) := by decide +kernel
theorem dX1_gapsAheadOf_15 : decode cX1_gapsAheadOf 15 = .ok (.istore 5, 2) := by decide +kernel
theorem dX1_gapsAheadOf_17 : decode cX1_gapsAheadOf 17 = .ok (.iload 5, 2) := by decide +kernel
theorem dX1_gapsAheadOf_19 : decode cX1_gapsAheadOf 19 = .ok (.iload 4, 2) := by decide +kernel
theorem dX1_gapsAheadOf_21 : decode cX1_gapsAheadOf 21 = .ok (.if_icmp .ge 38, 3) := by decide +kernel
theorem dX1_gapsAheadOf_24 : decode cX1_gapsAheadOf 24 = .ok (.aload_n 0, 1) := by decide +kernel
theorem dX1_gapsAheadOf_25 : decode cX1_gapsAheadOf 25 = .ok (.iload 5, 2) := by decide +kernel
theorem dX1_gapsAheadOf_27 : decode cX1_gapsAheadOf 27 = .ok (.invokevirtual 39, 3) := by decide +kernel
theorem dX1_gapsAheadOf_30 : decode cX1_gapsAheadOf 30 = .ok (.istore 6, 2) := by decide +kernel
theorem dX1_gapsAheadOf_32 : decode cX1_gapsAheadOf 32 = .ok (.iload 6, 2) := by decide +kernel
theorem dX1_gapsAheadOf_34 : decode cX1_gapsAheadOf 34 = .ok (.iload_n 2, 1) := by decide +kernel
theorem dX1_gapsAheadOf_35 : decode cX1_gapsAheadOf 35 = .ok (.if_icmp .gt 15, 3) := by decide +kernel
theorem dX1_gapsAheadOf_38 : decode cX1_gapsAheadOf 38 = .ok (.iload 6, 2) := by decide +kernel
theorem dX1_gapsAheadOf_40 : decode cX1_gapsAheadOf 40 = .ok (.iload_n 2, 1) := by decide +kernel
theorem dX1_gapsAheadOf_41 : decode cX1_gapsAheadOf 41 = .ok (.if_icmp .ne 12, 3) := by decide +kernel
theorem dX1_gapsAheadOf_44 : decode cX1_gapsAheadOf 44 = .ok (.iload 5, 2) := by decide +kernel
theorem dX1_gapsAheadOf_46 : decode cX1_gapsAheadOf 46 = .ok (.iload_n 1, 1) := by decide +kernel
theorem dX1_gapsAheadOf_47 : decode cX1_gapsAheadOf 47 = .ok (.if_icmp .ge 6, 3) := by decide +kernel
theorem dX1_gapsAheadOf_50 : decode cX1_gapsAheadOf 50 = .ok (.iinc 3 1, 3) := by decide +kernel
theorem dX1_gapsAheadOf_53 : decode cX1_gapsAheadOf 53 = .ok (.iinc 5 1, 3) := by decide +kernel
theorem dX1_gapsAheadOf_56 : decode cX1_gapsAheadOf 56 = .ok (.goto (-39), 3) := by decide +kernel
theorem dX1_gapsAheadOf_59 : decode cX1_gapsAheadOf 59 = .ok (.iload_n 3, 1) := by decide +kernel
theorem dX1_gapsAheadOf_60 : decode cX1_gapsAheadOf 60 = .ok (.ireturn, 1) := by decide +kernel
theorem dX2_init_0 : decode cX2_init 0 = .ok (.aload_n 0, 1) := by decide +kernel
theorem dX2_init_1 : decode cX2_init 1 = .ok (.invokespecial 3, 3) := by decide +kernel
theorem dX2_init_4 : decode cX2_init 4 = .ok (.aload_n 0, 1) := by decide +kernel
theorem dX2_init_5 : decode cX2_init 5 = .ok (.bipush 8, 2) := by decide +kernel
theorem dX2_init_7 : decode cX2_init 7 = .ok (.newarray .int, 2) := by decide +kernel
theorem dX2_init_9 : decode cX2_init 9 = .ok (.putfield 9, 3) := by decide +kernel
theorem dX2_init_12 : decode cX2_init 12 = .ok (.aload_n 0, 1) := by decide +kernel
theorem dX2_init_13 : decode cX2_init 13 = .ok (.bipush 8, 2) := by decide +kernel
theorem dX2_init_15 : decode cX2_init 15 = .ok (.newarray .int, 2) := by decide +kernel
theorem dX2_init_17 : decode cX2_init 17 = .ok (.putfield 15, 3) := by decide +kernel
theorem dX2_init_20 : decode cX2_init 20 = .ok (.aload_n 0, 1) := by decide +kernel
theorem dX2_init_21 : decode cX2_init 21 = .ok (.bipush 8, 2) := by decide +kernel
theorem dX2_init_23 : decode cX2_init 23 = .ok (.newarray .int, 2) := by decide +kernel
theorem dX2_init_25 : decode cX2_init 25 = .ok (.putfield 18, 3) := by decide +kernel
theorem dX2_init_28 : decode cX2_init 28 = .ok (.return_, 1) := by decide +kernel
theorem dX2_add_0 : decode cX2_add 0 = .ok (.aload_n 0, 1) := by decide +kernel
theorem dX2_add_1 : decode cX2_add 1 = .ok (.getfield 21, 3) := by decide +kernel
theorem dX2_add_4 : decode cX2_add 4 = .ok (.ifCond .lt 12, 3) := by decide +kernel
theorem dX2_add_7 : decode cX2_add 7 = .ok (.aload_n 0, 1) := by decide +kernel
theorem dX2_add_8 : decode cX2_add 8 = .ok (.getfield 21, 3) := by decide +kernel
theorem dX2_add_11 : decode cX2_add 11 = .ok (.bipush 8, 2) := by decide +kernel
theorem dX2_add_13 : decode cX2_add 13 = .ok (.if_icmp .lt 4, 3) := by decide +kernel
theorem dX2_add_16 : decode cX2_add 16 = .ok (.return_, 1) := by decide +kernel
theorem dX2_add_17 : decode cX2_add 17 = .ok (.aload_n 0, 1) := by decide +kernel
theorem dX2_add_18 : decode cX2_add 18 = .ok (.getfield 21, 3) := by decide +kernel
theorem dX2_add_21 : decode cX2_add 21 = .ok (.istore 4, 2) := by decide +kernel
theorem dX2_add_23 : decode cX2_add 23 = .ok (.iload 4, 2) := by decide +kernel
theorem dX2_add_25 : decode cX2_add 25 = .ok (.ifCond .le 70, 3) := by decide +kernel
theorem dX2_add_28 : decode cX2_add 28 = .ok (.aload_n 0, 1) := by decide +kernel
theorem dX2_add_29 : decode cX2_add 29 = .ok (.getfield 9, 3) := by decide +kernel
theorem dX2_add_32 : decode cX2_add 32 = .ok (.iload 4, 2) := by decide +kernel
theorem dX2_add_34 : decode cX2_add 34 = .ok (.iconst 1, 1) := by decide +kernel
theorem dX2_add_35 : decode cX2_add 35 = .ok (.isub, 1) := by decide +kernel
theorem dX2_add_36 : decode cX2_add 36 = .ok (.iaload, 1) := by decide +kernel
theorem dX2_add_37 : decode cX2_add 37 = .ok (.iload_n 1, 1) := by decide +kernel
theorem dX2_add_38 : decode cX2_add 38 = .ok (.if_icmp .le 57, 3) := by decide +kernel
theorem dX2_add_41 : decode cX2_add 41 = .ok (.aload_n 0, 1) := by decide +kernel
theorem dX2_add_42 : decode cX2_add 42 = .ok (.getfield 9, 3) := by decide +kernel
theorem dX2_add_45 : decode cX2_add 45 = .ok (.iload 4, 2) := by decide +kernel
theorem dX2_add_47 : decode cX2_add 47 = .ok (.aload_n 0, 1) := by decide +kernel
theorem dX2_add_48 : decode cX2_add 48 = .ok (.getfield 9, 3) := by decide +kernel
theorem dX2_add_51 : decode cX2_add 51 = .ok (.iload 4, 2) := by decide +kernel
theorem dX2_add_53 : decode cX2_add 53 = .ok (.iconst 1, 1) := by decide +kernel
theorem dX2_add_54 : decode cX2_add 54 = .ok (.isub, 1) := by decide +kernel
theorem dX2_add_55 : decode cX2_add 55 = .ok (.iaload, 1) := by decide +kernel
theorem dX2_add_56 : decode cX2_add 56 = .ok (.iastore, 1) := by decide +kernel
theorem dX2_add_57 : decode cX2_add 57 = .ok (.aload_n 0, 1) := by decide +kernel
theorem dX2_add_58 : decode cX2_add 58 = .ok (.getfield 15, 3) := by decide +kernel
theorem dX2_add_61 : decode cX2_add 61 = .ok (.iload 4, 2) := by decide +kernel
theorem dX2_add_63 : decode cX2_add 63 = .ok (.aload_n 0, 1) := by decide +kernel
theorem dX2_add_64 : decode cX2_add 64 = .ok (.getfield 15, 3) := by decide +kernel
theorem dX2_add_67 : decode cX2_add 67 = .ok (.iload 4, 2) := by decide +kernel
theorem dX2_add_69 : decode cX2_add 69 = .ok (.iconst 1, 1) := by decide +kernel
theorem dX2_add_70 : decode cX2_add 70 = .ok (.isub, 1) := by decide +kernel
theorem dX2_add_71 : decode cX2_add 71 = .ok (.iaload, 1) := by decide +kernel
theorem dX2_add_72 : decode cX2_add 72 = .ok (.iastore, 1) := by decide +kernel
theorem dX2_add_73 : decode cX2_add 73 = .ok (.aload_n 0, 1) := by decide +kernel
theorem dX2_add_74 : decode cX2_add 74 = .ok (.getfield 18, 3) := by decide +kernel
theorem dX2_add_77 : decode cX2_add 77 = .ok (.iload 4, 2) := by decide +kernel
theorem dX2_add_79 : decode cX2_add 79 = .ok (.aload_n 0, 1) := by decide +kernel
theorem dX2_add_80 : decode cX2_add 80 = .ok (.getfield 18, 3) := by decide +kernel
theorem dX2_add_83 : decode cX2_add 83 = .ok (.iload 4, 2) := by decide +kernel
theorem dX2_add_85 : decode cX2_add 85 = .ok (.iconst 1, 1) := by decide +kernel
theorem dX2_add_86 : decode cX2_add 86 = .ok (.isub, 1) := by decide +kernel
theorem dX2_add_87 : decode cX2_add 87 = .ok (.iaload, 1) := by decide +kernel
theorem dX2_add_88 : decode cX2_add 88 = .ok (.iastore, 1) := by decide +kernel
theorem dX2_add_89 : decode cX2_add 89 = .ok (.iinc 4 (-1), 3) := by decide +kernel
theorem dX2_add_92 : decode cX2_add 92 = .ok (.goto (-69), 3) := by decide +kernel
theorem dX2_add_95 : decode cX2_add 95 = .ok (.aload_n 0, 1) := by decide +kernel
theorem dX2_add_96 : decode cX2_add 96 = .ok (.getfield 9, 3) := by decide +kernel
theorem dX2_add_99 : decode cX2_add 99 = .ok (.iload 4, 2) := by decide +kernel
theorem dX2_add_101 : decode cX2_add 101 = .ok (.iload_n 1, 1) := by decide +kernel
theorem dX2_add_102 : decode cX2_add 102 = .ok (.iastore, 1) := by decide +kernel
theorem dX2_add_103 : decode cX2_add 103 = .ok (.aload_n 0, 1) := by decide +kernel
theorem dX2_add_104 : decode cX2_add 104 = .ok (.getfield 15, 3) := by decide +kernel
theorem dX2_add_107 : decode cX2_add 107 = .ok (.iload 4, 2) := by decide +kernel
theorem dX2_add_109 : decode cX2_add 109 = .ok (.iload_n 2, 1) := by decide +kernel
theorem dX2_add_110 : decode cX2_add 110 = .ok (.iastore, 1) := by decide +kernel
theorem dX2_add_111 : decode cX2_add 111 = .ok (.aload_n 0, 1) := by decide +kernel
theorem dX2_add_112 : decode cX2_add 112 = .ok (.getfield 18, 3) := by decide +kernel
theorem dX2_add_115 : decode cX2_add 115 = .ok (.iload 4, 2) := by decide +kernel
theorem dX2_add_117 : decode cX2_add 117 = .ok (.iload_n 3, 1) := by decide +kernel
theorem dX2_add_118 : decode cX2_add 118 = .ok (.iastore, 1) := by decide +kernel
theorem dX2_add_119 : decode cX2_add 119 = .ok (.aload_n 0, 1) := by decide +kernel
theorem dX2_add_120 : decode cX2_add 120 = .ok (.dup, 1) := by decide +kernel
theorem dX2_add_121 : decode cX2_add 121 = .ok (.getfield 21, 3) := by decide +kernel
theorem dX2_add_124 : decode cX2_add 124 = .ok (.iconst 1, 1) := by decide +kernel
theorem dX2_add_125 : decode cX2_add 125 = .ok (.iadd, 1) := by decide +kernel
theorem dX2_add_126 : decode cX2_add 126 = .ok (.putfield 21, 3) := by decide +kernel
theorem dX2_add_129 : decode cX2_add 129 = .ok (.return_, 1) := by decide +kernel
theorem dX2_removeFirst_0 : decode cX2_removeFirst 0 = .ok (.iload_n 1, 1) := by decide +kernel
theorem dX2_removeFirst_1 : decode cX2_removeFirst 1 = .ok (.iconst 1, 1) := by decide +kernel
theorem dX2_removeFirst_2 : decode cX2_removeFirst 2 = .ok (.if_icmp .lt 11, 3) := by decide +kernel
theorem dX2_removeFirst_5 : decode cX2_removeFirst 5 = .ok (.iload_n 1, 1) := by decide +kernel
theorem dX2_removeFirst_6 : decode cX2_removeFirst 6 = .ok (.aload_n 0, 1) := by decide +kernel
theorem dX2_removeFirst_7 : decode cX2_removeFirst 7 = .ok (.getfield 21, 3) := by decide +kernel
theorem dX2_removeFirst_10 : decode cX2_removeFirst 10 = .ok (.if_icmp .le 4, 3) := by decide +kernel
theorem dX2_removeFirst_13 : decode cX2_removeFirst 13 = .ok (.return_, 1) := by decide +kernel
theorem dX2_removeFirst_14 : decode cX2_removeFirst 14 = .ok (.iload_n 1, 1) := by decide +kernel
theorem dX2_removeFirst_15 : decode cX2_removeFirst 15 = .ok (.istore_n 2, 1) := by decide +kernel
theorem dX2_removeFirst_16 : decode cX2_removeFirst 16 = .ok (.iload_n 2, 1) := by decide +kernel
theorem dX2_removeFirst_17 : decode cX2_removeFirst 17 = .ok (.aload_n 0, 1) := by decide +kernel
theorem dX2_removeFirst_18 : decode cX2_removeFirst 18 = .ok (.getfield 21, 3) := by decide +kernel
theorem dX2_removeFirst_21 : decode cX2_removeFirst 21 = .ok (.if_icmp .ge 57, 3) := by decide +kernel
theorem dX2_removeFirst_24 : decode cX2_removeFirst 24 = .ok (.iload_n 2, 1) := by decide +kernel
theorem dX2_removeFirst_25 : decode cX2_removeFirst 25 = .ok (.bipush 8, 2) := by decide +kernel
theorem dX2_removeFirst_27 : decode cX2_removeFirst 27 = .ok (.if_icmp .ge 51, 3) := by decide +kernel
theorem dX2_removeFirst_30 : decode cX2_removeFirst 30 = .ok (.aload_n 0, 1) := by decide +kernel
theorem dX2_removeFirst_31 : decode cX2_removeFirst 31 = .ok (.getfield 9, 3) := by decide +kernel
theorem dX2_removeFirst_34 : decode cX2_removeFirst 34 = .ok (.iload_n 2, 1) := by decide +kernel
theorem dX2_removeFirst_35 : decode cX2_removeFirst 35 = .ok (.iload_n 1, 1) := by decide +kernel
theorem dX2_removeFirst_36 : decode cX2_removeFirst 36 = .ok (.isub, 1) := by decide +kernel
theorem dX2_removeFirst_37 : decode cX2_removeFirst 37 = .ok (.aload_n 0, 1) := by decide +kernel
theorem dX2_removeFirst_38 : decode cX2_removeFirst 38 = .ok (.getfield 9, 3) := by decide +kernel
theorem dX2_removeFirst_41 : decode cX2_removeFirst 41 = .ok (.iload_n 2, 1) := by decide +kernel
theorem dX2_removeFirst_42 : decode cX2_removeFirst 42 = .ok (.iaload, 1) := by decide +kernel
theorem dX2_removeFirst_43 : decode cX2_removeFirst 43 = .ok (.iastore, 1) := by decide +kernel
theorem dX2_removeFirst_44 : decode cX2_removeFirst 44 = .ok (.aload_n 0, 1) := by decide +kernel
theorem dX2_removeFirst_45 : decode cX2_removeFirst 45 = .ok (.getfield 15, 3) := by decide +kernel
theorem dX2_removeFirst_48 : decode cX2_removeFirst 48 = .ok (.iload_n 2, 1) := by decide +kernel
theorem dX2_removeFirst_49 : decode cX2_removeFirst 49 = .ok (.iload_n 1, 1) := by decide +kernel
theorem dX2_removeFirst_50 : decode cX2_removeFirst 50 = .ok (.isub, 1) := by decide +kernel
theorem dX2_removeFirst_51 : decode cX2_removeFirst 51 = .ok (.aload_n 0, 1) := by decide +kernel
theorem dX2_removeFirst_52 : decode cX2_removeFirst 52 = .ok (.getfield 15, 3) := by decide +kernel
theorem dX2_removeFirst_55 : decode cX2_removeFirst 55 = .ok (.iload_n 2, 1) := by decide +kernel
theorem dX2_removeFirst_56 : decode cX2_removeFirst 56 = .ok (.iaload, 1) := by decide +kernel
theorem dX2_removeFirst_57 : decode cX2_removeFirst 57 = .ok (.iastore, 1) := by decide +kernel
theorem dX2_removeFirst_58 : decode cX2_removeFirst 58 = .ok (.aload_n 0, 1) := by decide +kernel
theorem dX2_removeFirst_59 : decode cX2_removeFirst 59 = .ok (.getfield 18, 3) := by decide +kernel
theorem dX2_removeFirst_62 : decode cX2_removeFirst 62 = .ok (.iload_n 2, 1) := by decide +kernel
theorem dX2_removeFirst_63 : decode cX2_removeFirst 63 = .ok (.iload_n 1, 1) := by decide +kernel
theorem dX2_removeFirst_64 : decode cX2_removeFirst 64 = .ok (.isub, 1) := by decide +kernel
theorem dX2_removeFirst_65 : decode cX2_removeFirst 65 = .ok (.aload_n 0, 1) := by decide +kernel
theorem dX2_removeFirst_66 : decode cX2_removeFirst 66 = .ok (.getfield 18, 3) := by decide +kernel
theorem dX2_removeFirst_69 : decode cX2_removeFirst 69 = .ok (.iload_n 2, 1) := by decide +kernel
theorem dX2_removeFirst_70 : decode cX2_removeFirst 70 = .ok (.iaload, 1) := by decide +kernel
theorem dX2_removeFirst_71 : decode cX2_removeFirst 71 = .ok (.iastore, 1) := by decide +kernel
theorem dX2_removeFirst_72 : decode cX2_removeFirst 72 = .ok (.iinc 2 1, 3) := by decide +kernel
theorem dX2_removeFirst_75 : decode cX2_removeFirst 75 = .ok (.goto (-59), 3) := by decide +kernel
theorem dX2_removeFirst_78 : decode cX2_removeFirst 78 = .ok (.aload_n 0, 1) := by decide +kernel
theorem dX2_removeFirst_79 : decode cX2_removeFirst 79 = .ok (.dup, 1) := by decide +kernel
theorem dX2_removeFirst_80 : decode cX2_removeFirst 80 = .ok (.getfield 21, 3) := by decide +kernel
theorem dX2_removeFirst_83 : decode cX2_removeFirst 83 = .ok (.iload_n 1, 1) := by decide +kernel
theorem dX2_removeFirst_84 : decode cX2_removeFirst 84 = .ok (.isub, 1) := by decide +kernel
theorem dX2_removeFirst_85 : decode cX2_removeFirst 85 = .ok (.putfield 21, 3) := by decide +kernel
theorem dX2_removeFirst_88 : decode cX2_removeFirst 88 = .ok (.return_, 1) := by decide +kernel
theorem dX2_copy_0 : decode cX2_copy 0 = .ok (.aload_n 0, 1) := by decide +kernel
theorem dX2_copy_1 : decode cX2_copy 1 = .ok (.aload_n 1, 1) := by decide +kernel
theorem dX2_copy_2 : decode cX2_copy 2 = .ok (.getfield 21, 3) := by decide +kernel
theorem dX2_copy_5 : decode cX2_copy 5 = .ok (.putfield 21, 3) := by decide +kernel
theorem dX2_copy_8 : decode cX2_copy 8 = .ok (.iconst 0, 1) := by decide +kernel
theorem dX2_copy_9 : decode cX2_copy 9 = .ok (.istore_n 2, 1) := by decide +kernel
theorem dX2_copy_10 : decode cX2_copy 10 = .ok (.iload_n 2, 1) := by decide +kernel
theorem dX2_copy_11 : decode cX2_copy 11 = .ok (.aload_n 0, 1) := by decide +kernel
theorem dX2_copy_12 : decode cX2_copy 12 = .ok (.getfield 21, 3) := by decide +kernel
theorem dX2_copy_15 : decode cX2_copy 15 = .ok (.if_icmp .ge 51, 3) := by decide +kernel
theorem dX2_copy_18 : decode cX2_copy 18 = .ok (.iload_n 2, 1) := by decide +kernel
theorem dX2_copy_19 : decode cX2_copy 19 = .ok (.bipush 8, 2) := by decide +kernel
theorem dX2_copy_21 : decode cX2_copy 21 = .ok (.if_icmp .ge 45, 3) := by decide +kernel
theorem dX2_copy_24 : decode cX2_copy 24 = .ok (.aload_n 0, 1) := by decide +kernel
theorem dX2_copy_25 : decode cX2_copy 25 = .ok (.getfield 9, 3) := by decide +kernel
theorem dX2_copy_28 : decode cX2_copy 28 = .ok (.iload_n 2, 1) := by decide +kernel
theorem dX2_copy_29 : decode cX2_copy 29 = .ok (.aload_n 1, 1) := by decide +kernel
theorem dX2_copy_30 : decode cX2_copy 30 = .ok (.getfield 9, 3) := by decide +kernel
theorem dX2_copy_33 : decode cX2_copy 33 = .ok (.iload_n 2, 1) := by decide +kernel
theorem dX2_copy_34 : decode cX2_copy 34 = .ok (.iaload, 1) := by decide +kernel
theorem dX2_copy_35 : decode cX2_copy 35 = .ok (.iastore, 1) := by decide +kernel
theorem dX2_copy_36 : decode cX2_copy 36 = .ok (.aload_n 0, 1) := by decide +kernel
theorem dX2_copy_37 : decode cX2_copy 37 = .ok (.getfield 15, 3) := by decide +kernel
theorem dX2_copy_40 : decode cX2_copy 40 = .ok (.iload_n 2, 1) := by decide +kernel
theorem dX2_copy_41 : decode cX2_copy 41 = .ok (.aload_n 1, 1) := by decide +kernel
theorem dX2_copy_42 : decode cX2_copy 42 = .ok (.getfield 15, 3) := by decide +kernel
theorem dX2_copy_45 : decode cX2_copy 45 = .ok (.iload_n 2, 1) := by decide +kernel
theorem dX2_copy_46 : decode cX2_copy 46 = .ok (.iaload, 1) := by decide +kernel
theorem dX2_copy_47 : decode cX2_copy 47 = .ok (.iastore, 1) := by decide +kernel
theorem dX2_copy_48 : decode cX2_copy 48 = .ok (.aload_n 0, 1) := by decide +kernel
theorem dX2_copy_49 : decode cX2_copy 49 = .ok (.getfield 18, 3) := by decide +kernel
theorem dX2_copy_52 : decode cX2_copy 52 = .ok (.iload_n 2, 1) := by decide +kernel
theorem dX2_copy_53 : decode cX2_copy 53 = .ok (.aload_n 1, 1) := by decide +kernel
theorem dX2_copy_54 : decode cX2_copy 54 = .ok (.getfield 18, 3) := by decide +kernel
theorem dX2_copy_57 : decode cX2_copy 57 = .ok (.iload_n 2, 1) := by decide +kernel
theorem dX2_copy_58 : decode cX2_copy 58 = .ok (.iaload, 1) := by decide +kernel
theorem dX2_copy_59 : decode cX2_copy 59 = .ok (.iastore, 1) := by decide +kernel
theorem dX2_copy_60 : decode cX2_copy 60 = .ok (.iinc 2 1, 3) := by decide +kernel
theorem dX2_copy_63 : decode cX2_copy 63 = .ok (.goto (-53), 3) := by decide +kernel
theorem dX2_copy_66 : decode cX2_copy 66 = .ok (.return_, 1) := by decide +kernel
theorem dX3_init_0 : decode cX3_init 0 = .ok (.aload_n 0, 1) := by decide +kernel
theorem dX3_init_1 : decode cX3_init 1 = .ok (.invokespecial 3, 3) := by decide +kernel
theorem dX3_init_4 : decode cX3_init 4 = .ok (.aload_n 0, 1) := by decide +kernel
theorem dX3_init_5 : decode cX3_init 5 = .ok (.bipush 8, 2) := by decide +kernel
theorem dX3_init_7 : decode cX3_init 7 = .ok (.newarray .int, 2) := by decide +kernel
theorem dX3_init_9 : decode cX3_init 9 = .ok (.putfield 9, 3) := by decide +kernel
theorem dX3_init_12 : decode cX3_init 12 = .ok (.aload_n 0, 1) := by decide +kernel
theorem dX3_init_13 : decode cX3_init 13 = .ok (.bipush 8, 2) := by decide +kernel
theorem dX3_init_15 : decode cX3_init 15 = .ok (.newarray .int, 2) := by decide +kernel
theorem dX3_init_17 : decode cX3_init 17 = .ok (.putfield 15, 3) := by decide +kernel
theorem dX3_init_20 : decode cX3_init 20 = .ok (.return_, 1) := by decide +kernel
theorem dX3_add_0 : decode cX3_add 0 = .ok (.aload_n 0, 1) := by decide +kernel
theorem dX3_add_1 : decode cX3_add 1 = .ok (.getfield 18, 3) := by decide +kernel
theorem dX3_add_4 : decode cX3_add 4 = .ok (.ifCond .lt 42, 3) := by decide +kernel
theorem dX3_add_7 : decode cX3_add 7 = .ok (.aload_n 0, 1) := by decide +kernel
theorem dX3_add_8 : decode cX3_add 8 = .ok (.getfield 18, 3) := by decide +kernel
theorem dX3_add_11 : decode cX3_add 11 = .ok (.bipush 8, 2) := by decide +kernel
theorem dX3_add_13 : decode cX3_add 13 = .ok (.if_icmp .ge 33, 3) := by decide +kernel
theorem dX3_add_16 : decode cX3_add 16 = .ok (.aload_n 0, 1) := by decide +kernel
theorem dX3_add_17 : decode cX3_add 17 = .ok (.getfield 9, 3) := by decide +kernel
theorem dX3_add_20 : decode cX3_add 20 = .ok (.aload_n 0, 1) := by decide +kernel
theorem dX3_add_21 : decode cX3_add 21 = .ok (.getfield 18, 3) := by decide +kernel
theorem dX3_add_24 : decode cX3_add 24 = .ok (.iload_n 1, 1) := by decide +kernel
theorem dX3_add_25 : decode cX3_add 25 = .ok (.iastore, 1) := by decide +kernel
theorem dX3_add_26 : decode cX3_add 26 = .ok (.aload_n 0, 1) := by decide +kernel
theorem dX3_add_27 : decode cX3_add 27 = .ok (.getfield 15, 3) := by decide +kernel
theorem dX3_add_30 : decode cX3_add 30 = .ok (.aload_n 0, 1) := by decide +kernel
theorem dX3_add_31 : decode cX3_add 31 = .ok (.getfield 18, 3) := by decide +kernel
theorem dX3_add_34 : decode cX3_add 34 = .ok (.iload_n 2, 1) := by decide +kernel
theorem dX3_add_35 : decode cX3_add 35 = .ok (.iastore, 1) := by decide +kernel
theorem dX3_add_36 : decode cX3_add 36 = .ok (.aload_n 0, 1) := by decide +kernel
theorem dX3_add_37 : decode cX3_add 37 = .ok (.dup, 1) := by decide +kernel
theorem dX3_add_38 : decode cX3_add 38 = .ok (.getfield 18, 3) := by decide +kernel
theorem dX3_add_41 : decode cX3_add 41 = .ok (.iconst 1, 1) := by decide +kernel
theorem dX3_add_42 : decode cX3_add 42 = .ok (.iadd, 1) := by decide +kernel
theorem dX3_add_43 : decode cX3_add 43 = .ok (.putfield 18, 3) := by decide +kernel
theorem dX3_add_46 : decode cX3_add 46 = .ok (.return_, 1) := by decide +kernel
theorem dX3_greatestFirst_0 : decode cX3_greatestFirst 0 = .ok (.iconst (-1), 1) := by decide +kernel
theorem dX3_greatestFirst_1 : decode cX3_greatestFirst 1 = .ok (.istore_n 1, 1) := by decide +kernel
theorem dX3_greatestFirst_2 : decode cX3_greatestFirst 2 = .ok (.iconst 0, 1) := by decide +kernel
theorem dX3_greatestFirst_3 : decode cX3_greatestFirst 3 = .ok (.istore_n 2, 1) := by decide +kernel
theorem dX3_greatestFirst_4 : decode cX3_greatestFirst 4 = .ok (.iload_n 2, 1) := by decide +kernel
theorem dX3_greatestFirst_5 : decode cX3_greatestFirst 5 = .ok (.aload_n 0, 1) := by decide +kernel
theorem dX3_greatestFirst_6 : decode cX3_greatestFirst 6 = .ok (.getfield 18, 3) := by decide +kernel
theorem dX3_greatestFirst_9 : decode cX3_greatestFirst 9 = .ok (.if_icmp .ge 26, 3) := by decide +kernel
theorem dX3_greatestFirst_12 : decode cX3_greatestFirst 12 = .ok (.iload_n 2, 1) := by decide +kernel
theorem dX3_greatestFirst_13 : decode cX3_greatestFirst 13 = .ok (.bipush 8, 2) := by decide +kernel
theorem dX3_greatestFirst_15 : decode cX3_greatestFirst 15 = .ok (.if_icmp .ge 20, 3) := by decide +kernel
theorem dX3_greatestFirst_18 : decode cX3_greatestFirst 18 = .ok (.iload_n 1, 1) := by decide +kernel
theorem dX3_greatestFirst_19 : decode cX3_greatestFirst 19 = .ok (.aload_n 0, 1) := by decide +kernel
theorem dX3_greatestFirst_20 : decode cX3_greatestFirst 20 = .ok (.getfield 9, 3) := by decide +kernel
theorem dX3_greatestFirst_23 : decode cX3_greatestFirst 23 = .ok (.iload_n 2, 1) := by decide +kernel
theorem dX3_greatestFirst_24 : decode cX3_greatestFirst 24 = .ok (.iaload, 1) := by decide +kernel
theorem dX3_greatestFirst_25 : decode cX3_greatestFirst 25 = .ok (.invokestatic 22, 3) := by decide +kernel
theorem dX3_greatestFirst_28 : decode cX3_greatestFirst 28 = .ok (.istore_n 1, 1) := by decide +kernel
theorem dX3_greatestFirst_29 : decode cX3_greatestFirst 29 = .ok (.iinc 2 1, 3) := by decide +kernel
theorem dX3_greatestFirst_32 : decode cX3_greatestFirst 32 = .ok (.goto (-28), 3) := by decide +kernel
theorem dX3_greatestFirst_35 : decode cX3_greatestFirst 35 = .ok (.iload_n 1, 1) := by decide +kernel
theorem dX3_greatestFirst_36 : decode cX3_greatestFirst 36 = .ok (.ireturn, 1) := by decide +kernel
theorem dX3_allows_0 : decode cX3_allows 0 = .ok (.iconst 0, 1) := by decide +kernel
theorem dX3_allows_1 : decode cX3_allows 1 = .ok (.istore_n 3, 1) := by decide +kernel
theorem dX3_allows_2 : decode cX3_allows 2 = .ok (.iload_n 3, 1) := by decide +kernel
theorem dX3_allows_3 : decode cX3_allows 3 = .ok (.aload_n 0, 1) := by decide +kernel
theorem dX3_allows_4 : decode cX3_allows 4 = .ok (.getfield 18, 3) := by decide +kernel
theorem dX3_allows_7 : decode cX3_allows 7 = .ok (.if_icmp .ge 37, 3) := by decide +kernel
theorem dX3_allows_10 : decode cX3_allows 10 = .ok (.iload_n 3, 1) := by decide +kernel
theorem dX3_allows_11 : decode cX3_allows 11 = .ok (.bipush 8, 2) := by decide +kernel
theorem dX3_allows_13 : decode cX3_allows 13 = .ok (.if_icmp .ge 31, 3) := by decide +kernel
theorem dX3_allows_16 : decode cX3_allows 16 = .ok (.aload_n 0, 1) := by decide +kernel
theorem dX3_allows_17 : decode cX3_allows 17 = .ok (.getfield 9, 3) := by decide +kernel
theorem dX3_allows_20 : decode cX3_allows 20 = .ok (.iload_n 3, 1) := by decide +kernel
theorem dX3_allows_21 : decode cX3_allows 21 = .ok (.iaload, 1) := by decide +kernel
theorem dX3_allows_22 : decode cX3_allows 22 = .ok (.iload_n 1, 1) := by decide +kernel
theorem dX3_allows_23 : decode cX3_allows 23 = .ok (.if_icmp .ne 15, 3) := by decide +kernel
theorem dX3_allows_26 : decode cX3_allows 26 = .ok (.aload_n 0, 1) := by decide +kernel
theorem dX3_allows_27 : decode cX3_allows 27 = .ok (.getfield 15, 3) := by decide +kernel
theorem dX3_allows_30 : decode cX3_allows 30 = .ok (.iload_n 3, 1) := by decide +kernel
theorem dX3_allows_31 : decode cX3_allows 31 = .ok (.iaload, 1) := by decide +kernel
theorem dX3_allows_32 : decode cX3_allows 32 = .ok (.iload_n 2, 1) := by decide +kernel
theorem dX3_allows_33 : decode cX3_allows 33 = .ok (.if_icmp .eq 5, 3) := by decide +kernel
theorem dX3_allows_36 : decode cX3_allows 36 = .ok (.iconst 0, 1) := by decide +kernel
theorem dX3_allows_37 : decode cX3_allows 37 = .ok (.ireturn, 1) := by decide +kernel
theorem dX3_allows_38 : decode cX3_allows 38 = .ok (.iinc 3 1, 3) := by decide +kernel
theorem dX3_allows_41 : decode cX3_allows 41 = .ok (.goto (-39), 3) := by decide +kernel
theorem dX3_allows_44 : decode cX3_allows 44 = .ok (.iconst 1, 1) := by decide +kernel
theorem dX3_allows_45 : decode cX3_allows 45 = .ok (.ireturn, 1) := by decide +kernel
theorem dX3_copy_0 : decode cX3_copy 0 = .ok (.aload_n 0, 1) := by decide +kernel
theorem dX3_copy_1 : decode cX3_copy 1 = .ok (.aload_n 1, 1) := by decide +kernel
theorem dX3_copy_2 : decode cX3_copy 2 = .ok (.getfield 18, 3) := by decide +kernel
theorem dX3_copy_5 : decode cX3_copy 5 = .ok (.putfield 18, 3) := by decide +kernel
theorem dX3_copy_8 : decode cX3_copy 8 = .ok (.iconst 0, 1) := by decide +kernel
theorem dX3_copy_9 : decode cX3_copy 9 = .ok (.istore_n 2, 1) := by decide +kernel
theorem dX3_copy_10 : decode cX3_copy 10 = .ok (.iload_n 2, 1) := by decide +kernel
theorem dX3_copy_11 : decode cX3_copy 11 = .ok (.bipush 8, 2) := by decide +kernel
theorem dX3_copy_13 : decode cX3_copy 13 = .ok (.if_icmp .ge 33, 3) := by decide +kernel
theorem dX3_copy_16 : decode cX3_copy 16 = .ok (.aload_n 0, 1) := by decide +kernel
theorem dX3_copy_17 : decode cX3_copy 17 = .ok (.getfield 9, 3) := by decide +kernel
theorem dX3_copy_20 : decode cX3_copy 20 = .ok (.iload_n 2, 1) := by decide +kernel
theorem dX3_copy_21 : decode cX3_copy 21 = .ok (.aload_n 1, 1) := by decide +kernel
theorem dX3_copy_22 : decode cX3_copy 22 = .ok (.getfield 9, 3) := by decide +kernel
theorem dX3_copy_25 : decode cX3_copy 25 = .ok (.iload_n 2, 1) := by decide +kernel
theorem dX3_copy_26 : decode cX3_copy 26 = .ok (.iaload, 1) := by decide +kernel
theorem dX3_copy_27 : decode cX3_copy 27 = .ok (.iastore, 1) := by decide +kernel
theorem dX3_copy_28 : decode cX3_copy 28 = .ok (.aload_n 0, 1) := by decide +kernel
theorem dX3_copy_29 : decode cX3_copy 29 = .ok (.getfield 15, 3) := by decide +kernel
theorem dX3_copy_32 : decode cX3_copy 32 = .ok (.iload_n 2, 1) := by decide +kernel
theorem dX3_copy_33 : decode cX3_copy 33 = .ok (.aload_n 1, 1) := by decide +kernel
theorem dX3_copy_34 : decode cX3_copy 34 = .ok (.getfield 15, 3) := by decide +kernel
theorem dX3_copy_37 : decode cX3_copy 37 = .ok (.iload_n 2, 1) := by decide +kernel
theorem dX3_copy_38 : decode cX3_copy 38 = .ok (.iaload, 1) := by decide +kernel
theorem dX3_copy_39 : decode cX3_copy 39 = .ok (.iastore, 1) := by decide +kernel
theorem dX3_copy_40 : decode cX3_copy 40 = .ok (.iinc 2 1, 3) := by decide +kernel
theorem dX3_copy_43 : decode cX3_copy 43 = .ok (.goto (-33), 3) := by decide +kernel
theorem dX3_copy_46 : decode cX3_copy 46 = .ok (.return_, 1) := by decide +kernel
theorem dX4_init_0 : decode cX4_init 0 = .ok (.aload_n 0, 1) := by decide +kernel
theorem dX4_init_1 : decode cX4_init 1 = .ok (.invokespecial 3, 3) := by decide +kernel
theorem dX4_init_4 : decode cX4_init 4 = .ok (.aload_n 0, 1) := by decide +kernel
theorem dX4_init_5 : decode cX4_init 5 = .ok (.iconst (-1), 1) := by decide +kernel
theorem dX4_init_6 : decode cX4_init 6 = .ok (.putfield 9, 3) := by decide +kernel
theorem dX4_init_9 : decode cX4_init 9 = .ok (.aload_n 0, 1) := by decide +kernel
theorem dX4_init_10 : decode cX4_init 10 = .ok (.bipush 60, 2) := by decide +kernel
theorem dX4_init_12 : decode cX4_init 12 = .ok (.newarray .long, 2) := by decide +kernel
theorem dX4_init_14 : decode cX4_init 14 = .ok (.putfield 15, 3) := by decide +kernel
theorem dX4_init_17 : decode cX4_init 17 = .ok (.return_, 1) := by decide +kernel
theorem dX4_clear_0 : decode cX4_clear 0 = .ok (.aload_n 0, 1) := by decide +kernel
theorem dX4_clear_1 : decode cX4_clear 1 = .ok (.iload_n 1, 1) := by decide +kernel
theorem dX4_clear_2 : decode cX4_clear 2 = .ok (.putfield 9, 3) := by decide +kernel
theorem dX4_clear_5 : decode cX4_clear 5 = .ok (.aload_n 0, 1) := by decide +kernel
theorem dX4_clear_6 : decode cX4_clear 6 = .ok (.iload_n 2, 1) := by decide +kernel
theorem dX4_clear_7 : decode cX4_clear 7 = .ok (.putfield 19, 3) := by decide +kernel
theorem dX4_clear_10 : decode cX4_clear 10 = .ok (.iconst 0, 1) := by decide +kernel
theorem dX4_clear_11 : decode cX4_clear 11 = .ok (.istore_n 3, 1) := by decide +kernel
theorem dX4_clear_12 : decode cX4_clear 12 = .ok (.iload_n 3, 1) := by decide +kernel
theorem dX4_clear_13 : decode cX4_clear 13 = .ok (.aload_n 0, 1) := by decide +kernel
theorem dX4_clear_14 : decode cX4_clear 14 = .ok (.getfield 15, 3) := by decide +kernel
theorem dX4_clear_17 : decode cX4_clear 17 = .ok (.arraylength, 1) := by decide +kernel
theorem dX4_clear_18 : decode cX4_clear 18 = .ok (.if_icmp .ge 16, 3) := by decide +kernel
theorem dX4_clear_21 : decode cX4_clear 21 = .ok (.aload_n 0, 1) := by decide +kernel
theorem dX4_clear_22 : decode cX4_clear 22 = .ok (.getfield 15, 3) := by decide +kernel
theorem dX4_clear_25 : decode cX4_clear 25 = .ok (.iload_n 3, 1) := by decide +kernel
theorem dX4_clear_26 : decode cX4_clear 26 = .ok (.lconst 0, 1) := by decide +kernel
theorem dX4_clear_27 : decode cX4_clear 27 = .ok (.lastore, 1) := by decide +kernel
theorem dX4_clear_28 : decode cX4_clear 28 = .ok (.iinc 3 1, 3) := by decide +kernel
theorem dX4_clear_31 : decode cX4_clear 31 = .ok (.goto (-19), 3) := by decide +kernel
theorem dX4_clear_34 : decode cX4_clear 34 = .ok (.return_, 1) := by decide +kernel
theorem dX4_has_0 : decode cX4_has 0 = .ok (.iload_n 1, 1) := by decide +kernel
theorem dX4_has_1 : decode cX4_has 1 = .ok (.ifCond .lt 24, 3) := by decide +kernel
theorem dX4_has_4 : decode cX4_has 4 = .ok (.iload_n 1, 1) := by decide +kernel
theorem dX4_has_5 : decode cX4_has 5 = .ok (.aload_n 0, 1) := by decide +kernel
theorem dX4_has_6 : decode cX4_has 6 = .ok (.getfield 19, 3) := by decide +kernel
theorem dX4_has_9 : decode cX4_has 9 = .ok (.if_icmp .ge 16, 3) := by decide +kernel
theorem dX4_has_12 : decode cX4_has 12 = .ok (.iload_n 1, 1) := by decide +kernel
theorem dX4_has_13 : decode cX4_has 13 = .ok (.aload_n 0, 1) := by decide +kernel
theorem dX4_has_14 : decode cX4_has 14 = .ok (.getfield 15, 3) := by decide +kernel
theorem dX4_has_17 : decode cX4_has 17 = .ok (.arraylength, 1) := by decide +kernel
theorem dX4_has_18 : decode cX4_has 18 = .ok (.if_icmp .ge 7, 3) := by decide +kernel
theorem dX4_has_21 : decode cX4_has 21 = .ok (.iconst 1, 1) := by decide +kernel
theorem dX4_has_22 : decode cX4_has 22 = .ok (.goto 4, 3) := by decide +kernel
theorem dX4_has_25 : decode cX4_has 25 = .ok (.iconst 0, 1) := by decide +kernel
theorem dX4_has_26 : decode cX4_has 26 = .ok (.ireturn, 1) := by decide +kernel
theorem dX4_hasRun_0 : decode cX4_hasRun 0 = .ok (.iload_n 2, 1) := by decide +kernel
theorem dX4_hasRun_1 : decode cX4_hasRun 1 = .ok (.ifCond .lt 33, 3) := by decide +kernel
theorem dX4_hasRun_4 : decode cX4_hasRun 4 = .ok (.iload_n 1, 1) := by decide +kernel
theorem dX4_hasRun_5 : decode cX4_hasRun 5 = .ok (.ifCond .lt 29, 3) := by decide +kernel
theorem dX4_hasRun_8 : decode cX4_hasRun 8 = .ok (.iload_n 1, 1) := by decide +kernel
theorem dX4_hasRun_9 : decode cX4_hasRun 9 = .ok (.aload_n 0, 1) := by decide +kernel
theorem dX4_hasRun_10 : decode cX4_hasRun 10 = .ok (.getfield 19, 3) := by decide +kernel
theorem dX4_hasRun_13 : decode cX4_hasRun 13 = .ok (.iload_n 2, 1) := by decide +kernel
theorem dX4_hasRun_14 : decode cX4_hasRun 14 = .ok (.isub, 1) := by decide +kernel
theorem dX4_hasRun_15 : decode cX4_hasRun 15 = .ok (.if_icmp .gt 19, 3) := by decide +kernel
theorem dX4_hasRun_18 : decode cX4_hasRun 18 = .ok (.aload_n 0, 1) := by decide +kernel
theorem dX4_hasRun_19 : decode cX4_hasRun 19 = .ok (.getfield 19, 3) := by decide +kernel
theorem dX4_hasRun_22 : decode cX4_hasRun 22 = .ok (.aload_n 0, 1) := by decide +kernel
theorem dX4_hasRun_23 : decode cX4_hasRun 23 = .ok (.getfield 15, 3) := by decide +kernel
theorem dX4_hasRun_26 : decode cX4_hasRun 26 = .ok (.arraylength, 1) := by decide +kernel
theorem dX4_hasRun_27 : decode cX4_hasRun 27 = .ok (.if_icmp .gt 7, 3) := by decide +kernel
theorem dX4_hasRun_30 : decode cX4_hasRun 30 = .ok (.iconst 1, 1) := by decide +kernel
theorem dX4_hasRun_31 : decode cX4_hasRun 31 = .ok (.goto 4, 3) := by decide +kernel
theorem dX4_hasRun_34 : decode cX4_hasRun 34 = .ok (.iconst 0, 1) := by decide +kernel
theorem dX4_hasRun_35 : decode cX4_hasRun 35 = .ok (.ireturn, 1) := by decide +kernel
theorem dX4_asItem_0 : decode cX4_asItem 0 = .ok (.aload_n 0, 1) := by decide +kernel
theorem dX4_asItem_1 : decode cX4_asItem 1 = .ok (.getfield 9, 3) := by decide +kernel
theorem dX4_asItem_4 : decode cX4_asItem 4 = .ok (.tableswitch 62 0 4 #[36, 41, 46, 62, 50], 36) := by decide +kernel
theorem dX4_asItem_40 : decode cX4_asItem 40 = .ok (.lload_n 1, 1) := by decide +kernel
theorem dX4_asItem_41 : decode cX4_asItem 41 = .ok (.l2i, 1) := by decide +kernel
theorem dX4_asItem_42 : decode cX4_asItem 42 = .ok (.i2b, 1) := by decide +kernel
theorem dX4_asItem_43 : decode cX4_asItem 43 = .ok (.i2l, 1) := by decide +kernel
theorem dX4_asItem_44 : decode cX4_asItem 44 = .ok (.lreturn, 1) := by decide +kernel
theorem dX4_asItem_45 : decode cX4_asItem 45 = .ok (.lload_n 1, 1) := by decide +kernel
theorem dX4_asItem_46 : decode cX4_asItem 46 = .ok (.l2i, 1) := by decide +kernel
theorem dX4_asItem_47 : decode cX4_asItem 47 = .ok (.i2s, 1) := by decide +kernel
theorem dX4_asItem_48 : decode cX4_asItem 48 = .ok (.i2l, 1) := by decide +kernel
theorem dX4_asItem_49 : decode cX4_asItem 49 = .ok (.lreturn, 1) := by decide +kernel
theorem dX4_asItem_50 : decode cX4_asItem 50 = .ok (.lload_n 1, 1) := by decide +kernel
theorem dX4_asItem_51 : decode cX4_asItem 51 = .ok (.l2i, 1) := by decide +kernel
theorem dX4_asItem_52 : decode cX4_asItem 52 = .ok (.i2l, 1) := by decide +kernel
theorem dX4_asItem_53 : decode cX4_asItem 53 = .ok (.lreturn, 1) := by decide +kernel
theorem dX4_asItem_54 : decode cX4_asItem 54 = .ok (.lload_n 1, 1) := by decide +kernel
theorem dX4_asItem_55 : decode cX4_asItem 55 = .ok (.lconst 0, 1) := by decide +kernel
theorem dX4_asItem_56 : decode cX4_asItem 56 = .ok (.lcmp, 1) := by decide +kernel
theorem dX4_asItem_57 : decode cX4_asItem 57 = .ok (.ifCond .eq 7, 3) := by decide +kernel
theorem dX4_asItem_60 : decode cX4_asItem 60 = .ok (.lconst 1, 1) := by decide +kernel
theorem dX4_asItem_61 : decode cX4_asItem 61 = .ok (.goto 4, 3) := by decide +kernel
theorem dX4_asItem_64 : decode cX4_asItem 64 = .ok (.lconst 0, 1) := by decide +kernel
theorem dX4_asItem_65 : decode cX4_asItem 65 = .ok (.lreturn, 1) := by decide +kernel
theorem dX4_asItem_66 : decode cX4_asItem 66 = .ok (.lload_n 1, 1) := by decide +kernel
theorem dX4_asItem_67 : decode cX4_asItem 67 = .ok (.lreturn, 1) := by decide +kernel
theorem dX5_init_0 : decode cX5_init 0 = .ok (.aload_n 0, 1) := by decide +kernel
theorem dX5_init_1 : decode cX5_init 1 = .ok (.invokespecial 3, 3) := by decide +kernel
theorem dX5_init_4 : decode cX5_init 4 = .ok (.aload_n 0, 1) := by decide +kernel
theorem dX5_init_5 : decode cX5_init 5 = .ok (.bipush 100, 2) := by decide +kernel
theorem dX5_init_7 : decode cX5_init 7 = .ok (.newarray .byte, 2) := by decide +kernel
theorem dX5_init_9 : decode cX5_init 9 = .ok (.putfield 9, 3) := by decide +kernel
theorem dX5_init_12 : decode cX5_init 12 = .ok (.aload_n 0, 1) := by decide +kernel
theorem dX5_init_13 : decode cX5_init 13 = .ok (.bipush 12, 2) := by decide +kernel
theorem dX5_init_15 : decode cX5_init 15 = .ok (.newarray .int, 2) := by decide +kernel
theorem dX5_init_17 : decode cX5_init 17 = .ok (.putfield 15, 3) := by decide +kernel
theorem dX5_init_20 : decode cX5_init 20 = .ok (.aload_n 0, 1) := by decide +kernel
theorem dX5_init_21 : decode cX5_init 21 = .ok (.bipush 12, 2) := by decide +kernel
theorem dX5_init_23 : decode cX5_init 23 = .ok (.newarray .int, 2) := by decide +kernel
theorem dX5_init_25 : decode cX5_init 25 = .ok (.putfield 19, 3) := by decide +kernel
theorem dX5_init_28 : decode cX5_init 28 = .ok (.return_, 1) := by decide +kernel
theorem dX5_add_0 : decode cX5_add 0 = .ok (.aload_n 0, 1) := by decide +kernel
theorem dX5_add_1 : decode cX5_add 1 = .ok (.getfield 22, 3) := by decide +kernel
theorem dX5_add_4 : decode cX5_add 4 = .ok (.ifCond .lt 36, 3) := by decide +kernel
theorem dX5_add_7 : decode cX5_add 7 = .ok (.aload_n 0, 1) := by decide +kernel
theorem dX5_add_8 : decode cX5_add 8 = .ok (.getfield 22, 3) := by decide +kernel
theorem dX5_add_11 : decode cX5_add 11 = .ok (.aload_n 0, 1) := by decide +kernel
theorem dX5_add_12 : decode cX5_add 12 = .ok (.getfield 9, 3) := by decide +kernel
theorem dX5_add_15 : decode cX5_add 15 = .ok (.arraylength, 1) := by decide +kernel
theorem dX5_add_16 : decode cX5_add 16 = .ok (.if_icmp .ge 24, 3) := by decide +kernel
theorem dX5_add_19 : decode cX5_add 19 = .ok (.aload_n 0, 1) := by decide +kernel
theorem dX5_add_20 : decode cX5_add 20 = .ok (.getfield 9, 3) := by decide +kernel
theorem dX5_add_23 : decode cX5_add 23 = .ok (.aload_n 0, 1) := by decide +kernel
theorem dX5_add_24 : decode cX5_add 24 = .ok (.getfield 22, 3) := by decide +kernel
theorem dX5_add_27 : decode cX5_add 27 = .ok (.iload_n 1, 1) := by decide +kernel
theorem dX5_add_28 : decode cX5_add 28 = .ok (.i2b, 1) := by decide +kernel
theorem dX5_add_29 : decode cX5_add 29 = .ok (.bastore, 1) := by decide +kernel
theorem dX5_add_30 : decode cX5_add 30 = .ok (.aload_n 0, 1) := by decide +kernel
theorem dX5_add_31 : decode cX5_add 31 = .ok (.dup, 1) := by decide +kernel
theorem dX5_add_32 : decode cX5_add 32 = .ok (.getfield 22, 3) := by decide +kernel
theorem dX5_add_35 : decode cX5_add 35 = .ok (.iconst 1, 1) := by decide +kernel
theorem dX5_add_36 : decode cX5_add 36 = .ok (.iadd, 1) := by decide +kernel
theorem dX5_add_37 : decode cX5_add 37 = .ok (.putfield 22, 3) := by decide +kernel
theorem dX5_add_40 : decode cX5_add 40 = .ok (.return_, 1) := by decide +kernel
theorem dX5_parse_0 : decode cX5_parse 0 = .ok (.aload_n 0, 1) := by decide +kernel
theorem dX5_parse_1 : decode cX5_parse 1 = .ok (.iconst 0, 1) := by decide +kernel
theorem dX5_parse_2 : decode cX5_parse 2 = .ok (.putfield 26, 3) := by decide +kernel
theorem dX5_parse_5 : decode cX5_parse 5 = .ok (.iconst 0, 1) := by decide +kernel
theorem dX5_parse_6 : decode cX5_parse 6 = .ok (.istore_n 1, 1) := by decide +kernel
theorem dX5_parse_7 : decode cX5_parse 7 = .ok (.iconst 0, 1) := by decide +kernel
theorem dX5_parse_8 : decode cX5_parse 8 = .ok (.istore_n 2, 1) := by decide +kernel
theorem dX5_parse_9 : decode cX5_parse 9 = .ok (.iload_n 2, 1) := by decide +kernel
theorem dX5_parse_10 : decode cX5_parse 10 = .ok (.bipush 12, 2) := by decide +kernel
theorem dX5_parse_12 : decode cX5_parse 12 = .ok (.if_icmp .ge 145, 3) := by decide +kernel
theorem dX5_parse_15 : decode cX5_parse 15 = .ok (.aload_n 0, 1) := by decide +kernel
theorem dX5_parse_16 : decode cX5_parse 16 = .ok (.iload_n 1, 1) := by decide +kernel
theorem dX5_parse_17 : decode cX5_parse 17 = .ok (.invokevirtual 29, 3) := by decide +kernel
theorem dX5_parse_20 : decode cX5_parse 20 = .ok (.istore_n 3, 1) := by decide +kernel
theorem dX5_parse_21 : decode cX5_parse 21 = .ok (.iload_n 3, 1) := by decide +kernel
theorem dX5_parse_22 : decode cX5_parse 22 = .ok (.iconst (-1), 1) := by decide +kernel
theorem dX5_parse_23 : decode cX5_parse 23 = .ok (.if_icmp .ne 5, 3) := by decide +kernel
theorem dX5_parse_26 : decode cX5_parse 26 = .ok (.iload_n 1, 1) := by decide +kernel
theorem dX5_parse_27 : decode cX5_parse 27 = .ok (.ireturn, 1) := by decide +kernel
theorem dX5_parse_28 : decode cX5_parse 28 = .ok (.aload_n 0, 1) := by decide +kernel
theorem dX5_parse_29 : decode cX5_parse 29 = .ok (.iload_n 1, 1) := by decide +kernel
theorem dX5_parse_30 : decode cX5_parse 30 = .ok (.iconst 1, 1) := by decide +kernel
theorem dX5_parse_31 : decode cX5_parse 31 = .ok (.iadd, 1) := by decide +kernel
theorem dX5_parse_32 : decode cX5_parse 32 = .ok (.invokevirtual 33, 3) := by decide +kernel
theorem dX5_parse_35 : decode cX5_parse 35 = .ok (.bipush 45, 2) := by decide +kernel
theorem dX5_parse_37 : decode cX5_parse 37 = .ok (.if_icmp .ne 9, 3) := by decide +kernel
theorem dX5_parse_40 : decode cX5_parse 40 = .ok (.iload_n 1, 1) := by decide +kernel
theorem dX5_parse_41 : decode cX5_parse 41 = .ok (.iconst 2, 1) := by decide +kernel
theorem dX5_parse_42 : decode cX5_parse 42 = .ok (.iadd, 1) := by decide +kernel
theorem dX5_parse_43 : decode cX5_parse 43 = .ok (.goto 6, 3) := by decide +kernel
theorem dX5_parse_46 : decode cX5_parse 46 = .ok (.iload_n 1, 1) := by decide +kernel
theorem dX5_parse_47 : decode cX5_parse 47 = .ok (.iconst 1, 1) := by decide +kernel
theorem dX5_parse_48 : decode cX5_parse 48 = .ok (.iadd, 1) := by decide +kernel
theorem dX5_parse_49 : decode cX5_parse 49 = .ok (.istore 4, 2) := by decide +kernel
theorem dX5_parse_51 : decode cX5_parse 51 = .ok (.aload_n 0, 1) := by decide +kernel
theorem dX5_parse_52 : decode cX5_parse 52 = .ok (.iload 4, 2) := by decide +kernel
theorem dX5_parse_54 : decode cX5_parse 54 = .ok (.invokevirtual 36, 3) := by decide +kernel
theorem dX5_parse_57 : decode cX5_parse 57 = .ok (.istore 5, 2) := by decide +kernel
theorem dX5_parse_59 : decode cX5_parse 59 = .ok (.iload 5, 2) := by decide +kernel
theorem dX5_parse_61 : decode cX5_parse 61 = .ok (.iload 4, 2) := by decide +kernel
theorem dX5_parse_63 : decode cX5_parse 63 = .ok (.if_icmp .ne 6, 3) := by decide +kernel
theorem dX5_parse_66 : decode cX5_parse 66 = .ok (.iload 5, 2) := by decide +kernel
theorem dX5_parse_68 : decode cX5_parse 68 = .ok (.ireturn, 1) := by decide +kernel
theorem dX5_parse_69 : decode cX5_parse 69 = .ok (.aload_n 0, 1) := by decide +kernel
theorem dX5_parse_70 : decode cX5_parse 70 = .ok (.getfield 15, 3) := by decide +kernel
theorem dX5_parse_73 : decode cX5_parse 73 = .ok (.iload_n 2, 1) := by decide +kernel
theorem dX5_parse_74 : decode cX5_parse 74 = .ok (.iload_n 3, 1) := by decide +kernel
theorem dX5_parse_75 : decode cX5_parse 75 = .ok (.iastore, 1) := by decide +kernel
theorem dX5_parse_76 : decode cX5_parse 76 = .ok (.aload_n 0, 1) := by decide +kernel
theorem dX5_parse_77 : decode cX5_parse 77 = .ok (.getfield 19, 3) := by decide +kernel
theorem dX5_parse_80 : decode cX5_parse 80 = .ok (.iload_n 2, 1) := by decide +kernel
theorem dX5_parse_81 : decode cX5_parse 81 = .ok (.aload_n 0, 1) := by decide +kernel
theorem dX5_parse_82 : decode cX5_parse 82 = .ok (.iload_n 1, 1) := by decide +kernel
theorem dX5_parse_83 : decode cX5_parse 83 = .ok (.iconst 1, 1) := by decide +kernel
theorem dX5_parse_84 : decode cX5_parse 84 = .ok (.iadd, 1) := by decide +kernel
theorem dX5_parse_85 : decode cX5_parse 85 = .ok (.invokevirtual 33, 3) := by decide +kernel
theorem dX5_parse_88 : decode cX5_parse 88 = .ok (.bipush 45, 2) := by decide +kernel
theorem dX5_parse_90 : decode cX5_parse 90 = .ok (.if_icmp .ne 15, 3) := by decide +kernel
theorem dX5_parse_93 : decode cX5_parse 93 = .ok (.aload_n 0, 1) := by decide +kernel
theorem dX5_parse_94 : decode cX5_parse 94 = .ok (.iload 4, 2) := by decide +kernel
theorem dX5_parse_96 : decode cX5_parse 96 = .ok (.iload 5, 2) := by decide +kernel
theorem dX5_parse_98 : decode cX5_parse 98 = .ok (.invokevirtual 39, 3) := by decide +kernel
theorem dX5_parse_101 : decode cX5_parse 101 = .ok (.ineg, 1) := by decide +kernel
theorem dX5_parse_102 : decode cX5_parse 102 = .ok (.goto 11, 3) := by decide +kernel
theorem dX5_parse_105 : decode cX5_parse 105 = .ok (.aload_n 0, 1) := by decide +kernel
theorem dX5_parse_106 : decode cX5_parse 106 = .ok (.iload 4, 2) := by decide +kernel
theorem dX5_parse_108 : decode cX5_parse 108 = .ok (.iload 5, 2) := by decide +kernel
theorem dX5_parse_110 : decode cX5_parse 110 = .ok (.invokevirtual 39, 3) := by decide +kernel
theorem dX5_parse_113 : decode cX5_parse 113 = .ok (.iastore, 1) := by decide +kernel
theorem dX5_parse_114 : decode cX5_parse 114 = .ok (.aload_n 0, 1) := by decide +kernel
theorem dX5_parse_115 : decode cX5_parse 115 = .ok (.iload_n 2, 1) := by decide +kernel
theorem dX5_parse_116 : decode cX5_parse 116 = .ok (.iconst 1, 1) := by decide +kernel
theorem dX5_parse_117 : decode cX5_parse 117 = .ok (.iadd, 1) := by decide +kernel
theorem dX5_parse_118 : decode cX5_parse 118 = .ok (.putfield 26, 3) := by decide +kernel
theorem dX5_parse_121 : decode cX5_parse 121 = .ok (.iload 5, 2) := by decide +kernel
theorem dX5_parse_123 : decode cX5_parse 123 = .ok (.aload_n 0, 1) := by decide +kernel
theorem dX5_parse_124 : decode cX5_parse 124 = .ok (.getfield 22, 3) := by decide +kernel
theorem dX5_parse_127 : decode cX5_parse 127 = .ok (.if_icmp .ne 5, 3) := by decide +kernel
theorem dX5_parse_130 : decode cX5_parse 130 = .ok (.iconst (-1), 1) := by decide +kernel
theorem dX5_parse_131 : decode cX5_parse 131 = .ok (.ireturn, 1) := by decide +kernel
theorem dX5_parse_132 : decode cX5_parse 132 = .ok (.aload_n 0, 1) := by decide +kernel
theorem dX5_parse_133 : decode cX5_parse 133 = .ok (.iload 5, 2) := by decide +kernel
theorem dX5_parse_135 : decode cX5_parse 135 = .ok (.invokevirtual 33, 3) := by decide +kernel
theorem dX5_parse_138 : decode cX5_parse 138 = .ok (.bipush 59, 2) := by decide +kernel
theorem dX5_parse_140 : decode cX5_parse 140 = .ok (.if_icmp .eq 6, 3) := by decide +kernel
theorem dX5_parse_143 : decode cX5_parse 143 = .ok (.iload 5, 2) := by decide +kernel
theorem dX5_parse_145 : decode cX5_parse 145 = .ok (.ireturn, 1) := by decide +kernel
theorem dX5_parse_146 : decode cX5_parse 146 = .ok (.iload 5, 2) := by decide +kernel
theorem dX5_parse_148 : decode cX5_parse 148 = .ok (.iconst 1, 1) := by decide +kernel
theorem dX5_parse_149 : decode cX5_parse 149 = .ok (.iadd, 1) := by decide +kernel
theorem dX5_parse_150 : decode cX5_parse 150 = .ok (.istore_n 1, 1) := by decide +kernel
theorem dX5_parse_151 : decode cX5_parse 151 = .ok (.iinc 2 1, 3) := by decide +kernel
theorem dX5_parse_154 : decode cX5_parse 154 = .ok (.goto (-145), 3) := by decide +kernel
theorem dX5_parse_157 : decode cX5_parse 157 = .ok (.iload_n 1, 1) := by decide +kernel
theorem dX5_parse_158 : decode cX5_parse 158 = .ok (.iconst 1, 1) := by decide +kernel
theorem dX5_parse_159 : decode cX5_parse 159 = .ok (.isub, 1) := by decide +kernel
theorem dX5_parse_160 : decode cX5_parse 160 = .ok (.ireturn, 1) := by decide +kernel
theorem dX5_signAt_0 : decode cX5_signAt 0 = .ok (.iload_n 1, 1) := by decide +kernel
theorem dX5_signAt_1 : decode cX5_signAt 1 = .ok (.ifCond .lt 29, 3) := by decide +kernel
theorem dX5_signAt_4 : decode cX5_signAt 4 = .ok (.iload_n 1, 1) := by decide +kernel
theorem dX5_signAt_5 : decode cX5_signAt 5 = .ok (.aload_n 0, 1) := by decide +kernel
theorem dX5_signAt_6 : decode cX5_signAt 6 = .ok (.getfield 22, 3) := by decide +kernel
theorem dX5_signAt_9 : decode cX5_signAt 9 = .ok (.if_icmp .ge 21, 3) := by decide +kernel
theorem dX5_signAt_12 : decode cX5_signAt 12 = .ok (.iload_n 1, 1) := by decide +kernel
theorem dX5_signAt_13 : decode cX5_signAt 13 = .ok (.aload_n 0, 1) := by decide +kernel
theorem dX5_signAt_14 : decode cX5_signAt 14 = .ok (.getfield 9, 3) := by decide +kernel
theorem dX5_signAt_17 : decode cX5_signAt 17 = .ok (.arraylength, 1) := by decide +kernel
theorem dX5_signAt_18 : decode cX5_signAt 18 = .ok (.if_icmp .ge 12, 3) := by decide +kernel
theorem dX5_signAt_21 : decode cX5_signAt 21 = .ok (.aload_n 0, 1) := by decide +kernel
theorem dX5_signAt_22 : decode cX5_signAt 22 = .ok (.getfield 9, 3) := by decide +kernel
theorem dX5_signAt_25 : decode cX5_signAt 25 = .ok (.iload_n 1, 1) := by decide +kernel
theorem dX5_signAt_26 : decode cX5_signAt 26 = .ok (.baload, 1) := by decide +kernel
theorem dX5_signAt_27 : decode cX5_signAt 27 = .ok (.goto 4, 3) := by decide +kernel
theorem dX5_signAt_30 : decode cX5_signAt 30 = .ok (.iconst (-1), 1) := by decide +kernel
theorem dX5_signAt_31 : decode cX5_signAt 31 = .ok (.ireturn, 1) := by decide +kernel
theorem dX5_letterAt_0 : decode cX5_letterAt 0 = .ok (.aload_n 0, 1) := by decide +kernel
theorem dX5_letterAt_1 : decode cX5_letterAt 1 = .ok (.iload_n 1, 1) := by decide +kernel
theorem dX5_letterAt_2 : decode cX5_letterAt 2 = .ok (.invokevirtual 33, 3) := by decide +kernel
theorem dX5_letterAt_5 : decode cX5_letterAt 5 = .ok (.istore_n 2, 1) := by decide +kernel
theorem dX5_letterAt_6 : decode cX5_letterAt 6 = .ok (.iconst 0, 1) := by decide +kernel
theorem dX5_letterAt_7 : decode cX5_letterAt 7 = .ok (.istore_n 3, 1) := by decide +kernel
theorem dX5_letterAt_8 : decode cX5_letterAt 8 = .ok (.iload_n 3, 1) := by decide +kernel
theorem dX5_letterAt_9 : decode cX5_letterAt 9 = .ok (.getstatic 43, 3) := by decide +kernel
theorem dX5_letterAt_12 : decode cX5_letterAt 12 = .ok (.arraylength, 1) := by decide +kernel
theorem dX5_letterAt_13 : decode cX5_letterAt 13 = .ok (.if_icmp .ge 20, 3) := by decide +kernel
theorem dX5_letterAt_16 : decode cX5_letterAt 16 = .ok (.getstatic 43, 3) := by decide +kernel
theorem dX5_letterAt_19 : decode cX5_letterAt 19 = .ok (.iload_n 3, 1) := by decide +kernel
theorem dX5_letterAt_20 : decode cX5_letterAt 20 = .ok (.caload, 1) := by decide +kernel
theorem dX5_letterAt_21 : decode cX5_letterAt 21 = .ok (.iload_n 2, 1) := by decide +kernel
theorem dX5_letterAt_22 : decode cX5_letterAt 22 = .ok (.if_icmp .ne 5, 3) := by decide +kernel
theorem dX5_letterAt_25 : decode cX5_letterAt 25 = .ok (.iload_n 3, 1) := by decide +kernel
theorem dX5_letterAt_26 : decode cX5_letterAt 26 = .ok (.ireturn, 1) := by decide +kernel
theorem dX5_letterAt_27 : decode cX5_letterAt 27 = .ok (.iinc 3 1, 3) := by decide +kernel
theorem dX5_letterAt_30 : decode cX5_letterAt 30 = .ok (.goto (-22), 3) := by decide +kernel
theorem dX5_letterAt_33 : decode cX5_letterAt 33 = .ok (.iconst (-1), 1) := by decide +kernel
theorem dX5_letterAt_34 : decode cX5_letterAt 34 = .ok (.ireturn, 1) := by decide +kernel
theorem dX5_digitsEnd_0 : decode cX5_digitsEnd 0 = .ok (.iload_n 1, 1) := by decide +kernel
theorem dX5_digitsEnd_1 : decode cX5_digitsEnd 1 = .ok (.istore_n 2, 1) := by decide +kernel
theorem dX5_digitsEnd_2 : decode cX5_digitsEnd 2 = .ok (.iload_n 2, 1) := by decide +kernel
theorem dX5_digitsEnd_3 : decode cX5_digitsEnd 3 = .ok (.iload_n 1, 1) := by decide +kernel
theorem dX5_digitsEnd_4 : decode cX5_digitsEnd 4 = .ok (.iconst 3, 1) := by decide +kernel
theorem dX5_digitsEnd_5 : decode cX5_digitsEnd 5 = .ok (.iadd, 1) := by decide +kernel
theorem dX5_digitsEnd_6 : decode cX5_digitsEnd 6 = .ok (.if_icmp .ge 24, 3) := by decide +kernel
theorem dX5_digitsEnd_9 : decode cX5_digitsEnd 9 = .ok (.aload_n 0, 1) := by decide +kernel
theorem dX5_digitsEnd_10 : decode cX5_digitsEnd 10 = .ok (.iload_n 2, 1) := by decide +kernel
theorem dX5_digitsEnd_11 : decode cX5_digitsEnd 11 = .ok (.invokevirtual 33, 3) := by decide +kernel
theorem dX5_digitsEnd_14 : decode cX5_digitsEnd 14 = .ok (.bipush 48, 2) := by decide +kernel
theorem dX5_digitsEnd_16 : decode cX5_digitsEnd 16 = .ok (.bipush 57, 2) := by decide +kernel
theorem dX5_digitsEnd_18 : decode cX5_digitsEnd 18 = .ok (.invokestatic 47, 3) := by decide +kernel
theorem dX5_digitsEnd_21 : decode cX5_digitsEnd 21 = .ok (.ifCond .eq 9, 3) := by decide +kernel
theorem dX5_digitsEnd_24 : decode cX5_digitsEnd 24 = .ok (.iinc 2 1, 3) := by decide +kernel
theorem dX5_digitsEnd_27 : decode cX5_digitsEnd 27 = .ok (.goto (-25), 3) := by decide +kernel
theorem dX5_digitsEnd_30 : decode cX5_digitsEnd 30 = .ok (.iload_n 2, 1) := by decide +kernel
theorem dX5_digitsEnd_31 : decode cX5_digitsEnd 31 = .ok (.ireturn, 1) := by decide +kernel
theorem dX5_number_0 : decode cX5_number 0 = .ok (.iconst 0, 1) := by decide +kernel
theorem dX5_number_1 : decode cX5_number 1 = .ok (.istore_n 3, 1) := by decide +kernel
theorem dX5_number_2 : decode cX5_number 2 = .ok (.iload_n 1, 1) := by decide +kernel
theorem dX5_number_3 : decode cX5_number 3 = .ok (.istore 4, 2) := by decide +kernel
theorem dX5_number_5 : decode cX5_number 5 = .ok (.iload 4, 2) := by decide +kernel
theorem dX5_number_7 : decode cX5_number 7 = .ok (.iload_n 2, 1) := by decide +kernel
theorem dX5_number_8 : decode cX5_number 8 = .ok (.if_icmp .ge 24, 3) := by decide +kernel
theorem dX5_number_11 : decode cX5_number 11 = .ok (.iload_n 3, 1) := by decide +kernel
theorem dX5_number_12 : decode cX5_number 12 = .ok (.bipush 10, 2) := by decide +kernel
theorem dX5_number_14 : decode cX5_number 14 = .ok (.imul, 1) := by decide +kernel
theorem dX5_number_15 : decode cX5_number 15 = .ok (.aload_n 0, 1) := by decide +kernel
theorem dX5_number_16 : decode cX5_number 16 = .ok (.iload 4, 2) := by decide +kernel
theorem dX5_number_18 : decode cX5_number 18 = .ok (.invokevirtual 33, 3) := by decide +kernel
theorem dX5_number_21 : decode cX5_number 21 = .ok (.iadd, 1) := by decide +kernel
theorem dX5_number_22 : decode cX5_number 22 = .ok (.bipush 48, 2) := by decide +kernel
theorem dX5_number_24 : decode cX5_number 24 = .ok (.isub, 1) := by decide +kernel
theorem dX5_number_25 : decode cX5_number 25 = .ok (.istore_n 3, 1) := by decide +kernel
theorem dX5_number_26 : decode cX5_number 26 = .ok (.iinc 4 1, 3) := by decide +kernel
theorem dX5_number_29 : decode cX5_number 29 = .ok (.goto (-24), 3) := by decide +kernel
theorem dX5_number_32 : decode cX5_number 32 = .ok (.iload_n 3, 1) := by decide +kernel
theorem dX5_number_33 : decode cX5_number 33 = .ok (.ireturn, 1) := by decide +kernel
theorem dX6_init_0 : decode cX6_init 0 = .ok (.aload_n 0, 1) := by decide +kernel
theorem dX6_init_1 : decode cX6_init 1 = .ok (.invokespecial 3, 3) := by decide +kernel
theorem dX6_init_4 : decode cX6_init 4 = .ok (.aload_n 0, 1) := by decide +kernel
theorem dX6_init_5 : decode cX6_init 5 = .ok (.iconst 4, 1) := by decide +kernel
theorem dX6_init_6 : decode cX6_init 6 = .ok (.newarray .int, 2) := by decide +kernel
theorem dX6_init_8 : decode cX6_init 8 = .ok (.putfield 9, 3) := by decide +kernel
theorem dX6_init_11 : decode cX6_init 11 = .ok (.return_, 1) := by decide +kernel
theorem dX6_add_0 : decode cX6_add 0 = .ok (.aload_n 0, 1) := by decide +kernel
theorem dX6_add_1 : decode cX6_add 1 = .ok (.getfield 15, 3) := by decide +kernel
theorem dX6_add_4 : decode cX6_add 4 = .ok (.ifCond .lt 35, 3) := by decide +kernel
theorem dX6_add_7 : decode cX6_add 7 = .ok (.aload_n 0, 1) := by decide +kernel
theorem dX6_add_8 : decode cX6_add 8 = .ok (.getfield 15, 3) := by decide +kernel
theorem dX6_add_11 : decode cX6_add 11 = .ok (.aload_n 0, 1) := by decide +kernel
theorem dX6_add_12 : decode cX6_add 12 = .ok (.getfield 9, 3) := by decide +kernel
theorem dX6_add_15 : decode cX6_add 15 = .ok (.arraylength, 1) := by decide +kernel
theorem dX6_add_16 : decode cX6_add 16 = .ok (.if_icmp .ge 23, 3) := by decide +kernel
theorem dX6_add_19 : decode cX6_add 19 = .ok (.aload_n 0, 1) := by decide +kernel
theorem dX6_add_20 : decode cX6_add 20 = .ok (.getfield 9, 3) := by decide +kernel
theorem dX6_add_23 : decode cX6_add 23 = .ok (.aload_n 0, 1) := by decide +kernel
theorem dX6_add_24 : decode cX6_add 24 = .ok (.getfield 15, 3) := by decide +kernel
theorem dX6_add_27 : decode cX6_add 27 = .ok (.iload_n 1, 1) := by decide +kernel
theorem dX6_add_28 : decode cX6_add 28 = .ok (.iastore, 1) := by decide +kernel
theorem dX6_add_29 : decode cX6_add 29 = .ok (.aload_n 0, 1) := by decide +kernel
theorem dX6_add_30 : decode cX6_add 30 = .ok (.dup, 1) := by decide +kernel
theorem dX6_add_31 : decode cX6_add 31 = .ok (.getfield 15, 3) := by decide +kernel
theorem dX6_add_34 : decode cX6_add 34 = .ok (.iconst 1, 1) := by decide +kernel
theorem dX6_add_35 : decode cX6_add 35 = .ok (.iadd, 1) := by decide +kernel
theorem dX6_add_36 : decode cX6_add 36 = .ok (.putfield 15, 3) := by decide +kernel
theorem dX6_add_39 : decode cX6_add 39 = .ok (.return_, 1) := by decide +kernel
theorem dX6_beatsOfOneTurn_0 : decode cX6_beatsOfOneTurn 0 = .ok (.ldc2_w 19, 3) := by decide +kernel
theorem dX6_beatsOfOneTurn_3 : decode cX6_beatsOfOneTurn 3 = .ok (.lstore_n 2, 1) := by decide +kernel
theorem dX6_beatsOfOneTurn_4 : decode cX6_beatsOfOneTurn 4 = .ok (.iconst 0, 1) := by decide +kernel
theorem dX6_beatsOfOneTurn_5 : decode cX6_beatsOfOneTurn 5 = .ok (.istore 4, 2) := by decide +kernel
theorem dX6_beatsOfOneTurn_7 : decode cX6_beatsOfOneTurn 7 = .ok (.iload 4, 2) := by decide +kernel
theorem dX6_beatsOfOneTurn_9 : decode cX6_beatsOfOneTurn 9 = .ok (.iload_n 1, 1) := by decide +kernel
theorem dX6_beatsOfOneTurn_10 : decode cX6_beatsOfOneTurn 10 = .ok (.if_icmp .gt 30, 3) := by decide +kernel
theorem dX6_beatsOfOneTurn_13 : decode cX6_beatsOfOneTurn 13 = .ok (.iload 4, 2) := by decide +kernel
theorem dX6_beatsOfOneTurn_15 : decode cX6_beatsOfOneTurn 15 = .ok (.aload_n 0, 1) := by decide +kernel
theorem dX6_beatsOfOneTurn_16 : decode cX6_beatsOfOneTurn 16 = .ok (.getfield 9, 3) := by decide +kernel
theorem dX6_beatsOfOneTurn_19 : decode cX6_beatsOfOneTurn 19 = .ok (.arraylength, 1) := by decide +kernel
theorem dX6_beatsOfOneTurn_20 : decode cX6_beatsOfOneTurn 20 = .ok (.if_icmp .ge 20, 3) := by decide +kernel
theorem dX6_beatsOfOneTurn_23 : decode cX6_beatsOfOneTurn 23 = .ok (.lload_n 2, 1) := by decide +kernel
theorem dX6_beatsOfOneTurn_24 : decode cX6_beatsOfOneTurn 24 = .ok (.aload_n 0, 1) := by decide +kernel
theorem dX6_beatsOfOneTurn_25 : decode cX6_beatsOfOneTurn 25 = .ok (.getfield 9, 3) := by decide +kernel
theorem dX6_beatsOfOneTurn_28 : decode cX6_beatsOfOneTurn 28 = .ok (.iload 4, 2) := by decide +kernel
theorem dX6_beatsOfOneTurn_30 : decode cX6_beatsOfOneTurn 30 = .ok (.iaload, 1) := by decide +kernel
theorem dX6_beatsOfOneTurn_31 : decode cX6_beatsOfOneTurn 31 = .ok (.i2l, 1) := by decide +kernel
theorem dX6_beatsOfOneTurn_32 : decode cX6_beatsOfOneTurn 32 = .ok (.lmul, 1) := by decide +kernel
theorem dX6_beatsOfOneTurn_33 : decode cX6_beatsOfOneTurn 33 = .ok (.lstore_n 2, 1) := by decide +kernel
theorem dX6_beatsOfOneTurn_34 : decode cX6_beatsOfOneTurn 34 = .ok (.iinc 4 1, 3) := by decide +kernel
theorem dX6_beatsOfOneTurn_37 : decode cX6_beatsOfOneTurn 37 = .ok (.goto (-30), 3) := by decide +kernel
theorem dX6_beatsOfOneTurn_40 : decode cX6_beatsOfOneTurn 40 = .ok (.lload_n 2, 1) := by decide +kernel
theorem dX6_beatsOfOneTurn_41 : decode cX6_beatsOfOneTurn 41 = .ok (.lreturn, 1) := by decide +kernel
theorem dX6_copy_0 : decode cX6_copy 0 = .ok (.aload_n 0, 1) := by decide +kernel
theorem dX6_copy_1 : decode cX6_copy 1 = .ok (.aload_n 1, 1) := by decide +kernel
theorem dX6_copy_2 : decode cX6_copy 2 = .ok (.getfield 15, 3) := by decide +kernel
theorem dX6_copy_5 : decode cX6_copy 5 = .ok (.putfield 15, 3) := by decide +kernel
theorem dX6_copy_8 : decode cX6_copy 8 = .ok (.iconst 0, 1) := by decide +kernel
theorem dX6_copy_9 : decode cX6_copy 9 = .ok (.istore_n 2, 1) := by decide +kernel
theorem dX6_copy_10 : decode cX6_copy 10 = .ok (.iload_n 2, 1) := by decide +kernel
theorem dX6_copy_11 : decode cX6_copy 11 = .ok (.aload_n 0, 1) := by decide +kernel
theorem dX6_copy_12 : decode cX6_copy 12 = .ok (.getfield 9, 3) := by decide +kernel
theorem dX6_copy_15 : decode cX6_copy 15 = .ok (.arraylength, 1) := by decide +kernel
theorem dX6_copy_16 : decode cX6_copy 16 = .ok (.if_icmp .ge 30, 3) := by decide +kernel
theorem dX6_copy_19 : decode cX6_copy 19 = .ok (.iload_n 2, 1) := by decide +kernel
theorem dX6_copy_20 : decode cX6_copy 20 = .ok (.aload_n 1, 1) := by decide +kernel
theorem dX6_copy_21 : decode cX6_copy 21 = .ok (.getfield 9, 3) := by decide +kernel
theorem dX6_copy_24 : decode cX6_copy 24 = .ok (.arraylength, 1) := by decide +kernel
theorem dX6_copy_25 : decode cX6_copy 25 = .ok (.if_icmp .ge 21, 3) := by decide +kernel
theorem dX6_copy_28 : decode cX6_copy 28 = .ok (.aload_n 0, 1) := by decide +kernel
theorem dX6_copy_29 : decode cX6_copy 29 = .ok (.getfield 9, 3) := by decide +kernel
theorem dX6_copy_32 : decode cX6_copy 32 = .ok (.iload_n 2, 1) := by decide +kernel
theorem dX6_copy_33 : decode cX6_copy 33 = .ok (.aload_n 1, 1) := by decide +kernel
theorem dX6_copy_34 : decode cX6_copy 34 = .ok (.getfield 9, 3) := by decide +kernel
theorem dX6_copy_37 : decode cX6_copy 37 = .ok (.iload_n 2, 1) := by decide +kernel
theorem dX6_copy_38 : decode cX6_copy 38 = .ok (.iaload, 1) := by decide +kernel
theorem dX6_copy_39 : decode cX6_copy 39 = .ok (.iastore, 1) := by decide +kernel
theorem dX6_copy_40 : decode cX6_copy 40 = .ok (.iinc 2 1, 3) := by decide +kernel
theorem dX6_copy_43 : decode cX6_copy 43 = .ok (.goto (-33), 3) := by decide +kernel
theorem dX6_copy_46 : decode cX6_copy 46 = .ok (.return_, 1) := by decide +kernel
theorem dX7_init_0 : decode cX7_init 0 = .ok (.aload_n 0, 1) := by decide +kernel
theorem dX7_init_1 : decode cX7_init 1 = .ok (.invokespecial 1, 3) := by decide +kernel
theorem dX7_init_4 : decode cX7_init 4 = .ok (.aload_n 0, 1) := by decide +kernel
theorem dX7_init_5 : decode cX7_init 5 = .ok (.new 7, 3) := by decide +kernel
theorem dX7_init_8 : decode cX7_init 8 = .ok (.dup, 1) := by decide +kernel
theorem dX7_init_9 : decode cX7_init 9 = .ok (.iconst 1, 1) := by decide +kernel
theorem dX7_init_10 : decode cX7_init 10 = .ok (.invokespecial 9, 3) := by decide +kernel
theorem dX7_init_13 : decode cX7_init 13 = .ok (.putfield 12, 3) := by decide +kernel
theorem dX7_init_16 : decode cX7_init 16 = .ok (.aload_n 0, 1) := by decide +kernel
theorem dX7_init_17 : decode cX7_init 17 = .ok (.new 18, 3) := by decide +kernel
theorem dX7_init_20 : decode cX7_init 20 = .ok (.dup, 1) := by decide +kernel
theorem dX7_init_21 : decode cX7_init 21 = .ok (.invokespecial 20, 3) := by decide +kernel
theorem dX7_init_24 : decode cX7_init 24 = .ok (.putfield 21, 3) := by decide +kernel
theorem dX7_init_27 : decode cX7_init 27 = .ok (.aload_n 0, 1) := by decide +kernel
theorem dX7_init_28 : decode cX7_init 28 = .ok (.new 25, 3) := by decide +kernel
theorem dX7_init_31 : decode cX7_init 31 = .ok (.dup, 1) := by decide +kernel
theorem dX7_init_32 : decode cX7_init 32 = .ok (.invokespecial 27, 3) := by decide +kernel
theorem dX7_init_35 : decode cX7_init 35 = .ok (.putfield 28, 3) := by decide +kernel
theorem dX7_init_38 : decode cX7_init 38 = .ok (.aload_n 0, 1) := by decide +kernel
theorem dX7_init_39 : decode cX7_init 39 = .ok (.new 25, 3) := by decide +kernel
theorem dX7_init_42 : decode cX7_init 42 = .ok (.dup, 1) := by decide +kernel
theorem dX7_init_43 : decode cX7_init 43 = .ok (.invokespecial 27, 3) := by decide +kernel
theorem dX7_init_46 : decode cX7_init 46 = .ok (.putfield 32, 3) := by decide +kernel
theorem dX7_init_49 : decode cX7_init 49 = .ok (.return_, 1) := by decide +kernel
theorem dX7_copy_0 : decode cX7_copy 0 = .ok (.aload_n 0, 1) := by decide +kernel
theorem dX7_copy_1 : decode cX7_copy 1 = .ok (.getfield 12, 3) := by decide +kernel
theorem dX7_copy_4 : decode cX7_copy 4 = .ok (.aload_n 1, 1) := by decide +kernel
theorem dX7_copy_5 : decode cX7_copy 5 = .ok (.getfield 12, 3) := by decide +kernel
theorem dX7_copy_8 : decode cX7_copy 8 = .ok (.invokevirtual 35, 3) := by decide +kernel
theorem dX7_copy_11 : decode cX7_copy 11 = .ok (.aload_n 0, 1) := by decide +kernel
theorem dX7_copy_12 : decode cX7_copy 12 = .ok (.getfield 21, 3) := by decide +kernel
theorem dX7_copy_15 : decode cX7_copy 15 = .ok (.aload_n 1, 1) := by decide +kernel
theorem dX7_copy_16 : decode cX7_copy 16 = .ok (.getfield 21, 3) := by decide +kernel
theorem dX7_copy_19 : decode cX7_copy 19 = .ok (.invokevirtual 39, 3) := by decide +kernel
theorem dX7_copy_22 : decode cX7_copy 22 = .ok (.aload_n 0, 1) := by decide +kernel
theorem dX7_copy_23 : decode cX7_copy 23 = .ok (.getfield 28, 3) := by decide +kernel
theorem dX7_copy_26 : decode cX7_copy 26 = .ok (.aload_n 1, 1) := by decide +kernel
theorem dX7_copy_27 : decode cX7_copy 27 = .ok (.getfield 28, 3) := by decide +kernel
theorem dX7_copy_30 : decode cX7_copy 30 = .ok (.invokevirtual 42, 3) := by decide +kernel
theorem dX7_copy_33 : decode cX7_copy 33 = .ok (.aload_n 0, 1) := by decide +kernel
theorem dX7_copy_34 : decode cX7_copy 34 = .ok (.getfield 32, 3) := by decide +kernel
theorem dX7_copy_37 : decode cX7_copy 37 = .ok (.aload_n 1, 1) := by decide +kernel
theorem dX7_copy_38 : decode cX7_copy 38 = .ok (.getfield 32, 3) := by decide +kernel
theorem dX7_copy_41 : decode cX7_copy 41 = .ok (.invokevirtual 42, 3) := by decide +kernel
theorem dX7_copy_44 : decode cX7_copy 44 = .ok (.return_, 1) := by decide +kernel
