theorem dX8_init_0 : decode cX8_init 0 = .ok (.aload_n 0, 1) := by decide +kernel
theorem dX8_init_1 : decode cX8_init 1 = .ok (.invokespecial 3, 3) := by decide +kernel
theorem dX8_init_4 : decode cX8_init 4 = .ok (.aload_n 0, 1) := by decide +kernel
theorem dX8_init_5 : decode cX8_init 5 = .ok (.new 9, 3) := by decide +kernel
theorem dX8_init_8 : decode cX8_init 8 = .ok (.dup, 1) := by decide +kernel
theorem dX8_init_9 : decode cX8_init 9 = .ok (.invokespecial 11, 3) := by decide +kernel
theorem dX8_init_12 : decode cX8_init 12 = .ok (.putfield 12, 3) := by decide +kernel
theorem dX8_init_15 : decode cX8_init 15 = .ok (.aload_n 0, 1) := by decide +kernel
theorem dX8_init_16 : decode cX8_init 16 = .ok (.new 9, 3) := by decide +kernel
theorem dX8_init_19 : decode cX8_init 19 = .ok (.dup, 1) := by decide +kernel
theorem dX8_init_20 : decode cX8_init 20 = .ok (.invokespecial 11, 3) := by decide +kernel
theorem dX8_init_23 : decode cX8_init 23 = .ok (.putfield 18, 3) := by decide +kernel
theorem dX8_init_26 : decode cX8_init 26 = .ok (.aload_n 0, 1) := by decide +kernel
theorem dX8_init_27 : decode cX8_init 27 = .ok (.new 21, 3) := by decide +kernel
theorem dX8_init_30 : decode cX8_init 30 = .ok (.dup, 1) := by decide +kernel
theorem dX8_init_31 : decode cX8_init 31 = .ok (.iconst 0, 1) := by decide +kernel
theorem dX8_init_32 : decode cX8_init 32 = .ok (.invokespecial 23, 3) := by decide +kernel
theorem dX8_init_35 : decode cX8_init 35 = .ok (.putfield 26, 3) := by decide +kernel
theorem dX8_init_38 : decode cX8_init 38 = .ok (.aload_n 0, 1) := by decide +kernel
theorem dX8_init_39 : decode cX8_init 39 = .ok (.new 30, 3) := by decide +kernel
theorem dX8_init_42 : decode cX8_init 42 = .ok (.dup, 1) := by decide +kernel
theorem dX8_init_43 : decode cX8_init 43 = .ok (.invokespecial 32, 3) := by decide +kernel
theorem dX8_init_46 : decode cX8_init 46 = .ok (.putfield 33, 3) := by decide +kernel
theorem dX8_init_49 : decode cX8_init 49 = .ok (.aload_n 0, 1) := by decide +kernel
theorem dX8_init_50 : decode cX8_init 50 = .ok (.new 37, 3) := by decide +kernel
theorem dX8_init_53 : decode cX8_init 53 = .ok (.dup, 1) := by decide +kernel
theorem dX8_init_54 : decode cX8_init 54 = .ok (.invokespecial 39, 3) := by decide +kernel
theorem dX8_init_57 : decode cX8_init 57 = .ok (.putfield 40, 3) := by decide +kernel
theorem dX8_init_60 : decode cX8_init 60 = .ok (.aload_n 0, 1) := by decide +kernel
theorem dX8_init_61 : decode cX8_init 61 = .ok (.bipush 6, 2) := by decide +kernel
theorem dX8_init_63 : decode cX8_init 63 = .ok (.anewarray 44, 3) := by decide +kernel
theorem dX8_init_66 : decode cX8_init 66 = .ok (.putfield 46, 3) := by decide +kernel
theorem dX8_init_69 : decode cX8_init 69 = .ok (.iconst 0, 1) := by decide +kernel
theorem dX8_init_70 : decode cX8_init 70 = .ok (.istore_n 1, 1) := by decide +kernel
theorem dX8_init_71 : decode cX8_init 71 = .ok (.iload_n 1, 1) := by decide +kernel
theorem dX8_init_72 : decode cX8_init 72 = .ok (.aload_n 0, 1) := by decide +kernel
theorem dX8_init_73 : decode cX8_init 73 = .ok (.getfield 46, 3) := by decide +kernel
theorem dX8_init_76 : decode cX8_init 76 = .ok (.arraylength, 1) := by decide +kernel
theorem dX8_init_77 : decode cX8_init 77 = .ok (.if_icmp .ge 22, 3) := by decide +kernel
theorem dX8_init_80 : decode cX8_init 80 = .ok (.aload_n 0, 1) := by decide +kernel
theorem dX8_init_81 : decode cX8_init 81 = .ok (.getfield 46, 3) := by decide +kernel
theorem dX8_init_84 : decode cX8_init 84 = .ok (.iload_n 1, 1) := by decide +kernel
theorem dX8_init_85 : decode cX8_init 85 = .ok (.new 44, 3) := by decide +kernel
theorem dX8_init_88 : decode cX8_init 88 = .ok (.dup, 1) := by decide +kernel
theorem dX8_init_89 : decode cX8_init 89 = .ok (.invokespecial 50, 3) := by decide +kernel
theorem dX8_init_92 : decode cX8_init 92 = .ok (.aastore, 1) := by decide +kernel
theorem dX8_init_93 : decode cX8_init 93 = .ok (.iinc 1 1, 3) := by decide +kernel
theorem dX8_init_96 : decode cX8_init 96 = .ok (.goto (-25), 3) := by decide +kernel
theorem dX8_init_99 : decode cX8_init 99 = .ok (.return_, 1) := by decide +kernel
theorem dX8_set_0 : decode cX8_set 0 = .ok (.iload_n 1, 1) := by decide +kernel
theorem dX8_set_1 : decode cX8_set 1 = .ok (.ifCond .lt 9, 3) := by decide +kernel
theorem dX8_set_4 : decode cX8_set 4 = .ok (.iload_n 1, 1) := by decide +kernel
theorem dX8_set_5 : decode cX8_set 5 = .ok (.bipush 6, 2) := by decide +kernel
theorem dX8_set_7 : decode cX8_set 7 = .ok (.if_icmp .le 7, 3) := by decide +kernel
theorem dX8_set_10 : decode cX8_set 10 = .ok (.sipush (-1000), 3) := by decide +kernel
theorem dX8_set_13 : decode cX8_set 13 = .ok (.ireturn, 1) := by decide +kernel
theorem dX8_set_14 : decode cX8_set 14 = .ok (.iload_n 1, 1) := by decide +kernel
theorem dX8_set_15 : decode cX8_set 15 = .ok (.iload_n 2, 1) := by decide +kernel
theorem dX8_set_16 : decode cX8_set 16 = .ok (.invokestatic 51, 3) := by decide +kernel
theorem dX8_set_19 : decode cX8_set 19 = .ok (.ifCond .ne 7, 3) := by decide +kernel
theorem dX8_set_22 : decode cX8_set 22 = .ok (.sipush (-1001), 3) := by decide +kernel
theorem dX8_set_25 : decode cX8_set 25 = .ok (.ireturn, 1) := by decide +kernel
theorem dX8_set_26 : decode cX8_set 26 = .ok (.aload_n 0, 1) := by decide +kernel
theorem dX8_set_27 : decode cX8_set 27 = .ok (.getfield 12, 3) := by decide +kernel
theorem dX8_set_30 : decode cX8_set 30 = .ok (.getfield 55, 3) := by decide +kernel
theorem dX8_set_33 : decode cX8_set 33 = .ok (.iload_n 1, 1) := by decide +kernel
theorem dX8_set_34 : decode cX8_set 34 = .ok (.invokevirtual 58, 3) := by decide +kernel
theorem dX8_set_37 : decode cX8_set 37 = .ok (.istore_n 3, 1) := by decide +kernel
theorem dX8_set_38 : decode cX8_set 38 = .ok (.aload_n 0, 1) := by decide +kernel
theorem dX8_set_39 : decode cX8_set 39 = .ok (.getfield 12, 3) := by decide +kernel
theorem dX8_set_42 : decode cX8_set 42 = .ok (.getfield 55, 3) := by decide +kernel
theorem dX8_set_45 : decode cX8_set 45 = .ok (.iload_n 1, 1) := by decide +kernel
theorem dX8_set_46 : decode cX8_set 46 = .ok (.iload_n 2, 1) := by decide +kernel
theorem dX8_set_47 : decode cX8_set 47 = .ok (.invokevirtual 62, 3) := by decide +kernel
theorem dX8_set_50 : decode cX8_set 50 = .ok (.iload_n 3, 1) := by decide +kernel
theorem dX8_set_51 : decode cX8_set 51 = .ok (.ireturn, 1) := by decide +kernel
theorem dX8_told_0 : decode cX8_told 0 = .ok (.iload_n 1, 1) := by decide +kernel
theorem dX8_told_1 : decode cX8_told 1 = .ok (.ifCond .lt 9, 3) := by decide +kernel
theorem dX8_told_4 : decode cX8_told 4 = .ok (.iload_n 1, 1) := by decide +kernel
theorem dX8_told_5 : decode cX8_told 5 = .ok (.bipush 12, 2) := by decide +kernel
theorem dX8_told_7 : decode cX8_told 7 = .ok (.if_icmp .le 7, 3) := by decide +kernel
theorem dX8_told_10 : decode cX8_told 10 = .ok (.sipush (-1000), 3) := by decide +kernel
theorem dX8_told_13 : decode cX8_told 13 = .ok (.ireturn, 1) := by decide +kernel
theorem dX8_told_14 : decode cX8_told 14 = .ok (.iload_n 1, 1) := by decide +kernel
theorem dX8_told_15 : decode cX8_told 15 = .ok (.bipush 12, 2) := by decide +kernel
theorem dX8_told_17 : decode cX8_told 17 = .ok (.if_icmp .ne 16, 3) := by decide +kernel
theorem dX8_told_20 : decode cX8_told 20 = .ok (.aload_n 0, 1) := by decide +kernel
theorem dX8_told_21 : decode cX8_told 21 = .ok (.getfield 12, 3) := by decide +kernel
theorem dX8_told_24 : decode cX8_told 24 = .ok (.getfield 66, 3) := by decide +kernel
theorem dX8_told_27 : decode cX8_told 27 = .ok (.getfield 70, 3) := by decide +kernel
theorem dX8_told_30 : decode cX8_told 30 = .ok (.goto 14, 3) := by decide +kernel
theorem dX8_told_33 : decode cX8_told 33 = .ok (.aload_n 0, 1) := by decide +kernel
theorem dX8_told_34 : decode cX8_told 34 = .ok (.getfield 12, 3) := by decide +kernel
theorem dX8_told_37 : decode cX8_told 37 = .ok (.getfield 55, 3) := by decide +kernel
theorem dX8_told_40 : decode cX8_told 40 = .ok (.iload_n 1, 1) := by decide +kernel
theorem dX8_told_41 : decode cX8_told 41 = .ok (.invokevirtual 58, 3) := by decide +kernel
theorem dX8_told_44 : decode cX8_told 44 = .ok (.ireturn, 1) := by decide +kernel
theorem dX8_push_0 : decode cX8_push 0 = .ok (.iload_n 2, 1) := by decide +kernel
theorem dX8_push_1 : decode cX8_push 1 = .ok (.ifCond .lt 8, 3) := by decide +kernel
theorem dX8_push_4 : decode cX8_push 4 = .ok (.iload_n 2, 1) := by decide +kernel
theorem dX8_push_5 : decode cX8_push 5 = .ok (.iconst 3, 1) := by decide +kernel
theorem dX8_push_6 : decode cX8_push 6 = .ok (.if_icmp .le 5, 3) := by decide +kernel
theorem dX8_push_9 : decode cX8_push 9 = .ok (.iconst (-1), 1) := by decide +kernel
theorem dX8_push_10 : decode cX8_push 10 = .ok (.ireturn, 1) := by decide +kernel
theorem dX8_push_11 : decode cX8_push 11 = .ok (.iload_n 1, 1) := by decide +kernel
theorem dX8_push_12 : decode cX8_push 12 = .ok (.aload_n 0, 1) := by decide +kernel
theorem dX8_push_13 : decode cX8_push 13 = .ok (.getfield 12, 3) := by decide +kernel
theorem dX8_push_16 : decode cX8_push 16 = .ok (.getfield 55, 3) := by decide +kernel
theorem dX8_push_19 : decode cX8_push 19 = .ok (.getfield 76, 3) := by decide +kernel
theorem dX8_push_22 : decode cX8_push 22 = .ok (.ldc 79, 2) := by decide +kernel
theorem dX8_push_24 : decode cX8_push 24 = .ok (.invokestatic 80, 3) := by decide +kernel
theorem dX8_push_27 : decode cX8_push 27 = .ok (.ifCond .eq 11, 3) := by decide +kernel
theorem dX8_push_30 : decode cX8_push 30 = .ok (.iload_n 2, 1) := by decide +kernel
theorem dX8_push_31 : decode cX8_push 31 = .ok (.iload_n 3, 1) := by decide +kernel
theorem dX8_push_32 : decode cX8_push 32 = .ok (.invokestatic 84, 3) := by decide +kernel
theorem dX8_push_35 : decode cX8_push 35 = .ok (.ifCond .ne 6, 3) := by decide +kernel
theorem dX8_push_38 : decode cX8_push 38 = .ok (.bipush (-2), 2) := by decide +kernel
theorem dX8_push_40 : decode cX8_push 40 = .ok (.ireturn, 1) := by decide +kernel
theorem dX8_push_41 : decode cX8_push 41 = .ok (.aload_n 0, 1) := by decide +kernel
theorem dX8_push_42 : decode cX8_push 42 = .ok (.getfield 12, 3) := by decide +kernel
theorem dX8_push_45 : decode cX8_push 45 = .ok (.getfield 55, 3) := by decide +kernel
theorem dX8_push_48 : decode cX8_push 48 = .ok (.getfield 87, 3) := by decide +kernel
theorem dX8_push_51 : decode cX8_push 51 = .ok (.getfield 91, 3) := by decide +kernel
theorem dX8_push_54 : decode cX8_push 54 = .ok (.bipush 8, 2) := by decide +kernel
theorem dX8_push_56 : decode cX8_push 56 = .ok (.if_icmp .lt 6, 3) := by decide +kernel
theorem dX8_push_59 : decode cX8_push 59 = .ok (.bipush (-4), 2) := by decide +kernel
theorem dX8_push_61 : decode cX8_push 61 = .ok (.ireturn, 1) := by decide +kernel
theorem dX8_push_62 : decode cX8_push 62 = .ok (.aload_n 0, 1) := by decide +kernel
theorem dX8_push_63 : decode cX8_push 63 = .ok (.getfield 12, 3) := by decide +kernel
theorem dX8_push_66 : decode cX8_push 66 = .ok (.getfield 55, 3) := by decide +kernel
theorem dX8_push_69 : decode cX8_push 69 = .ok (.getfield 87, 3) := by decide +kernel
theorem dX8_push_72 : decode cX8_push 72 = .ok (.iload_n 1, 1) := by decide +kernel
theorem dX8_push_73 : decode cX8_push 73 = .ok (.iload_n 2, 1) := by decide +kernel
theorem dX8_push_74 : decode cX8_push 74 = .ok (.iload_n 3, 1) := by decide +kernel
theorem dX8_push_75 : decode cX8_push 75 = .ok (.invokevirtual 96, 3) := by decide +kernel
theorem dX8_push_78 : decode cX8_push 78 = .ok (.aload_n 0, 1) := by decide +kernel
theorem dX8_push_79 : decode cX8_push 79 = .ok (.getfield 12, 3) := by decide +kernel
theorem dX8_push_82 : decode cX8_push 82 = .ok (.getfield 55, 3) := by decide +kernel
theorem dX8_push_85 : decode cX8_push 85 = .ok (.getfield 87, 3) := by decide +kernel
theorem dX8_push_88 : decode cX8_push 88 = .ok (.getfield 91, 3) := by decide +kernel
theorem dX8_push_91 : decode cX8_push 91 = .ok (.ireturn, 1) := by decide +kernel
theorem dX8_pushOf_0 : decode cX8_pushOf 0 = .ok (.aload_n 0, 1) := by decide +kernel
theorem dX8_pushOf_1 : decode cX8_pushOf 1 = .ok (.getfield 12, 3) := by decide +kernel
theorem dX8_pushOf_4 : decode cX8_pushOf 4 = .ok (.getfield 55, 3) := by decide +kernel
theorem dX8_pushOf_7 : decode cX8_pushOf 7 = .ok (.getfield 87, 3) := by decide +kernel
theorem dX8_pushOf_10 : decode cX8_pushOf 10 = .ok (.astore_n 3, 1) := by decide +kernel
theorem dX8_pushOf_11 : decode cX8_pushOf 11 = .ok (.iload_n 1, 1) := by decide +kernel
theorem dX8_pushOf_12 : decode cX8_pushOf 12 = .ok (.ifCond .lt 17, 3) := by decide +kernel
theorem dX8_pushOf_15 : decode cX8_pushOf 15 = .ok (.iload_n 1, 1) := by decide +kernel
theorem dX8_pushOf_16 : decode cX8_pushOf 16 = .ok (.aload_n 3, 1) := by decide +kernel
theorem dX8_pushOf_17 : decode cX8_pushOf 17 = .ok (.getfield 91, 3) := by decide +kernel
theorem dX8_pushOf_20 : decode cX8_pushOf 20 = .ok (.if_icmp .ge 9, 3) := by decide +kernel
theorem dX8_pushOf_23 : decode cX8_pushOf 23 = .ok (.iload_n 1, 1) := by decide +kernel
theorem dX8_pushOf_24 : decode cX8_pushOf 24 = .ok (.bipush 8, 2) := by decide +kernel
theorem dX8_pushOf_26 : decode cX8_pushOf 26 = .ok (.if_icmp .lt 7, 3) := by decide +kernel
theorem dX8_pushOf_29 : decode cX8_pushOf 29 = .ok (.sipush (-1000), 3) := by decide +kernel
theorem dX8_pushOf_32 : decode cX8_pushOf 32 = .ok (.ireturn, 1) := by decide +kernel
theorem dX8_pushOf_33 : decode cX8_pushOf 33 = .ok (.iload_n 2, 1) := by decide +kernel
theorem dX8_pushOf_34 : decode cX8_pushOf 34 = .ok (.tableswitch 47 0 2 #[26, 33, 40], 26) := by decide +kernel
theorem dX8_pushOf_60 : decode cX8_pushOf 60 = .ok (.aload_n 3, 1) := by decide +kernel
theorem dX8_pushOf_61 : decode cX8_pushOf 61 = .ok (.getfield 100, 3) := by decide +kernel
theorem dX8_pushOf_64 : decode cX8_pushOf 64 = .ok (.iload_n 1, 1) := by decide +kernel
theorem dX8_pushOf_65 : decode cX8_pushOf 65 = .ok (.iaload, 1) := by decide +kernel
theorem dX8_pushOf_66 : decode cX8_pushOf 66 = .ok (.ireturn, 1) := by decide +kernel
theorem dX8_pushOf_67 : decode cX8_pushOf 67 = .ok (.aload_n 3, 1) := by decide +kernel
theorem dX8_pushOf_68 : decode cX8_pushOf 68 = .ok (.getfield 104, 3) := by decide +kernel
theorem dX8_pushOf_71 : decode cX8_pushOf 71 = .ok (.iload_n 1, 1) := by decide +kernel
theorem dX8_pushOf_72 : decode cX8_pushOf 72 = .ok (.iaload, 1) := by decide +kernel
theorem dX8_pushOf_73 : decode cX8_pushOf 73 = .ok (.ireturn, 1) := by decide +kernel
theorem dX8_pushOf_74 : decode cX8_pushOf 74 = .ok (.aload_n 3, 1) := by decide +kernel
theorem dX8_pushOf_75 : decode cX8_pushOf 75 = .ok (.getfield 107, 3) := by decide +kernel
theorem dX8_pushOf_78 : decode cX8_pushOf 78 = .ok (.iload_n 1, 1) := by decide +kernel
theorem dX8_pushOf_79 : decode cX8_pushOf 79 = .ok (.iaload, 1) := by decide +kernel
theorem dX8_pushOf_80 : decode cX8_pushOf 80 = .ok (.ireturn, 1) := by decide +kernel
theorem dX8_pushOf_81 : decode cX8_pushOf 81 = .ok (.sipush (-1000), 3) := by decide +kernel
theorem dX8_pushOf_84 : decode cX8_pushOf 84 = .ok (.ireturn, 1) := by decide +kernel
theorem dX8_go_0 : decode cX8_go 0 = .ok (.iload_n 1, 1) := by decide +kernel
theorem dX8_go_1 : decode cX8_go 1 = .ok (.iconst 1, 1) := by decide +kernel
theorem dX8_go_2 : decode cX8_go 2 = .ok (.sipush 400, 3) := by decide +kernel
theorem dX8_go_5 : decode cX8_go 5 = .ok (.invokestatic 80, 3) := by decide +kernel
theorem dX8_go_8 : decode cX8_go 8 = .ok (.ifCond .ne 6, 3) := by decide +kernel
theorem dX8_go_11 : decode cX8_go 11 = .ok (.bipush (-2), 2) := by decide +kernel
theorem dX8_go_13 : decode cX8_go 13 = .ok (.ireturn, 1) := by decide +kernel
theorem dX8_go_14 : decode cX8_go 14 = .ok (.aload_n 0, 1) := by decide +kernel
theorem dX8_go_15 : decode cX8_go 15 = .ok (.getfield 12, 3) := by decide +kernel
theorem dX8_go_18 : decode cX8_go 18 = .ok (.getfield 55, 3) := by decide +kernel
theorem dX8_go_21 : decode cX8_go 21 = .ok (.getfield 76, 3) := by decide +kernel
theorem dX8_go_24 : decode cX8_go 24 = .ok (.ldc 79, 2) := by decide +kernel
theorem dX8_go_26 : decode cX8_go 26 = .ok (.iload_n 1, 1) := by decide +kernel
theorem dX8_go_27 : decode cX8_go 27 = .ok (.isub, 1) := by decide +kernel
theorem dX8_go_28 : decode cX8_go 28 = .ok (.if_icmp .le 6, 3) := by decide +kernel
theorem dX8_go_31 : decode cX8_go 31 = .ok (.bipush (-4), 2) := by decide +kernel
theorem dX8_go_33 : decode cX8_go 33 = .ok (.ireturn, 1) := by decide +kernel
theorem dX8_go_34 : decode cX8_go 34 = .ok (.iconst 0, 1) := by decide +kernel
theorem dX8_go_35 : decode cX8_go 35 = .ok (.istore_n 2, 1) := by decide +kernel
theorem dX8_go_36 : decode cX8_go 36 = .ok (.iconst 0, 1) := by decide +kernel
theorem dX8_go_37 : decode cX8_go 37 = .ok (.istore_n 3, 1) := by decide +kernel
theorem dX8_go_38 : decode cX8_go 38 = .ok (.iload_n 3, 1) := by decide +kernel
theorem dX8_go_39 : decode cX8_go 39 = .ok (.iload_n 1, 1) := by decide +kernel
theorem dX8_go_40 : decode cX8_go 40 = .ok (.if_icmp .ge 25, 3) := by decide +kernel
theorem dX8_go_43 : decode cX8_go 43 = .ok (.aload_n 0, 1) := by decide +kernel
theorem dX8_go_44 : decode cX8_go 44 = .ok (.getfield 12, 3) := by decide +kernel
theorem dX8_go_47 : decode cX8_go 47 = .ok (.getfield 55, 3) := by decide +kernel
theorem dX8_go_50 : decode cX8_go 50 = .ok (.invokevirtual 110, 3) := by decide +kernel
theorem dX8_go_53 : decode cX8_go 53 = .ok (.ifCond .eq 6, 3) := by decide +kernel
theorem dX8_go_56 : decode cX8_go 56 = .ok (.iinc 2 1, 3) := by decide +kernel
theorem dX8_go_59 : decode cX8_go 59 = .ok (.iinc 3 1, 3) := by decide +kernel
theorem dX8_go_62 : decode cX8_go 62 = .ok (.goto (-24), 3) := by decide +kernel
theorem dX8_go_65 : decode cX8_go 65 = .ok (.iload_n 2, 1) := by decide +kernel
theorem dX8_go_66 : decode cX8_go 66 = .ok (.ireturn, 1) := by decide +kernel
theorem dX8_wheel_0 : decode cX8_wheel 0 = .ok (.iload_n 1, 1) := by decide +kernel
theorem dX8_wheel_1 : decode cX8_wheel 1 = .ok (.iconst 2, 1) := by decide +kernel
theorem dX8_wheel_2 : decode cX8_wheel 2 = .ok (.bipush 99, 2) := by decide +kernel
theorem dX8_wheel_4 : decode cX8_wheel 4 = .ok (.invokestatic 80, 3) := by decide +kernel
theorem dX8_wheel_7 : decode cX8_wheel 7 = .ok (.ifCond .ne 6, 3) := by decide +kernel
theorem dX8_wheel_10 : decode cX8_wheel 10 = .ok (.bipush (-2), 2) := by decide +kernel
theorem dX8_wheel_12 : decode cX8_wheel 12 = .ok (.ireturn, 1) := by decide +kernel
theorem dX8_wheel_13 : decode cX8_wheel 13 = .ok (.aload_n 0, 1) := by decide +kernel
theorem dX8_wheel_14 : decode cX8_wheel 14 = .ok (.getfield 12, 3) := by decide +kernel
theorem dX8_wheel_17 : decode cX8_wheel 17 = .ok (.getfield 66, 3) := by decide +kernel
theorem dX8_wheel_20 : decode cX8_wheel 20 = .ok (.getfield 70, 3) := by decide +kernel
theorem dX8_wheel_23 : decode cX8_wheel 23 = .ok (.iconst 4, 1) := by decide +kernel
theorem dX8_wheel_24 : decode cX8_wheel 24 = .ok (.if_icmp .lt 6, 3) := by decide +kernel
theorem dX8_wheel_27 : decode cX8_wheel 27 = .ok (.bipush (-4), 2) := by decide +kernel
theorem dX8_wheel_29 : decode cX8_wheel 29 = .ok (.ireturn, 1) := by decide +kernel
theorem dX8_wheel_30 : decode cX8_wheel 30 = .ok (.aload_n 0, 1) := by decide +kernel
theorem dX8_wheel_31 : decode cX8_wheel 31 = .ok (.getfield 12, 3) := by decide +kernel
theorem dX8_wheel_34 : decode cX8_wheel 34 = .ok (.getfield 66, 3) := by decide +kernel
theorem dX8_wheel_37 : decode cX8_wheel 37 = .ok (.iload_n 1, 1) := by decide +kernel
theorem dX8_wheel_38 : decode cX8_wheel 38 = .ok (.invokevirtual 114, 3) := by decide +kernel
theorem dX8_wheel_41 : decode cX8_wheel 41 = .ok (.aload_n 0, 1) := by decide +kernel
theorem dX8_wheel_42 : decode cX8_wheel 42 = .ok (.getfield 12, 3) := by decide +kernel
theorem dX8_wheel_45 : decode cX8_wheel 45 = .ok (.getfield 66, 3) := by decide +kernel
theorem dX8_wheel_48 : decode cX8_wheel 48 = .ok (.getfield 70, 3) := by decide +kernel
theorem dX8_wheel_51 : decode cX8_wheel 51 = .ok (.iconst 1, 1) := by decide +kernel
theorem dX8_wheel_52 : decode cX8_wheel 52 = .ok (.isub, 1) := by decide +kernel
theorem dX8_wheel_53 : decode cX8_wheel 53 = .ok (.ireturn, 1) := by decide +kernel
theorem dX8_turns_0 : decode cX8_turns 0 = .ok (.iload_n 1, 1) := by decide +kernel
theorem dX8_turns_1 : decode cX8_turns 1 = .ok (.ifCond .lt 17, 3) := by decide +kernel
theorem dX8_turns_4 : decode cX8_turns 4 = .ok (.iload_n 1, 1) := by decide +kernel
theorem dX8_turns_5 : decode cX8_turns 5 = .ok (.aload_n 0, 1) := by decide +kernel
theorem dX8_turns_6 : decode cX8_turns 6 = .ok (.getfield 12, 3) := by decide +kernel
theorem dX8_turns_9 : decode cX8_turns 9 = .ok (.getfield 66, 3) := by decide +kernel
theorem dX8_turns_12 : decode cX8_turns 12 = .ok (.getfield 70, 3) := by decide +kernel
theorem dX8_turns_15 : decode cX8_turns 15 = .ok (.if_icmp .lt 7, 3) := by decide +kernel
theorem dX8_turns_18 : decode cX8_turns 18 = .ok (.ldc2_w 117, 3) := by decide +kernel
theorem dX8_turns_21 : decode cX8_turns 21 = .ok (.lreturn, 1) := by decide +kernel
theorem dX8_turns_22 : decode cX8_turns 22 = .ok (.aload_n 0, 1) := by decide +kernel
theorem dX8_turns_23 : decode cX8_turns 23 = .ok (.getfield 12, 3) := by decide +kernel
theorem dX8_turns_26 : decode cX8_turns 26 = .ok (.getfield 55, 3) := by decide +kernel
theorem dX8_turns_29 : decode cX8_turns 29 = .ok (.getfield 119, 3) := by decide +kernel
theorem dX8_turns_32 : decode cX8_turns 32 = .ok (.i2l, 1) := by decide +kernel
theorem dX8_turns_33 : decode cX8_turns 33 = .ok (.aload_n 0, 1) := by decide +kernel
theorem dX8_turns_34 : decode cX8_turns 34 = .ok (.getfield 12, 3) := by decide +kernel
theorem dX8_turns_37 : decode cX8_turns 37 = .ok (.getfield 66, 3) := by decide +kernel
theorem dX8_turns_40 : decode cX8_turns 40 = .ok (.iload_n 1, 1) := by decide +kernel
theorem dX8_turns_41 : decode cX8_turns 41 = .ok (.invokevirtual 122, 3) := by decide +kernel
theorem dX8_turns_44 : decode cX8_turns 44 = .ok (.iload_n 2, 1) := by decide +kernel
theorem dX8_turns_45 : decode cX8_turns 45 = .ok (.invokestatic 126, 3) := by decide +kernel
theorem dX8_turns_48 : decode cX8_turns 48 = .ok (.lreturn, 1) := by decide +kernel
theorem dX8_energy_0 : decode cX8_energy 0 = .ok (.iload_n 1, 1) := by decide +kernel
theorem dX8_energy_1 : decode cX8_energy 1 = .ok (.iconst 4, 1) := by decide +kernel
theorem dX8_energy_2 : decode cX8_energy 2 = .ok (.if_icmp .ne 14, 3) := by decide +kernel
theorem dX8_energy_5 : decode cX8_energy 5 = .ok (.aload_n 0, 1) := by decide +kernel
theorem dX8_energy_6 : decode cX8_energy 6 = .ok (.getfield 12, 3) := by decide +kernel
theorem dX8_energy_9 : decode cX8_energy 9 = .ok (.getfield 55, 3) := by decide +kernel
theorem dX8_energy_12 : decode cX8_energy 12 = .ok (.invokevirtual 130, 3) := by decide +kernel
theorem dX8_energy_15 : decode cX8_energy 15 = .ok (.lreturn, 1) := by decide +kernel
theorem dX8_energy_16 : decode cX8_energy 16 = .ok (.iload_n 1, 1) := by decide +kernel
theorem dX8_energy_17 : decode cX8_energy 17 = .ok (.ifCond .lt 33, 3) := by decide +kernel
theorem dX8_energy_20 : decode cX8_energy 20 = .ok (.iload_n 1, 1) := by decide +kernel
theorem dX8_energy_21 : decode cX8_energy 21 = .ok (.aload_n 0, 1) := by decide +kernel
theorem dX8_energy_22 : decode cX8_energy 22 = .ok (.getfield 12, 3) := by decide +kernel
theorem dX8_energy_25 : decode cX8_energy 25 = .ok (.getfield 55, 3) := by decide +kernel
theorem dX8_energy_28 : decode cX8_energy 28 = .ok (.getfield 134, 3) := by decide +kernel
theorem dX8_energy_31 : decode cX8_energy 31 = .ok (.arraylength, 1) := by decide +kernel
theorem dX8_energy_32 : decode cX8_energy 32 = .ok (.if_icmp .ge 18, 3) := by decide +kernel
theorem dX8_energy_35 : decode cX8_energy 35 = .ok (.aload_n 0, 1) := by decide +kernel
theorem dX8_energy_36 : decode cX8_energy 36 = .ok (.getfield 12, 3) := by decide +kernel
theorem dX8_energy_39 : decode cX8_energy 39 = .ok (.getfield 55, 3) := by decide +kernel
theorem dX8_energy_42 : decode cX8_energy 42 = .ok (.getfield 134, 3) := by decide +kernel
theorem dX8_energy_45 : decode cX8_energy 45 = .ok (.iload_n 1, 1) := by decide +kernel
theorem dX8_energy_46 : decode cX8_energy 46 = .ok (.laload, 1) := by decide +kernel
theorem dX8_energy_47 : decode cX8_energy 47 = .ok (.goto 6, 3) := by decide +kernel
theorem dX8_energy_50 : decode cX8_energy 50 = .ok (.ldc2_w 117, 3) := by decide +kernel
theorem dX8_energy_53 : decode cX8_energy 53 = .ok (.lreturn, 1) := by decide +kernel
theorem dX8_feed_0 : decode cX8_feed 0 = .ok (.iload_n 1, 1) := by decide +kernel
theorem dX8_feed_1 : decode cX8_feed 1 = .ok (.iconst 0, 1) := by decide +kernel
theorem dX8_feed_2 : decode cX8_feed 2 = .ok (.bipush 127, 2) := by decide +kernel
theorem dX8_feed_4 : decode cX8_feed 4 = .ok (.invokestatic 80, 3) := by decide +kernel
theorem dX8_feed_7 : decode cX8_feed 7 = .ok (.ifCond .ne 6, 3) := by decide +kernel
theorem dX8_feed_10 : decode cX8_feed 10 = .ok (.bipush (-2), 2) := by decide +kernel
theorem dX8_feed_12 : decode cX8_feed 12 = .ok (.ireturn, 1) := by decide +kernel
theorem dX8_feed_13 : decode cX8_feed 13 = .ok (.aload_n 0, 1) := by decide +kernel
theorem dX8_feed_14 : decode cX8_feed 14 = .ok (.getfield 40, 3) := by decide +kernel
theorem dX8_feed_17 : decode cX8_feed 17 = .ok (.getfield 138, 3) := by decide +kernel
theorem dX8_feed_20 : decode cX8_feed 20 = .ok (.bipush 100, 2) := by decide +kernel
theorem dX8_feed_22 : decode cX8_feed 22 = .ok (.if_icmp .lt 6, 3) := by decide +kernel
theorem dX8_feed_25 : decode cX8_feed 25 = .ok (.bipush (-4), 2) := by decide +kernel
theorem dX8_feed_27 : decode cX8_feed 27 = .ok (.ireturn, 1) := by decide +kernel
theorem dX8_feed_28 : decode cX8_feed 28 = .ok (.aload_n 0, 1) := by decide +kernel
theorem dX8_feed_29 : decode cX8_feed 29 = .ok (.getfield 40, 3) := by decide +kernel
theorem dX8_feed_32 : decode cX8_feed 32 = .ok (.iload_n 1, 1) := by decide +kernel
theorem dX8_feed_33 : decode cX8_feed 33 = .ok (.invokevirtual 141, 3) := by decide +kernel
theorem dX8_feed_36 : decode cX8_feed 36 = .ok (.aload_n 0, 1) := by decide +kernel
theorem dX8_feed_37 : decode cX8_feed 37 = .ok (.getfield 40, 3) := by decide +kernel
theorem dX8_feed_40 : decode cX8_feed 40 = .ok (.getfield 138, 3) := by decide +kernel
theorem dX8_feed_43 : decode cX8_feed 43 = .ok (.ireturn, 1) := by decide +kernel
theorem dX8_read_0 : decode cX8_read 0 = .ok (.aload_n 0, 1) := by decide +kernel
theorem dX8_read_1 : decode cX8_read 1 = .ok (.getfield 40, 3) := by decide +kernel
theorem dX8_read_4 : decode cX8_read 4 = .ok (.invokevirtual 142, 3) := by decide +kernel
theorem dX8_read_7 : decode cX8_read 7 = .ok (.istore_n 1, 1) := by decide +kernel
theorem dX8_read_8 : decode cX8_read 8 = .ok (.aload_n 0, 1) := by decide +kernel
theorem dX8_read_9 : decode cX8_read 9 = .ok (.getfield 40, 3) := by decide +kernel
theorem dX8_read_12 : decode cX8_read 12 = .ok (.iconst 0, 1) := by decide +kernel
theorem dX8_read_13 : decode cX8_read 13 = .ok (.putfield 138, 3) := by decide +kernel
theorem dX8_read_16 : decode cX8_read 16 = .ok (.iload_n 1, 1) := by decide +kernel
theorem dX8_read_17 : decode cX8_read 17 = .ok (.iconst (-1), 1) := by decide +kernel
theorem dX8_read_18 : decode cX8_read 18 = .ok (.if_icmp .eq 8, 3) := by decide +kernel
theorem dX8_read_21 : decode cX8_read 21 = .ok (.bipush (-10), 2) := by decide +kernel
theorem dX8_read_23 : decode cX8_read 23 = .ok (.iload_n 1, 1) := by decide +kernel
theorem dX8_read_24 : decode cX8_read 24 = .ok (.isub, 1) := by decide +kernel
theorem dX8_read_25 : decode cX8_read 25 = .ok (.ireturn, 1) := by decide +kernel
theorem dX8_read_26 : decode cX8_read 26 = .ok (.iconst 0, 1) := by decide +kernel
theorem dX8_read_27 : decode cX8_read 27 = .ok (.istore_n 2, 1) := by decide +kernel
theorem dX8_read_28 : decode cX8_read 28 = .ok (.iconst 0, 1) := by decide +kernel
theorem dX8_read_29 : decode cX8_read 29 = .ok (.istore_n 3, 1) := by decide +kernel
theorem dX8_read_30 : decode cX8_read 30 = .ok (.iload_n 3, 1) := by decide +kernel
theorem dX8_read_31 : decode cX8_read 31 = .ok (.aload_n 0, 1) := by decide +kernel
theorem dX8_read_32 : decode cX8_read 32 = .ok (.getfield 40, 3) := by decide +kernel
theorem dX8_read_35 : decode cX8_read 35 = .ok (.getfield 146, 3) := by decide +kernel
theorem dX8_read_38 : decode cX8_read 38 = .ok (.if_icmp .ge 43, 3) := by decide +kernel
theorem dX8_read_41 : decode cX8_read 41 = .ok (.iload_n 3, 1) := by decide +kernel
theorem dX8_read_42 : decode cX8_read 42 = .ok (.bipush 12, 2) := by decide +kernel
theorem dX8_read_44 : decode cX8_read 44 = .ok (.if_icmp .ge 37, 3) := by decide +kernel
theorem dX8_read_47 : decode cX8_read 47 = .ok (.aload_n 0, 1) := by decide +kernel
theorem dX8_read_48 : decode cX8_read 48 = .ok (.aload_n 0, 1) := by decide +kernel
theorem dX8_read_49 : decode cX8_read 49 = .ok (.getfield 40, 3) := by decide +kernel
theorem dX8_read_52 : decode cX8_read 52 = .ok (.getfield 149, 3) := by decide +kernel
theorem dX8_read_55 : decode cX8_read 55 = .ok (.iload_n 3, 1) := by decide +kernel
theorem dX8_read_56 : decode cX8_read 56 = .ok (.iaload, 1) := by decide +kernel
theorem dX8_read_57 : decode cX8_read 57 = .ok (.aload_n 0, 1) := by decide +kernel
theorem dX8_read_58 : decode cX8_read 58 = .ok (.getfield 40, 3) := by decide +kernel
theorem dX8_read_61 : decode cX8_read 61 = .ok (.getfield 150, 3) := by decide +kernel
theorem dX8_read_64 : decode cX8_read 64 = .ok (.iload_n 3, 1) := by decide +kernel
theorem dX8_read_65 : decode cX8_read 65 = .ok (.iaload, 1) := by decide +kernel
theorem dX8_read_66 : decode cX8_read 66 = .ok (.invokevirtual 153, 3) := by decide +kernel
theorem dX8_read_69 : decode cX8_read 69 = .ok (.ifCond .eq 6, 3) := by decide +kernel
theorem dX8_read_72 : decode cX8_read 72 = .ok (.iinc 2 1, 3) := by decide +kernel
theorem dX8_read_75 : decode cX8_read 75 = .ok (.iinc 3 1, 3) := by decide +kernel
theorem dX8_read_78 : decode cX8_read 78 = .ok (.goto (-48), 3) := by decide +kernel
theorem dX8_read_81 : decode cX8_read 81 = .ok (.iload_n 2, 1) := by decide +kernel
theorem dX8_read_82 : decode cX8_read 82 = .ok (.ireturn, 1) := by decide +kernel
theorem dX8_ahead_0 : decode cX8_ahead 0 = .ok (.iload_n 1, 1) := by decide +kernel
theorem dX8_ahead_1 : decode cX8_ahead 1 = .ok (.iconst 0, 1) := by decide +kernel
theorem dX8_ahead_2 : decode cX8_ahead 2 = .ok (.sipush 400, 3) := by decide +kernel
theorem dX8_ahead_5 : decode cX8_ahead 5 = .ok (.invokestatic 80, 3) := by decide +kernel
theorem dX8_ahead_8 : decode cX8_ahead 8 = .ok (.ifCond .eq 15, 3) := by decide +kernel
theorem dX8_ahead_11 : decode cX8_ahead 11 = .ok (.iload_n 2, 1) := by decide +kernel
theorem dX8_ahead_12 : decode cX8_ahead 12 = .ok (.ifCond .lt 11, 3) := by decide +kernel
theorem dX8_ahead_15 : decode cX8_ahead 15 = .ok (.iload_n 2, 1) := by decide +kernel
theorem dX8_ahead_16 : decode cX8_ahead 16 = .ok (.getstatic 156, 3) := by decide +kernel
theorem dX8_ahead_19 : decode cX8_ahead 19 = .ok (.arraylength, 1) := by decide +kernel
theorem dX8_ahead_20 : decode cX8_ahead 20 = .ok (.if_icmp .lt 7, 3) := by decide +kernel
theorem dX8_ahead_23 : decode cX8_ahead 23 = .ok (.sipush (-1000), 3) := by decide +kernel
theorem dX8_ahead_26 : decode cX8_ahead 26 = .ok (.ireturn, 1) := by decide +kernel
theorem dX8_ahead_27 : decode cX8_ahead 27 = .ok (.aload_n 0, 1) := by decide +kernel
theorem dX8_ahead_28 : decode cX8_ahead 28 = .ok (.iload_n 1, 1) := by decide +kernel
theorem dX8_ahead_29 : decode cX8_ahead 29 = .ok (.invokevirtual 159, 3) := by decide +kernel
theorem dX8_ahead_32 : decode cX8_ahead 32 = .ok (.aload_n 0, 1) := by decide +kernel
theorem dX8_ahead_33 : decode cX8_ahead 33 = .ok (.getfield 26, 3) := by decide +kernel
theorem dX8_ahead_36 : decode cX8_ahead 36 = .ok (.getstatic 156, 3) := by decide +kernel
theorem dX8_ahead_39 : decode cX8_ahead 39 = .ok (.iload_n 2, 1) := by decide +kernel
theorem dX8_ahead_40 : decode cX8_ahead 40 = .ok (.iaload, 1) := by decide +kernel
theorem dX8_ahead_41 : decode cX8_ahead 41 = .ok (.invokevirtual 58, 3) := by decide +kernel
theorem dX8_ahead_44 : decode cX8_ahead 44 = .ok (.ireturn, 1) := by decide +kernel
theorem dX8_energyAt_0 : decode cX8_energyAt 0 = .ok (.iload_n 1, 1) := by decide +kernel
theorem dX8_energyAt_1 : decode cX8_energyAt 1 = .ok (.iconst 0, 1) := by decide +kernel
theorem dX8_energyAt_2 : decode cX8_energyAt 2 = .ok (.sipush 400, 3) := by decide +kernel
theorem dX8_energyAt_5 : decode cX8_energyAt 5 = .ok (.invokestatic 80, 3) := by decide +kernel
theorem dX8_energyAt_8 : decode cX8_energyAt 8 = .ok (.ifCond .ne 7, 3) := by decide +kernel
theorem dX8_energyAt_11 : decode cX8_energyAt 11 = .ok (.ldc2_w 117, 3) := by decide +kernel
theorem dX8_energyAt_14 : decode cX8_energyAt 14 = .ok (.lreturn, 1) := by decide +kernel
theorem dX8_energyAt_15 : decode cX8_energyAt 15 = .ok (.aload_n 0, 1) := by decide +kernel
theorem dX8_energyAt_16 : decode cX8_energyAt 16 = .ok (.iload_n 1, 1) := by decide +kernel
theorem dX8_energyAt_17 : decode cX8_energyAt 17 = .ok (.invokevirtual 159, 3) := by decide +kernel
theorem dX8_energyAt_20 : decode cX8_energyAt 20 = .ok (.aload_n 0, 1) := by decide +kernel
theorem dX8_energyAt_21 : decode cX8_energyAt 21 = .ok (.getfield 26, 3) := by decide +kernel
theorem dX8_energyAt_24 : decode cX8_energyAt 24 = .ok (.invokevirtual 130, 3) := by decide +kernel
theorem dX8_energyAt_27 : decode cX8_energyAt 27 = .ok (.lreturn, 1) := by decide +kernel
theorem dX8_heard_0 : decode cX8_heard 0 = .ok (.iload_n 1, 1) := by decide +kernel
theorem dX8_heard_1 : decode cX8_heard 1 = .ok (.ifCond .ge 5, 3) := by decide +kernel
theorem dX8_heard_4 : decode cX8_heard 4 = .ok (.iconst (-1), 1) := by decide +kernel
theorem dX8_heard_5 : decode cX8_heard 5 = .ok (.ireturn, 1) := by decide +kernel
theorem dX8_heard_6 : decode cX8_heard 6 = .ok (.aload_n 0, 1) := by decide +kernel
theorem dX8_heard_7 : decode cX8_heard 7 = .ok (.invokevirtual 162, 3) := by decide +kernel
theorem dX8_heard_10 : decode cX8_heard 10 = .ok (.aload_n 0, 1) := by decide +kernel
theorem dX8_heard_11 : decode cX8_heard 11 = .ok (.getfield 33, 3) := by decide +kernel
theorem dX8_heard_14 : decode cX8_heard 14 = .ok (.iload_n 1, 1) := by decide +kernel
theorem dX8_heard_15 : decode cX8_heard 15 = .ok (.invokevirtual 165, 3) := by decide +kernel
theorem dX8_heard_18 : decode cX8_heard 18 = .ok (.ireturn, 1) := by decide +kernel
theorem dX8_beat_0 : decode cX8_beat 0 = .ok (.iload_n 1, 1) := by decide +kernel
theorem dX8_beat_1 : decode cX8_beat 1 = .ok (.iconst 0, 1) := by decide +kernel
theorem dX8_beat_2 : decode cX8_beat 2 = .ok (.iconst 4, 1) := by decide +kernel
theorem dX8_beat_3 : decode cX8_beat 3 = .ok (.invokestatic 80, 3) := by decide +kernel
theorem dX8_beat_6 : decode cX8_beat 6 = .ok (.ifCond .ne 7, 3) := by decide +kernel
theorem dX8_beat_9 : decode cX8_beat 9 = .ok (.sipush (-1000), 3) := by decide +kernel
theorem dX8_beat_12 : decode cX8_beat 12 = .ok (.ireturn, 1) := by decide +kernel
theorem dX8_beat_13 : decode cX8_beat 13 = .ok (.iload_n 1, 1) := by decide +kernel
theorem dX8_beat_14 : decode cX8_beat 14 = .ok (.iconst 3, 1) := by decide +kernel
theorem dX8_beat_15 : decode cX8_beat 15 = .ok (.if_icmp .ne 8, 3) := by decide +kernel
theorem dX8_beat_18 : decode cX8_beat 18 = .ok (.aload_n 0, 1) := by decide +kernel
theorem dX8_beat_19 : decode cX8_beat 19 = .ok (.invokevirtual 168, 3) := by decide +kernel
theorem dX8_beat_22 : decode cX8_beat 22 = .ok (.ireturn, 1) := by decide +kernel
theorem dX8_beat_23 : decode cX8_beat 23 = .ok (.aload_n 0, 1) := by decide +kernel
theorem dX8_beat_24 : decode cX8_beat 24 = .ok (.invokevirtual 162, 3) := by decide +kernel
theorem dX8_beat_27 : decode cX8_beat 27 = .ok (.iload_n 1, 1) := by decide +kernel
theorem dX8_beat_28 : decode cX8_beat 28 = .ok (.tableswitch 52 0 2 #[28, 36, 44], 28) := by decide +kernel
theorem dX8_beat_56 : decode cX8_beat 56 = .ok (.aload_n 0, 1) := by decide +kernel
theorem dX8_beat_57 : decode cX8_beat 57 = .ok (.getfield 33, 3) := by decide +kernel
theorem dX8_beat_60 : decode cX8_beat 60 = .ok (.getfield 171, 3) := by decide +kernel
theorem dX8_beat_63 : decode cX8_beat 63 = .ok (.ireturn, 1) := by decide +kernel
theorem dX8_beat_64 : decode cX8_beat 64 = .ok (.aload_n 0, 1) := by decide +kernel
theorem dX8_beat_65 : decode cX8_beat 65 = .ok (.getfield 33, 3) := by decide +kernel
theorem dX8_beat_68 : decode cX8_beat 68 = .ok (.invokevirtual 172, 3) := by decide +kernel
theorem dX8_beat_71 : decode cX8_beat 71 = .ok (.ireturn, 1) := by decide +kernel
theorem dX8_beat_72 : decode cX8_beat 72 = .ok (.aload_n 0, 1) := by decide +kernel
theorem dX8_beat_73 : decode cX8_beat 73 = .ok (.getfield 33, 3) := by decide +kernel
theorem dX8_beat_76 : decode cX8_beat 76 = .ok (.invokevirtual 175, 3) := by decide +kernel
theorem dX8_beat_79 : decode cX8_beat 79 = .ok (.ireturn, 1) := by decide +kernel
theorem dX8_beat_80 : decode cX8_beat 80 = .ok (.aload_n 0, 1) := by decide +kernel
theorem dX8_beat_81 : decode cX8_beat 81 = .ok (.getfield 33, 3) := by decide +kernel
theorem dX8_beat_84 : decode cX8_beat 84 = .ok (.getfield 171, 3) := by decide +kernel
theorem dX8_beat_87 : decode cX8_beat 87 = .ok (.ifCond .ne 9, 3) := by decide +kernel
theorem dX8_beat_90 : decode cX8_beat 90 = .ok (.sipush (-500), 3) := by decide +kernel
theorem dX8_beat_93 : decode cX8_beat 93 = .ok (.goto 19, 3) := by decide +kernel
theorem dX8_beat_96 : decode cX8_beat 96 = .ok (.aload_n 0, 1) := by decide +kernel
theorem dX8_beat_97 : decode cX8_beat 97 = .ok (.getfield 33, 3) := by decide +kernel
theorem dX8_beat_100 : decode cX8_beat 100 = .ok (.aload_n 0, 1) := by decide +kernel
theorem dX8_beat_101 : decode cX8_beat 101 = .ok (.getfield 33, 3) := by decide +kernel
theorem dX8_beat_104 : decode cX8_beat 104 = .ok (.getfield 171, 3) := by decide +kernel
theorem dX8_beat_107 : decode cX8_beat 107 = .ok (.iconst 1, 1) := by decide +kernel
theorem dX8_beat_108 : decode cX8_beat 108 = .ok (.isub, 1) := by decide +kernel
theorem dX8_beat_109 : decode cX8_beat 109 = .ok (.invokevirtual 165, 3) := by decide +kernel
theorem dX8_beat_112 : decode cX8_beat 112 = .ok (.ireturn, 1) := by decide +kernel
theorem dX8_gap_0 : decode cX8_gap 0 = .ok (.iload_n 1, 1) := by decide +kernel
theorem dX8_gap_1 : decode cX8_gap 1 = .ok (.ifCond .ge 5, 3) := by decide +kernel
theorem dX8_gap_4 : decode cX8_gap 4 = .ok (.iconst (-1), 1) := by decide +kernel
theorem dX8_gap_5 : decode cX8_gap 5 = .ok (.ireturn, 1) := by decide +kernel
theorem dX8_gap_6 : decode cX8_gap 6 = .ok (.aload_n 0, 1) := by decide +kernel
theorem dX8_gap_7 : decode cX8_gap 7 = .ok (.invokevirtual 162, 3) := by decide +kernel
theorem dX8_gap_10 : decode cX8_gap 10 = .ok (.aload_n 0, 1) := by decide +kernel
theorem dX8_gap_11 : decode cX8_gap 11 = .ok (.getfield 33, 3) := by decide +kernel
theorem dX8_gap_14 : decode cX8_gap 14 = .ok (.iload_n 1, 1) := by decide +kernel
theorem dX8_gap_15 : decode cX8_gap 15 = .ok (.invokevirtual 178, 3) := by decide +kernel
theorem dX8_gap_18 : decode cX8_gap 18 = .ok (.ireturn, 1) := by decide +kernel
theorem dX8_longest_0 : decode cX8_longest 0 = .ok (.iload_n 1, 1) := by decide +kernel
theorem dX8_longest_1 : decode cX8_longest 1 = .ok (.ifCond .lt 12, 3) := by decide +kernel
theorem dX8_longest_4 : decode cX8_longest 4 = .ok (.iload_n 2, 1) := by decide +kernel
theorem dX8_longest_5 : decode cX8_longest 5 = .ok (.iconst 0, 1) := by decide +kernel
theorem dX8_longest_6 : decode cX8_longest 6 = .ok (.iconst 1, 1) := by decide +kernel
theorem dX8_longest_7 : decode cX8_longest 7 = .ok (.invokestatic 80, 3) := by decide +kernel
theorem dX8_longest_10 : decode cX8_longest 10 = .ok (.ifCond .ne 5, 3) := by decide +kernel
theorem dX8_longest_13 : decode cX8_longest 13 = .ok (.iconst (-1), 1) := by decide +kernel
theorem dX8_longest_14 : decode cX8_longest 14 = .ok (.ireturn, 1) := by decide +kernel
theorem dX8_longest_15 : decode cX8_longest 15 = .ok (.aload_n 0, 1) := by decide +kernel
theorem dX8_longest_16 : decode cX8_longest 16 = .ok (.invokevirtual 162, 3) := by decide +kernel
theorem dX8_longest_19 : decode cX8_longest 19 = .ok (.aload_n 0, 1) := by decide +kernel
theorem dX8_longest_20 : decode cX8_longest 20 = .ok (.getfield 33, 3) := by decide +kernel
theorem dX8_longest_23 : decode cX8_longest 23 = .ok (.iload_n 1, 1) := by decide +kernel
theorem dX8_longest_24 : decode cX8_longest 24 = .ok (.invokevirtual 181, 3) := by decide +kernel
theorem dX8_longest_27 : decode cX8_longest 27 = .ok (.istore_n 3, 1) := by decide +kernel
theorem dX8_longest_28 : decode cX8_longest 28 = .ok (.iload_n 2, 1) := by decide +kernel
theorem dX8_longest_29 : decode cX8_longest 29 = .ok (.iconst 1, 1) := by decide +kernel
theorem dX8_longest_30 : decode cX8_longest 30 = .ok (.if_icmp .eq 9, 3) := by decide +kernel
theorem dX8_longest_33 : decode cX8_longest 33 = .ok (.iload_n 3, 1) := by decide +kernel
theorem dX8_longest_34 : decode cX8_longest 34 = .ok (.bipush (-5), 2) := by decide +kernel
theorem dX8_longest_36 : decode cX8_longest 36 = .ok (.if_icmp .ne 7, 3) := by decide +kernel
theorem dX8_longest_39 : decode cX8_longest 39 = .ok (.iload_n 3, 1) := by decide +kernel
theorem dX8_longest_40 : decode cX8_longest 40 = .ok (.goto 11, 3) := by decide +kernel
theorem dX8_longest_43 : decode cX8_longest 43 = .ok (.aload_n 0, 1) := by decide +kernel
theorem dX8_longest_44 : decode cX8_longest 44 = .ok (.getfield 33, 3) := by decide +kernel
theorem dX8_longest_47 : decode cX8_longest 47 = .ok (.iload_n 3, 1) := by decide +kernel
theorem dX8_longest_48 : decode cX8_longest 48 = .ok (.invokevirtual 178, 3) := by decide +kernel
theorem dX8_longest_51 : decode cX8_longest 51 = .ok (.ireturn, 1) := by decide +kernel
theorem dX8_see_0 : decode cX8_see 0 = .ok (.iload_n 1, 1) := by decide +kernel
theorem dX8_see_1 : decode cX8_see 1 = .ok (.iconst (-1), 1) := by decide +kernel
theorem dX8_see_2 : decode cX8_see 2 = .ok (.if_icmp .ne 16, 3) := by decide +kernel
theorem dX8_see_5 : decode cX8_see 5 = .ok (.aload_n 0, 1) := by decide +kernel
theorem dX8_see_6 : decode cX8_see 6 = .ok (.getfield 12, 3) := by decide +kernel
theorem dX8_see_9 : decode cX8_see 9 = .ok (.getfield 184, 3) := by decide +kernel
theorem dX8_see_12 : decode cX8_see 12 = .ok (.iconst 0, 1) := by decide +kernel
theorem dX8_see_13 : decode cX8_see 13 = .ok (.putfield 188, 3) := by decide +kernel
theorem dX8_see_16 : decode cX8_see 16 = .ok (.iconst 0, 1) := by decide +kernel
theorem dX8_see_17 : decode cX8_see 17 = .ok (.ireturn, 1) := by decide +kernel
theorem dX8_see_18 : decode cX8_see 18 = .ok (.iload_n 1, 1) := by decide +kernel
theorem dX8_see_19 : decode cX8_see 19 = .ok (.iconst 0, 1) := by decide +kernel
theorem dX8_see_20 : decode cX8_see 20 = .ok (.sipush 400, 3) := by decide +kernel
theorem dX8_see_23 : decode cX8_see 23 = .ok (.invokestatic 80, 3) := by decide +kernel
theorem dX8_see_26 : decode cX8_see 26 = .ok (.ifCond .eq 16, 3) := by decide +kernel
theorem dX8_see_29 : decode cX8_see 29 = .ok (.iload_n 2, 1) := by decide +kernel
theorem dX8_see_30 : decode cX8_see 30 = .ok (.sipush (-300), 3) := by decide +kernel
theorem dX8_see_33 : decode cX8_see 33 = .ok (.sipush 300, 3) := by decide +kernel
theorem dX8_see_36 : decode cX8_see 36 = .ok (.invokestatic 80, 3) := by decide +kernel
theorem dX8_see_39 : decode cX8_see 39 = .ok (.ifCond .ne 6, 3) := by decide +kernel
theorem dX8_see_42 : decode cX8_see 42 = .ok (.bipush (-2), 2) := by decide +kernel
theorem dX8_see_44 : decode cX8_see 44 = .ok (.ireturn, 1) := by decide +kernel
theorem dX8_see_45 : decode cX8_see 45 = .ok (.aload_n 0, 1) := by decide +kernel
theorem dX8_see_46 : decode cX8_see 46 = .ok (.getfield 12, 3) := by decide +kernel
theorem dX8_see_49 : decode cX8_see 49 = .ok (.getfield 184, 3) := by decide +kernel
theorem dX8_see_52 : decode cX8_see 52 = .ok (.getfield 188, 3) := by decide +kernel
theorem dX8_see_55 : decode cX8_see 55 = .ok (.iconst 5, 1) := by decide +kernel
theorem dX8_see_56 : decode cX8_see 56 = .ok (.if_icmp .lt 6, 3) := by decide +kernel
theorem dX8_see_59 : decode cX8_see 59 = .ok (.bipush (-4), 2) := by decide +kernel
theorem dX8_see_61 : decode cX8_see 61 = .ok (.ireturn, 1) := by decide +kernel
theorem dX8_see_62 : decode cX8_see 62 = .ok (.aload_n 0, 1) := by decide +kernel
theorem dX8_see_63 : decode cX8_see 63 = .ok (.getfield 12, 3) := by decide +kernel
theorem dX8_see_66 : decode cX8_see 66 = .ok (.getfield 184, 3) := by decide +kernel
theorem dX8_see_69 : decode cX8_see 69 = .ok (.iload_n 1, 1) := by decide +kernel
theorem dX8_see_70 : decode cX8_see 70 = .ok (.iload_n 2, 1) := by decide +kernel
theorem dX8_see_71 : decode cX8_see 71 = .ok (.invokevirtual 193, 3) := by decide +kernel
theorem dX8_see_74 : decode cX8_see 74 = .ok (.aload_n 0, 1) := by decide +kernel
theorem dX8_see_75 : decode cX8_see 75 = .ok (.getfield 12, 3) := by decide +kernel
theorem dX8_see_78 : decode cX8_see 78 = .ok (.getfield 184, 3) := by decide +kernel
theorem dX8_see_81 : decode cX8_see 81 = .ok (.getfield 188, 3) := by decide +kernel
theorem dX8_see_84 : decode cX8_see 84 = .ok (.ireturn, 1) := by decide +kernel
theorem dX8_fits_0 : decode cX8_fits 0 = .ok (.iload_n 1, 1) := by decide +kernel
theorem dX8_fits_1 : decode cX8_fits 1 = .ok (.iconst 0, 1) := by decide +kernel
theorem dX8_fits_2 : decode cX8_fits 2 = .ok (.iconst 1, 1) := by decide +kernel
theorem dX8_fits_3 : decode cX8_fits 3 = .ok (.invokestatic 80, 3) := by decide +kernel
theorem dX8_fits_6 : decode cX8_fits 6 = .ok (.ifCond .ne 5, 3) := by decide +kernel
theorem dX8_fits_9 : decode cX8_fits 9 = .ok (.iconst (-1), 1) := by decide +kernel
theorem dX8_fits_10 : decode cX8_fits 10 = .ok (.ireturn, 1) := by decide +kernel
theorem dX8_fits_11 : decode cX8_fits 11 = .ok (.iconst 0, 1) := by decide +kernel
theorem dX8_fits_12 : decode cX8_fits 12 = .ok (.istore_n 2, 1) := by decide +kernel
theorem dX8_fits_13 : decode cX8_fits 13 = .ok (.bipush (-5), 2) := by decide +kernel
theorem dX8_fits_15 : decode cX8_fits 15 = .ok (.istore_n 3, 1) := by decide +kernel
theorem dX8_fits_16 : decode cX8_fits 16 = .ok (.iconst 1, 1) := by decide +kernel
theorem dX8_fits_17 : decode cX8_fits 17 = .ok (.istore 4, 2) := by decide +kernel
theorem dX8_fits_19 : decode cX8_fits 19 = .ok (.iload 4, 2) := by decide +kernel
theorem dX8_fits_21 : decode cX8_fits 21 = .ok (.bipush 32, 2) := by decide +kernel
theorem dX8_fits_23 : decode cX8_fits 23 = .ok (.if_icmp .gt 33, 3) := by decide +kernel
theorem dX8_fits_26 : decode cX8_fits 26 = .ok (.aload_n 0, 1) := by decide +kernel
theorem dX8_fits_27 : decode cX8_fits 27 = .ok (.iload 4, 2) := by decide +kernel
theorem dX8_fits_29 : decode cX8_fits 29 = .ok (.invokevirtual 195, 3) := by decide +kernel
theorem dX8_fits_32 : decode cX8_fits 32 = .ok (.ifCond .eq 18, 3) := by decide +kernel
theorem dX8_fits_35 : decode cX8_fits 35 = .ok (.iinc 2 1, 3) := by decide +kernel
theorem dX8_fits_38 : decode cX8_fits 38 = .ok (.iload_n 2, 1) := by decide +kernel
theorem dX8_fits_39 : decode cX8_fits 39 = .ok (.iconst 1, 1) := by decide +kernel
theorem dX8_fits_40 : decode cX8_fits 40 = .ok (.if_icmp .ne 8, 3) := by decide +kernel
theorem dX8_fits_43 : decode cX8_fits 43 = .ok (.iload 4, 2) := by decide +kernel
theorem dX8_fits_45 : decode cX8_fits 45 = .ok (.goto 4, 3) := by decide +kernel
theorem dX8_fits_48 : decode cX8_fits 48 = .ok (.iload_n 3, 1) := by decide +kernel
theorem dX8_fits_49 : decode cX8_fits 49 = .ok (.istore_n 3, 1) := by decide +kernel
theorem dX8_fits_50 : decode cX8_fits 50 = .ok (.iinc 4 1, 3) := by decide +kernel
theorem dX8_fits_53 : decode cX8_fits 53 = .ok (.goto (-34), 3) := by decide +kernel
theorem dX8_fits_56 : decode cX8_fits 56 = .ok (.iload_n 1, 1) := by decide +kernel
theorem dX8_fits_57 : decode cX8_fits 57 = .ok (.ifCond .ne 7, 3) := by decide +kernel
theorem dX8_fits_60 : decode cX8_fits 60 = .ok (.iload_n 2, 1) := by decide +kernel
theorem dX8_fits_61 : decode cX8_fits 61 = .ok (.goto 4, 3) := by decide +kernel
theorem dX8_fits_64 : decode cX8_fits 64 = .ok (.iload_n 3, 1) := by decide +kernel
theorem dX8_fits_65 : decode cX8_fits 65 = .ok (.ireturn, 1) := by decide +kernel
theorem dX8_odds_0 : decode cX8_odds 0 = .ok (.iload_n 1, 1) := by decide +kernel
theorem dX8_odds_1 : decode cX8_odds 1 = .ok (.iconst 0, 1) := by decide +kernel
theorem dX8_odds_2 : decode cX8_odds 2 = .ok (.bipush 99, 2) := by decide +kernel
theorem dX8_odds_4 : decode cX8_odds 4 = .ok (.invokestatic 80, 3) := by decide +kernel
theorem dX8_odds_7 : decode cX8_odds 7 = .ok (.ifCond .eq 12, 3) := by decide +kernel
theorem dX8_odds_10 : decode cX8_odds 10 = .ok (.iload_n 2, 1) := by decide +kernel
theorem dX8_odds_11 : decode cX8_odds 11 = .ok (.iconst 0, 1) := by decide +kernel
theorem dX8_odds_12 : decode cX8_odds 12 = .ok (.iconst 1, 1) := by decide +kernel
theorem dX8_odds_13 : decode cX8_odds 13 = .ok (.invokestatic 80, 3) := by decide +kernel
theorem dX8_odds_16 : decode cX8_odds 16 = .ok (.ifCond .ne 7, 3) := by decide +kernel
theorem dX8_odds_19 : decode cX8_odds 19 = .ok (.ldc2_w 117, 3) := by decide +kernel
theorem dX8_odds_22 : decode cX8_odds 22 = .ok (.lreturn, 1) := by decide +kernel
theorem dX8_odds_23 : decode cX8_odds 23 = .ok (.iconst 0, 1) := by decide +kernel
theorem dX8_odds_24 : decode cX8_odds 24 = .ok (.istore_n 3, 1) := by decide +kernel
theorem dX8_odds_25 : decode cX8_odds 25 = .ok (.bipush (-20), 2) := by decide +kernel
theorem dX8_odds_27 : decode cX8_odds 27 = .ok (.istore 4, 2) := by decide +kernel
theorem dX8_odds_29 : decode cX8_odds 29 = .ok (.iload 4, 2) := by decide +kernel
theorem dX8_odds_31 : decode cX8_odds 31 = .ok (.bipush 20, 2) := by decide +kernel
theorem dX8_odds_33 : decode cX8_odds 33 = .ok (.if_icmp .gt 30, 3) := by decide +kernel
theorem dX8_odds_36 : decode cX8_odds 36 = .ok (.aload_n 0, 1) := by decide +kernel
theorem dX8_odds_37 : decode cX8_odds 37 = .ok (.iconst 1, 1) := by decide +kernel
theorem dX8_odds_38 : decode cX8_odds 38 = .ok (.iload 4, 2) := by decide +kernel
theorem dX8_odds_40 : decode cX8_odds 40 = .ok (.invokevirtual 199, 3) := by decide +kernel
theorem dX8_odds_43 : decode cX8_odds 43 = .ok (.aload_n 0, 1) := by decide +kernel
theorem dX8_odds_44 : decode cX8_odds 44 = .ok (.getfield 33, 3) := by decide +kernel
theorem dX8_odds_47 : decode cX8_odds 47 = .ok (.getfield 171, 3) := by decide +kernel
theorem dX8_odds_50 : decode cX8_odds 50 = .ok (.iload_n 1, 1) := by decide +kernel
theorem dX8_odds_51 : decode cX8_odds 51 = .ok (.if_icmp .lt 6, 3) := by decide +kernel
theorem dX8_odds_54 : decode cX8_odds 54 = .ok (.iinc 3 1, 3) := by decide +kernel
theorem dX8_odds_57 : decode cX8_odds 57 = .ok (.iinc 4 4, 3) := by decide +kernel
theorem dX8_odds_60 : decode cX8_odds 60 = .ok (.goto (-31), 3) := by decide +kernel
theorem dX8_odds_63 : decode cX8_odds 63 = .ok (.iload_n 3, 1) := by decide +kernel
theorem dX8_odds_64 : decode cX8_odds 64 = .ok (.i2l, 1) := by decide +kernel
theorem dX8_odds_65 : decode cX8_odds 65 = .ok (.ldc2_w 202, 3) := by decide +kernel
theorem dX8_odds_68 : decode cX8_odds 68 = .ok (.iload_n 2, 1) := by decide +kernel
theorem dX8_odds_69 : decode cX8_odds 69 = .ok (.invokestatic 126, 3) := by decide +kernel
theorem dX8_odds_72 : decode cX8_odds 72 = .ok (.lreturn, 1) := by decide +kernel
theorem dX8_mean_0 : decode cX8_mean 0 = .ok (.aload_n 0, 1) := by decide +kernel
theorem dX8_mean_1 : decode cX8_mean 1 = .ok (.invokevirtual 162, 3) := by decide +kernel
theorem dX8_mean_4 : decode cX8_mean 4 = .ok (.aload_n 0, 1) := by decide +kernel
theorem dX8_mean_5 : decode cX8_mean 5 = .ok (.getfield 33, 3) := by decide +kernel
theorem dX8_mean_8 : decode cX8_mean 8 = .ok (.invokevirtual 172, 3) := by decide +kernel
theorem dX8_mean_11 : decode cX8_mean 11 = .ok (.istore_n 2, 1) := by decide +kernel
theorem dX8_mean_12 : decode cX8_mean 12 = .ok (.iload_n 2, 1) := by decide +kernel
theorem dX8_mean_13 : decode cX8_mean 13 = .ok (.ifCond .ne 7, 3) := by decide +kernel
theorem dX8_mean_16 : decode cX8_mean 16 = .ok (.ldc2_w 117, 3) := by decide +kernel
theorem dX8_mean_19 : decode cX8_mean 19 = .ok (.lreturn, 1) := by decide +kernel
theorem dX8_mean_20 : decode cX8_mean 20 = .ok (.aload_n 0, 1) := by decide +kernel
theorem dX8_mean_21 : decode cX8_mean 21 = .ok (.getfield 33, 3) := by decide +kernel
theorem dX8_mean_24 : decode cX8_mean 24 = .ok (.iload_n 2, 1) := by decide +kernel
theorem dX8_mean_25 : decode cX8_mean 25 = .ok (.invokevirtual 165, 3) := by decide +kernel
theorem dX8_mean_28 : decode cX8_mean 28 = .ok (.aload_n 0, 1) := by decide +kernel
theorem dX8_mean_29 : decode cX8_mean 29 = .ok (.getfield 33, 3) := by decide +kernel
theorem dX8_mean_32 : decode cX8_mean 32 = .ok (.iconst 0, 1) := by decide +kernel
theorem dX8_mean_33 : decode cX8_mean 33 = .ok (.invokevirtual 165, 3) := by decide +kernel
theorem dX8_mean_36 : decode cX8_mean 36 = .ok (.isub, 1) := by decide +kernel
theorem dX8_mean_37 : decode cX8_mean 37 = .ok (.i2l, 1) := by decide +kernel
theorem dX8_mean_38 : decode cX8_mean 38 = .ok (.iload_n 2, 1) := by decide +kernel
theorem dX8_mean_39 : decode cX8_mean 39 = .ok (.i2l, 1) := by decide +kernel
theorem dX8_mean_40 : decode cX8_mean 40 = .ok (.iload_n 1, 1) := by decide +kernel
theorem dX8_mean_41 : decode cX8_mean 41 = .ok (.invokestatic 126, 3) := by decide +kernel
theorem dX8_mean_44 : decode cX8_mean 44 = .ok (.lreturn, 1) := by decide +kernel
theorem dX8_book_0 : decode cX8_book 0 = .ok (.iload_n 1, 1) := by decide +kernel
theorem dX8_book_1 : decode cX8_book 1 = .ok (.iconst (-1), 1) := by decide +kernel
theorem dX8_book_2 : decode cX8_book 2 = .ok (.if_icmp .ne 16, 3) := by decide +kernel
theorem dX8_book_5 : decode cX8_book 5 = .ok (.aload_n 0, 1) := by decide +kernel
theorem dX8_book_6 : decode cX8_book 6 = .ok (.getfield 12, 3) := by decide +kernel
theorem dX8_book_9 : decode cX8_book 9 = .ok (.getfield 204, 3) := by decide +kernel
theorem dX8_book_12 : decode cX8_book 12 = .ok (.iconst 0, 1) := by decide +kernel
theorem dX8_book_13 : decode cX8_book 13 = .ok (.putfield 188, 3) := by decide +kernel
theorem dX8_book_16 : decode cX8_book 16 = .ok (.iconst 0, 1) := by decide +kernel
theorem dX8_book_17 : decode cX8_book 17 = .ok (.ireturn, 1) := by decide +kernel
theorem dX8_book_18 : decode cX8_book 18 = .ok (.iload_n 1, 1) := by decide +kernel
theorem dX8_book_19 : decode cX8_book 19 = .ok (.iconst 0, 1) := by decide +kernel
theorem dX8_book_20 : decode cX8_book 20 = .ok (.bipush 99, 2) := by decide +kernel
theorem dX8_book_22 : decode cX8_book 22 = .ok (.invokestatic 80, 3) := by decide +kernel
theorem dX8_book_25 : decode cX8_book 25 = .ok (.ifCond .eq 14, 3) := by decide +kernel
theorem dX8_book_28 : decode cX8_book 28 = .ok (.iload_n 2, 1) := by decide +kernel
theorem dX8_book_29 : decode cX8_book 29 = .ok (.iconst 0, 1) := by decide +kernel
theorem dX8_book_30 : decode cX8_book 30 = .ok (.sipush 400, 3) := by decide +kernel
theorem dX8_book_33 : decode cX8_book 33 = .ok (.invokestatic 80, 3) := by decide +kernel
theorem dX8_book_36 : decode cX8_book 36 = .ok (.ifCond .ne 6, 3) := by decide +kernel
theorem dX8_book_39 : decode cX8_book 39 = .ok (.bipush (-2), 2) := by decide +kernel
theorem dX8_book_41 : decode cX8_book 41 = .ok (.ireturn, 1) := by decide +kernel
theorem dX8_book_42 : decode cX8_book 42 = .ok (.aload_n 0, 1) := by decide +kernel
theorem dX8_book_43 : decode cX8_book 43 = .ok (.getfield 12, 3) := by decide +kernel
theorem dX8_book_46 : decode cX8_book 46 = .ok (.getfield 204, 3) := by decide +kernel
theorem dX8_book_49 : decode cX8_book 49 = .ok (.getfield 188, 3) := by decide +kernel
theorem dX8_book_52 : decode cX8_book 52 = .ok (.bipush 8, 2) := by decide +kernel
theorem dX8_book_54 : decode cX8_book 54 = .ok (.if_icmp .lt 6, 3) := by decide +kernel
theorem dX8_book_57 : decode cX8_book 57 = .ok (.bipush (-4), 2) := by decide +kernel
theorem dX8_book_59 : decode cX8_book 59 = .ok (.ireturn, 1) := by decide +kernel
theorem dX8_book_60 : decode cX8_book 60 = .ok (.aload_n 0, 1) := by decide +kernel
theorem dX8_book_61 : decode cX8_book 61 = .ok (.getfield 12, 3) := by decide +kernel
theorem dX8_book_64 : decode cX8_book 64 = .ok (.getfield 204, 3) := by decide +kernel
theorem dX8_book_67 : decode cX8_book 67 = .ok (.iload_n 1, 1) := by decide +kernel
theorem dX8_book_68 : decode cX8_book 68 = .ok (.iload_n 2, 1) := by decide +kernel
theorem dX8_book_69 : decode cX8_book 69 = .ok (.invokevirtual 193, 3) := by decide +kernel
theorem dX8_book_72 : decode cX8_book 72 = .ok (.aload_n 0, 1) := by decide +kernel
theorem dX8_book_73 : decode cX8_book 73 = .ok (.getfield 12, 3) := by decide +kernel
theorem dX8_book_76 : decode cX8_book 76 = .ok (.getfield 204, 3) := by decide +kernel
theorem dX8_book_79 : decode cX8_book 79 = .ok (.getfield 188, 3) := by decide +kernel
theorem dX8_book_82 : decode cX8_book 82 = .ok (.ireturn, 1) := by decide +kernel
theorem dX8_looked_0 : decode cX8_looked 0 = .ok (.aload_n 0, 1) := by decide +kernel
theorem dX8_looked_1 : decode cX8_looked 1 = .ok (.invokevirtual 162, 3) := by decide +kernel
theorem dX8_looked_4 : decode cX8_looked 4 = .ok (.iconst 0, 1) := by decide +kernel
theorem dX8_looked_5 : decode cX8_looked 5 = .ok (.istore_n 1, 1) := by decide +kernel
theorem dX8_looked_6 : decode cX8_looked 6 = .ok (.iload_n 1, 1) := by decide +kernel
theorem dX8_looked_7 : decode cX8_looked 7 = .ok (.aload_n 0, 1) := by decide +kernel
theorem dX8_looked_8 : decode cX8_looked 8 = .ok (.getfield 12, 3) := by decide +kernel
theorem dX8_looked_11 : decode cX8_looked 11 = .ok (.getfield 204, 3) := by decide +kernel
theorem dX8_looked_14 : decode cX8_looked 14 = .ok (.getfield 188, 3) := by decide +kernel
theorem dX8_looked_17 : decode cX8_looked 17 = .ok (.if_icmp .ge 60, 3) := by decide +kernel
theorem dX8_looked_20 : decode cX8_looked 20 = .ok (.iload_n 1, 1) := by decide +kernel
theorem dX8_looked_21 : decode cX8_looked 21 = .ok (.aload_n 0, 1) := by decide +kernel
theorem dX8_looked_22 : decode cX8_looked 22 = .ok (.getfield 12, 3) := by decide +kernel
theorem dX8_looked_25 : decode cX8_looked 25 = .ok (.getfield 204, 3) := by decide +kernel
theorem dX8_looked_28 : decode cX8_looked 28 = .ok (.getfield 207, 3) := by decide +kernel
theorem dX8_looked_31 : decode cX8_looked 31 = .ok (.arraylength, 1) := by decide +kernel
theorem dX8_looked_32 : decode cX8_looked 32 = .ok (.if_icmp .ge 45, 3) := by decide +kernel
theorem dX8_looked_35 : decode cX8_looked 35 = .ok (.aload_n 0, 1) := by decide +kernel
theorem dX8_looked_36 : decode cX8_looked 36 = .ok (.getfield 33, 3) := by decide +kernel
theorem dX8_looked_39 : decode cX8_looked 39 = .ok (.aload_n 0, 1) := by decide +kernel
theorem dX8_looked_40 : decode cX8_looked 40 = .ok (.getfield 12, 3) := by decide +kernel
theorem dX8_looked_43 : decode cX8_looked 43 = .ok (.getfield 204, 3) := by decide +kernel
theorem dX8_looked_46 : decode cX8_looked 46 = .ok (.getfield 207, 3) := by decide +kernel
theorem dX8_looked_49 : decode cX8_looked 49 = .ok (.iload_n 1, 1) := by decide +kernel
theorem dX8_looked_50 : decode cX8_looked 50 = .ok (.iaload, 1) := by decide +kernel
theorem dX8_looked_51 : decode cX8_looked 51 = .ok (.invokevirtual 165, 3) := by decide +kernel
theorem dX8_looked_54 : decode cX8_looked 54 = .ok (.aload_n 0, 1) := by decide +kernel
theorem dX8_looked_55 : decode cX8_looked 55 = .ok (.getfield 12, 3) := by decide +kernel
theorem dX8_looked_58 : decode cX8_looked 58 = .ok (.getfield 204, 3) := by decide +kernel
theorem dX8_looked_61 : decode cX8_looked 61 = .ok (.getfield 210, 3) := by decide +kernel
theorem dX8_looked_64 : decode cX8_looked 64 = .ok (.iload_n 1, 1) := by decide +kernel
theorem dX8_looked_65 : decode cX8_looked 65 = .ok (.iaload, 1) := by decide +kernel
theorem dX8_looked_66 : decode cX8_looked 66 = .ok (.if_icmp .eq 5, 3) := by decide +kernel
theorem dX8_looked_69 : decode cX8_looked 69 = .ok (.iload_n 1, 1) := by decide +kernel
theorem dX8_looked_70 : decode cX8_looked 70 = .ok (.ireturn, 1) := by decide +kernel
theorem dX8_looked_71 : decode cX8_looked 71 = .ok (.iinc 1 1, 3) := by decide +kernel
theorem dX8_looked_74 : decode cX8_looked 74 = .ok (.goto (-68), 3) := by decide +kernel
theorem dX8_looked_77 : decode cX8_looked 77 = .ok (.bipush (-5), 2) := by decide +kernel
theorem dX8_looked_79 : decode cX8_looked 79 = .ok (.ireturn, 1) := by decide +kernel
theorem dX8_judge_0 : decode cX8_judge 0 = .ok (.aload_n 0, 1) := by decide +kernel
theorem dX8_judge_1 : decode cX8_judge 1 = .ok (.iload_n 1, 1) := by decide +kernel
theorem dX8_judge_2 : decode cX8_judge 2 = .ok (.invokevirtual 213, 3) := by decide +kernel
theorem dX8_judge_5 : decode cX8_judge 5 = .ok (.astore_n 3, 1) := by decide +kernel
theorem dX8_judge_6 : decode cX8_judge 6 = .ok (.aload_n 3, 1) := by decide +kernel
theorem dX8_judge_7 : decode cX8_judge 7 = .ok (.ifnonnull 5, 3) := by decide +kernel
theorem dX8_judge_10 : decode cX8_judge 10 = .ok (.iconst (-1), 1) := by decide +kernel
theorem dX8_judge_11 : decode cX8_judge 11 = .ok (.ireturn, 1) := by decide +kernel
theorem dX8_judge_12 : decode cX8_judge 12 = .ok (.aload_n 3, 1) := by decide +kernel
theorem dX8_judge_13 : decode cX8_judge 13 = .ok (.getfield 217, 3) := by decide +kernel
theorem dX8_judge_16 : decode cX8_judge 16 = .ok (.iconst 1, 1) := by decide +kernel
theorem dX8_judge_17 : decode cX8_judge 17 = .ok (.if_icmp .eq 14, 3) := by decide +kernel
theorem dX8_judge_20 : decode cX8_judge 20 = .ok (.aload_n 3, 1) := by decide +kernel
theorem dX8_judge_21 : decode cX8_judge 21 = .ok (.getfield 217, 3) := by decide +kernel
theorem dX8_judge_24 : decode cX8_judge 24 = .ok (.iconst (-1), 1) := by decide +kernel
theorem dX8_judge_25 : decode cX8_judge 25 = .ok (.if_icmp .eq 6, 3) := by decide +kernel
theorem dX8_judge_28 : decode cX8_judge 28 = .ok (.bipush (-12), 2) := by decide +kernel
theorem dX8_judge_30 : decode cX8_judge 30 = .ok (.ireturn, 1) := by decide +kernel
theorem dX8_judge_31 : decode cX8_judge 31 = .ok (.aload_n 0, 1) := by decide +kernel
theorem dX8_judge_32 : decode cX8_judge 32 = .ok (.invokevirtual 162, 3) := by decide +kernel
theorem dX8_judge_35 : decode cX8_judge 35 = .ok (.aload_n 0, 1) := by decide +kernel
theorem dX8_judge_36 : decode cX8_judge 36 = .ok (.aload_n 3, 1) := by decide +kernel
theorem dX8_judge_37 : decode cX8_judge 37 = .ok (.iload_n 2, 1) := by decide +kernel
theorem dX8_judge_38 : decode cX8_judge 38 = .ok (.invokevirtual 220, 3) := by decide +kernel
theorem dX8_judge_41 : decode cX8_judge 41 = .ok (.ireturn, 1) := by decide +kernel
theorem dX8_image_0 : decode cX8_image 0 = .ok (.aload_n 0, 1) := by decide +kernel
theorem dX8_image_1 : decode cX8_image 1 = .ok (.getfield 18, 3) := by decide +kernel
theorem dX8_image_4 : decode cX8_image 4 = .ok (.aload_n 0, 1) := by decide +kernel
theorem dX8_image_5 : decode cX8_image 5 = .ok (.getfield 12, 3) := by decide +kernel
theorem dX8_image_8 : decode cX8_image 8 = .ok (.invokevirtual 224, 3) := by decide +kernel
theorem dX8_image_11 : decode cX8_image 11 = .ok (.aload_n 0, 1) := by decide +kernel
theorem dX8_image_12 : decode cX8_image 12 = .ok (.iconst 1, 1) := by decide +kernel
theorem dX8_image_13 : decode cX8_image 13 = .ok (.putfield 228, 3) := by decide +kernel
theorem dX8_image_16 : decode cX8_image 16 = .ok (.aload_n 0, 1) := by decide +kernel
theorem dX8_image_17 : decode cX8_image 17 = .ok (.getfield 12, 3) := by decide +kernel
theorem dX8_image_20 : decode cX8_image 20 = .ok (.getfield 55, 3) := by decide +kernel
theorem dX8_image_23 : decode cX8_image 23 = .ok (.getfield 119, 3) := by decide +kernel
theorem dX8_image_26 : decode cX8_image 26 = .ok (.ireturn, 1) := by decide +kernel
theorem dX8_undo_0 : decode cX8_undo 0 = .ok (.aload_n 0, 1) := by decide +kernel
theorem dX8_undo_1 : decode cX8_undo 1 = .ok (.getfield 228, 3) := by decide +kernel
theorem dX8_undo_4 : decode cX8_undo 4 = .ok (.ifCond .ne 6, 3) := by decide +kernel
theorem dX8_undo_7 : decode cX8_undo 7 = .ok (.bipush (-3), 2) := by decide +kernel
theorem dX8_undo_9 : decode cX8_undo 9 = .ok (.ireturn, 1) := by decide +kernel
theorem dX8_undo_10 : decode cX8_undo 10 = .ok (.aload_n 0, 1) := by decide +kernel
theorem dX8_undo_11 : decode cX8_undo 11 = .ok (.getfield 12, 3) := by decide +kernel
theorem dX8_undo_14 : decode cX8_undo 14 = .ok (.aload_n 0, 1) := by decide +kernel
theorem dX8_undo_15 : decode cX8_undo 15 = .ok (.getfield 18, 3) := by decide +kernel
theorem dX8_undo_18 : decode cX8_undo 18 = .ok (.invokevirtual 224, 3) := by decide +kernel
theorem dX8_undo_21 : decode cX8_undo 21 = .ok (.aload_n 0, 1) := by decide +kernel
theorem dX8_undo_22 : decode cX8_undo 22 = .ok (.getfield 12, 3) := by decide +kernel
theorem dX8_undo_25 : decode cX8_undo 25 = .ok (.getfield 55, 3) := by decide +kernel
theorem dX8_undo_28 : decode cX8_undo 28 = .ok (.getfield 119, 3) := by decide +kernel
theorem dX8_undo_31 : decode cX8_undo 31 = .ok (.ireturn, 1) := by decide +kernel
theorem dX8_count_0 : decode cX8_count 0 = .ok (.iload_n 1, 1) := by decide +kernel
theorem dX8_count_1 : decode cX8_count 1 = .ok (.tableswitch 57 0 2 #[27, 38, 49], 27) := by decide +kernel
theorem dX8_count_28 : decode cX8_count 28 = .ok (.aload_n 0, 1) := by decide +kernel
theorem dX8_count_29 : decode cX8_count 29 = .ok (.getfield 12, 3) := by decide +kernel
theorem dX8_count_32 : decode cX8_count 32 = .ok (.getfield 184, 3) := by decide +kernel
theorem dX8_count_35 : decode cX8_count 35 = .ok (.getfield 188, 3) := by decide +kernel
theorem dX8_count_38 : decode cX8_count 38 = .ok (.ireturn, 1) := by decide +kernel
theorem dX8_count_39 : decode cX8_count 39 = .ok (.aload_n 0, 1) := by decide +kernel
theorem dX8_count_40 : decode cX8_count 40 = .ok (.getfield 12, 3) := by decide +kernel
theorem dX8_count_43 : decode cX8_count 43 = .ok (.getfield 204, 3) := by decide +kernel
theorem dX8_count_46 : decode cX8_count 46 = .ok (.getfield 188, 3) := by decide +kernel
theorem dX8_count_49 : decode cX8_count 49 = .ok (.ireturn, 1) := by decide +kernel
theorem dX8_count_50 : decode cX8_count 50 = .ok (.aload_n 0, 1) := by decide +kernel
theorem dX8_count_51 : decode cX8_count 51 = .ok (.getfield 40, 3) := by decide +kernel
theorem dX8_count_54 : decode cX8_count 54 = .ok (.getfield 138, 3) := by decide +kernel
theorem dX8_count_57 : decode cX8_count 57 = .ok (.ireturn, 1) := by decide +kernel
theorem dX8_count_58 : decode cX8_count 58 = .ok (.bipush (-2), 2) := by decide +kernel
theorem dX8_count_60 : decode cX8_count 60 = .ok (.ireturn, 1) := by decide +kernel
theorem dX8_tape_0 : decode cX8_tape 0 = .ok (.aload_n 0, 1) := by decide +kernel
theorem dX8_tape_1 : decode cX8_tape 1 = .ok (.iload_n 1, 1) := by decide +kernel
theorem dX8_tape_2 : decode cX8_tape 2 = .ok (.invokevirtual 213, 3) := by decide +kernel
theorem dX8_tape_5 : decode cX8_tape 5 = .ok (.astore 4, 2) := by decide +kernel
theorem dX8_tape_7 : decode cX8_tape 7 = .ok (.aload 4, 2) := by decide +kernel
theorem dX8_tape_9 : decode cX8_tape 9 = .ok (.ifnonnull 5, 3) := by decide +kernel
theorem dX8_tape_12 : decode cX8_tape 12 = .ok (.iconst (-1), 1) := by decide +kernel
theorem dX8_tape_13 : decode cX8_tape 13 = .ok (.ireturn, 1) := by decide +kernel
theorem dX8_tape_14 : decode cX8_tape 14 = .ok (.iload_n 2, 1) := by decide +kernel
theorem dX8_tape_15 : decode cX8_tape 15 = .ok (.iconst (-1), 1) := by decide +kernel
theorem dX8_tape_16 : decode cX8_tape 16 = .ok (.if_icmp .ne 12, 3) := by decide +kernel
theorem dX8_tape_19 : decode cX8_tape 19 = .ok (.aload 4, 2) := by decide +kernel
theorem dX8_tape_21 : decode cX8_tape 21 = .ok (.iconst (-1), 1) := by decide +kernel
theorem dX8_tape_22 : decode cX8_tape 22 = .ok (.iconst 0, 1) := by decide +kernel
theorem dX8_tape_23 : decode cX8_tape 23 = .ok (.invokevirtual 232, 3) := by decide +kernel
theorem dX8_tape_26 : decode cX8_tape 26 = .ok (.iconst 1, 1) := by decide +kernel
theorem dX8_tape_27 : decode cX8_tape 27 = .ok (.ireturn, 1) := by decide +kernel
theorem dX8_tape_28 : decode cX8_tape 28 = .ok (.iload_n 2, 1) := by decide +kernel
theorem dX8_tape_29 : decode cX8_tape 29 = .ok (.iconst 0, 1) := by decide +kernel
theorem dX8_tape_30 : decode cX8_tape 30 = .ok (.iconst 4, 1) := by decide +kernel
theorem dX8_tape_31 : decode cX8_tape 31 = .ok (.invokestatic 80, 3) := by decide +kernel
theorem dX8_tape_34 : decode cX8_tape 34 = .ok (.ifCond .eq 9, 3) := by decide +kernel
theorem dX8_tape_37 : decode cX8_tape 37 = .ok (.iload_n 3, 1) := by decide +kernel
theorem dX8_tape_38 : decode cX8_tape 38 = .ok (.bipush 60, 2) := by decide +kernel
theorem dX8_tape_40 : decode cX8_tape 40 = .ok (.if_icmp .le 6, 3) := by decide +kernel
theorem dX8_tape_43 : decode cX8_tape 43 = .ok (.bipush (-2), 2) := by decide +kernel
theorem dX8_tape_45 : decode cX8_tape 45 = .ok (.ireturn, 1) := by decide +kernel
theorem dX8_tape_46 : decode cX8_tape 46 = .ok (.iload_n 3, 1) := by decide +kernel
theorem dX8_tape_47 : decode cX8_tape 47 = .ok (.ifCond .ge 6, 3) := by decide +kernel
theorem dX8_tape_50 : decode cX8_tape 50 = .ok (.bipush (-14), 2) := by decide +kernel
theorem dX8_tape_52 : decode cX8_tape 52 = .ok (.ireturn, 1) := by decide +kernel
theorem dX8_tape_53 : decode cX8_tape 53 = .ok (.aload 4, 2) := by decide +kernel
theorem dX8_tape_55 : decode cX8_tape 55 = .ok (.iload_n 2, 1) := by decide +kernel
theorem dX8_tape_56 : decode cX8_tape 56 = .ok (.iload_n 3, 1) := by decide +kernel
theorem dX8_tape_57 : decode cX8_tape 57 = .ok (.invokevirtual 232, 3) := by decide +kernel
theorem dX8_tape_60 : decode cX8_tape 60 = .ok (.iconst 1, 1) := by decide +kernel
theorem dX8_tape_61 : decode cX8_tape 61 = .ok (.ireturn, 1) := by decide +kernel
theorem dX8_item_0 : decode cX8_item 0 = .ok (.aload_n 0, 1) := by decide +kernel
theorem dX8_item_1 : decode cX8_item 1 = .ok (.iload_n 1, 1) := by decide +kernel
theorem dX8_item_2 : decode cX8_item 2 = .ok (.invokevirtual 213, 3) := by decide +kernel
theorem dX8_item_5 : decode cX8_item 5 = .ok (.astore 5, 2) := by decide +kernel
theorem dX8_item_7 : decode cX8_item 7 = .ok (.aload 5, 2) := by decide +kernel
theorem dX8_item_9 : decode cX8_item 9 = .ok (.ifnonnull 5, 3) := by decide +kernel
theorem dX8_item_12 : decode cX8_item 12 = .ok (.iconst (-1), 1) := by decide +kernel
theorem dX8_item_13 : decode cX8_item 13 = .ok (.ireturn, 1) := by decide +kernel
theorem dX8_item_14 : decode cX8_item 14 = .ok (.aload 5, 2) := by decide +kernel
theorem dX8_item_16 : decode cX8_item 16 = .ok (.getfield 217, 3) := by decide +kernel
theorem dX8_item_19 : decode cX8_item 19 = .ok (.iconst (-1), 1) := by decide +kernel
theorem dX8_item_20 : decode cX8_item 20 = .ok (.if_icmp .ne 6, 3) := by decide +kernel
theorem dX8_item_23 : decode cX8_item 23 = .ok (.bipush (-11), 2) := by decide +kernel
theorem dX8_item_25 : decode cX8_item 25 = .ok (.ireturn, 1) := by decide +kernel
theorem dX8_item_26 : decode cX8_item 26 = .ok (.aload 5, 2) := by decide +kernel
theorem dX8_item_28 : decode cX8_item 28 = .ok (.iload_n 2, 1) := by decide +kernel
theorem dX8_item_29 : decode cX8_item 29 = .ok (.invokevirtual 235, 3) := by decide +kernel
theorem dX8_item_32 : decode cX8_item 32 = .ok (.ifCond .ne 6, 3) := by decide +kernel
theorem dX8_item_35 : decode cX8_item 35 = .ok (.bipush (-13), 2) := by decide +kernel
theorem dX8_item_37 : decode cX8_item 37 = .ok (.ireturn, 1) := by decide +kernel
theorem dX8_item_38 : decode cX8_item 38 = .ok (.aload 5, 2) := by decide +kernel
theorem dX8_item_40 : decode cX8_item 40 = .ok (.getfield 238, 3) := by decide +kernel
theorem dX8_item_43 : decode cX8_item 43 = .ok (.iload_n 2, 1) := by decide +kernel
theorem dX8_item_44 : decode cX8_item 44 = .ok (.aload 5, 2) := by decide +kernel
theorem dX8_item_46 : decode cX8_item 46 = .ok (.lload_n 3, 1) := by decide +kernel
theorem dX8_item_47 : decode cX8_item 47 = .ok (.invokevirtual 241, 3) := by decide +kernel
theorem dX8_item_50 : decode cX8_item 50 = .ok (.lastore, 1) := by decide +kernel
theorem dX8_item_51 : decode cX8_item 51 = .ok (.iconst 1, 1) := by decide +kernel
theorem dX8_item_52 : decode cX8_item 52 = .ok (.ireturn, 1) := by decide +kernel
theorem dX8_peek_0 : decode cX8_peek 0 = .ok (.aload_n 0, 1) := by decide +kernel
theorem dX8_peek_1 : decode cX8_peek 1 = .ok (.iload_n 1, 1) := by decide +kernel
theorem dX8_peek_2 : decode cX8_peek 2 = .ok (.invokevirtual 213, 3) := by decide +kernel
theorem dX8_peek_5 : decode cX8_peek 5 = .ok (.astore_n 3, 1) := by decide +kernel
theorem dX8_peek_6 : decode cX8_peek 6 = .ok (.aload_n 3, 1) := by decide +kernel
theorem dX8_peek_7 : decode cX8_peek 7 = .ok (.ifnull 11, 3) := by decide +kernel
theorem dX8_peek_10 : decode cX8_peek 10 = .ok (.aload_n 3, 1) := by decide +kernel
theorem dX8_peek_11 : decode cX8_peek 11 = .ok (.iload_n 2, 1) := by decide +kernel
theorem dX8_peek_12 : decode cX8_peek 12 = .ok (.invokevirtual 235, 3) := by decide +kernel
theorem dX8_peek_15 : decode cX8_peek 15 = .ok (.ifCond .ne 9, 3) := by decide +kernel
theorem dX8_peek_18 : decode cX8_peek 18 = .ok (.ldc2_w 117, 3) := by decide +kernel
theorem dX8_peek_21 : decode cX8_peek 21 = .ok (.goto 9, 3) := by decide +kernel
theorem dX8_peek_24 : decode cX8_peek 24 = .ok (.aload_n 3, 1) := by decide +kernel
theorem dX8_peek_25 : decode cX8_peek 25 = .ok (.getfield 238, 3) := by decide +kernel
theorem dX8_peek_28 : decode cX8_peek 28 = .ok (.iload_n 2, 1) := by decide +kernel
theorem dX8_peek_29 : decode cX8_peek 29 = .ok (.laload, 1) := by decide +kernel
theorem dX8_peek_30 : decode cX8_peek 30 = .ok (.lreturn, 1) := by decide +kernel
theorem dX8_shift_0 : decode cX8_shift 0 = .ok (.aload_n 0, 1) := by decide +kernel
theorem dX8_shift_1 : decode cX8_shift 1 = .ok (.iload_n 1, 1) := by decide +kernel
theorem dX8_shift_2 : decode cX8_shift 2 = .ok (.invokevirtual 213, 3) := by decide +kernel
theorem dX8_shift_5 : decode cX8_shift 5 = .ok (.astore 6, 2) := by decide +kernel
theorem dX8_shift_7 : decode cX8_shift 7 = .ok (.aload_n 0, 1) := by decide +kernel
theorem dX8_shift_8 : decode cX8_shift 8 = .ok (.iload_n 3, 1) := by decide +kernel
theorem dX8_shift_9 : decode cX8_shift 9 = .ok (.invokevirtual 213, 3) := by decide +kernel
theorem dX8_shift_12 : decode cX8_shift 12 = .ok (.astore 7, 2) := by decide +kernel
theorem dX8_shift_14 : decode cX8_shift 14 = .ok (.aload 6, 2) := by decide +kernel
theorem dX8_shift_16 : decode cX8_shift 16 = .ok (.ifnull 8, 3) := by decide +kernel
theorem dX8_shift_19 : decode cX8_shift 19 = .ok (.aload 7, 2) := by decide +kernel
theorem dX8_shift_21 : decode cX8_shift 21 = .ok (.ifnonnull 5, 3) := by decide +kernel
theorem dX8_shift_24 : decode cX8_shift 24 = .ok (.iconst (-1), 1) := by decide +kernel
theorem dX8_shift_25 : decode cX8_shift 25 = .ok (.ireturn, 1) := by decide +kernel
theorem dX8_shift_26 : decode cX8_shift 26 = .ok (.aload 6, 2) := by decide +kernel
theorem dX8_shift_28 : decode cX8_shift 28 = .ok (.getfield 217, 3) := by decide +kernel
theorem dX8_shift_31 : decode cX8_shift 31 = .ok (.iconst (-1), 1) := by decide +kernel
theorem dX8_shift_32 : decode cX8_shift 32 = .ok (.if_icmp .eq 12, 3) := by decide +kernel
theorem dX8_shift_35 : decode cX8_shift 35 = .ok (.aload 7, 2) := by decide +kernel
theorem dX8_shift_37 : decode cX8_shift 37 = .ok (.getfield 217, 3) := by decide +kernel
theorem dX8_shift_40 : decode cX8_shift 40 = .ok (.iconst (-1), 1) := by decide +kernel
theorem dX8_shift_41 : decode cX8_shift 41 = .ok (.if_icmp .ne 6, 3) := by decide +kernel
theorem dX8_shift_44 : decode cX8_shift 44 = .ok (.bipush (-11), 2) := by decide +kernel
theorem dX8_shift_46 : decode cX8_shift 46 = .ok (.ireturn, 1) := by decide +kernel
theorem dX8_shift_47 : decode cX8_shift 47 = .ok (.aload 6, 2) := by decide +kernel
theorem dX8_shift_49 : decode cX8_shift 49 = .ok (.getfield 217, 3) := by decide +kernel
theorem dX8_shift_52 : decode cX8_shift 52 = .ok (.aload 7, 2) := by decide +kernel
theorem dX8_shift_54 : decode cX8_shift 54 = .ok (.getfield 217, 3) := by decide +kernel
theorem dX8_shift_57 : decode cX8_shift 57 = .ok (.if_icmp .eq 6, 3) := by decide +kernel
theorem dX8_shift_60 : decode cX8_shift 60 = .ok (.bipush (-12), 2) := by decide +kernel
theorem dX8_shift_62 : decode cX8_shift 62 = .ok (.ireturn, 1) := by decide +kernel
theorem dX8_shift_63 : decode cX8_shift 63 = .ok (.aload 6, 2) := by decide +kernel
theorem dX8_shift_65 : decode cX8_shift 65 = .ok (.iload_n 2, 1) := by decide +kernel
theorem dX8_shift_66 : decode cX8_shift 66 = .ok (.iload 5, 2) := by decide +kernel
theorem dX8_shift_68 : decode cX8_shift 68 = .ok (.invokevirtual 245, 3) := by decide +kernel
theorem dX8_shift_71 : decode cX8_shift 71 = .ok (.ifCond .eq 15, 3) := by decide +kernel
theorem dX8_shift_74 : decode cX8_shift 74 = .ok (.aload 7, 2) := by decide +kernel
theorem dX8_shift_76 : decode cX8_shift 76 = .ok (.iload 4, 2) := by decide +kernel
theorem dX8_shift_78 : decode cX8_shift 78 = .ok (.iload 5, 2) := by decide +kernel
theorem dX8_shift_80 : decode cX8_shift 80 = .ok (.invokevirtual 245, 3) := by decide +kernel
theorem dX8_shift_83 : decode cX8_shift 83 = .ok (.ifCond .ne 6, 3) := by decide +kernel
theorem dX8_shift_86 : decode cX8_shift 86 = .ok (.bipush (-13), 2) := by decide +kernel
theorem dX8_shift_88 : decode cX8_shift 88 = .ok (.ireturn, 1) := by decide +kernel
theorem dX8_shift_89 : decode cX8_shift 89 = .ok (.aload 6, 2) := by decide +kernel
theorem dX8_shift_91 : decode cX8_shift 91 = .ok (.getfield 238, 3) := by decide +kernel
theorem dX8_shift_94 : decode cX8_shift 94 = .ok (.iload_n 2, 1) := by decide +kernel
theorem dX8_shift_95 : decode cX8_shift 95 = .ok (.aload 7, 2) := by decide +kernel
theorem dX8_shift_97 : decode cX8_shift 97 = .ok (.getfield 238, 3) := by decide +kernel
theorem dX8_shift_100 : decode cX8_shift 100 = .ok (.iload 4, 2) := by decide +kernel
theorem dX8_shift_102 : decode cX8_shift 102 = .ok (.iload 5, 2) := by decide +kernel
theorem dX8_shift_104 : decode cX8_shift 104 = .ok (.invokestatic 248, 3) := by decide +kernel
theorem dX8_shift_107 : decode cX8_shift 107 = .ok (.iload 5, 2) := by decide +kernel
theorem dX8_shift_109 : decode cX8_shift 109 = .ok (.ireturn, 1) := by decide +kernel
theorem dX8_isBetween_0 : decode cX8_isBetween 0 = .ok (.iload_n 0, 1) := by decide +kernel
theorem dX8_isBetween_1 : decode cX8_isBetween 1 = .ok (.iload_n 1, 1) := by decide +kernel
theorem dX8_isBetween_2 : decode cX8_isBetween 2 = .ok (.if_icmp .lt 12, 3) := by decide +kernel
theorem dX8_isBetween_5 : decode cX8_isBetween 5 = .ok (.iload_n 0, 1) := by decide +kernel
theorem dX8_isBetween_6 : decode cX8_isBetween 6 = .ok (.iload_n 2, 1) := by decide +kernel
theorem dX8_isBetween_7 : decode cX8_isBetween 7 = .ok (.if_icmp .gt 7, 3) := by decide +kernel
theorem dX8_isBetween_10 : decode cX8_isBetween 10 = .ok (.iconst 1, 1) := by decide +kernel
theorem dX8_isBetween_11 : decode cX8_isBetween 11 = .ok (.goto 4, 3) := by decide +kernel
theorem dX8_isBetween_14 : decode cX8_isBetween 14 = .ok (.iconst 0, 1) := by decide +kernel
theorem dX8_isBetween_15 : decode cX8_isBetween 15 = .ok (.ireturn, 1) := by decide +kernel
theorem dX8_isSettable_0 : decode cX8_isSettable 0 = .ok (.iload_n 0, 1) := by decide +kernel
theorem dX8_isSettable_1 : decode cX8_isSettable 1 = .ok (.ifCond .lt 40, 3) := by decide +kernel
theorem dX8_isSettable_4 : decode cX8_isSettable 4 = .ok (.iload_n 0, 1) := by decide +kernel
theorem dX8_isSettable_5 : decode cX8_isSettable 5 = .ok (.getstatic 254, 3) := by decide +kernel
theorem dX8_isSettable_8 : decode cX8_isSettable 8 = .ok (.arraylength, 1) := by decide +kernel
theorem dX8_isSettable_9 : decode cX8_isSettable 9 = .ok (.if_icmp .ge 32, 3) := by decide +kernel
theorem dX8_isSettable_12 : decode cX8_isSettable 12 = .ok (.iload_n 0, 1) := by decide +kernel
theorem dX8_isSettable_13 : decode cX8_isSettable 13 = .ok (.getstatic 257, 3) := by decide +kernel
theorem dX8_isSettable_16 : decode cX8_isSettable 16 = .ok (.arraylength, 1) := by decide +kernel
theorem dX8_isSettable_17 : decode cX8_isSettable 17 = .ok (.if_icmp .ge 24, 3) := by decide +kernel
theorem dX8_isSettable_20 : decode cX8_isSettable 20 = .ok (.iload_n 1, 1) := by decide +kernel
theorem dX8_isSettable_21 : decode cX8_isSettable 21 = .ok (.getstatic 254, 3) := by decide +kernel
theorem dX8_isSettable_24 : decode cX8_isSettable 24 = .ok (.iload_n 0, 1) := by decide +kernel
theorem dX8_isSettable_25 : decode cX8_isSettable 25 = .ok (.iaload, 1) := by decide +kernel
theorem dX8_isSettable_26 : decode cX8_isSettable 26 = .ok (.getstatic 257, 3) := by decide +kernel
theorem dX8_isSettable_29 : decode cX8_isSettable 29 = .ok (.iload_n 0, 1) := by decide +kernel
theorem dX8_isSettable_30 : decode cX8_isSettable 30 = .ok (.iaload, 1) := by decide +kernel
theorem dX8_isSettable_31 : decode cX8_isSettable 31 = .ok (.invokestatic 80, 3) := by decide +kernel
theorem dX8_isSettable_34 : decode cX8_isSettable 34 = .ok (.ifCond .eq 7, 3) := by decide +kernel
theorem dX8_isSettable_37 : decode cX8_isSettable 37 = .ok (.iconst 1, 1) := by decide +kernel
theorem dX8_isSettable_38 : decode cX8_isSettable 38 = .ok (.goto 4, 3) := by decide +kernel
theorem dX8_isSettable_41 : decode cX8_isSettable 41 = .ok (.iconst 0, 1) := by decide +kernel
theorem dX8_isSettable_42 : decode cX8_isSettable 42 = .ok (.ireturn, 1) := by decide +kernel
theorem dX8_isPushable_0 : decode cX8_isPushable 0 = .ok (.iload_n 0, 1) := by decide +kernel
theorem dX8_isPushable_1 : decode cX8_isPushable 1 = .ok (.ifCond .lt 40, 3) := by decide +kernel
theorem dX8_isPushable_4 : decode cX8_isPushable 4 = .ok (.iload_n 0, 1) := by decide +kernel
theorem dX8_isPushable_5 : decode cX8_isPushable 5 = .ok (.getstatic 260, 3) := by decide +kernel
theorem dX8_isPushable_8 : decode cX8_isPushable 8 = .ok (.arraylength, 1) := by decide +kernel
theorem dX8_isPushable_9 : decode cX8_isPushable 9 = .ok (.if_icmp .ge 32, 3) := by decide +kernel
theorem dX8_isPushable_12 : decode cX8_isPushable 12 = .ok (.iload_n 0, 1) := by decide +kernel
theorem dX8_isPushable_13 : decode cX8_isPushable 13 = .ok (.getstatic 263, 3) := by decide +kernel
theorem dX8_isPushable_16 : decode cX8_isPushable 16 = .ok (.arraylength, 1) := by decide +kernel
theorem dX8_isPushable_17 : decode cX8_isPushable 17 = .ok (.if_icmp .ge 24, 3) := by decide +kernel
theorem dX8_isPushable_20 : decode cX8_isPushable 20 = .ok (.iload_n 1, 1) := by decide +kernel
theorem dX8_isPushable_21 : decode cX8_isPushable 21 = .ok (.getstatic 260, 3) := by decide +kernel
theorem dX8_isPushable_24 : decode cX8_isPushable 24 = .ok (.iload_n 0, 1) := by decide +kernel
theorem dX8_isPushable_25 : decode cX8_isPushable 25 = .ok (.iaload, 1) := by decide +kernel
theorem dX8_isPushable_26 : decode cX8_isPushable 26 = .ok (.getstatic 263, 3) := by decide +kernel
theorem dX8_isPushable_29 : decode cX8_isPushable 29 = .ok (.iload_n 0, 1) := by decide +kernel
theorem dX8_isPushable_30 : decode cX8_isPushable 30 = .ok (.iaload, 1) := by decide +kernel
theorem dX8_isPushable_31 : decode cX8_isPushable 31 = .ok (.invokestatic 80, 3) := by decide +kernel
theorem dX8_isPushable_34 : decode cX8_isPushable 34 = .ok (.ifCond .eq 7, 3) := by decide +kernel
theorem dX8_isPushable_37 : decode cX8_isPushable 37 = .ok (.iconst 1, 1) := by decide +kernel
theorem dX8_isPushable_38 : decode cX8_isPushable 38 = .ok (.goto 4, 3) := by decide +kernel
theorem dX8_isPushable_41 : decode cX8_isPushable 41 = .ok (.iconst 0, 1) := by decide +kernel
theorem dX8_isPushable_42 : decode cX8_isPushable 42 = .ok (.ireturn, 1) := by decide +kernel
theorem dX8_partOfFraction_0 : decode cX8_partOfFraction 0 = .ok (.lload_n 0, 1) := by decide +kernel
theorem dX8_partOfFraction_1 : decode cX8_partOfFraction 1 = .ok (.lload_n 2, 1) := by decide +kernel
theorem dX8_partOfFraction_2 : decode cX8_partOfFraction 2 = .ok (.invokestatic 266, 3) := by decide +kernel
theorem dX8_partOfFraction_5 : decode cX8_partOfFraction 5 = .ok (.lstore 5, 2) := by decide +kernel
theorem dX8_partOfFraction_7 : decode cX8_partOfFraction 7 = .ok (.iload 4, 2) := by decide +kernel
theorem dX8_partOfFraction_9 : decode cX8_partOfFraction 9 = .ok (.iconst 0, 1) := by decide +kernel
theorem dX8_partOfFraction_10 : decode cX8_partOfFraction 10 = .ok (.iconst 1, 1) := by decide +kernel
theorem dX8_partOfFraction_11 : decode cX8_partOfFraction 11 = .ok (.invokestatic 80, 3) := by decide +kernel
theorem dX8_partOfFraction_14 : decode cX8_partOfFraction 14 = .ok (.ifCond .eq 10, 3) := by decide +kernel
theorem dX8_partOfFraction_17 : decode cX8_partOfFraction 17 = .ok (.lload 5, 2) := by decide +kernel
theorem dX8_partOfFraction_19 : decode cX8_partOfFraction 19 = .ok (.lconst 0, 1) := by decide +kernel
theorem dX8_partOfFraction_20 : decode cX8_partOfFraction 20 = .ok (.lcmp, 1) := by decide +kernel
theorem dX8_partOfFraction_21 : decode cX8_partOfFraction 21 = .ok (.ifCond .ne 7, 3) := by decide +kernel
theorem dX8_partOfFraction_24 : decode cX8_partOfFraction 24 = .ok (.ldc2_w 117, 3) := by decide +kernel
theorem dX8_partOfFraction_27 : decode cX8_partOfFraction 27 = .ok (.lreturn, 1) := by decide +kernel
theorem dX8_partOfFraction_28 : decode cX8_partOfFraction 28 = .ok (.iload 4, 2) := by decide +kernel
theorem dX8_partOfFraction_30 : decode cX8_partOfFraction 30 = .ok (.ifCond .ne 10, 3) := by decide +kernel
theorem dX8_partOfFraction_33 : decode cX8_partOfFraction 33 = .ok (.lload_n 0, 1) := by decide +kernel
theorem dX8_partOfFraction_34 : decode cX8_partOfFraction 34 = .ok (.lload 5, 2) := by decide +kernel
theorem dX8_partOfFraction_36 : decode cX8_partOfFraction 36 = .ok (.ldiv, 1) := by decide +kernel
theorem dX8_partOfFraction_37 : decode cX8_partOfFraction 37 = .ok (.goto 7, 3) := by decide +kernel
theorem dX8_partOfFraction_40 : decode cX8_partOfFraction 40 = .ok (.lload_n 2, 1) := by decide +kernel
theorem dX8_partOfFraction_41 : decode cX8_partOfFraction 41 = .ok (.lload 5, 2) := by decide +kernel
theorem dX8_partOfFraction_43 : decode cX8_partOfFraction 43 = .ok (.ldiv, 1) := by decide +kernel
theorem dX8_partOfFraction_44 : decode cX8_partOfFraction 44 = .ok (.lreturn, 1) := by decide +kernel
theorem dX8_commonDivisor_0 : decode cX8_commonDivisor 0 = .ok (.iconst 0, 1) := by decide +kernel
theorem dX8_commonDivisor_1 : decode cX8_commonDivisor 1 = .ok (.istore 4, 2) := by decide +kernel
theorem dX8_commonDivisor_3 : decode cX8_commonDivisor 3 = .ok (.iload 4, 2) := by decide +kernel
theorem dX8_commonDivisor_5 : decode cX8_commonDivisor 5 = .ok (.sipush 200, 3) := by decide +kernel
theorem dX8_commonDivisor_8 : decode cX8_commonDivisor 8 = .ok (.if_icmp .ge 25, 3) := by decide +kernel
theorem dX8_commonDivisor_11 : decode cX8_commonDivisor 11 = .ok (.lload_n 2, 1) := by decide +kernel
theorem dX8_commonDivisor_12 : decode cX8_commonDivisor 12 = .ok (.lconst 0, 1) := by decide +kernel
theorem dX8_commonDivisor_13 : decode cX8_commonDivisor 13 = .ok (.lcmp, 1) := by decide +kernel
theorem dX8_commonDivisor_14 : decode cX8_commonDivisor 14 = .ok (.ifCond .eq 19, 3) := by decide +kernel
theorem dX8_commonDivisor_17 : decode cX8_commonDivisor 17 = .ok (.lload_n 0, 1) := by decide +kernel
theorem dX8_commonDivisor_18 : decode cX8_commonDivisor 18 = .ok (.lload_n 2, 1) := by decide +kernel
theorem dX8_commonDivisor_19 : decode cX8_commonDivisor 19 = .ok (.lrem, 1) := by decide +kernel
theorem dX8_commonDivisor_20 : decode cX8_commonDivisor 20 = .ok (.lstore 5, 2) := by decide +kernel
theorem dX8_commonDivisor_22 : decode cX8_commonDivisor 22 = .ok (.lload_n 2, 1) := by decide +kernel
theorem dX8_commonDivisor_23 : decode cX8_commonDivisor 23 = .ok (.lstore_n 0, 1) := by decide +kernel
theorem dX8_commonDivisor_24 : decode cX8_commonDivisor 24 = .ok (.lload 5, 2) := by decide +kernel
theorem dX8_commonDivisor_26 : decode cX8_commonDivisor 26 = .ok (.lstore_n 2, 1) := by decide +kernel
theorem dX8_commonDivisor_27 : decode cX8_commonDivisor 27 = .ok (.iinc 4 1, 3) := by decide +kernel
theorem dX8_commonDivisor_30 : decode cX8_commonDivisor 30 = .ok (.goto (-27), 3) := by decide +kernel
theorem dX8_commonDivisor_33 : decode cX8_commonDivisor 33 = .ok (.lload_n 0, 1) := by decide +kernel
theorem dX8_commonDivisor_34 : decode cX8_commonDivisor 34 = .ok (.lreturn, 1) := by decide +kernel
theorem dX8_isClauseDone_0 : decode cX8_isClauseDone 0 = .ok (.iload_n 1, 1) := by decide +kernel
theorem dX8_isClauseDone_1 : decode cX8_isClauseDone 1 = .ok (.bipush 7, 2) := by decide +kernel
theorem dX8_isClauseDone_3 : decode cX8_isClauseDone 3 = .ok (.if_icmp .ne 17, 3) := by decide +kernel
theorem dX8_isClauseDone_6 : decode cX8_isClauseDone 6 = .ok (.aload_n 0, 1) := by decide +kernel
theorem dX8_isClauseDone_7 : decode cX8_isClauseDone 7 = .ok (.iload_n 2, 1) := by decide +kernel
theorem dX8_isClauseDone_8 : decode cX8_isClauseDone 8 = .ok (.invokevirtual 270, 3) := by decide +kernel
theorem dX8_isClauseDone_11 : decode cX8_isClauseDone 11 = .ok (.ifCond .lt 7, 3) := by decide +kernel
theorem dX8_isClauseDone_14 : decode cX8_isClauseDone 14 = .ok (.iconst 1, 1) := by decide +kernel
theorem dX8_isClauseDone_15 : decode cX8_isClauseDone 15 = .ok (.goto 4, 3) := by decide +kernel
theorem dX8_isClauseDone_18 : decode cX8_isClauseDone 18 = .ok (.iconst 0, 1) := by decide +kernel
theorem dX8_isClauseDone_19 : decode cX8_isClauseDone 19 = .ok (.ireturn, 1) := by decide +kernel
theorem dX8_isClauseDone_20 : decode cX8_isClauseDone 20 = .ok (.iload_n 1, 1) := by decide +kernel
theorem dX8_isClauseDone_21 : decode cX8_isClauseDone 21 = .ok (.bipush 8, 2) := by decide +kernel
theorem dX8_isClauseDone_23 : decode cX8_isClauseDone 23 = .ok (.if_icmp .ne 17, 3) := by decide +kernel
theorem dX8_isClauseDone_26 : decode cX8_isClauseDone 26 = .ok (.aload_n 0, 1) := by decide +kernel
theorem dX8_isClauseDone_27 : decode cX8_isClauseDone 27 = .ok (.iload_n 2, 1) := by decide +kernel
theorem dX8_isClauseDone_28 : decode cX8_isClauseDone 28 = .ok (.invokevirtual 273, 3) := by decide +kernel
theorem dX8_isClauseDone_31 : decode cX8_isClauseDone 31 = .ok (.ifCond .lt 7, 3) := by decide +kernel
theorem dX8_isClauseDone_34 : decode cX8_isClauseDone 34 = .ok (.iconst 1, 1) := by decide +kernel
theorem dX8_isClauseDone_35 : decode cX8_isClauseDone 35 = .ok (.goto 4, 3) := by decide +kernel
theorem dX8_isClauseDone_38 : decode cX8_isClauseDone 38 = .ok (.iconst 0, 1) := by decide +kernel
theorem dX8_isClauseDone_39 : decode cX8_isClauseDone 39 = .ok (.ireturn, 1) := by decide +kernel
theorem dX8_isClauseDone_40 : decode cX8_isClauseDone 40 = .ok (.iload_n 1, 1) := by decide +kernel
theorem dX8_isClauseDone_41 : decode cX8_isClauseDone 41 = .ok (.iload_n 2, 1) := by decide +kernel
theorem dX8_isClauseDone_42 : decode cX8_isClauseDone 42 = .ok (.invokestatic 51, 3) := by decide +kernel
theorem dX8_isClauseDone_45 : decode cX8_isClauseDone 45 = .ok (.ifCond .ne 5, 3) := by decide +kernel
theorem dX8_isClauseDone_48 : decode cX8_isClauseDone 48 = .ok (.iconst 0, 1) := by decide +kernel
theorem dX8_isClauseDone_49 : decode cX8_isClauseDone 49 = .ok (.ireturn, 1) := by decide +kernel
theorem dX8_isClauseDone_50 : decode cX8_isClauseDone 50 = .ok (.aload_n 0, 1) := by decide +kernel
theorem dX8_isClauseDone_51 : decode cX8_isClauseDone 51 = .ok (.getfield 12, 3) := by decide +kernel
theorem dX8_isClauseDone_54 : decode cX8_isClauseDone 54 = .ok (.getfield 55, 3) := by decide +kernel
theorem dX8_isClauseDone_57 : decode cX8_isClauseDone 57 = .ok (.iload_n 1, 1) := by decide +kernel
theorem dX8_isClauseDone_58 : decode cX8_isClauseDone 58 = .ok (.iload_n 2, 1) := by decide +kernel
theorem dX8_isClauseDone_59 : decode cX8_isClauseDone 59 = .ok (.invokevirtual 62, 3) := by decide +kernel
theorem dX8_isClauseDone_62 : decode cX8_isClauseDone 62 = .ok (.iconst 1, 1) := by decide +kernel
theorem dX8_isClauseDone_63 : decode cX8_isClauseDone 63 = .ok (.ireturn, 1) := by decide +kernel
theorem dX8_thinkAhead_0 : decode cX8_thinkAhead 0 = .ok (.aload_n 0, 1) := by decide +kernel
theorem dX8_thinkAhead_1 : decode cX8_thinkAhead 1 = .ok (.getfield 26, 3) := by decide +kernel
theorem dX8_thinkAhead_4 : decode cX8_thinkAhead 4 = .ok (.aload_n 0, 1) := by decide +kernel
theorem dX8_thinkAhead_5 : decode cX8_thinkAhead 5 = .ok (.getfield 12, 3) := by decide +kernel
theorem dX8_thinkAhead_8 : decode cX8_thinkAhead 8 = .ok (.getfield 55, 3) := by decide +kernel
theorem dX8_thinkAhead_11 : decode cX8_thinkAhead 11 = .ok (.invokevirtual 276, 3) := by decide +kernel
theorem dX8_thinkAhead_14 : decode cX8_thinkAhead 14 = .ok (.iconst 0, 1) := by decide +kernel
theorem dX8_thinkAhead_15 : decode cX8_thinkAhead 15 = .ok (.istore_n 2, 1) := by decide +kernel
theorem dX8_thinkAhead_16 : decode cX8_thinkAhead 16 = .ok (.iload_n 2, 1) := by decide +kernel
theorem dX8_thinkAhead_17 : decode cX8_thinkAhead 17 = .ok (.iload_n 1, 1) := by decide +kernel
theorem dX8_thinkAhead_18 : decode cX8_thinkAhead 18 = .ok (.if_icmp .ge 17, 3) := by decide +kernel
theorem dX8_thinkAhead_21 : decode cX8_thinkAhead 21 = .ok (.aload_n 0, 1) := by decide +kernel
theorem dX8_thinkAhead_22 : decode cX8_thinkAhead 22 = .ok (.getfield 26, 3) := by decide +kernel
theorem dX8_thinkAhead_25 : decode cX8_thinkAhead 25 = .ok (.invokevirtual 110, 3) := by decide +kernel
theorem dX8_thinkAhead_28 : decode cX8_thinkAhead 28 = .ok (.pop, 1) := by decide +kernel
theorem dX8_thinkAhead_29 : decode cX8_thinkAhead 29 = .ok (.iinc 2 1, 3) := by decide +kernel
theorem dX8_thinkAhead_32 : decode cX8_thinkAhead 32 = .ok (.goto (-16), 3) := by decide +kernel
theorem dX8_thinkAhead_35 : decode cX8_thinkAhead 35 = .ok (.return_, 1) := by decide +kernel
theorem dX8_listenFromNow_0 : decode cX8_listenFromNow 0 = .ok (.aload_n 0, 1) := by decide +kernel
theorem dX8_listenFromNow_1 : decode cX8_listenFromNow 1 = .ok (.getfield 26, 3) := by decide +kernel
theorem dX8_listenFromNow_4 : decode cX8_listenFromNow 4 = .ok (.aload_n 0, 1) := by decide +kernel
theorem dX8_listenFromNow_5 : decode cX8_listenFromNow 5 = .ok (.getfield 12, 3) := by decide +kernel
theorem dX8_listenFromNow_8 : decode cX8_listenFromNow 8 = .ok (.getfield 55, 3) := by decide +kernel
theorem dX8_listenFromNow_11 : decode cX8_listenFromNow 11 = .ok (.invokevirtual 276, 3) := by decide +kernel
theorem dX8_listenFromNow_14 : decode cX8_listenFromNow 14 = .ok (.aload_n 0, 1) := by decide +kernel
theorem dX8_listenFromNow_15 : decode cX8_listenFromNow 15 = .ok (.getfield 33, 3) := by decide +kernel
theorem dX8_listenFromNow_18 : decode cX8_listenFromNow 18 = .ok (.aload_n 0, 1) := by decide +kernel
theorem dX8_listenFromNow_19 : decode cX8_listenFromNow 19 = .ok (.getfield 26, 3) := by decide +kernel
theorem dX8_listenFromNow_22 : decode cX8_listenFromNow 22 = .ok (.invokevirtual 279, 3) := by decide +kernel
theorem dX8_listenFromNow_25 : decode cX8_listenFromNow 25 = .ok (.return_, 1) := by decide +kernel
theorem dX8_listenWith_0 : decode cX8_listenWith 0 = .ok (.aload_n 0, 1) := by decide +kernel
theorem dX8_listenWith_1 : decode cX8_listenWith 1 = .ok (.getfield 26, 3) := by decide +kernel
theorem dX8_listenWith_4 : decode cX8_listenWith 4 = .ok (.aload_n 0, 1) := by decide +kernel
theorem dX8_listenWith_5 : decode cX8_listenWith 5 = .ok (.getfield 12, 3) := by decide +kernel
theorem dX8_listenWith_8 : decode cX8_listenWith 8 = .ok (.getfield 55, 3) := by decide +kernel
theorem dX8_listenWith_11 : decode cX8_listenWith 11 = .ok (.invokevirtual 276, 3) := by decide +kernel
theorem dX8_listenWith_14 : decode cX8_listenWith 14 = .ok (.aload_n 0, 1) := by decide +kernel
theorem dX8_listenWith_15 : decode cX8_listenWith 15 = .ok (.getfield 26, 3) := by decide +kernel
theorem dX8_listenWith_18 : decode cX8_listenWith 18 = .ok (.iload_n 1, 1) := by decide +kernel
theorem dX8_listenWith_19 : decode cX8_listenWith 19 = .ok (.iload_n 2, 1) := by decide +kernel
theorem dX8_listenWith_20 : decode cX8_listenWith 20 = .ok (.invokevirtual 282, 3) := by decide +kernel
theorem dX8_listenWith_23 : decode cX8_listenWith 23 = .ok (.aload_n 0, 1) := by decide +kernel
theorem dX8_listenWith_24 : decode cX8_listenWith 24 = .ok (.getfield 33, 3) := by decide +kernel
theorem dX8_listenWith_27 : decode cX8_listenWith 27 = .ok (.aload_n 0, 1) := by decide +kernel
theorem dX8_listenWith_28 : decode cX8_listenWith 28 = .ok (.getfield 26, 3) := by decide +kernel
theorem dX8_listenWith_31 : decode cX8_listenWith 31 = .ok (.invokevirtual 279, 3) := by decide +kernel
theorem dX8_listenWith_34 : decode cX8_listenWith 34 = .ok (.return_, 1) := by decide +kernel
theorem dX8_evenest_0 : decode cX8_evenest 0 = .ok (.aload_n 0, 1) := by decide +kernel
theorem dX8_evenest_1 : decode cX8_evenest 1 = .ok (.getfield 12, 3) := by decide +kernel
theorem dX8_evenest_4 : decode cX8_evenest 4 = .ok (.getfield 55, 3) := by decide +kernel
theorem dX8_evenest_7 : decode cX8_evenest 7 = .ok (.getfield 285, 3) := by decide +kernel
theorem dX8_evenest_10 : decode cX8_evenest 10 = .ok (.istore_n 1, 1) := by decide +kernel
theorem dX8_evenest_11 : decode cX8_evenest 11 = .ok (.ldc2_w 117, 3) := by decide +kernel
theorem dX8_evenest_14 : decode cX8_evenest 14 = .ok (.lstore_n 2, 1) := by decide +kernel
theorem dX8_evenest_15 : decode cX8_evenest 15 = .ok (.bipush (-20), 2) := by decide +kernel
theorem dX8_evenest_17 : decode cX8_evenest 17 = .ok (.istore 4, 2) := by decide +kernel
theorem dX8_evenest_19 : decode cX8_evenest 19 = .ok (.iload 4, 2) := by decide +kernel
theorem dX8_evenest_21 : decode cX8_evenest 21 = .ok (.bipush 20, 2) := by decide +kernel
theorem dX8_evenest_23 : decode cX8_evenest 23 = .ok (.if_icmp .gt 85, 3) := by decide +kernel
theorem dX8_evenest_26 : decode cX8_evenest 26 = .ok (.aload_n 0, 1) := by decide +kernel
theorem dX8_evenest_27 : decode cX8_evenest 27 = .ok (.iconst 4, 1) := by decide +kernel
theorem dX8_evenest_28 : decode cX8_evenest 28 = .ok (.iload 4, 2) := by decide +kernel
theorem dX8_evenest_30 : decode cX8_evenest 30 = .ok (.invokevirtual 199, 3) := by decide +kernel
theorem dX8_evenest_33 : decode cX8_evenest 33 = .ok (.aload_n 0, 1) := by decide +kernel
theorem dX8_evenest_34 : decode cX8_evenest 34 = .ok (.getfield 33, 3) := by decide +kernel
theorem dX8_evenest_37 : decode cX8_evenest 37 = .ok (.invokevirtual 175, 3) := by decide +kernel
theorem dX8_evenest_40 : decode cX8_evenest 40 = .ok (.invokestatic 288, 3) := by decide +kernel
theorem dX8_evenest_43 : decode cX8_evenest 43 = .ok (.istore 5, 2) := by decide +kernel
theorem dX8_evenest_45 : decode cX8_evenest 45 = .ok (.iload 4, 2) := by decide +kernel
theorem dX8_evenest_47 : decode cX8_evenest 47 = .ok (.aload_n 0, 1) := by decide +kernel
theorem dX8_evenest_48 : decode cX8_evenest 48 = .ok (.getfield 12, 3) := by decide +kernel
theorem dX8_evenest_51 : decode cX8_evenest 51 = .ok (.getfield 55, 3) := by decide +kernel
theorem dX8_evenest_54 : decode cX8_evenest 54 = .ok (.getfield 285, 3) := by decide +kernel
theorem dX8_evenest_57 : decode cX8_evenest 57 = .ok (.isub, 1) := by decide +kernel
theorem dX8_evenest_58 : decode cX8_evenest 58 = .ok (.invokestatic 288, 3) := by decide +kernel
theorem dX8_evenest_61 : decode cX8_evenest 61 = .ok (.istore 6, 2) := by decide +kernel
theorem dX8_evenest_63 : decode cX8_evenest 63 = .ok (.aload_n 0, 1) := by decide +kernel
theorem dX8_evenest_64 : decode cX8_evenest 64 = .ok (.getfield 33, 3) := by decide +kernel
theorem dX8_evenest_67 : decode cX8_evenest 67 = .ok (.getfield 171, 3) := by decide +kernel
theorem dX8_evenest_70 : decode cX8_evenest 70 = .ok (.i2l, 1) := by decide +kernel
theorem dX8_evenest_71 : decode cX8_evenest 71 = .ok (.ldc2_w 293, 3) := by decide +kernel
theorem dX8_evenest_74 : decode cX8_evenest 74 = .ok (.lmul, 1) := by decide +kernel
theorem dX8_evenest_75 : decode cX8_evenest 75 = .ok (.iload 5, 2) := by decide +kernel
theorem dX8_evenest_77 : decode cX8_evenest 77 = .ok (.i2l, 1) := by decide +kernel
theorem dX8_evenest_78 : decode cX8_evenest 78 = .ok (.lsub, 1) := by decide +kernel
theorem dX8_evenest_79 : decode cX8_evenest 79 = .ok (.ldc2_w 293, 3) := by decide +kernel
theorem dX8_evenest_82 : decode cX8_evenest 82 = .ok (.lmul, 1) := by decide +kernel
theorem dX8_evenest_83 : decode cX8_evenest 83 = .ok (.iload 6, 2) := by decide +kernel
theorem dX8_evenest_85 : decode cX8_evenest 85 = .ok (.i2l, 1) := by decide +kernel
theorem dX8_evenest_86 : decode cX8_evenest 86 = .ok (.lsub, 1) := by decide +kernel
theorem dX8_evenest_87 : decode cX8_evenest 87 = .ok (.lstore 7, 2) := by decide +kernel
theorem dX8_evenest_89 : decode cX8_evenest 89 = .ok (.lload 7, 2) := by decide +kernel
theorem dX8_evenest_91 : decode cX8_evenest 91 = .ok (.lload_n 2, 1) := by decide +kernel
theorem dX8_evenest_92 : decode cX8_evenest 92 = .ok (.lcmp, 1) := by decide +kernel
theorem dX8_evenest_93 : decode cX8_evenest 93 = .ok (.ifCond .le 9, 3) := by decide +kernel
theorem dX8_evenest_96 : decode cX8_evenest 96 = .ok (.iload 4, 2) := by decide +kernel
theorem dX8_evenest_98 : decode cX8_evenest 98 = .ok (.istore_n 1, 1) := by decide +kernel
theorem dX8_evenest_99 : decode cX8_evenest 99 = .ok (.lload 7, 2) := by decide +kernel
theorem dX8_evenest_101 : decode cX8_evenest 101 = .ok (.lstore_n 2, 1) := by decide +kernel
theorem dX8_evenest_102 : decode cX8_evenest 102 = .ok (.iinc 4 1, 3) := by decide +kernel
theorem dX8_evenest_105 : decode cX8_evenest 105 = .ok (.goto (-86), 3) := by decide +kernel
theorem dX8_evenest_108 : decode cX8_evenest 108 = .ok (.iload_n 1, 1) := by decide +kernel
theorem dX8_evenest_109 : decode cX8_evenest 109 = .ok (.ireturn, 1) := by decide +kernel
theorem dX8_goesAsSeen_0 : decode cX8_goesAsSeen 0 = .ok (.aload_n 0, 1) := by decide +kernel
theorem dX8_goesAsSeen_1 : decode cX8_goesAsSeen 1 = .ok (.getfield 26, 3) := by decide +kernel
theorem dX8_goesAsSeen_4 : decode cX8_goesAsSeen 4 = .ok (.aload_n 0, 1) := by decide +kernel
theorem dX8_goesAsSeen_5 : decode cX8_goesAsSeen 5 = .ok (.getfield 12, 3) := by decide +kernel
theorem dX8_goesAsSeen_8 : decode cX8_goesAsSeen 8 = .ok (.getfield 55, 3) := by decide +kernel
theorem dX8_goesAsSeen_11 : decode cX8_goesAsSeen 11 = .ok (.invokevirtual 276, 3) := by decide +kernel
theorem dX8_goesAsSeen_14 : decode cX8_goesAsSeen 14 = .ok (.aload_n 0, 1) := by decide +kernel
theorem dX8_goesAsSeen_15 : decode cX8_goesAsSeen 15 = .ok (.getfield 26, 3) := by decide +kernel
theorem dX8_goesAsSeen_18 : decode cX8_goesAsSeen 18 = .ok (.iconst 2, 1) := by decide +kernel
theorem dX8_goesAsSeen_19 : decode cX8_goesAsSeen 19 = .ok (.iload_n 1, 1) := by decide +kernel
theorem dX8_goesAsSeen_20 : decode cX8_goesAsSeen 20 = .ok (.invokevirtual 282, 3) := by decide +kernel
theorem dX8_goesAsSeen_23 : decode cX8_goesAsSeen 23 = .ok (.aload_n 0, 1) := by decide +kernel
theorem dX8_goesAsSeen_24 : decode cX8_goesAsSeen 24 = .ok (.getfield 12, 3) := by decide +kernel
theorem dX8_goesAsSeen_27 : decode cX8_goesAsSeen 27 = .ok (.getfield 184, 3) := by decide +kernel
theorem dX8_goesAsSeen_30 : decode cX8_goesAsSeen 30 = .ok (.invokevirtual 295, 3) := by decide +kernel
theorem dX8_goesAsSeen_33 : decode cX8_goesAsSeen 33 = .ok (.istore_n 2, 1) := by decide +kernel
theorem dX8_goesAsSeen_34 : decode cX8_goesAsSeen 34 = .ok (.iconst 0, 1) := by decide +kernel
theorem dX8_goesAsSeen_35 : decode cX8_goesAsSeen 35 = .ok (.istore_n 3, 1) := by decide +kernel
theorem dX8_goesAsSeen_36 : decode cX8_goesAsSeen 36 = .ok (.iload_n 3, 1) := by decide +kernel
theorem dX8_goesAsSeen_37 : decode cX8_goesAsSeen 37 = .ok (.iload_n 2, 1) := by decide +kernel
theorem dX8_goesAsSeen_38 : decode cX8_goesAsSeen 38 = .ok (.if_icmp .gt 40, 3) := by decide +kernel
theorem dX8_goesAsSeen_41 : decode cX8_goesAsSeen 41 = .ok (.aload_n 0, 1) := by decide +kernel
theorem dX8_goesAsSeen_42 : decode cX8_goesAsSeen 42 = .ok (.getfield 12, 3) := by decide +kernel
theorem dX8_goesAsSeen_45 : decode cX8_goesAsSeen 45 = .ok (.getfield 184, 3) := by decide +kernel
theorem dX8_goesAsSeen_48 : decode cX8_goesAsSeen 48 = .ok (.iload_n 3, 1) := by decide +kernel
theorem dX8_goesAsSeen_49 : decode cX8_goesAsSeen 49 = .ok (.aload_n 0, 1) := by decide +kernel
theorem dX8_goesAsSeen_50 : decode cX8_goesAsSeen 50 = .ok (.getfield 26, 3) := by decide +kernel
theorem dX8_goesAsSeen_53 : decode cX8_goesAsSeen 53 = .ok (.getfield 298, 3) := by decide +kernel
theorem dX8_goesAsSeen_56 : decode cX8_goesAsSeen 56 = .ok (.invokevirtual 301, 3) := by decide +kernel
theorem dX8_goesAsSeen_59 : decode cX8_goesAsSeen 59 = .ok (.ifCond .ne 5, 3) := by decide +kernel
theorem dX8_goesAsSeen_62 : decode cX8_goesAsSeen 62 = .ok (.iconst 0, 1) := by decide +kernel
theorem dX8_goesAsSeen_63 : decode cX8_goesAsSeen 63 = .ok (.ireturn, 1) := by decide +kernel
theorem dX8_goesAsSeen_64 : decode cX8_goesAsSeen 64 = .ok (.aload_n 0, 1) := by decide +kernel
theorem dX8_goesAsSeen_65 : decode cX8_goesAsSeen 65 = .ok (.getfield 26, 3) := by decide +kernel
theorem dX8_goesAsSeen_68 : decode cX8_goesAsSeen 68 = .ok (.invokevirtual 110, 3) := by decide +kernel
theorem dX8_goesAsSeen_71 : decode cX8_goesAsSeen 71 = .ok (.pop, 1) := by decide +kernel
theorem dX8_goesAsSeen_72 : decode cX8_goesAsSeen 72 = .ok (.iinc 3 1, 3) := by decide +kernel
theorem dX8_goesAsSeen_75 : decode cX8_goesAsSeen 75 = .ok (.goto (-39), 3) := by decide +kernel
theorem dX8_goesAsSeen_78 : decode cX8_goesAsSeen 78 = .ok (.iconst 1, 1) := by decide +kernel
theorem dX8_goesAsSeen_79 : decode cX8_goesAsSeen 79 = .ok (.ireturn, 1) := by decide +kernel
theorem dX8_judgement_0 : decode cX8_judgement 0 = .ok (.iconst 0, 1) := by decide +kernel
theorem dX8_judgement_1 : decode cX8_judgement 1 = .ok (.istore_n 3, 1) := by decide +kernel
theorem dX8_judgement_2 : decode cX8_judgement 2 = .ok (.iload_n 3, 1) := by decide +kernel
theorem dX8_judgement_3 : decode cX8_judgement 3 = .ok (.aload_n 0, 1) := by decide +kernel
theorem dX8_judgement_4 : decode cX8_judgement 4 = .ok (.getfield 33, 3) := by decide +kernel
theorem dX8_judgement_7 : decode cX8_judgement 7 = .ok (.getfield 171, 3) := by decide +kernel
theorem dX8_judgement_10 : decode cX8_judgement 10 = .ok (.if_icmp .ge 61, 3) := by decide +kernel
theorem dX8_judgement_13 : decode cX8_judgement 13 = .ok (.iload_n 2, 1) := by decide +kernel
theorem dX8_judgement_14 : decode cX8_judgement 14 = .ok (.ifCond .lt 23, 3) := by decide +kernel
theorem dX8_judgement_17 : decode cX8_judgement 17 = .ok (.iload_n 2, 1) := by decide +kernel
theorem dX8_judgement_18 : decode cX8_judgement 18 = .ok (.aload_n 1, 1) := by decide +kernel
theorem dX8_judgement_19 : decode cX8_judgement 19 = .ok (.getfield 304, 3) := by decide +kernel
theorem dX8_judgement_22 : decode cX8_judgement 22 = .ok (.iload_n 3, 1) := by decide +kernel
theorem dX8_judgement_23 : decode cX8_judgement 23 = .ok (.isub, 1) := by decide +kernel
theorem dX8_judgement_24 : decode cX8_judgement 24 = .ok (.if_icmp .ge 13, 3) := by decide +kernel
theorem dX8_judgement_27 : decode cX8_judgement 27 = .ok (.aload_n 1, 1) := by decide +kernel
theorem dX8_judgement_28 : decode cX8_judgement 28 = .ok (.iload_n 2, 1) := by decide +kernel
theorem dX8_judgement_29 : decode cX8_judgement 29 = .ok (.iload_n 3, 1) := by decide +kernel
theorem dX8_judgement_30 : decode cX8_judgement 30 = .ok (.iadd, 1) := by decide +kernel
theorem dX8_judgement_31 : decode cX8_judgement 31 = .ok (.invokevirtual 235, 3) := by decide +kernel
theorem dX8_judgement_34 : decode cX8_judgement 34 = .ok (.ifCond .ne 8, 3) := by decide +kernel
theorem dX8_judgement_37 : decode cX8_judgement 37 = .ok (.bipush 100, 2) := by decide +kernel
theorem dX8_judgement_39 : decode cX8_judgement 39 = .ok (.iload_n 3, 1) := by decide +kernel
theorem dX8_judgement_40 : decode cX8_judgement 40 = .ok (.iadd, 1) := by decide +kernel
theorem dX8_judgement_41 : decode cX8_judgement 41 = .ok (.ireturn, 1) := by decide +kernel
theorem dX8_judgement_42 : decode cX8_judgement 42 = .ok (.aload_n 1, 1) := by decide +kernel
theorem dX8_judgement_43 : decode cX8_judgement 43 = .ok (.getfield 238, 3) := by decide +kernel
theorem dX8_judgement_46 : decode cX8_judgement 46 = .ok (.iload_n 2, 1) := by decide +kernel
theorem dX8_judgement_47 : decode cX8_judgement 47 = .ok (.iload_n 3, 1) := by decide +kernel
theorem dX8_judgement_48 : decode cX8_judgement 48 = .ok (.iadd, 1) := by decide +kernel
theorem dX8_judgement_49 : decode cX8_judgement 49 = .ok (.laload, 1) := by decide +kernel
theorem dX8_judgement_50 : decode cX8_judgement 50 = .ok (.aload_n 0, 1) := by decide +kernel
theorem dX8_judgement_51 : decode cX8_judgement 51 = .ok (.getfield 33, 3) := by decide +kernel
theorem dX8_judgement_54 : decode cX8_judgement 54 = .ok (.iload_n 3, 1) := by decide +kernel
theorem dX8_judgement_55 : decode cX8_judgement 55 = .ok (.invokevirtual 165, 3) := by decide +kernel
theorem dX8_judgement_58 : decode cX8_judgement 58 = .ok (.i2l, 1) := by decide +kernel
theorem dX8_judgement_59 : decode cX8_judgement 59 = .ok (.lcmp, 1) := by decide +kernel
theorem dX8_judgement_60 : decode cX8_judgement 60 = .ok (.ifCond .eq 5, 3) := by decide +kernel
theorem dX8_judgement_63 : decode cX8_judgement 63 = .ok (.iload_n 3, 1) := by decide +kernel
theorem dX8_judgement_64 : decode cX8_judgement 64 = .ok (.ireturn, 1) := by decide +kernel
theorem dX8_judgement_65 : decode cX8_judgement 65 = .ok (.iinc 3 1, 3) := by decide +kernel
theorem dX8_judgement_68 : decode cX8_judgement 68 = .ok (.goto (-66), 3) := by decide +kernel
theorem dX8_judgement_71 : decode cX8_judgement 71 = .ok (.bipush (-5), 2) := by decide +kernel
theorem dX8_judgement_73 : decode cX8_judgement 73 = .ok (.ireturn, 1) := by decide +kernel
theorem dX8_tapeAt_0 : decode cX8_tapeAt 0 = .ok (.iload_n 1, 1) := by decide +kernel
theorem dX8_tapeAt_1 : decode cX8_tapeAt 1 = .ok (.ifCond .lt 21, 3) := by decide +kernel
theorem dX8_tapeAt_4 : decode cX8_tapeAt 4 = .ok (.iload_n 1, 1) := by decide +kernel
theorem dX8_tapeAt_5 : decode cX8_tapeAt 5 = .ok (.aload_n 0, 1) := by decide +kernel
theorem dX8_tapeAt_6 : decode cX8_tapeAt 6 = .ok (.getfield 46, 3) := by decide +kernel
theorem dX8_tapeAt_9 : decode cX8_tapeAt 9 = .ok (.arraylength, 1) := by decide +kernel
theorem dX8_tapeAt_10 : decode cX8_tapeAt 10 = .ok (.if_icmp .ge 12, 3) := by decide +kernel
theorem dX8_tapeAt_13 : decode cX8_tapeAt 13 = .ok (.aload_n 0, 1) := by decide +kernel
theorem dX8_tapeAt_14 : decode cX8_tapeAt 14 = .ok (.getfield 46, 3) := by decide +kernel
theorem dX8_tapeAt_17 : decode cX8_tapeAt 17 = .ok (.iload_n 1, 1) := by decide +kernel
theorem dX8_tapeAt_18 : decode cX8_tapeAt 18 = .ok (.aaload, 1) := by decide +kernel
theorem dX8_tapeAt_19 : decode cX8_tapeAt 19 = .ok (.goto 4, 3) := by decide +kernel
theorem dX8_tapeAt_22 : decode cX8_tapeAt 22 = .ok (.aconst_null, 1) := by decide +kernel
theorem dX8_tapeAt_23 : decode cX8_tapeAt 23 = .ok (.areturn, 1) := by decide +kernel
