theorem dX0_init_0 : decode cX0_init 0 = .ok (.aload_n 0, 1) := by decide +kernel
theorem dX0_init_1 : decode cX0_init 1 = .ok (.invokespecial 3, 3) := by decide +kernel
theorem dX0_init_4 : decode cX0_init 4 = .ok (.aload_n 0, 1) := by decide +kernel
theorem dX0_init_5 : decode cX0_init 5 = .ok (.lconst 1, 1) := by decide +kernel
theorem dX0_init_6 : decode cX0_init 6 = .ok (.putfield 9, 3) := by decide +kernel
theorem dX0_init_9 : decode cX0_init 9 = .ok (.aload_n 0, 1) := by decide +kernel
theorem dX0_init_10 : decode cX0_init 10 = .ok (.bipush 41, 2) := by decide +kernel
theorem dX0_init_12 : decode cX0_init 12 = .ok (.newarray .int, 2) := by decide +kernel
theorem dX0_init_14 : decode cX0_init 14 = .ok (.putfield 17, 3) := by decide +kernel
theorem dX0_init_17 : decode cX0_init 17 = .ok (.aload_n 0, 1) := by decide +kernel
theorem dX0_init_18 : decode cX0_init 18 = .ok (.iconst 3, 1) := by decide +kernel
theorem dX0_init_19 : decode cX0_init 19 = .ok (.newarray .int, 2) := by decide +kernel
theorem dX0_init_21 : decode cX0_init 21 = .ok (.putfield 21, 3) := by decide +kernel
theorem dX0_init_24 : decode cX0_init 24 = .ok (.return_, 1) := by decide +kernel
theorem dX0_about_0 : decode cX0_about 0 = .ok (.aload_n 0, 1) := by decide +kernel
theorem dX0_about_1 : decode cX0_about 1 = .ok (.aload_n 1, 1) := by decide +kernel
theorem dX0_about_2 : decode cX0_about 2 = .ok (.iconst 0, 1) := by decide +kernel
theorem dX0_about_3 : decode cX0_about 3 = .ok (.invokevirtual 24, 3) := by decide +kernel
theorem dX0_about_6 : decode cX0_about 6 = .ok (.iconst 1, 1) := by decide +kernel
theorem dX0_about_7 : decode cX0_about 7 = .ok (.istore_n 2, 1) := by decide +kernel
theorem dX0_about_8 : decode cX0_about 8 = .ok (.iload_n 2, 1) := by decide +kernel
theorem dX0_about_9 : decode cX0_about 9 = .ok (.aload_n 1, 1) := by decide +kernel
theorem dX0_about_10 : decode cX0_about 10 = .ok (.invokevirtual 28, 3) := by decide +kernel
theorem dX0_about_13 : decode cX0_about 13 = .ok (.if_icmp .ge 24, 3) := by decide +kernel
theorem dX0_about_16 : decode cX0_about 16 = .ok (.aload_n 0, 1) := by decide +kernel
theorem dX0_about_17 : decode cX0_about 17 = .ok (.aload_n 1, 1) := by decide +kernel
theorem dX0_about_18 : decode cX0_about 18 = .ok (.iload_n 2, 1) := by decide +kernel
theorem dX0_about_19 : decode cX0_about 19 = .ok (.invokevirtual 32, 3) := by decide +kernel
theorem dX0_about_22 : decode cX0_about 22 = .ok (.ifCond .eq 9, 3) := by decide +kernel
theorem dX0_about_25 : decode cX0_about 25 = .ok (.aload_n 0, 1) := by decide +kernel
theorem dX0_about_26 : decode cX0_about 26 = .ok (.aload_n 1, 1) := by decide +kernel
theorem dX0_about_27 : decode cX0_about 27 = .ok (.iload_n 2, 1) := by decide +kernel
theorem dX0_about_28 : decode cX0_about 28 = .ok (.invokevirtual 36, 3) := by decide +kernel
theorem dX0_about_31 : decode cX0_about 31 = .ok (.iinc 2 1, 3) := by decide +kernel
theorem dX0_about_34 : decode cX0_about 34 = .ok (.goto (-26), 3) := by decide +kernel
theorem dX0_about_37 : decode cX0_about 37 = .ok (.return_, 1) := by decide +kernel
theorem dX0_aboutWithOne_0 : decode cX0_aboutWithOne 0 = .ok (.aload_n 0, 1) := by decide +kernel
theorem dX0_aboutWithOne_1 : decode cX0_aboutWithOne 1 = .ok (.aload_n 1, 1) := by decide +kernel
theorem dX0_aboutWithOne_2 : decode cX0_aboutWithOne 2 = .ok (.iload_n 2, 1) := by decide +kernel
theorem dX0_aboutWithOne_3 : decode cX0_aboutWithOne 3 = .ok (.invokevirtual 24, 3) := by decide +kernel
theorem dX0_aboutWithOne_6 : decode cX0_aboutWithOne 6 = .ok (.iconst 0, 1) := by decide +kernel
theorem dX0_aboutWithOne_7 : decode cX0_aboutWithOne 7 = .ok (.istore_n 3, 1) := by decide +kernel
theorem dX0_aboutWithOne_8 : decode cX0_aboutWithOne 8 = .ok (.iload_n 3, 1) := by decide +kernel
theorem dX0_aboutWithOne_9 : decode cX0_aboutWithOne 9 = .ok (.iload_n 2, 1) := by decide +kernel
theorem dX0_aboutWithOne_10 : decode cX0_aboutWithOne 10 = .ok (.if_icmp .ge 25, 3) := by decide +kernel
theorem dX0_aboutWithOne_13 : decode cX0_aboutWithOne 13 = .ok (.aload_n 0, 1) := by decide +kernel
theorem dX0_aboutWithOne_14 : decode cX0_aboutWithOne 14 = .ok (.aload_n 1, 1) := by decide +kernel
theorem dX0_aboutWithOne_15 : decode cX0_aboutWithOne 15 = .ok (.iload_n 3, 1) := by decide +kernel
theorem dX0_aboutWithOne_16 : decode cX0_aboutWithOne 16 = .ok (.invokevirtual 32, 3) := by decide +kernel
theorem dX0_aboutWithOne_19 : decode cX0_aboutWithOne 19 = .ok (.ifCond .eq 10, 3) := by decide +kernel
theorem dX0_aboutWithOne_22 : decode cX0_aboutWithOne 22 = .ok (.aload_n 0, 1) := by decide +kernel
theorem dX0_aboutWithOne_23 : decode cX0_aboutWithOne 23 = .ok (.aload_n 1, 1) := by decide +kernel
theorem dX0_aboutWithOne_24 : decode cX0_aboutWithOne 24 = .ok (.iload_n 2, 1) := by decide +kernel
theorem dX0_aboutWithOne_25 : decode cX0_aboutWithOne 25 = .ok (.iload_n 3, 1) := by decide +kernel
theorem dX0_aboutWithOne_26 : decode cX0_aboutWithOne 26 = .ok (.invokevirtual 39, 3) := by decide +kernel
theorem dX0_aboutWithOne_29 : decode cX0_aboutWithOne 29 = .ok (.iinc 3 1, 3) := by decide +kernel
theorem dX0_aboutWithOne_32 : decode cX0_aboutWithOne 32 = .ok (.goto (-24), 3) := by decide +kernel
theorem dX0_aboutWithOne_35 : decode cX0_aboutWithOne 35 = .ok (.return_, 1) := by decide +kernel
theorem dX0_aboutWithTwo_0 : decode cX0_aboutWithTwo 0 = .ok (.aload_n 0, 1) := by decide +kernel
theorem dX0_aboutWithTwo_1 : decode cX0_aboutWithTwo 1 = .ok (.aload_n 1, 1) := by decide +kernel
theorem dX0_aboutWithTwo_2 : decode cX0_aboutWithTwo 2 = .ok (.iload_n 2, 1) := by decide +kernel
theorem dX0_aboutWithTwo_3 : decode cX0_aboutWithTwo 3 = .ok (.iload_n 3, 1) := by decide +kernel
theorem dX0_aboutWithTwo_4 : decode cX0_aboutWithTwo 4 = .ok (.invokevirtual 43, 3) := by decide +kernel
theorem dX0_aboutWithTwo_7 : decode cX0_aboutWithTwo 7 = .ok (.iconst 0, 1) := by decide +kernel
theorem dX0_aboutWithTwo_8 : decode cX0_aboutWithTwo 8 = .ok (.istore 4, 2) := by decide +kernel
theorem dX0_aboutWithTwo_10 : decode cX0_aboutWithTwo 10 = .ok (.iload 4, 2) := by decide +kernel
theorem dX0_aboutWithTwo_12 : decode cX0_aboutWithTwo 12 = .ok (.iload_n 3, 1) := by decide +kernel
theorem dX0_aboutWithTwo_13 : decode cX0_aboutWithTwo 13 = .ok (.if_icmp .ge 29, 3) := by decide +kernel
theorem dX0_aboutWithTwo_16 : decode cX0_aboutWithTwo 16 = .ok (.aload_n 0, 1) := by decide +kernel
theorem dX0_aboutWithTwo_17 : decode cX0_aboutWithTwo 17 = .ok (.aload_n 1, 1) := by decide +kernel
theorem dX0_aboutWithTwo_18 : decode cX0_aboutWithTwo 18 = .ok (.iload 4, 2) := by decide +kernel
theorem dX0_aboutWithTwo_20 : decode cX0_aboutWithTwo 20 = .ok (.invokevirtual 32, 3) := by decide +kernel
theorem dX0_aboutWithTwo_23 : decode cX0_aboutWithTwo 23 = .ok (.ifCond .eq 13, 3) := by decide +kernel
theorem dX0_aboutWithTwo_26 : decode cX0_aboutWithTwo 26 = .ok (.aload_n 0, 1) := by decide +kernel
theorem dX0_aboutWithTwo_27 : decode cX0_aboutWithTwo 27 = .ok (.aload_n 1, 1) := by decide +kernel
theorem dX0_aboutWithTwo_28 : decode cX0_aboutWithTwo 28 = .ok (.iload_n 2, 1) := by decide +kernel
theorem dX0_aboutWithTwo_29 : decode cX0_aboutWithTwo 29 = .ok (.iload_n 3, 1) := by decide +kernel
theorem dX0_aboutWithTwo_30 : decode cX0_aboutWithTwo 30 = .ok (.iload 4, 2) := by decide +kernel
theorem dX0_aboutWithTwo_32 : decode cX0_aboutWithTwo 32 = .ok (.invokevirtual 46, 3) := by decide +kernel
theorem dX0_aboutWithTwo_35 : decode cX0_aboutWithTwo 35 = .ok (.pop, 1) := by decide +kernel
theorem dX0_aboutWithTwo_36 : decode cX0_aboutWithTwo 36 = .ok (.iinc 4 1, 3) := by decide +kernel
theorem dX0_aboutWithTwo_39 : decode cX0_aboutWithTwo 39 = .ok (.goto (-29), 3) := by decide +kernel
theorem dX0_aboutWithTwo_42 : decode cX0_aboutWithTwo 42 = .ok (.return_, 1) := by decide +kernel
theorem dX0_isOutside_0 : decode cX0_isOutside 0 = .ok (.aload_n 0, 1) := by decide +kernel
theorem dX0_isOutside_1 : decode cX0_isOutside 1 = .ok (.aload_n 1, 1) := by decide +kernel
theorem dX0_isOutside_2 : decode cX0_isOutside 2 = .ok (.iload_n 2, 1) := by decide +kernel
theorem dX0_isOutside_3 : decode cX0_isOutside 3 = .ok (.invokevirtual 50, 3) := by decide +kernel
theorem dX0_isOutside_6 : decode cX0_isOutside 6 = .ok (.aload_n 1, 1) := by decide +kernel
theorem dX0_isOutside_7 : decode cX0_isOutside 7 = .ok (.iload_n 2, 1) := by decide +kernel
theorem dX0_isOutside_8 : decode cX0_isOutside 8 = .ok (.invokevirtual 54, 3) := by decide +kernel
theorem dX0_isOutside_11 : decode cX0_isOutside 11 = .ok (.invokevirtual 57, 3) := by decide +kernel
theorem dX0_isOutside_14 : decode cX0_isOutside 14 = .ok (.ifCond .le 7, 3) := by decide +kernel
theorem dX0_isOutside_17 : decode cX0_isOutside 17 = .ok (.iconst 1, 1) := by decide +kernel
theorem dX0_isOutside_18 : decode cX0_isOutside 18 = .ok (.goto 4, 3) := by decide +kernel
theorem dX0_isOutside_21 : decode cX0_isOutside 21 = .ok (.iconst 0, 1) := by decide +kernel
theorem dX0_isOutside_22 : decode cX0_isOutside 22 = .ok (.ireturn, 1) := by decide +kernel
theorem dX0_atOne_0 : decode cX0_atOne 0 = .ok (.aload_n 0, 1) := by decide +kernel
theorem dX0_atOne_1 : decode cX0_atOne 1 = .ok (.aload_n 1, 1) := by decide +kernel
theorem dX0_atOne_2 : decode cX0_atOne 2 = .ok (.iload_n 2, 1) := by decide +kernel
theorem dX0_atOne_3 : decode cX0_atOne 3 = .ok (.invokevirtual 50, 3) := by decide +kernel
theorem dX0_atOne_6 : decode cX0_atOne 6 = .ok (.putfield 61, 3) := by decide +kernel
theorem dX0_atOne_9 : decode cX0_atOne 9 = .ok (.aload_n 0, 1) := by decide +kernel
theorem dX0_atOne_10 : decode cX0_atOne 10 = .ok (.aload_n 1, 1) := by decide +kernel
theorem dX0_atOne_11 : decode cX0_atOne 11 = .ok (.iload_n 2, 1) := by decide +kernel
theorem dX0_atOne_12 : decode cX0_atOne 12 = .ok (.invokevirtual 54, 3) := by decide +kernel
theorem dX0_atOne_15 : decode cX0_atOne 15 = .ok (.putfield 65, 3) := by decide +kernel
theorem dX0_atOne_18 : decode cX0_atOne 18 = .ok (.aload_n 0, 1) := by decide +kernel
theorem dX0_atOne_19 : decode cX0_atOne 19 = .ok (.lconst 1, 1) := by decide +kernel
theorem dX0_atOne_20 : decode cX0_atOne 20 = .ok (.putfield 9, 3) := by decide +kernel
theorem dX0_atOne_23 : decode cX0_atOne 23 = .ok (.aload_n 0, 1) := by decide +kernel
theorem dX0_atOne_24 : decode cX0_atOne 24 = .ok (.lconst 0, 1) := by decide +kernel
theorem dX0_atOne_25 : decode cX0_atOne 25 = .ok (.putfield 68, 3) := by decide +kernel
theorem dX0_atOne_28 : decode cX0_atOne 28 = .ok (.aload_n 0, 1) := by decide +kernel
theorem dX0_atOne_29 : decode cX0_atOne 29 = .ok (.lconst 0, 1) := by decide +kernel
theorem dX0_atOne_30 : decode cX0_atOne 30 = .ok (.putfield 71, 3) := by decide +kernel
theorem dX0_atOne_33 : decode cX0_atOne 33 = .ok (.return_, 1) := by decide +kernel
theorem dX0_acrossTwo_0 : decode cX0_acrossTwo 0 = .ok (.aload_n 0, 1) := by decide +kernel
theorem dX0_acrossTwo_1 : decode cX0_acrossTwo 1 = .ok (.aload_n 1, 1) := by decide +kernel
theorem dX0_acrossTwo_2 : decode cX0_acrossTwo 2 = .ok (.iload_n 2, 1) := by decide +kernel
theorem dX0_acrossTwo_3 : decode cX0_acrossTwo 3 = .ok (.invokevirtual 24, 3) := by decide +kernel
theorem dX0_acrossTwo_6 : decode cX0_acrossTwo 6 = .ok (.aload_n 0, 1) := by decide +kernel
theorem dX0_acrossTwo_7 : decode cX0_acrossTwo 7 = .ok (.ldc2_w 74, 3) := by decide +kernel
theorem dX0_acrossTwo_10 : decode cX0_acrossTwo 10 = .ok (.putfield 9, 3) := by decide +kernel
theorem dX0_acrossTwo_13 : decode cX0_acrossTwo 13 = .ok (.aload_n 0, 1) := by decide +kernel
theorem dX0_acrossTwo_14 : decode cX0_acrossTwo 14 = .ok (.aload_n 1, 1) := by decide +kernel
theorem dX0_acrossTwo_15 : decode cX0_acrossTwo 15 = .ok (.iload_n 3, 1) := by decide +kernel
theorem dX0_acrossTwo_16 : decode cX0_acrossTwo 16 = .ok (.invokevirtual 50, 3) := by decide +kernel
theorem dX0_acrossTwo_19 : decode cX0_acrossTwo 19 = .ok (.aload_n 0, 1) := by decide +kernel
theorem dX0_acrossTwo_20 : decode cX0_acrossTwo 20 = .ok (.getfield 61, 3) := by decide +kernel
theorem dX0_acrossTwo_23 : decode cX0_acrossTwo 23 = .ok (.isub, 1) := by decide +kernel
theorem dX0_acrossTwo_24 : decode cX0_acrossTwo 24 = .ok (.i2l, 1) := by decide +kernel
theorem dX0_acrossTwo_25 : decode cX0_acrossTwo 25 = .ok (.putfield 68, 3) := by decide +kernel
theorem dX0_acrossTwo_28 : decode cX0_acrossTwo 28 = .ok (.aload_n 0, 1) := by decide +kernel
theorem dX0_acrossTwo_29 : decode cX0_acrossTwo 29 = .ok (.aload_n 1, 1) := by decide +kernel
theorem dX0_acrossTwo_30 : decode cX0_acrossTwo 30 = .ok (.iload_n 3, 1) := by decide +kernel
theorem dX0_acrossTwo_31 : decode cX0_acrossTwo 31 = .ok (.invokevirtual 54, 3) := by decide +kernel
theorem dX0_acrossTwo_34 : decode cX0_acrossTwo 34 = .ok (.aload_n 0, 1) := by decide +kernel
theorem dX0_acrossTwo_35 : decode cX0_acrossTwo 35 = .ok (.getfield 65, 3) := by decide +kernel
theorem dX0_acrossTwo_38 : decode cX0_acrossTwo 38 = .ok (.isub, 1) := by decide +kernel
theorem dX0_acrossTwo_39 : decode cX0_acrossTwo 39 = .ok (.i2l, 1) := by decide +kernel
theorem dX0_acrossTwo_40 : decode cX0_acrossTwo 40 = .ok (.putfield 71, 3) := by decide +kernel
theorem dX0_acrossTwo_43 : decode cX0_acrossTwo 43 = .ok (.return_, 1) := by decide +kernel
theorem dX0_throughThree_0 : decode cX0_throughThree 0 = .ok (.aload_n 1, 1) := by decide +kernel
theorem dX0_throughThree_1 : decode cX0_throughThree 1 = .ok (.iload_n 3, 1) := by decide +kernel
theorem dX0_throughThree_2 : decode cX0_throughThree 2 = .ok (.invokevirtual 50, 3) := by decide +kernel
theorem dX0_throughThree_5 : decode cX0_throughThree 5 = .ok (.aload_n 1, 1) := by decide +kernel
theorem dX0_throughThree_6 : decode cX0_throughThree 6 = .ok (.iload_n 2, 1) := by decide +kernel
theorem dX0_throughThree_7 : decode cX0_throughThree 7 = .ok (.invokevirtual 50, 3) := by decide +kernel
theorem dX0_throughThree_10 : decode cX0_throughThree 10 = .ok (.isub, 1) := by decide +kernel
theorem dX0_throughThree_11 : decode cX0_throughThree 11 = .ok (.i2l, 1) := by decide +kernel
theorem dX0_throughThree_12 : decode cX0_throughThree 12 = .ok (.lstore 5, 2) := by decide +kernel
theorem dX0_throughThree_14 : decode cX0_throughThree 14 = .ok (.aload_n 1, 1) := by decide +kernel
theorem dX0_throughThree_15 : decode cX0_throughThree 15 = .ok (.iload_n 3, 1) := by decide +kernel
theorem dX0_throughThree_16 : decode cX0_throughThree 16 = .ok (.invokevirtual 54, 3) := by decide +kernel
theorem dX0_throughThree_19 : decode cX0_throughThree 19 = .ok (.aload_n 1, 1) := by decide +kernel
theorem dX0_throughThree_20 : decode cX0_throughThree 20 = .ok (.iload_n 2, 1) := by decide +kernel
theorem dX0_throughThree_21 : decode cX0_throughThree 21 = .ok (.invokevirtual 54, 3) := by decide +kernel
theorem dX0_throughThree_24 : decode cX0_throughThree 24 = .ok (.isub, 1) := by decide +kernel
theorem dX0_throughThree_25 : decode cX0_throughThree 25 = .ok (.i2l, 1) := by decide +kernel
theorem dX0_throughThree_26 : decode cX0_throughThree 26 = .ok (.lstore 7, 2) := by decide +kernel
theorem dX0_throughThree_28 : decode cX0_throughThree 28 = .ok (.aload_n 1, 1) := by decide +kernel
theorem dX0_throughThree_29 : decode cX0_throughThree 29 = .ok (.iload 4, 2) := by decide +kernel
theorem dX0_throughThree_31 : decode cX0_throughThree 31 = .ok (.invokevirtual 50, 3) := by decide +kernel
theorem dX0_throughThree_34 : decode cX0_throughThree 34 = .ok (.aload_n 1, 1) := by decide +kernel
theorem dX0_throughThree_35 : decode cX0_throughThree 35 = .ok (.iload_n 2, 1) := by decide +kernel
theorem dX0_throughThree_36 : decode cX0_throughThree 36 = .ok (.invokevirtual 50, 3) := by decide +kernel
theorem dX0_throughThree_39 : decode cX0_throughThree 39 = .ok (.isub, 1) := by decide +kernel
theorem dX0_throughThree_40 : decode cX0_throughThree 40 = .ok (.i2l, 1) := by decide +kernel
theorem dX0_throughThree_41 : decode cX0_throughThree 41 = .ok (.lstore 9, 2) := by decide +kernel
theorem dX0_throughThree_43 : decode cX0_throughThree 43 = .ok (.aload_n 1, 1) := by decide +kernel
theorem dX0_throughThree_44 : decode cX0_throughThree 44 = .ok (.iload 4, 2) := by decide +kernel
theorem dX0_throughThree_46 : decode cX0_throughThree 46 = .ok (.invokevirtual 54, 3) := by decide +kernel
theorem dX0_throughThree_49 : decode cX0_throughThree 49 = .ok (.aload_n 1, 1) := by decide +kernel
theorem dX0_throughThree_50 : decode cX0_throughThree 50 = .ok (.iload_n 2, 1) := by decide +kernel
theorem dX0_throughThree_51 : decode cX0_throughThree 51 = .ok (.invokevirtual 54, 3) := by decide +kernel
theorem dX0_throughThree_54 : decode cX0_throughThree 54 = .ok (.isub, 1) := by decide +kernel
theorem dX0_throughThree_55 : decode cX0_throughThree 55 = .ok (.i2l, 1) := by decide +kernel
theorem dX0_throughThree_56 : decode cX0_throughThree 56 = .ok (.lstore 11, 2) := by decide +kernel
theorem dX0_throughThree_58 : decode cX0_throughThree 58 = .ok (.lload 5, 2) := by decide +kernel
theorem dX0_throughThree_60 : decode cX0_throughThree 60 = .ok (.lload 11, 2) := by decide +kernel
theorem dX0_throughThree_62 : decode cX0_throughThree 62 = .ok (.lmul, 1) := by decide +kernel
theorem dX0_throughThree_63 : decode cX0_throughThree 63 = .ok (.lload 7, 2) := by decide +kernel
theorem dX0_throughThree_65 : decode cX0_throughThree 65 = .ok (.lload 9, 2) := by decide +kernel
theorem dX0_throughThree_67 : decode cX0_throughThree 67 = .ok (.lmul, 1) := by decide +kernel
theorem dX0_throughThree_68 : decode cX0_throughThree 68 = .ok (.lsub, 1) := by decide +kernel
theorem dX0_throughThree_69 : decode cX0_throughThree 69 = .ok (.lstore 13, 2) := by decide +kernel
theorem dX0_throughThree_71 : decode cX0_throughThree 71 = .ok (.lload 13, 2) := by decide +kernel
theorem dX0_throughThree_73 : decode cX0_throughThree 73 = .ok (.lconst 0, 1) := by decide +kernel
theorem dX0_throughThree_74 : decode cX0_throughThree 74 = .ok (.lcmp, 1) := by decide +kernel
theorem dX0_throughThree_75 : decode cX0_throughThree 75 = .ok (.ifCond .ne 5, 3) := by decide +kernel
theorem dX0_throughThree_78 : decode cX0_throughThree 78 = .ok (.iconst 0, 1) := by decide +kernel
theorem dX0_throughThree_79 : decode cX0_throughThree 79 = .ok (.ireturn, 1) := by decide +kernel
theorem dX0_throughThree_80 : decode cX0_throughThree 80 = .ok (.lload 13, 2) := by decide +kernel
theorem dX0_throughThree_82 : decode cX0_throughThree 82 = .ok (.lconst 0, 1) := by decide +kernel
theorem dX0_throughThree_83 : decode cX0_throughThree 83 = .ok (.lcmp, 1) := by decide +kernel
theorem dX0_throughThree_84 : decode cX0_throughThree 84 = .ok (.ifCond .ge 9, 3) := by decide +kernel
theorem dX0_throughThree_87 : decode cX0_throughThree 87 = .ok (.ldc2_w 76, 3) := by decide +kernel
theorem dX0_throughThree_90 : decode cX0_throughThree 90 = .ok (.goto 4, 3) := by decide +kernel
theorem dX0_throughThree_93 : decode cX0_throughThree 93 = .ok (.lconst 1, 1) := by decide +kernel
theorem dX0_throughThree_94 : decode cX0_throughThree 94 = .ok (.lstore 15, 2) := by decide +kernel
theorem dX0_throughThree_96 : decode cX0_throughThree 96 = .ok (.lload 15, 2) := by decide +kernel
theorem dX0_throughThree_98 : decode cX0_throughThree 98 = .ok (.lload 5, 2) := by decide +kernel
theorem dX0_throughThree_100 : decode cX0_throughThree 100 = .ok (.lload 5, 2) := by decide +kernel
theorem dX0_throughThree_102 : decode cX0_throughThree 102 = .ok (.lmul, 1) := by decide +kernel
theorem dX0_throughThree_103 : decode cX0_throughThree 103 = .ok (.lload 7, 2) := by decide +kernel
theorem dX0_throughThree_105 : decode cX0_throughThree 105 = .ok (.lload 7, 2) := by decide +kernel
theorem dX0_throughThree_107 : decode cX0_throughThree 107 = .ok (.lmul, 1) := by decide +kernel
theorem dX0_throughThree_108 : decode cX0_throughThree 108 = .ok (.ladd, 1) := by decide +kernel
theorem dX0_throughThree_109 : decode cX0_throughThree 109 = .ok (.lmul, 1) := by decide +kernel
theorem dX0_throughThree_110 : decode cX0_throughThree 110 = .ok (.lstore 17, 2) := by decide +kernel
theorem dX0_throughThree_112 : decode cX0_throughThree 112 = .ok (.lload 15, 2) := by decide +kernel
theorem dX0_throughThree_114 : decode cX0_throughThree 114 = .ok (.lload 9, 2) := by decide +kernel
theorem dX0_throughThree_116 : decode cX0_throughThree 116 = .ok (.lload 9, 2) := by decide +kernel
theorem dX0_throughThree_118 : decode cX0_throughThree 118 = .ok (.lmul, 1) := by decide +kernel
theorem dX0_throughThree_119 : decode cX0_throughThree 119 = .ok (.lload 11, 2) := by decide +kernel
theorem dX0_throughThree_121 : decode cX0_throughThree 121 = .ok (.lload 11, 2) := by decide +kernel
theorem dX0_throughThree_123 : decode cX0_throughThree 123 = .ok (.lmul, 1) := by decide +kernel
theorem dX0_throughThree_124 : decode cX0_throughThree 124 = .ok (.ladd, 1) := by decide +kernel
theorem dX0_throughThree_125 : decode cX0_throughThree 125 = .ok (.lmul, 1) := by decide +kernel
theorem dX0_throughThree_126 : decode cX0_throughThree 126 = .ok (.lstore 19, 2) := by decide +kernel
theorem dX0_throughThree_128 : decode cX0_throughThree 128 = .ok (.aload_n 0, 1) := by decide +kernel
theorem dX0_throughThree_129 : decode cX0_throughThree 129 = .ok (.aload_n 1, 1) := by decide +kernel
theorem dX0_throughThree_130 : decode cX0_throughThree 130 = .ok (.iload_n 2, 1) := by decide +kernel
theorem dX0_throughThree_131 : decode cX0_throughThree 131 = .ok (.invokevirtual 24, 3) := by decide +kernel
theorem dX0_throughThree_134 : decode cX0_throughThree 134 = .ok (.aload_n 0, 1) := by decide +kernel
theorem dX0_throughThree_135 : decode cX0_throughThree 135 = .ok (.ldc2_w 74, 3) := by decide +kernel
theorem dX0_throughThree_138 : decode cX0_throughThree 138 = .ok (.lload 15, 2) := by decide +kernel
theorem dX0_throughThree_140 : decode cX0_throughThree 140 = .ok (.lmul, 1) := by decide +kernel
theorem dX0_throughThree_141 : decode cX0_throughThree 141 = .ok (.lload 13, 2) := by decide +kernel
theorem dX0_throughThree_143 : decode cX0_throughThree 143 = .ok (.lmul, 1) := by decide +kernel
theorem dX0_throughThree_144 : decode cX0_throughThree 144 = .ok (.putfield 9, 3) := by decide +kernel
theorem dX0_throughThree_147 : decode cX0_throughThree 147 = .ok (.aload_n 0, 1) := by decide +kernel
theorem dX0_throughThree_148 : decode cX0_throughThree 148 = .ok (.lload 11, 2) := by decide +kernel
theorem dX0_throughThree_150 : decode cX0_throughThree 150 = .ok (.lload 17, 2) := by decide +kernel
theorem dX0_throughThree_152 : decode cX0_throughThree 152 = .ok (.lmul, 1) := by decide +kernel
theorem dX0_throughThree_153 : decode cX0_throughThree 153 = .ok (.lload 7, 2) := by decide +kernel
theorem dX0_throughThree_155 : decode cX0_throughThree 155 = .ok (.lload 19, 2) := by decide +kernel
theorem dX0_throughThree_157 : decode cX0_throughThree 157 = .ok (.lmul, 1) := by decide +kernel
theorem dX0_throughThree_158 : decode cX0_throughThree 158 = .ok (.lsub, 1) := by decide +kernel
theorem dX0_throughThree_159 : decode cX0_throughThree 159 = .ok (.putfield 68, 3) := by decide +kernel
theorem dX0_throughThree_162 : decode cX0_throughThree 162 = .ok (.aload_n 0, 1) := by decide +kernel
theorem dX0_throughThree_163 : decode cX0_throughThree 163 = .ok (.lload 5, 2) := by decide +kernel
theorem dX0_throughThree_165 : decode cX0_throughThree 165 = .ok (.lload 19, 2) := by decide +kernel
theorem dX0_throughThree_167 : decode cX0_throughThree 167 = .ok (.lmul, 1) := by decide +kernel
theorem dX0_throughThree_168 : decode cX0_throughThree 168 = .ok (.lload 9, 2) := by decide +kernel
theorem dX0_throughThree_170 : decode cX0_throughThree 170 = .ok (.lload 17, 2) := by decide +kernel
theorem dX0_throughThree_172 : decode cX0_throughThree 172 = .ok (.lmul, 1) := by decide +kernel
theorem dX0_throughThree_173 : decode cX0_throughThree 173 = .ok (.lsub, 1) := by decide +kernel
theorem dX0_throughThree_174 : decode cX0_throughThree 174 = .ok (.putfield 71, 3) := by decide +kernel
theorem dX0_throughThree_177 : decode cX0_throughThree 177 = .ok (.iconst 1, 1) := by decide +kernel
theorem dX0_throughThree_178 : decode cX0_throughThree 178 = .ok (.ireturn, 1) := by decide +kernel
theorem dX0_side_0 : decode cX0_side 0 = .ok (.iload_n 1, 1) := by decide +kernel
theorem dX0_side_1 : decode cX0_side 1 = .ok (.aload_n 0, 1) := by decide +kernel
theorem dX0_side_2 : decode cX0_side 2 = .ok (.getfield 61, 3) := by decide +kernel
theorem dX0_side_5 : decode cX0_side 5 = .ok (.isub, 1) := by decide +kernel
theorem dX0_side_6 : decode cX0_side 6 = .ok (.i2l, 1) := by decide +kernel
theorem dX0_side_7 : decode cX0_side 7 = .ok (.lstore_n 3, 1) := by decide +kernel
theorem dX0_side_8 : decode cX0_side 8 = .ok (.iload_n 2, 1) := by decide +kernel
theorem dX0_side_9 : decode cX0_side 9 = .ok (.aload_n 0, 1) := by decide +kernel
theorem dX0_side_10 : decode cX0_side 10 = .ok (.getfield 65, 3) := by decide +kernel
theorem dX0_side_13 : decode cX0_side 13 = .ok (.isub, 1) := by decide +kernel
theorem dX0_side_14 : decode cX0_side 14 = .ok (.i2l, 1) := by decide +kernel
theorem dX0_side_15 : decode cX0_side 15 = .ok (.lstore 5, 2) := by decide +kernel
theorem dX0_side_17 : decode cX0_side 17 = .ok (.aload_n 0, 1) := by decide +kernel
theorem dX0_side_18 : decode cX0_side 18 = .ok (.getfield 9, 3) := by decide +kernel
theorem dX0_side_21 : decode cX0_side 21 = .ok (.lload_n 3, 1) := by decide +kernel
theorem dX0_side_22 : decode cX0_side 22 = .ok (.lload_n 3, 1) := by decide +kernel
theorem dX0_side_23 : decode cX0_side 23 = .ok (.lmul, 1) := by decide +kernel
theorem dX0_side_24 : decode cX0_side 24 = .ok (.lload 5, 2) := by decide +kernel
theorem dX0_side_26 : decode cX0_side 26 = .ok (.lload 5, 2) := by decide +kernel
theorem dX0_side_28 : decode cX0_side 28 = .ok (.lmul, 1) := by decide +kernel
theorem dX0_side_29 : decode cX0_side 29 = .ok (.ladd, 1) := by decide +kernel
theorem dX0_side_30 : decode cX0_side 30 = .ok (.lmul, 1) := by decide +kernel
theorem dX0_side_31 : decode cX0_side 31 = .ok (.ldc2_w 74, 3) := by decide +kernel
theorem dX0_side_34 : decode cX0_side 34 = .ok (.lload_n 3, 1) := by decide +kernel
theorem dX0_side_35 : decode cX0_side 35 = .ok (.aload_n 0, 1) := by decide +kernel
theorem dX0_side_36 : decode cX0_side 36 = .ok (.getfield 68, 3) := by decide +kernel
theorem dX0_side_39 : decode cX0_side 39 = .ok (.lmul, 1) := by decide +kernel
theorem dX0_side_40 : decode cX0_side 40 = .ok (.lload 5, 2) := by decide +kernel
theorem dX0_side_42 : decode cX0_side 42 = .ok (.aload_n 0, 1) := by decide +kernel
theorem dX0_side_43 : decode cX0_side 43 = .ok (.getfield 71, 3) := by decide +kernel
theorem dX0_side_46 : decode cX0_side 46 = .ok (.lmul, 1) := by decide +kernel
theorem dX0_side_47 : decode cX0_side 47 = .ok (.ladd, 1) := by decide +kernel
theorem dX0_side_48 : decode cX0_side 48 = .ok (.lmul, 1) := by decide +kernel
theorem dX0_side_49 : decode cX0_side 49 = .ok (.invokestatic 78, 3) := by decide +kernel
theorem dX0_side_52 : decode cX0_side 52 = .ok (.ireturn, 1) := by decide +kernel
theorem dX0_sizeAbove_0 : decode cX0_sizeAbove 0 = .ok (.aload_n 0, 1) := by decide +kernel
theorem dX0_sizeAbove_1 : decode cX0_sizeAbove 1 = .ok (.getfield 68, 3) := by decide +kernel
theorem dX0_sizeAbove_4 : decode cX0_sizeAbove 4 = .ok (.aload_n 0, 1) := by decide +kernel
theorem dX0_sizeAbove_5 : decode cX0_sizeAbove 5 = .ok (.getfield 68, 3) := by decide +kernel
theorem dX0_sizeAbove_8 : decode cX0_sizeAbove 8 = .ok (.lmul, 1) := by decide +kernel
theorem dX0_sizeAbove_9 : decode cX0_sizeAbove 9 = .ok (.aload_n 0, 1) := by decide +kernel
theorem dX0_sizeAbove_10 : decode cX0_sizeAbove 10 = .ok (.getfield 71, 3) := by decide +kernel
theorem dX0_sizeAbove_13 : decode cX0_sizeAbove 13 = .ok (.aload_n 0, 1) := by decide +kernel
theorem dX0_sizeAbove_14 : decode cX0_sizeAbove 14 = .ok (.getfield 71, 3) := by decide +kernel
theorem dX0_sizeAbove_17 : decode cX0_sizeAbove 17 = .ok (.lmul, 1) := by decide +kernel
theorem dX0_sizeAbove_18 : decode cX0_sizeAbove 18 = .ok (.ladd, 1) := by decide +kernel
theorem dX0_sizeAbove_19 : decode cX0_sizeAbove 19 = .ok (.lreturn, 1) := by decide +kernel
theorem dX0_sizeBelow_0 : decode cX0_sizeBelow 0 = .ok (.aload_n 0, 1) := by decide +kernel
theorem dX0_sizeBelow_1 : decode cX0_sizeBelow 1 = .ok (.getfield 9, 3) := by decide +kernel
theorem dX0_sizeBelow_4 : decode cX0_sizeBelow 4 = .ok (.aload_n 0, 1) := by decide +kernel
theorem dX0_sizeBelow_5 : decode cX0_sizeBelow 5 = .ok (.getfield 9, 3) := by decide +kernel
theorem dX0_sizeBelow_8 : decode cX0_sizeBelow 8 = .ok (.lmul, 1) := by decide +kernel
theorem dX0_sizeBelow_9 : decode cX0_sizeBelow 9 = .ok (.lreturn, 1) := by decide +kernel
theorem dX0_size_0 : decode cX0_size 0 = .ok (.aload_n 1, 1) := by decide +kernel
theorem dX0_size_1 : decode cX0_size 1 = .ok (.aload_n 0, 1) := by decide +kernel
theorem dX0_size_2 : decode cX0_size 2 = .ok (.invokevirtual 84, 3) := by decide +kernel
theorem dX0_size_5 : decode cX0_size 5 = .ok (.aload_n 0, 1) := by decide +kernel
theorem dX0_size_6 : decode cX0_size 6 = .ok (.invokevirtual 88, 3) := by decide +kernel
theorem dX0_size_9 : decode cX0_size 9 = .ok (.invokevirtual 91, 3) := by decide +kernel
theorem dX0_size_12 : decode cX0_size 12 = .ok (.return_, 1) := by decide +kernel
theorem dX0_middleX_0 : decode cX0_middleX 0 = .ok (.aload_n 1, 1) := by decide +kernel
theorem dX0_middleX_1 : decode cX0_middleX 1 = .ok (.aload_n 0, 1) := by decide +kernel
theorem dX0_middleX_2 : decode cX0_middleX 2 = .ok (.getfield 61, 3) := by decide +kernel
theorem dX0_middleX_5 : decode cX0_middleX 5 = .ok (.i2l, 1) := by decide +kernel
theorem dX0_middleX_6 : decode cX0_middleX 6 = .ok (.aload_n 0, 1) := by decide +kernel
theorem dX0_middleX_7 : decode cX0_middleX 7 = .ok (.getfield 9, 3) := by decide +kernel
theorem dX0_middleX_10 : decode cX0_middleX 10 = .ok (.lmul, 1) := by decide +kernel
theorem dX0_middleX_11 : decode cX0_middleX 11 = .ok (.aload_n 0, 1) := by decide +kernel
theorem dX0_middleX_12 : decode cX0_middleX 12 = .ok (.getfield 68, 3) := by decide +kernel
theorem dX0_middleX_15 : decode cX0_middleX 15 = .ok (.ladd, 1) := by decide +kernel
theorem dX0_middleX_16 : decode cX0_middleX 16 = .ok (.aload_n 0, 1) := by decide +kernel
theorem dX0_middleX_17 : decode cX0_middleX 17 = .ok (.getfield 9, 3) := by decide +kernel
theorem dX0_middleX_20 : decode cX0_middleX 20 = .ok (.invokevirtual 91, 3) := by decide +kernel
theorem dX0_middleX_23 : decode cX0_middleX 23 = .ok (.return_, 1) := by decide +kernel
theorem dX0_middleY_0 : decode cX0_middleY 0 = .ok (.aload_n 1, 1) := by decide +kernel
theorem dX0_middleY_1 : decode cX0_middleY 1 = .ok (.aload_n 0, 1) := by decide +kernel
theorem dX0_middleY_2 : decode cX0_middleY 2 = .ok (.getfield 65, 3) := by decide +kernel
theorem dX0_middleY_5 : decode cX0_middleY 5 = .ok (.i2l, 1) := by decide +kernel
theorem dX0_middleY_6 : decode cX0_middleY 6 = .ok (.aload_n 0, 1) := by decide +kernel
theorem dX0_middleY_7 : decode cX0_middleY 7 = .ok (.getfield 9, 3) := by decide +kernel
theorem dX0_middleY_10 : decode cX0_middleY 10 = .ok (.lmul, 1) := by decide +kernel
theorem dX0_middleY_11 : decode cX0_middleY 11 = .ok (.aload_n 0, 1) := by decide +kernel
theorem dX0_middleY_12 : decode cX0_middleY 12 = .ok (.getfield 71, 3) := by decide +kernel
theorem dX0_middleY_15 : decode cX0_middleY 15 = .ok (.ladd, 1) := by decide +kernel
theorem dX0_middleY_16 : decode cX0_middleY 16 = .ok (.aload_n 0, 1) := by decide +kernel
theorem dX0_middleY_17 : decode cX0_middleY 17 = .ok (.getfield 9, 3) := by decide +kernel
theorem dX0_middleY_20 : decode cX0_middleY 20 = .ok (.invokevirtual 91, 3) := by decide +kernel
theorem dX0_middleY_23 : decode cX0_middleY 23 = .ok (.return_, 1) := by decide +kernel
theorem dX0_sizeAgainst_0 : decode cX0_sizeAgainst 0 = .ok (.aload_n 0, 1) := by decide +kernel
theorem dX0_sizeAgainst_1 : decode cX0_sizeAgainst 1 = .ok (.invokevirtual 84, 3) := by decide +kernel
theorem dX0_sizeAgainst_4 : decode cX0_sizeAgainst 4 = .ok (.aload_n 0, 1) := by decide +kernel
theorem dX0_sizeAgainst_5 : decode cX0_sizeAgainst 5 = .ok (.invokevirtual 88, 3) := by decide +kernel
theorem dX0_sizeAgainst_8 : decode cX0_sizeAgainst 8 = .ok (.aload_n 1, 1) := by decide +kernel
theorem dX0_sizeAgainst_9 : decode cX0_sizeAgainst 9 = .ok (.invokevirtual 84, 3) := by decide +kernel
theorem dX0_sizeAgainst_12 : decode cX0_sizeAgainst 12 = .ok (.aload_n 1, 1) := by decide +kernel
theorem dX0_sizeAgainst_13 : decode cX0_sizeAgainst 13 = .ok (.invokevirtual 88, 3) := by decide +kernel
theorem dX0_sizeAgainst_16 : decode cX0_sizeAgainst 16 = .ok (.invokestatic 97, 3) := by decide +kernel
theorem dX0_sizeAgainst_19 : decode cX0_sizeAgainst 19 = .ok (.ireturn, 1) := by decide +kernel
theorem dX0_countOnRim_0 : decode cX0_countOnRim 0 = .ok (.iconst 0, 1) := by decide +kernel
theorem dX0_countOnRim_1 : decode cX0_countOnRim 1 = .ok (.istore_n 2, 1) := by decide +kernel
theorem dX0_countOnRim_2 : decode cX0_countOnRim 2 = .ok (.iconst 0, 1) := by decide +kernel
theorem dX0_countOnRim_3 : decode cX0_countOnRim 3 = .ok (.istore_n 3, 1) := by decide +kernel
theorem dX0_countOnRim_4 : decode cX0_countOnRim 4 = .ok (.iload_n 3, 1) := by decide +kernel
theorem dX0_countOnRim_5 : decode cX0_countOnRim 5 = .ok (.aload_n 1, 1) := by decide +kernel
theorem dX0_countOnRim_6 : decode cX0_countOnRim 6 = .ok (.invokevirtual 28, 3) := by decide +kernel
theorem dX0_countOnRim_9 : decode cX0_countOnRim 9 = .ok (.if_icmp .ge 29, 3) := by decide +kernel
theorem dX0_countOnRim_12 : decode cX0_countOnRim 12 = .ok (.aload_n 0, 1) := by decide +kernel
theorem dX0_countOnRim_13 : decode cX0_countOnRim 13 = .ok (.aload_n 1, 1) := by decide +kernel
theorem dX0_countOnRim_14 : decode cX0_countOnRim 14 = .ok (.iload_n 3, 1) := by decide +kernel
theorem dX0_countOnRim_15 : decode cX0_countOnRim 15 = .ok (.invokevirtual 50, 3) := by decide +kernel
theorem dX0_countOnRim_18 : decode cX0_countOnRim 18 = .ok (.aload_n 1, 1) := by decide +kernel
theorem dX0_countOnRim_19 : decode cX0_countOnRim 19 = .ok (.iload_n 3, 1) := by decide +kernel
theorem dX0_countOnRim_20 : decode cX0_countOnRim 20 = .ok (.invokevirtual 54, 3) := by decide +kernel
theorem dX0_countOnRim_23 : decode cX0_countOnRim 23 = .ok (.invokevirtual 57, 3) := by decide +kernel
theorem dX0_countOnRim_26 : decode cX0_countOnRim 26 = .ok (.ifCond .ne 6, 3) := by decide +kernel
theorem dX0_countOnRim_29 : decode cX0_countOnRim 29 = .ok (.iinc 2 1, 3) := by decide +kernel
theorem dX0_countOnRim_32 : decode cX0_countOnRim 32 = .ok (.iinc 3 1, 3) := by decide +kernel
theorem dX0_countOnRim_35 : decode cX0_countOnRim 35 = .ok (.goto (-31), 3) := by decide +kernel
theorem dX0_countOnRim_38 : decode cX0_countOnRim 38 = .ok (.iload_n 2, 1) := by decide +kernel
theorem dX0_countOnRim_39 : decode cX0_countOnRim 39 = .ok (.ireturn, 1) := by decide +kernel
theorem dX0_tightCount_0 : decode cX0_tightCount 0 = .ok (.aload_n 0, 1) := by decide +kernel
theorem dX0_tightCount_1 : decode cX0_tightCount 1 = .ok (.getfield 100, 3) := by decide +kernel
theorem dX0_tightCount_4 : decode cX0_tightCount 4 = .ok (.ireturn, 1) := by decide +kernel
theorem dX0_tightNumber_0 : decode cX0_tightNumber 0 = .ok (.iload_n 1, 1) := by decide +kernel
theorem dX0_tightNumber_1 : decode cX0_tightNumber 1 = .ok (.ifCond .lt 25, 3) := by decide +kernel
theorem dX0_tightNumber_4 : decode cX0_tightNumber 4 = .ok (.iload_n 1, 1) := by decide +kernel
theorem dX0_tightNumber_5 : decode cX0_tightNumber 5 = .ok (.aload_n 0, 1) := by decide +kernel
theorem dX0_tightNumber_6 : decode cX0_tightNumber 6 = .ok (.getfield 100, 3) := by decide +kernel
theorem dX0_tightNumber_9 : decode cX0_tightNumber 9 = .ok (.if_icmp .ge 17, 3) := by decide +kernel
theorem dX0_tightNumber_12 : decode cX0_tightNumber 12 = .ok (.iload_n 1, 1) := by decide +kernel
theorem dX0_tightNumber_13 : decode cX0_tightNumber 13 = .ok (.iconst 3, 1) := by decide +kernel
theorem dX0_tightNumber_14 : decode cX0_tightNumber 14 = .ok (.if_icmp .ge 12, 3) := by decide +kernel
theorem dX0_tightNumber_17 : decode cX0_tightNumber 17 = .ok (.aload_n 0, 1) := by decide +kernel
theorem dX0_tightNumber_18 : decode cX0_tightNumber 18 = .ok (.getfield 21, 3) := by decide +kernel
theorem dX0_tightNumber_21 : decode cX0_tightNumber 21 = .ok (.iload_n 1, 1) := by decide +kernel
theorem dX0_tightNumber_22 : decode cX0_tightNumber 22 = .ok (.iaload, 1) := by decide +kernel
theorem dX0_tightNumber_23 : decode cX0_tightNumber 23 = .ok (.goto 4, 3) := by decide +kernel
theorem dX0_tightNumber_26 : decode cX0_tightNumber 26 = .ok (.iconst (-1), 1) := by decide +kernel
theorem dX0_tightNumber_27 : decode cX0_tightNumber 27 = .ok (.ireturn, 1) := by decide +kernel
theorem dX0_seekTight_0 : decode cX0_seekTight 0 = .ok (.aload_n 0, 1) := by decide +kernel
theorem dX0_seekTight_1 : decode cX0_seekTight 1 = .ok (.iconst 0, 1) := by decide +kernel
theorem dX0_seekTight_2 : decode cX0_seekTight 2 = .ok (.putfield 103, 3) := by decide +kernel
theorem dX0_seekTight_5 : decode cX0_seekTight 5 = .ok (.iconst 0, 1) := by decide +kernel
theorem dX0_seekTight_6 : decode cX0_seekTight 6 = .ok (.istore_n 2, 1) := by decide +kernel
theorem dX0_seekTight_7 : decode cX0_seekTight 7 = .ok (.iload_n 2, 1) := by decide +kernel
theorem dX0_seekTight_8 : decode cX0_seekTight 8 = .ok (.aload_n 1, 1) := by decide +kernel
theorem dX0_seekTight_9 : decode cX0_seekTight 9 = .ok (.invokevirtual 28, 3) := by decide +kernel
theorem dX0_seekTight_12 : decode cX0_seekTight 12 = .ok (.if_icmp .ge 32, 3) := by decide +kernel
theorem dX0_seekTight_15 : decode cX0_seekTight 15 = .ok (.aload_n 0, 1) := by decide +kernel
theorem dX0_seekTight_16 : decode cX0_seekTight 16 = .ok (.aload_n 1, 1) := by decide +kernel
theorem dX0_seekTight_17 : decode cX0_seekTight 17 = .ok (.iload_n 2, 1) := by decide +kernel
theorem dX0_seekTight_18 : decode cX0_seekTight 18 = .ok (.invokevirtual 50, 3) := by decide +kernel
theorem dX0_seekTight_21 : decode cX0_seekTight 21 = .ok (.aload_n 1, 1) := by decide +kernel
theorem dX0_seekTight_22 : decode cX0_seekTight 22 = .ok (.iload_n 2, 1) := by decide +kernel
theorem dX0_seekTight_23 : decode cX0_seekTight 23 = .ok (.invokevirtual 54, 3) := by decide +kernel
theorem dX0_seekTight_26 : decode cX0_seekTight 26 = .ok (.invokevirtual 57, 3) := by decide +kernel
theorem dX0_seekTight_29 : decode cX0_seekTight 29 = .ok (.ifCond .ne 9, 3) := by decide +kernel
theorem dX0_seekTight_32 : decode cX0_seekTight 32 = .ok (.aload_n 0, 1) := by decide +kernel
theorem dX0_seekTight_33 : decode cX0_seekTight 33 = .ok (.aload_n 1, 1) := by decide +kernel
theorem dX0_seekTight_34 : decode cX0_seekTight 34 = .ok (.iload_n 2, 1) := by decide +kernel
theorem dX0_seekTight_35 : decode cX0_seekTight 35 = .ok (.invokevirtual 106, 3) := by decide +kernel
theorem dX0_seekTight_38 : decode cX0_seekTight 38 = .ok (.iinc 2 1, 3) := by decide +kernel
theorem dX0_seekTight_41 : decode cX0_seekTight 41 = .ok (.goto (-34), 3) := by decide +kernel
theorem dX0_seekTight_44 : decode cX0_seekTight 44 = .ok (.aload_n 0, 1) := by decide +kernel
theorem dX0_seekTight_45 : decode cX0_seekTight 45 = .ok (.iconst 0, 1) := by decide +kernel
theorem dX0_seekTight_46 : decode cX0_seekTight 46 = .ok (.putfield 100, 3) := by decide +kernel
theorem dX0_seekTight_49 : decode cX0_seekTight 49 = .ok (.aload_n 0, 1) := by decide +kernel
theorem dX0_seekTight_50 : decode cX0_seekTight 50 = .ok (.getfield 103, 3) := by decide +kernel
theorem dX0_seekTight_53 : decode cX0_seekTight 53 = .ok (.iconst 1, 1) := by decide +kernel
theorem dX0_seekTight_54 : decode cX0_seekTight 54 = .ok (.if_icmp .ne 15, 3) := by decide +kernel
theorem dX0_seekTight_57 : decode cX0_seekTight 57 = .ok (.aload_n 0, 1) := by decide +kernel
theorem dX0_seekTight_58 : decode cX0_seekTight 58 = .ok (.aload_n 1, 1) := by decide +kernel
theorem dX0_seekTight_59 : decode cX0_seekTight 59 = .ok (.iconst 1, 1) := by decide +kernel
theorem dX0_seekTight_60 : decode cX0_seekTight 60 = .ok (.iconst 0, 1) := by decide +kernel
theorem dX0_seekTight_61 : decode cX0_seekTight 61 = .ok (.iconst 0, 1) := by decide +kernel
theorem dX0_seekTight_62 : decode cX0_seekTight 62 = .ok (.iconst 0, 1) := by decide +kernel
theorem dX0_seekTight_63 : decode cX0_seekTight 63 = .ok (.invokevirtual 109, 3) := by decide +kernel
theorem dX0_seekTight_66 : decode cX0_seekTight 66 = .ok (.goto 16, 3) := by decide +kernel
theorem dX0_seekTight_69 : decode cX0_seekTight 69 = .ok (.aload_n 0, 1) := by decide +kernel
theorem dX0_seekTight_70 : decode cX0_seekTight 70 = .ok (.aload_n 1, 1) := by decide +kernel
theorem dX0_seekTight_71 : decode cX0_seekTight 71 = .ok (.invokevirtual 113, 3) := by decide +kernel
theorem dX0_seekTight_74 : decode cX0_seekTight 74 = .ok (.ifCond .ne 8, 3) := by decide +kernel
theorem dX0_seekTight_77 : decode cX0_seekTight 77 = .ok (.aload_n 0, 1) := by decide +kernel
theorem dX0_seekTight_78 : decode cX0_seekTight 78 = .ok (.aload_n 1, 1) := by decide +kernel
theorem dX0_seekTight_79 : decode cX0_seekTight 79 = .ok (.invokevirtual 117, 3) := by decide +kernel
theorem dX0_seekTight_82 : decode cX0_seekTight 82 = .ok (.return_, 1) := by decide +kernel
theorem dX0_putOnRim_0 : decode cX0_putOnRim 0 = .ok (.aload_n 0, 1) := by decide +kernel
theorem dX0_putOnRim_1 : decode cX0_putOnRim 1 = .ok (.getfield 103, 3) := by decide +kernel
theorem dX0_putOnRim_4 : decode cX0_putOnRim 4 = .ok (.istore_n 3, 1) := by decide +kernel
theorem dX0_putOnRim_5 : decode cX0_putOnRim 5 = .ok (.iload_n 3, 1) := by decide +kernel
theorem dX0_putOnRim_6 : decode cX0_putOnRim 6 = .ok (.aload_n 0, 1) := by decide +kernel
theorem dX0_putOnRim_7 : decode cX0_putOnRim 7 = .ok (.getfield 17, 3) := by decide +kernel
theorem dX0_putOnRim_10 : decode cX0_putOnRim 10 = .ok (.arraylength, 1) := by decide +kernel
theorem dX0_putOnRim_11 : decode cX0_putOnRim 11 = .ok (.if_icmp .lt 4, 3) := by decide +kernel
theorem dX0_putOnRim_14 : decode cX0_putOnRim 14 = .ok (.return_, 1) := by decide +kernel
theorem dX0_putOnRim_15 : decode cX0_putOnRim 15 = .ok (.iload_n 3, 1) := by decide +kernel
theorem dX0_putOnRim_16 : decode cX0_putOnRim 16 = .ok (.ifCond .le 43, 3) := by decide +kernel
theorem dX0_putOnRim_19 : decode cX0_putOnRim 19 = .ok (.aload_n 1, 1) := by decide +kernel
theorem dX0_putOnRim_20 : decode cX0_putOnRim 20 = .ok (.aload_n 0, 1) := by decide +kernel
theorem dX0_putOnRim_21 : decode cX0_putOnRim 21 = .ok (.getfield 17, 3) := by decide +kernel
theorem dX0_putOnRim_24 : decode cX0_putOnRim 24 = .ok (.iload_n 3, 1) := by decide +kernel
theorem dX0_putOnRim_25 : decode cX0_putOnRim 25 = .ok (.iconst 1, 1) := by decide +kernel
theorem dX0_putOnRim_26 : decode cX0_putOnRim 26 = .ok (.isub, 1) := by decide +kernel
theorem dX0_putOnRim_27 : decode cX0_putOnRim 27 = .ok (.iaload, 1) := by decide +kernel
theorem dX0_putOnRim_28 : decode cX0_putOnRim 28 = .ok (.invokevirtual 121, 3) := by decide +kernel
theorem dX0_putOnRim_31 : decode cX0_putOnRim 31 = .ok (.aload_n 1, 1) := by decide +kernel
theorem dX0_putOnRim_32 : decode cX0_putOnRim 32 = .ok (.iload_n 2, 1) := by decide +kernel
theorem dX0_putOnRim_33 : decode cX0_putOnRim 33 = .ok (.invokevirtual 121, 3) := by decide +kernel
theorem dX0_putOnRim_36 : decode cX0_putOnRim 36 = .ok (.if_icmp .le 23, 3) := by decide +kernel
theorem dX0_putOnRim_39 : decode cX0_putOnRim 39 = .ok (.aload_n 0, 1) := by decide +kernel
theorem dX0_putOnRim_40 : decode cX0_putOnRim 40 = .ok (.getfield 17, 3) := by decide +kernel
theorem dX0_putOnRim_43 : decode cX0_putOnRim 43 = .ok (.iload_n 3, 1) := by decide +kernel
theorem dX0_putOnRim_44 : decode cX0_putOnRim 44 = .ok (.aload_n 0, 1) := by decide +kernel
theorem dX0_putOnRim_45 : decode cX0_putOnRim 45 = .ok (.getfield 17, 3) := by decide +kernel
theorem dX0_putOnRim_48 : decode cX0_putOnRim 48 = .ok (.iload_n 3, 1) := by decide +kernel
theorem dX0_putOnRim_49 : decode cX0_putOnRim 49 = .ok (.iconst 1, 1) := by decide +kernel
theorem dX0_putOnRim_50 : decode cX0_putOnRim 50 = .ok (.isub, 1) := by decide +kernel
theorem dX0_putOnRim_51 : decode cX0_putOnRim 51 = .ok (.iaload, 1) := by decide +kernel
theorem dX0_putOnRim_52 : decode cX0_putOnRim 52 = .ok (.iastore, 1) := by decide +kernel
theorem dX0_putOnRim_53 : decode cX0_putOnRim 53 = .ok (.iinc 3 (-1), 3) := by decide +kernel
theorem dX0_putOnRim_56 : decode cX0_putOnRim 56 = .ok (.goto (-41), 3) := by decide +kernel
theorem dX0_putOnRim_59 : decode cX0_putOnRim 59 = .ok (.aload_n 0, 1) := by decide +kernel
theorem dX0_putOnRim_60 : decode cX0_putOnRim 60 = .ok (.getfield 17, 3) := by decide +kernel
theorem dX0_putOnRim_63 : decode cX0_putOnRim 63 = .ok (.iload_n 3, 1) := by decide +kernel
theorem dX0_putOnRim_64 : decode cX0_putOnRim 64 = .ok (.iload_n 2, 1) := by decide +kernel
theorem dX0_putOnRim_65 : decode cX0_putOnRim 65 = .ok (.iastore, 1) := by decide +kernel
theorem dX0_putOnRim_66 : decode cX0_putOnRim 66 = .ok (.aload_n 0, 1) := by decide +kernel
theorem dX0_putOnRim_67 : decode cX0_putOnRim 67 = .ok (.dup, 1) := by decide +kernel
theorem dX0_putOnRim_68 : decode cX0_putOnRim 68 = .ok (.getfield 103, 3) := by decide +kernel
theorem dX0_putOnRim_71 : decode cX0_putOnRim 71 = .ok (.iconst 1, 1) := by decide +kernel
theorem dX0_putOnRim_72 : decode cX0_putOnRim 72 = .ok (.iadd, 1) := by decide +kernel
theorem dX0_putOnRim_73 : decode cX0_putOnRim 73 = .ok (.putfield 103, 3) := by decide +kernel
theorem dX0_putOnRim_76 : decode cX0_putOnRim 76 = .ok (.return_, 1) := by decide +kernel
theorem dX0_rimSpot_0 : decode cX0_rimSpot 0 = .ok (.iload_n 1, 1) := by decide +kernel
theorem dX0_rimSpot_1 : decode cX0_rimSpot 1 = .ok (.ifCond .lt 20, 3) := by decide +kernel
theorem dX0_rimSpot_4 : decode cX0_rimSpot 4 = .ok (.iload_n 1, 1) := by decide +kernel
theorem dX0_rimSpot_5 : decode cX0_rimSpot 5 = .ok (.aload_n 0, 1) := by decide +kernel
theorem dX0_rimSpot_6 : decode cX0_rimSpot 6 = .ok (.getfield 103, 3) := by decide +kernel
theorem dX0_rimSpot_9 : decode cX0_rimSpot 9 = .ok (.if_icmp .ge 12, 3) := by decide +kernel
theorem dX0_rimSpot_12 : decode cX0_rimSpot 12 = .ok (.aload_n 0, 1) := by decide +kernel
theorem dX0_rimSpot_13 : decode cX0_rimSpot 13 = .ok (.getfield 17, 3) := by decide +kernel
theorem dX0_rimSpot_16 : decode cX0_rimSpot 16 = .ok (.iload_n 1, 1) := by decide +kernel
theorem dX0_rimSpot_17 : decode cX0_rimSpot 17 = .ok (.iaload, 1) := by decide +kernel
theorem dX0_rimSpot_18 : decode cX0_rimSpot 18 = .ok (.goto 4, 3) := by decide +kernel
theorem dX0_rimSpot_21 : decode cX0_rimSpot 21 = .ok (.iconst (-1), 1) := by decide +kernel
theorem dX0_rimSpot_22 : decode cX0_rimSpot 22 = .ok (.ireturn, 1) := by decide +kernel
theorem dX0_setTight_0 : decode cX0_setTight 0 = .ok (.aload_n 0, 1) := by decide +kernel
theorem dX0_setTight_1 : decode cX0_setTight 1 = .ok (.getfield 21, 3) := by decide +kernel
theorem dX0_setTight_4 : decode cX0_setTight 4 = .ok (.iconst 0, 1) := by decide +kernel
theorem dX0_setTight_5 : decode cX0_setTight 5 = .ok (.aload_n 1, 1) := by decide +kernel
theorem dX0_setTight_6 : decode cX0_setTight 6 = .ok (.aload_n 0, 1) := by decide +kernel
theorem dX0_setTight_7 : decode cX0_setTight 7 = .ok (.iload_n 3, 1) := by decide +kernel
theorem dX0_setTight_8 : decode cX0_setTight 8 = .ok (.invokevirtual 124, 3) := by decide +kernel
theorem dX0_setTight_11 : decode cX0_setTight 11 = .ok (.invokevirtual 121, 3) := by decide +kernel
theorem dX0_setTight_14 : decode cX0_setTight 14 = .ok (.iastore, 1) := by decide +kernel
theorem dX0_setTight_15 : decode cX0_setTight 15 = .ok (.aload_n 0, 1) := by decide +kernel
theorem dX0_setTight_16 : decode cX0_setTight 16 = .ok (.getfield 21, 3) := by decide +kernel
theorem dX0_setTight_19 : decode cX0_setTight 19 = .ok (.iconst 1, 1) := by decide +kernel
theorem dX0_setTight_20 : decode cX0_setTight 20 = .ok (.aload_n 1, 1) := by decide +kernel
theorem dX0_setTight_21 : decode cX0_setTight 21 = .ok (.aload_n 0, 1) := by decide +kernel
theorem dX0_setTight_22 : decode cX0_setTight 22 = .ok (.iload 4, 2) := by decide +kernel
theorem dX0_setTight_24 : decode cX0_setTight 24 = .ok (.invokevirtual 124, 3) := by decide +kernel
theorem dX0_setTight_27 : decode cX0_setTight 27 = .ok (.invokevirtual 121, 3) := by decide +kernel
theorem dX0_setTight_30 : decode cX0_setTight 30 = .ok (.iastore, 1) := by decide +kernel
theorem dX0_setTight_31 : decode cX0_setTight 31 = .ok (.aload_n 0, 1) := by decide +kernel
theorem dX0_setTight_32 : decode cX0_setTight 32 = .ok (.getfield 21, 3) := by decide +kernel
theorem dX0_setTight_35 : decode cX0_setTight 35 = .ok (.iconst 2, 1) := by decide +kernel
theorem dX0_setTight_36 : decode cX0_setTight 36 = .ok (.aload_n 1, 1) := by decide +kernel
theorem dX0_setTight_37 : decode cX0_setTight 37 = .ok (.aload_n 0, 1) := by decide +kernel
theorem dX0_setTight_38 : decode cX0_setTight 38 = .ok (.iload 5, 2) := by decide +kernel
theorem dX0_setTight_40 : decode cX0_setTight 40 = .ok (.invokevirtual 124, 3) := by decide +kernel
theorem dX0_setTight_43 : decode cX0_setTight 43 = .ok (.invokevirtual 121, 3) := by decide +kernel
theorem dX0_setTight_46 : decode cX0_setTight 46 = .ok (.iastore, 1) := by decide +kernel
theorem dX0_setTight_47 : decode cX0_setTight 47 = .ok (.aload_n 0, 1) := by decide +kernel
theorem dX0_setTight_48 : decode cX0_setTight 48 = .ok (.iload_n 2, 1) := by decide +kernel
theorem dX0_setTight_49 : decode cX0_setTight 49 = .ok (.putfield 100, 3) := by decide +kernel
theorem dX0_setTight_52 : decode cX0_setTight 52 = .ok (.return_, 1) := by decide +kernel
theorem dX0_seekTwo_0 : decode cX0_seekTwo 0 = .ok (.iconst 0, 1) := by decide +kernel
theorem dX0_seekTwo_1 : decode cX0_seekTwo 1 = .ok (.istore_n 2, 1) := by decide +kernel
theorem dX0_seekTwo_2 : decode cX0_seekTwo 2 = .ok (.iload_n 2, 1) := by decide +kernel
theorem dX0_seekTwo_3 : decode cX0_seekTwo 3 = .ok (.aload_n 0, 1) := by decide +kernel
theorem dX0_seekTwo_4 : decode cX0_seekTwo 4 = .ok (.getfield 103, 3) := by decide +kernel
theorem dX0_seekTwo_7 : decode cX0_seekTwo 7 = .ok (.if_icmp .ge 56, 3) := by decide +kernel
theorem dX0_seekTwo_10 : decode cX0_seekTwo 10 = .ok (.iload_n 2, 1) := by decide +kernel
theorem dX0_seekTwo_11 : decode cX0_seekTwo 11 = .ok (.iconst 1, 1) := by decide +kernel
theorem dX0_seekTwo_12 : decode cX0_seekTwo 12 = .ok (.iadd, 1) := by decide +kernel
theorem dX0_seekTwo_13 : decode cX0_seekTwo 13 = .ok (.istore_n 3, 1) := by decide +kernel
theorem dX0_seekTwo_14 : decode cX0_seekTwo 14 = .ok (.iload_n 3, 1) := by decide +kernel
theorem dX0_seekTwo_15 : decode cX0_seekTwo 15 = .ok (.aload_n 0, 1) := by decide +kernel
theorem dX0_seekTwo_16 : decode cX0_seekTwo 16 = .ok (.getfield 103, 3) := by decide +kernel
theorem dX0_seekTwo_19 : decode cX0_seekTwo 19 = .ok (.if_icmp .ge 38, 3) := by decide +kernel
theorem dX0_seekTwo_22 : decode cX0_seekTwo 22 = .ok (.aload_n 0, 1) := by decide +kernel
theorem dX0_seekTwo_23 : decode cX0_seekTwo 23 = .ok (.aload_n 1, 1) := by decide +kernel
theorem dX0_seekTwo_24 : decode cX0_seekTwo 24 = .ok (.aload_n 0, 1) := by decide +kernel
theorem dX0_seekTwo_25 : decode cX0_seekTwo 25 = .ok (.iload_n 2, 1) := by decide +kernel
theorem dX0_seekTwo_26 : decode cX0_seekTwo 26 = .ok (.invokevirtual 124, 3) := by decide +kernel
theorem dX0_seekTwo_29 : decode cX0_seekTwo 29 = .ok (.aload_n 0, 1) := by decide +kernel
theorem dX0_seekTwo_30 : decode cX0_seekTwo 30 = .ok (.iload_n 3, 1) := by decide +kernel
theorem dX0_seekTwo_31 : decode cX0_seekTwo 31 = .ok (.invokevirtual 124, 3) := by decide +kernel
theorem dX0_seekTwo_34 : decode cX0_seekTwo 34 = .ok (.invokevirtual 127, 3) := by decide +kernel
theorem dX0_seekTwo_37 : decode cX0_seekTwo 37 = .ok (.ifCond .eq 14, 3) := by decide +kernel
theorem dX0_seekTwo_40 : decode cX0_seekTwo 40 = .ok (.aload_n 0, 1) := by decide +kernel
theorem dX0_seekTwo_41 : decode cX0_seekTwo 41 = .ok (.aload_n 1, 1) := by decide +kernel
theorem dX0_seekTwo_42 : decode cX0_seekTwo 42 = .ok (.iconst 2, 1) := by decide +kernel
theorem dX0_seekTwo_43 : decode cX0_seekTwo 43 = .ok (.iload_n 2, 1) := by decide +kernel
theorem dX0_seekTwo_44 : decode cX0_seekTwo 44 = .ok (.iload_n 3, 1) := by decide +kernel
theorem dX0_seekTwo_45 : decode cX0_seekTwo 45 = .ok (.iconst 0, 1) := by decide +kernel
theorem dX0_seekTwo_46 : decode cX0_seekTwo 46 = .ok (.invokevirtual 109, 3) := by decide +kernel
theorem dX0_seekTwo_49 : decode cX0_seekTwo 49 = .ok (.iconst 1, 1) := by decide +kernel
theorem dX0_seekTwo_50 : decode cX0_seekTwo 50 = .ok (.ireturn, 1) := by decide +kernel
theorem dX0_seekTwo_51 : decode cX0_seekTwo 51 = .ok (.iinc 3 1, 3) := by decide +kernel
theorem dX0_seekTwo_54 : decode cX0_seekTwo 54 = .ok (.goto (-40), 3) := by decide +kernel
theorem dX0_seekTwo_57 : decode cX0_seekTwo 57 = .ok (.iinc 2 1, 3) := by decide +kernel
theorem dX0_seekTwo_60 : decode cX0_seekTwo 60 = .ok (.goto (-58), 3) := by decide +kernel
theorem dX0_seekTwo_63 : decode cX0_seekTwo 63 = .ok (.iconst 0, 1) := by decide +kernel
theorem dX0_seekTwo_64 : decode cX0_seekTwo 64 = .ok (.ireturn, 1) := by decide +kernel
theorem dX0_areOpposite_0 : decode cX0_areOpposite 0 = .ok (.aload_n 1, 1) := by decide +kernel
theorem dX0_areOpposite_1 : decode cX0_areOpposite 1 = .ok (.iload_n 2, 1) := by decide +kernel
theorem dX0_areOpposite_2 : decode cX0_areOpposite 2 = .ok (.invokevirtual 50, 3) := by decide +kernel
theorem dX0_areOpposite_5 : decode cX0_areOpposite 5 = .ok (.aload_n 1, 1) := by decide +kernel
theorem dX0_areOpposite_6 : decode cX0_areOpposite 6 = .ok (.iload_n 3, 1) := by decide +kernel
theorem dX0_areOpposite_7 : decode cX0_areOpposite 7 = .ok (.invokevirtual 50, 3) := by decide +kernel
theorem dX0_areOpposite_10 : decode cX0_areOpposite 10 = .ok (.iadd, 1) := by decide +kernel
theorem dX0_areOpposite_11 : decode cX0_areOpposite 11 = .ok (.iconst 2, 1) := by decide +kernel
theorem dX0_areOpposite_12 : decode cX0_areOpposite 12 = .ok (.aload_n 0, 1) := by decide +kernel
theorem dX0_areOpposite_13 : decode cX0_areOpposite 13 = .ok (.getfield 61, 3) := by decide +kernel
theorem dX0_areOpposite_16 : decode cX0_areOpposite 16 = .ok (.imul, 1) := by decide +kernel
theorem dX0_areOpposite_17 : decode cX0_areOpposite 17 = .ok (.isub, 1) := by decide +kernel
theorem dX0_areOpposite_18 : decode cX0_areOpposite 18 = .ok (.i2l, 1) := by decide +kernel
theorem dX0_areOpposite_19 : decode cX0_areOpposite 19 = .ok (.lstore 4, 2) := by decide +kernel
theorem dX0_areOpposite_21 : decode cX0_areOpposite 21 = .ok (.aload_n 1, 1) := by decide +kernel
theorem dX0_areOpposite_22 : decode cX0_areOpposite 22 = .ok (.iload_n 2, 1) := by decide +kernel
theorem dX0_areOpposite_23 : decode cX0_areOpposite 23 = .ok (.invokevirtual 54, 3) := by decide +kernel
theorem dX0_areOpposite_26 : decode cX0_areOpposite 26 = .ok (.aload_n 1, 1) := by decide +kernel
theorem dX0_areOpposite_27 : decode cX0_areOpposite 27 = .ok (.iload_n 3, 1) := by decide +kernel
theorem dX0_areOpposite_28 : decode cX0_areOpposite 28 = .ok (.invokevirtual 54, 3) := by decide +kernel
theorem dX0_areOpposite_31 : decode cX0_areOpposite 31 = .ok (.iadd, 1) := by decide +kernel
theorem dX0_areOpposite_32 : decode cX0_areOpposite 32 = .ok (.iconst 2, 1) := by decide +kernel
theorem dX0_areOpposite_33 : decode cX0_areOpposite 33 = .ok (.aload_n 0, 1) := by decide +kernel
theorem dX0_areOpposite_34 : decode cX0_areOpposite 34 = .ok (.getfield 65, 3) := by decide +kernel
theorem dX0_areOpposite_37 : decode cX0_areOpposite 37 = .ok (.imul, 1) := by decide +kernel
theorem dX0_areOpposite_38 : decode cX0_areOpposite 38 = .ok (.isub, 1) := by decide +kernel
theorem dX0_areOpposite_39 : decode cX0_areOpposite 39 = .ok (.i2l, 1) := by decide +kernel
theorem dX0_areOpposite_40 : decode cX0_areOpposite 40 = .ok (.lstore 6, 2) := by decide +kernel
theorem dX0_areOpposite_42 : decode cX0_areOpposite 42 = .ok (.lload 4, 2) := by decide +kernel
theorem dX0_areOpposite_44 : decode cX0_areOpposite 44 = .ok (.aload_n 0, 1) := by decide +kernel
theorem dX0_areOpposite_45 : decode cX0_areOpposite 45 = .ok (.getfield 9, 3) := by decide +kernel
theorem dX0_areOpposite_48 : decode cX0_areOpposite 48 = .ok (.lmul, 1) := by decide +kernel
theorem dX0_areOpposite_49 : decode cX0_areOpposite 49 = .ok (.ldc2_w 74, 3) := by decide +kernel
theorem dX0_areOpposite_52 : decode cX0_areOpposite 52 = .ok (.aload_n 0, 1) := by decide +kernel
theorem dX0_areOpposite_53 : decode cX0_areOpposite 53 = .ok (.getfield 68, 3) := by decide +kernel
theorem dX0_areOpposite_56 : decode cX0_areOpposite 56 = .ok (.lmul, 1) := by decide +kernel
theorem dX0_areOpposite_57 : decode cX0_areOpposite 57 = .ok (.lcmp, 1) := by decide +kernel
theorem dX0_areOpposite_58 : decode cX0_areOpposite 58 = .ok (.ifCond .ne 26, 3) := by decide +kernel
theorem dX0_areOpposite_61 : decode cX0_areOpposite 61 = .ok (.lload 6, 2) := by decide +kernel
theorem dX0_areOpposite_63 : decode cX0_areOpposite 63 = .ok (.aload_n 0, 1) := by decide +kernel
theorem dX0_areOpposite_64 : decode cX0_areOpposite 64 = .ok (.getfield 9, 3) := by decide +kernel
theorem dX0_areOpposite_67 : decode cX0_areOpposite 67 = .ok (.lmul, 1) := by decide +kernel
theorem dX0_areOpposite_68 : decode cX0_areOpposite 68 = .ok (.ldc2_w 74, 3) := by decide +kernel
theorem dX0_areOpposite_71 : decode cX0_areOpposite 71 = .ok (.aload_n 0, 1) := by decide +kernel
theorem dX0_areOpposite_72 : decode cX0_areOpposite 72 = .ok (.getfield 71, 3) := by decide +kernel
theorem dX0_areOpposite_75 : decode cX0_areOpposite 75 = .ok (.lmul, 1) := by decide +kernel
theorem dX0_areOpposite_76 : decode cX0_areOpposite 76 = .ok (.lcmp, 1) := by decide +kernel
theorem dX0_areOpposite_77 : decode cX0_areOpposite 77 = .ok (.ifCond .ne 7, 3) := by decide +kernel
theorem dX0_areOpposite_80 : decode cX0_areOpposite 80 = .ok (.iconst 1, 1) := by decide +kernel
theorem dX0_areOpposite_81 : decode cX0_areOpposite 81 = .ok (.goto 4, 3) := by decide +kernel
theorem dX0_areOpposite_84 : decode cX0_areOpposite 84 = .ok (.iconst 0, 1) := by decide +kernel
theorem dX0_areOpposite_85 : decode cX0_areOpposite 85 = .ok (.ireturn, 1) := by decide +kernel
theorem dX0_seekThree_0 : decode cX0_seekThree 0 = .ok (.iconst 0, 1) := by decide +kernel
theorem dX0_seekThree_1 : decode cX0_seekThree 1 = .ok (.istore_n 2, 1) := by decide +kernel
theorem dX0_seekThree_2 : decode cX0_seekThree 2 = .ok (.iload_n 2, 1) := by decide +kernel
theorem dX0_seekThree_3 : decode cX0_seekThree 3 = .ok (.aload_n 0, 1) := by decide +kernel
theorem dX0_seekThree_4 : decode cX0_seekThree 4 = .ok (.getfield 103, 3) := by decide +kernel
theorem dX0_seekThree_7 : decode cX0_seekThree 7 = .ok (.if_icmp .ge 81, 3) := by decide +kernel
theorem dX0_seekThree_10 : decode cX0_seekThree 10 = .ok (.iload_n 2, 1) := by decide +kernel
theorem dX0_seekThree_11 : decode cX0_seekThree 11 = .ok (.iconst 1, 1) := by decide +kernel
theorem dX0_seekThree_12 : decode cX0_seekThree 12 = .ok (.iadd, 1) := by decide +kernel
theorem dX0_seekThree_13 : decode cX0_seekThree 13 = .ok (.istore_n 3, 1) := by decide +kernel
theorem dX0_seekThree_14 : decode cX0_seekThree 14 = .ok (.iload_n 3, 1) := by decide +kernel
theorem dX0_seekThree_15 : decode cX0_seekThree 15 = .ok (.aload_n 0, 1) := by decide +kernel
theorem dX0_seekThree_16 : decode cX0_seekThree 16 = .ok (.getfield 103, 3) := by decide +kernel
theorem dX0_seekThree_19 : decode cX0_seekThree 19 = .ok (.if_icmp .ge 63, 3) := by decide +kernel
theorem dX0_seekThree_22 : decode cX0_seekThree 22 = .ok (.iload_n 3, 1) := by decide +kernel
theorem dX0_seekThree_23 : decode cX0_seekThree 23 = .ok (.iconst 1, 1) := by decide +kernel
theorem dX0_seekThree_24 : decode cX0_seekThree 24 = .ok (.iadd, 1) := by decide +kernel
theorem dX0_seekThree_25 : decode cX0_seekThree 25 = .ok (.istore 4, 2) := by decide +kernel
theorem dX0_seekThree_27 : decode cX0_seekThree 27 = .ok (.iload 4, 2) := by decide +kernel
theorem dX0_seekThree_29 : decode cX0_seekThree 29 = .ok (.aload_n 0, 1) := by decide +kernel
theorem dX0_seekThree_30 : decode cX0_seekThree 30 = .ok (.getfield 103, 3) := by decide +kernel
theorem dX0_seekThree_33 : decode cX0_seekThree 33 = .ok (.if_icmp .ge 43, 3) := by decide +kernel
theorem dX0_seekThree_36 : decode cX0_seekThree 36 = .ok (.aload_n 1, 1) := by decide +kernel
theorem dX0_seekThree_37 : decode cX0_seekThree 37 = .ok (.aload_n 0, 1) := by decide +kernel
theorem dX0_seekThree_38 : decode cX0_seekThree 38 = .ok (.iload_n 2, 1) := by decide +kernel
theorem dX0_seekThree_39 : decode cX0_seekThree 39 = .ok (.invokevirtual 124, 3) := by decide +kernel
theorem dX0_seekThree_42 : decode cX0_seekThree 42 = .ok (.aload_n 0, 1) := by decide +kernel
theorem dX0_seekThree_43 : decode cX0_seekThree 43 = .ok (.iload_n 3, 1) := by decide +kernel
theorem dX0_seekThree_44 : decode cX0_seekThree 44 = .ok (.invokevirtual 124, 3) := by decide +kernel
theorem dX0_seekThree_47 : decode cX0_seekThree 47 = .ok (.aload_n 0, 1) := by decide +kernel
theorem dX0_seekThree_48 : decode cX0_seekThree 48 = .ok (.iload 4, 2) := by decide +kernel
theorem dX0_seekThree_50 : decode cX0_seekThree 50 = .ok (.invokevirtual 124, 3) := by decide +kernel
theorem dX0_seekThree_53 : decode cX0_seekThree 53 = .ok (.invokestatic 131, 3) := by decide +kernel
theorem dX0_seekThree_56 : decode cX0_seekThree 56 = .ok (.ifCond .eq 14, 3) := by decide +kernel
theorem dX0_seekThree_59 : decode cX0_seekThree 59 = .ok (.aload_n 0, 1) := by decide +kernel
theorem dX0_seekThree_60 : decode cX0_seekThree 60 = .ok (.aload_n 1, 1) := by decide +kernel
theorem dX0_seekThree_61 : decode cX0_seekThree 61 = .ok (.iconst 3, 1) := by decide +kernel
theorem dX0_seekThree_62 : decode cX0_seekThree 62 = .ok (.iload_n 2, 1) := by decide +kernel
theorem dX0_seekThree_63 : decode cX0_seekThree 63 = .ok (.iload_n 3, 1) := by decide +kernel
theorem dX0_seekThree_64 : decode cX0_seekThree 64 = .ok (.iload 4, 2) := by decide +kernel
theorem dX0_seekThree_66 : decode cX0_seekThree 66 = .ok (.invokevirtual 109, 3) := by decide +kernel
theorem dX0_seekThree_69 : decode cX0_seekThree 69 = .ok (.return_, 1) := by decide +kernel
theorem dX0_seekThree_70 : decode cX0_seekThree 70 = .ok (.iinc 4 1, 3) := by decide +kernel
theorem dX0_seekThree_73 : decode cX0_seekThree 73 = .ok (.goto (-46), 3) := by decide +kernel
theorem dX0_seekThree_76 : decode cX0_seekThree 76 = .ok (.iinc 3 1, 3) := by decide +kernel
theorem dX0_seekThree_79 : decode cX0_seekThree 79 = .ok (.goto (-65), 3) := by decide +kernel
theorem dX0_seekThree_82 : decode cX0_seekThree 82 = .ok (.iinc 2 1, 3) := by decide +kernel
theorem dX0_seekThree_85 : decode cX0_seekThree 85 = .ok (.goto (-83), 3) := by decide +kernel
theorem dX0_seekThree_88 : decode cX0_seekThree 88 = .ok (.return_, 1) := by decide +kernel
theorem dX0_areSharp_0 : decode cX0_areSharp 0 = .ok (.aload_n 0, 1) := by decide +kernel
theorem dX0_areSharp_1 : decode cX0_areSharp 1 = .ok (.iload_n 1, 1) := by decide +kernel
theorem dX0_areSharp_2 : decode cX0_areSharp 2 = .ok (.iload_n 2, 1) := by decide +kernel
theorem dX0_areSharp_3 : decode cX0_areSharp 3 = .ok (.invokevirtual 134, 3) := by decide +kernel
theorem dX0_areSharp_6 : decode cX0_areSharp 6 = .ok (.istore 4, 2) := by decide +kernel
theorem dX0_areSharp_8 : decode cX0_areSharp 8 = .ok (.aload_n 0, 1) := by decide +kernel
theorem dX0_areSharp_9 : decode cX0_areSharp 9 = .ok (.iload_n 2, 1) := by decide +kernel
theorem dX0_areSharp_10 : decode cX0_areSharp 10 = .ok (.iload_n 3, 1) := by decide +kernel
theorem dX0_areSharp_11 : decode cX0_areSharp 11 = .ok (.invokevirtual 134, 3) := by decide +kernel
theorem dX0_areSharp_14 : decode cX0_areSharp 14 = .ok (.istore 5, 2) := by decide +kernel
theorem dX0_areSharp_16 : decode cX0_areSharp 16 = .ok (.aload_n 0, 1) := by decide +kernel
theorem dX0_areSharp_17 : decode cX0_areSharp 17 = .ok (.iload_n 3, 1) := by decide +kernel
theorem dX0_areSharp_18 : decode cX0_areSharp 18 = .ok (.iload_n 1, 1) := by decide +kernel
theorem dX0_areSharp_19 : decode cX0_areSharp 19 = .ok (.invokevirtual 134, 3) := by decide +kernel
theorem dX0_areSharp_22 : decode cX0_areSharp 22 = .ok (.istore 6, 2) := by decide +kernel
theorem dX0_areSharp_24 : decode cX0_areSharp 24 = .ok (.iload 4, 2) := by decide +kernel
theorem dX0_areSharp_26 : decode cX0_areSharp 26 = .ok (.iload 5, 2) := by decide +kernel
theorem dX0_areSharp_28 : decode cX0_areSharp 28 = .ok (.iadd, 1) := by decide +kernel
theorem dX0_areSharp_29 : decode cX0_areSharp 29 = .ok (.iload 6, 2) := by decide +kernel
theorem dX0_areSharp_31 : decode cX0_areSharp 31 = .ok (.if_icmp .le 27, 3) := by decide +kernel
theorem dX0_areSharp_34 : decode cX0_areSharp 34 = .ok (.iload 5, 2) := by decide +kernel
theorem dX0_areSharp_36 : decode cX0_areSharp 36 = .ok (.iload 6, 2) := by decide +kernel
theorem dX0_areSharp_38 : decode cX0_areSharp 38 = .ok (.iadd, 1) := by decide +kernel
theorem dX0_areSharp_39 : decode cX0_areSharp 39 = .ok (.iload 4, 2) := by decide +kernel
theorem dX0_areSharp_41 : decode cX0_areSharp 41 = .ok (.if_icmp .le 17, 3) := by decide +kernel
theorem dX0_areSharp_44 : decode cX0_areSharp 44 = .ok (.iload 6, 2) := by decide +kernel
theorem dX0_areSharp_46 : decode cX0_areSharp 46 = .ok (.iload 4, 2) := by decide +kernel
theorem dX0_areSharp_48 : decode cX0_areSharp 48 = .ok (.iadd, 1) := by decide +kernel
theorem dX0_areSharp_49 : decode cX0_areSharp 49 = .ok (.iload 5, 2) := by decide +kernel
theorem dX0_areSharp_51 : decode cX0_areSharp 51 = .ok (.if_icmp .le 7, 3) := by decide +kernel
theorem dX0_areSharp_54 : decode cX0_areSharp 54 = .ok (.iconst 1, 1) := by decide +kernel
theorem dX0_areSharp_55 : decode cX0_areSharp 55 = .ok (.goto 4, 3) := by decide +kernel
theorem dX0_areSharp_58 : decode cX0_areSharp 58 = .ok (.iconst 0, 1) := by decide +kernel
theorem dX0_areSharp_59 : decode cX0_areSharp 59 = .ok (.ireturn, 1) := by decide +kernel
theorem dX1_init_0 : decode cX1_init 0 = .ok (.aload_n 0, 1) := by decide +kernel
theorem dX1_init_1 : decode cX1_init 1 = .ok (.invokespecial 3, 3) := by decide +kernel
theorem dX1_init_4 : decode cX1_init 4 = .ok (.aload_n 0, 1) := by decide +kernel
theorem dX1_init_5 : decode cX1_init 5 = .ok (.sipush 780, 3) := by decide +kernel
theorem dX1_init_8 : decode cX1_init 8 = .ok (.newarray .int, 2) := by decide +kernel
theorem dX1_init_10 : decode cX1_init 10 = .ok (.putfield 11, 3) := by decide +kernel
theorem dX1_init_13 : decode cX1_init 13 = .ok (.return_, 1) := by decide +kernel
theorem dX1_count_0 : decode cX1_count 0 = .ok (.aload_n 0, 1) := by decide +kernel
theorem dX1_count_1 : decode cX1_count 1 = .ok (.getfield 15, 3) := by decide +kernel
theorem dX1_count_4 : decode cX1_count 4 = .ok (.ireturn, 1) := by decide +kernel
theorem dX1_distance_0 : decode cX1_distance 0 = .ok (.aload_n 0, 1) := by decide +kernel
theorem dX1_distance_1 : decode cX1_distance 1 = .ok (.iload_n 1, 1) := by decide +kernel
theorem dX1_distance_2 : decode cX1_distance 2 = .ok (.invokevirtual 19, 3) := by decide +kernel
theorem dX1_distance_5 : decode cX1_distance 5 = .ok (.bipush 12, 2) := by decide +kernel
theorem dX1_distance_7 : decode cX1_distance 7 = .ok (.ishr, 1) := by decide +kernel
theorem dX1_distance_8 : decode cX1_distance 8 = .ok (.ireturn, 1) := by decide +kernel
theorem dX1_first_0 : decode cX1_first 0 = .ok (.aload_n 0, 1) := by decide +kernel
theorem dX1_first_1 : decode cX1_first 1 = .ok (.iload_n 1, 1) := by decide +kernel
theorem dX1_first_2 : decode cX1_first 2 = .ok (.invokevirtual 19, 3) := by decide +kernel
theorem dX1_first_5 : decode cX1_first 5 = .ok (.bipush 6, 2) := by decide +kernel
theorem dX1_first_7 : decode cX1_first 7 = .ok (.ishr, 1) := by decide +kernel
theorem dX1_first_8 : decode cX1_first 8 = .ok (.bipush 63, 2) := by decide +kernel
theorem dX1_first_10 : decode cX1_first 10 = .ok (.iand, 1) := by decide +kernel
theorem dX1_first_11 : decode cX1_first 11 = .ok (.ireturn, 1) := by decide +kernel
theorem dX1_second_0 : decode cX1_second 0 = .ok (.aload_n 0, 1) := by decide +kernel
theorem dX1_second_1 : decode cX1_second 1 = .ok (.iload_n 1, 1) := by decide +kernel
theorem dX1_second_2 : decode cX1_second 2 = .ok (.invokevirtual 19, 3) := by decide +kernel
theorem dX1_second_5 : decode cX1_second 5 = .ok (.bipush 63, 2) := by decide +kernel
theorem dX1_second_7 : decode cX1_second 7 = .ok (.iand, 1) := by decide +kernel
theorem dX1_second_8 : decode cX1_second 8 = .ok (.ireturn, 1) := by decide +kernel
theorem dX1_packedAt_0 : decode cX1_packedAt 0 = .ok (.iload_n 1, 1) := by decide +kernel
theorem dX1_packedAt_1 : decode cX1_packedAt 1 = .ok (.ifCond .lt 20, 3) := by decide +kernel
theorem dX1_packedAt_4 : decode cX1_packedAt 4 = .ok (.iload_n 1, 1) := by decide +kernel
theorem dX1_packedAt_5 : decode cX1_packedAt 5 = .ok (.aload_n 0, 1) := by decide +kernel
theorem dX1_packedAt_6 : decode cX1_packedAt 6 = .ok (.getfield 15, 3) := by decide +kernel
theorem dX1_packedAt_9 : decode cX1_packedAt 9 = .ok (.if_icmp .ge 12, 3) := by decide +kernel
theorem dX1_packedAt_12 : decode cX1_packedAt 12 = .ok (.aload_n 0, 1) := by decide +kernel
theorem dX1_packedAt_13 : decode cX1_packedAt 13 = .ok (.getfield 11, 3) := by decide +kernel
theorem dX1_packedAt_16 : decode cX1_packedAt 16 = .ok (.iload_n 1, 1) := by decide +kernel
theorem dX1_packedAt_17 : decode cX1_packedAt 17 = .ok (.iaload, 1) := by decide +kernel
theorem dX1_packedAt_18 : decode cX1_packedAt 18 = .ok (.goto 4, 3) := by decide +kernel
theorem dX1_packedAt_21 : decode cX1_packedAt 21 = .ok (.iconst 0, 1) := by decide +kernel
theorem dX1_packedAt_22 : decode cX1_packedAt 22 = .ok (.ireturn, 1) := by decide +kernel
theorem dX1_order_0 : decode cX1_order 0 = .ok (.aload_n 0, 1) := by decide +kernel
theorem dX1_order_1 : decode cX1_order 1 = .ok (.iconst 0, 1) := by decide +kernel
theorem dX1_order_2 : decode cX1_order 2 = .ok (.putfield 15, 3) := by decide +kernel
theorem dX1_order_5 : decode cX1_order 5 = .ok (.iconst 0, 1) := by decide +kernel
theorem dX1_order_6 : decode cX1_order 6 = .ok (.istore_n 2, 1) := by decide +kernel
theorem dX1_order_7 : decode cX1_order 7 = .ok (.iload_n 2, 1) := by decide +kernel
theorem dX1_order_8 : decode cX1_order 8 = .ok (.aload_n 1, 1) := by decide +kernel
theorem dX1_order_9 : decode cX1_order 9 = .ok (.invokevirtual 23, 3) := by decide +kernel
theorem dX1_order_12 : decode cX1_order 12 = .ok (.if_icmp .ge 39, 3) := by decide +kernel
theorem dX1_order_15 : decode cX1_order 15 = .ok (.iload_n 2, 1) := by decide +kernel
theorem dX1_order_16 : decode cX1_order 16 = .ok (.iconst 1, 1) := by decide +kernel
theorem dX1_order_17 : decode cX1_order 17 = .ok (.iadd, 1) := by decide +kernel
theorem dX1_order_18 : decode cX1_order 18 = .ok (.istore_n 3, 1) := by decide +kernel
theorem dX1_order_19 : decode cX1_order 19 = .ok (.iload_n 3, 1) := by decide +kernel
theorem dX1_order_20 : decode cX1_order 20 = .ok (.aload_n 1, 1) := by decide +kernel
theorem dX1_order_21 : decode cX1_order 21 = .ok (.invokevirtual 23, 3) := by decide +kernel
theorem dX1_order_24 : decode cX1_order 24 = .ok (.if_icmp .ge 21, 3) := by decide +kernel
theorem dX1_order_27 : decode cX1_order 27 = .ok (.aload_n 0, 1) := by decide +kernel
theorem dX1_order_28 : decode cX1_order 28 = .ok (.aload_n 1, 1) := by decide +kernel
theorem dX1_order_29 : decode cX1_order 29 = .ok (.iload_n 2, 1) := by decide +kernel
theorem dX1_order_30 : decode cX1_order 30 = .ok (.iload_n 3, 1) := by decide +kernel
theorem dX1_order_31 : decode cX1_order 31 = .ok (.invokevirtual 28, 3) := by decide +kernel
theorem dX1_order_34 : decode cX1_order 34 = .ok (.iload_n 2, 1) := by decide +kernel
theorem dX1_order_35 : decode cX1_order 35 = .ok (.iload_n 3, 1) := by decide +kernel
theorem dX1_order_36 : decode cX1_order 36 = .ok (.invokevirtual 32, 3) := by decide +kernel
theorem dX1_order_39 : decode cX1_order 39 = .ok (.iinc 3 1, 3) := by decide +kernel
theorem dX1_order_42 : decode cX1_order 42 = .ok (.goto (-23), 3) := by decide +kernel
theorem dX1_order_45 : decode cX1_order 45 = .ok (.iinc 2 1, 3) := by decide +kernel
theorem dX1_order_48 : decode cX1_order 48 = .ok (.goto (-41), 3) := by decide +kernel
theorem dX1_order_51 : decode cX1_order 51 = .ok (.aload_n 0, 1) := by decide +kernel
theorem dX1_order_52 : decode cX1_order 52 = .ok (.getfield 15, 3) := by decide +kernel
theorem dX1_order_55 : decode cX1_order 55 = .ok (.iconst 2, 1) := by decide +kernel
theorem dX1_order_56 : decode cX1_order 56 = .ok (.idiv, 1) := by decide +kernel
theorem dX1_order_57 : decode cX1_order 57 = .ok (.istore_n 2, 1) := by decide +kernel
theorem dX1_order_58 : decode cX1_order 58 = .ok (.iload_n 2, 1) := by decide +kernel
theorem dX1_order_59 : decode cX1_order 59 = .ok (.ifCond .le 32, 3) := by decide +kernel
theorem dX1_order_62 : decode cX1_order 62 = .ok (.iload_n 2, 1) := by decide +kernel
theorem dX1_order_63 : decode cX1_order 63 = .ok (.istore_n 3, 1) := by decide +kernel
theorem dX1_order_64 : decode cX1_order 64 = .ok (.iload_n 3, 1) := by decide +kernel
theorem dX1_order_65 : decode cX1_order 65 = .ok (.aload_n 0, 1) := by decide +kernel
theorem dX1_order_66 : decode cX1_order 66 = .ok (.getfield 15, 3) := by decide +kernel
theorem dX1_order_69 : decode cX1_order 69 = .ok (.if_icmp .ge 15, 3) := by decide +kernel
theorem dX1_order_72 : decode cX1_order 72 = .ok (.aload_n 0, 1) := by decide +kernel
theorem dX1_order_73 : decode cX1_order 73 = .ok (.iload_n 3, 1) := by decide +kernel
theorem dX1_order_74 : decode cX1_order 74 = .ok (.iload_n 2, 1) := by decide +kernel
theorem dX1_order_75 : decode cX1_order 75 = .ok (.invokevirtual 36, 3) := by decide +kernel
theorem dX1_order_78 : decode cX1_order 78 = .ok (.iinc 3 1, 3) := by decide +kernel
theorem dX1_order_81 : decode cX1_order 81 = .ok (.goto (-17), 3) := by decide +kernel
theorem dX1_order_84 : decode cX1_order 84 = .ok (.iload_n 2, 1) := by decide +kernel
theorem dX1_order_85 : decode cX1_order 85 = .ok (.iconst 2, 1) := by decide +kernel
theorem dX1_order_86 : decode cX1_order 86 = .ok (.idiv, 1) := by decide +kernel
theorem dX1_order_87 : decode cX1_order 87 = .ok (.istore_n 2, 1) := by decide +kernel
theorem dX1_order_88 : decode cX1_order 88 = .ok (.goto (-30), 3) := by decide +kernel
theorem dX1_order_91 : decode cX1_order 91 = .ok (.return_, 1) := by decide +kernel
theorem dX1_pack_0 : decode cX1_pack 0 = .ok (.aload_n 0, 1) := by decide +kernel
theorem dX1_pack_1 : decode cX1_pack 1 = .ok (.getfield 15, 3) := by decide +kernel
theorem dX1_pack_4 : decode cX1_pack 4 = .ok (.sipush 780, 3) := by decide +kernel
theorem dX1_pack_7 : decode cX1_pack 7 = .ok (.if_icmp .lt 4, 3) := by decide +kernel
theorem dX1_pack_10 : decode cX1_pack 10 = .ok (.return_, 1) := by decide +kernel
theorem dX1_pack_11 : decode cX1_pack 11 = .ok (.aload_n 0, 1) := by decide +kernel
theorem dX1_pack_12 : decode cX1_pack 12 = .ok (.getfield 11, 3) := by decide +kernel
theorem dX1_pack_15 : decode cX1_pack 15 = .ok (.aload_n 0, 1) := by decide +kernel
theorem dX1_pack_16 : decode cX1_pack 16 = .ok (.getfield 15, 3) := by decide +kernel
theorem dX1_pack_19 : decode cX1_pack 19 = .ok (.iload_n 1, 1) := by decide +kernel
theorem dX1_pack_20 : decode cX1_pack 20 = .ok (.bipush 6, 2) := by decide +kernel
theorem dX1_pack_22 : decode cX1_pack 22 = .ok (.ishl, 1) := by decide +kernel
theorem dX1_pack_23 : decode cX1_pack 23 = .ok (.iload_n 2, 1) := by decide +kernel
theorem dX1_pack_24 : decode cX1_pack 24 = .ok (.ior, 1) := by decide +kernel
theorem dX1_pack_25 : decode cX1_pack 25 = .ok (.bipush 6, 2) := by decide +kernel
theorem dX1_pack_27 : decode cX1_pack 27 = .ok (.ishl, 1) := by decide +kernel
theorem dX1_pack_28 : decode cX1_pack 28 = .ok (.iload_n 3, 1) := by decide +kernel
theorem dX1_pack_29 : decode cX1_pack 29 = .ok (.ior, 1) := by decide +kernel
theorem dX1_pack_30 : decode cX1_pack 30 = .ok (.iastore, 1) := by decide +kernel
theorem dX1_pack_31 : decode cX1_pack 31 = .ok (.aload_n 0, 1) := by decide +kernel
theorem dX1_pack_32 : decode cX1_pack 32 = .ok (.dup, 1) := by decide +kernel
theorem dX1_pack_33 : decode cX1_pack 33 = .ok (.getfield 15, 3) := by decide +kernel
theorem dX1_pack_36 : decode cX1_pack 36 = .ok (.iconst 1, 1) := by decide +kernel
theorem dX1_pack_37 : decode cX1_pack 37 = .ok (.iadd, 1) := by decide +kernel
theorem dX1_pack_38 : decode cX1_pack 38 = .ok (.putfield 15, 3) := by decide +kernel
theorem dX1_pack_41 : decode cX1_pack 41 = .ok (.return_, 1) := by decide +kernel
theorem dX1_sink_0 : decode cX1_sink 0 = .ok (.iload_n 2, 1) := by decide +kernel
theorem dX1_sink_1 : decode cX1_sink 1 = .ok (.iconst 1, 1) := by decide +kernel
theorem dX1_sink_2 : decode cX1_sink 2 = .ok (.if_icmp .lt 16, 3) := by decide +kernel
theorem dX1_sink_5 : decode cX1_sink 5 = .ok (.iload_n 1, 1) := by decide +kernel
theorem dX1_sink_6 : decode cX1_sink 6 = .ok (.iload_n 2, 1) := by decide +kernel
theorem dX1_sink_7 : decode cX1_sink 7 = .ok (.if_icmp .lt 11, 3) := by decide +kernel
theorem dX1_sink_10 : decode cX1_sink 10 = .ok (.iload_n 1, 1) := by decide +kernel
theorem dX1_sink_11 : decode cX1_sink 11 = .ok (.aload_n 0, 1) := by decide +kernel
theorem dX1_sink_12 : decode cX1_sink 12 = .ok (.getfield 15, 3) := by decide +kernel
theorem dX1_sink_15 : decode cX1_sink 15 = .ok (.if_icmp .lt 4, 3) := by decide +kernel
theorem dX1_sink_18 : decode cX1_sink 18 = .ok (.return_, 1) := by decide +kernel
theorem dX1_sink_19 : decode cX1_sink 19 = .ok (.aload_n 0, 1) := by decide +kernel
theorem dX1_sink_20 : decode cX1_sink 20 = .ok (.iload_n 1, 1) := by decide +kernel
theorem dX1_sink_21 : decode cX1_sink 21 = .ok (.invokevirtual 19, 3) := by decide +kernel
theorem dX1_sink_24 : decode cX1_sink 24 = .ok (.istore_n 3, 1) := by decide +kernel
theorem dX1_sink_25 : decode cX1_sink 25 = .ok (.iload_n 1, 1) := by decide +kernel
theorem dX1_sink_26 : decode cX1_sink 26 = .ok (.istore 4, 2) := by decide +kernel
theorem dX1_sink_28 : decode cX1_sink 28 = .ok (.iload 4, 2) := by decide +kernel
theorem dX1_sink_30 : decode cX1_sink 30 = .ok (.iload_n 2, 1) := by decide +kernel
theorem dX1_sink_31 : decode cX1_sink 31 = .ok (.if_icmp .lt 40, 3) := by decide +kernel
theorem dX1_sink_34 : decode cX1_sink 34 = .ok (.aload_n 0, 1) := by decide +kernel
theorem dX1_sink_35 : decode cX1_sink 35 = .ok (.iload 4, 2) := by decide +kernel
theorem dX1_sink_37 : decode cX1_sink 37 = .ok (.iload_n 2, 1) := by decide +kernel
theorem dX1_sink_38 : decode cX1_sink 38 = .ok (.isub, 1) := by decide +kernel
theorem dX1_sink_39 : decode cX1_sink 39 = .ok (.invokevirtual 19, 3) := by decide +kernel
theorem dX1_sink_42 : decode cX1_sink 42 = .ok (.iload_n 3, 1) := by decide +kernel
theorem dX1_sink_43 : decode cX1_sink 43 = .ok (.if_icmp .le 28, 3) := by decide +kernel
theorem dX1_sink_46 : decode cX1_sink 46 = .ok (.aload_n 0, 1) := by decide +kernel
theorem dX1_sink_47 : decode cX1_sink 47 = .ok (.getfield 11, 3) := by decide +kernel
theorem dX1_sink_50 : decode cX1_sink 50 = .ok (.iload 4, 2) := by decide +kernel
theorem dX1_sink_52 : decode cX1_sink 52 = .ok (.aload_n 0, 1) := by decide +kernel
theorem dX1_sink_53 : decode cX1_sink 53 = .ok (.getfield 11, 3) := by decide +kernel
theorem dX1_sink_56 : decode cX1_sink 56 = .ok (.iload 4, 2) := by decide +kernel
theorem dX1_sink_58 : decode cX1_sink 58 = .ok (.iload_n 2, 1) := by decide +kernel
theorem dX1_sink_59 : decode cX1_sink 59 = .ok (.isub, 1) := by decide +kernel
theorem dX1_sink_60 : decode cX1_sink 60 = .ok (.iaload, 1) := by decide +kernel
theorem dX1_sink_61 : decode cX1_sink 61 = .ok (.iastore, 1) := by decide +kernel
theorem dX1_sink_62 : decode cX1_sink 62 = .ok (.iload 4, 2) := by decide +kernel
theorem dX1_sink_64 : decode cX1_sink 64 = .ok (.iload_n 2, 1) := by decide +kernel
theorem dX1_sink_65 : decode cX1_sink 65 = .ok (.isub, 1) := by decide +kernel
theorem dX1_sink_66 : decode cX1_sink 66 = .ok (.istore 4, 2) := by decide +kernel
theorem dX1_sink_68 : decode cX1_sink 68 = .ok (.goto (-40), 3) := by decide +kernel
theorem dX1_sink_71 : decode cX1_sink 71 = .ok (.aload_n 0, 1) := by decide +kernel
theorem dX1_sink_72 : decode cX1_sink 72 = .ok (.getfield 11, 3) := by decide +kernel
theorem dX1_sink_75 : decode cX1_sink 75 = .ok (.iload 4, 2) := by decide +kernel
theorem dX1_sink_77 : decode cX1_sink 77 = .ok (.iload_n 3, 1) := by decide +kernel
theorem dX1_sink_78 : decode cX1_sink 78 = .ok (.iastore, 1) := by decide +kernel
theorem dX1_sink_79 : decode cX1_sink 79 = .ok (.return_, 1) := by decide +kernel
theorem dX2_init_0 : decode cX2_init 0 = .ok (.aload_n 0, 1) := by decide +kernel
theorem dX2_init_1 : decode cX2_init 1 = .ok (.invokespecial 3, 3) := by decide +kernel
theorem dX2_init_4 : decode cX2_init 4 = .ok (.aload_n 0, 1) := by decide +kernel
theorem dX2_init_5 : decode cX2_init 5 = .ok (.new 9, 3) := by decide +kernel
theorem dX2_init_8 : decode cX2_init 8 = .ok (.dup, 1) := by decide +kernel
theorem dX2_init_9 : decode cX2_init 9 = .ok (.invokespecial 11, 3) := by decide +kernel
theorem dX2_init_12 : decode cX2_init 12 = .ok (.putfield 12, 3) := by decide +kernel
theorem dX2_init_15 : decode cX2_init 15 = .ok (.aload_n 0, 1) := by decide +kernel
theorem dX2_init_16 : decode cX2_init 16 = .ok (.sipush 298, 3) := by decide +kernel
theorem dX2_init_19 : decode cX2_init 19 = .ok (.newarray .long, 2) := by decide +kernel
theorem dX2_init_21 : decode cX2_init 21 = .ok (.putfield 18, 3) := by decide +kernel
theorem dX2_init_24 : decode cX2_init 24 = .ok (.aload_n 0, 1) := by decide +kernel
theorem dX2_init_25 : decode cX2_init 25 = .ok (.sipush 298, 3) := by decide +kernel
theorem dX2_init_28 : decode cX2_init 28 = .ok (.newarray .long, 2) := by decide +kernel
theorem dX2_init_30 : decode cX2_init 30 = .ok (.putfield 22, 3) := by decide +kernel
theorem dX2_init_33 : decode cX2_init 33 = .ok (.aload_n 0, 1) := by decide +kernel
theorem dX2_init_34 : decode cX2_init 34 = .ok (.sipush 298, 3) := by decide +kernel
theorem dX2_init_37 : decode cX2_init 37 = .ok (.newarray .int, 2) := by decide +kernel
theorem dX2_init_39 : decode cX2_init 39 = .ok (.putfield 25, 3) := by decide +kernel
theorem dX2_init_42 : decode cX2_init 42 = .ok (.aload_n 0, 1) := by decide +kernel
theorem dX2_init_43 : decode cX2_init 43 = .ok (.sipush 298, 3) := by decide +kernel
theorem dX2_init_46 : decode cX2_init 46 = .ok (.newarray .int, 2) := by decide +kernel
theorem dX2_init_48 : decode cX2_init 48 = .ok (.putfield 29, 3) := by decide +kernel
theorem dX2_init_51 : decode cX2_init 51 = .ok (.return_, 1) := by decide +kernel
theorem dX2_about_0 : decode cX2_about 0 = .ok (.aload_n 0, 1) := by decide +kernel
theorem dX2_about_1 : decode cX2_about 1 = .ok (.iconst 0, 1) := by decide +kernel
theorem dX2_about_2 : decode cX2_about 2 = .ok (.putfield 32, 3) := by decide +kernel
theorem dX2_about_5 : decode cX2_about 5 = .ok (.aload_n 0, 1) := by decide +kernel
theorem dX2_about_6 : decode cX2_about 6 = .ok (.iconst 1, 1) := by decide +kernel
theorem dX2_about_7 : decode cX2_about 7 = .ok (.aload_n 1, 1) := by decide +kernel
theorem dX2_about_8 : decode cX2_about 8 = .ok (.invokevirtual 36, 3) := by decide +kernel
theorem dX2_about_11 : decode cX2_about 11 = .ok (.bipush 12, 2) := by decide +kernel
theorem dX2_about_13 : decode cX2_about 13 = .ok (.invokestatic 41, 3) := by decide +kernel
theorem dX2_about_16 : decode cX2_about 16 = .ok (.ishl, 1) := by decide +kernel
theorem dX2_about_17 : decode cX2_about 17 = .ok (.iconst 1, 1) := by decide +kernel
theorem dX2_about_18 : decode cX2_about 18 = .ok (.isub, 1) := by decide +kernel
theorem dX2_about_19 : decode cX2_about 19 = .ok (.putfield 47, 3) := by decide +kernel
theorem dX2_about_22 : decode cX2_about 22 = .ok (.iconst 0, 1) := by decide +kernel
theorem dX2_about_23 : decode cX2_about 23 = .ok (.istore_n 2, 1) := by decide +kernel
theorem dX2_about_24 : decode cX2_about 24 = .ok (.iload_n 2, 1) := by decide +kernel
theorem dX2_about_25 : decode cX2_about 25 = .ok (.aload_n 1, 1) := by decide +kernel
theorem dX2_about_26 : decode cX2_about 26 = .ok (.invokevirtual 36, 3) := by decide +kernel
theorem dX2_about_29 : decode cX2_about 29 = .ok (.if_icmp .ge 86, 3) := by decide +kernel
theorem dX2_about_32 : decode cX2_about 32 = .ok (.aload_n 0, 1) := by decide +kernel
theorem dX2_about_33 : decode cX2_about 33 = .ok (.getfield 12, 3) := by decide +kernel
theorem dX2_about_36 : decode cX2_about 36 = .ok (.aload_n 1, 1) := by decide +kernel
theorem dX2_about_37 : decode cX2_about 37 = .ok (.iload_n 2, 1) := by decide +kernel
theorem dX2_about_38 : decode cX2_about 38 = .ok (.invokevirtual 50, 3) := by decide +kernel
theorem dX2_about_41 : decode cX2_about 41 = .ok (.aload_n 0, 1) := by decide +kernel
theorem dX2_about_42 : decode cX2_about 42 = .ok (.aload_n 1, 1) := by decide +kernel
theorem dX2_about_43 : decode cX2_about 43 = .ok (.invokevirtual 54, 3) := by decide +kernel
theorem dX2_about_46 : decode cX2_about 46 = .ok (.iconst 0, 1) := by decide +kernel
theorem dX2_about_47 : decode cX2_about 47 = .ok (.istore_n 3, 1) := by decide +kernel
theorem dX2_about_48 : decode cX2_about 48 = .ok (.iload_n 3, 1) := by decide +kernel
theorem dX2_about_49 : decode cX2_about 49 = .ok (.iload_n 2, 1) := by decide +kernel
theorem dX2_about_50 : decode cX2_about 50 = .ok (.if_icmp .ge 59, 3) := by decide +kernel
theorem dX2_about_53 : decode cX2_about 53 = .ok (.aload_n 0, 1) := by decide +kernel
theorem dX2_about_54 : decode cX2_about 54 = .ok (.getfield 12, 3) := by decide +kernel
theorem dX2_about_57 : decode cX2_about 57 = .ok (.aload_n 1, 1) := by decide +kernel
theorem dX2_about_58 : decode cX2_about 58 = .ok (.iload_n 2, 1) := by decide +kernel
theorem dX2_about_59 : decode cX2_about 59 = .ok (.iload_n 3, 1) := by decide +kernel
theorem dX2_about_60 : decode cX2_about 60 = .ok (.invokevirtual 58, 3) := by decide +kernel
theorem dX2_about_63 : decode cX2_about 63 = .ok (.aload_n 0, 1) := by decide +kernel
theorem dX2_about_64 : decode cX2_about 64 = .ok (.aload_n 1, 1) := by decide +kernel
theorem dX2_about_65 : decode cX2_about 65 = .ok (.invokevirtual 54, 3) := by decide +kernel
theorem dX2_about_68 : decode cX2_about 68 = .ok (.iconst 0, 1) := by decide +kernel
theorem dX2_about_69 : decode cX2_about 69 = .ok (.istore 4, 2) := by decide +kernel
theorem dX2_about_71 : decode cX2_about 71 = .ok (.iload 4, 2) := by decide +kernel
theorem dX2_about_73 : decode cX2_about 73 = .ok (.iload_n 3, 1) := by decide +kernel
theorem dX2_about_74 : decode cX2_about 74 = .ok (.if_icmp .ge 29, 3) := by decide +kernel
theorem dX2_about_77 : decode cX2_about 77 = .ok (.aload_n 0, 1) := by decide +kernel
theorem dX2_about_78 : decode cX2_about 78 = .ok (.getfield 12, 3) := by decide +kernel
theorem dX2_about_81 : decode cX2_about 81 = .ok (.aload_n 1, 1) := by decide +kernel
theorem dX2_about_82 : decode cX2_about 82 = .ok (.iload_n 2, 1) := by decide +kernel
theorem dX2_about_83 : decode cX2_about 83 = .ok (.iload_n 3, 1) := by decide +kernel
theorem dX2_about_84 : decode cX2_about 84 = .ok (.iload 4, 2) := by decide +kernel
theorem dX2_about_86 : decode cX2_about 86 = .ok (.invokevirtual 62, 3) := by decide +kernel
theorem dX2_about_89 : decode cX2_about 89 = .ok (.ifCond .eq 8, 3) := by decide +kernel
theorem dX2_about_92 : decode cX2_about 92 = .ok (.aload_n 0, 1) := by decide +kernel
theorem dX2_about_93 : decode cX2_about 93 = .ok (.aload_n 1, 1) := by decide +kernel
theorem dX2_about_94 : decode cX2_about 94 = .ok (.invokevirtual 54, 3) := by decide +kernel
theorem dX2_about_97 : decode cX2_about 97 = .ok (.iinc 4 1, 3) := by decide +kernel
theorem dX2_about_100 : decode cX2_about 100 = .ok (.goto (-29), 3) := by decide +kernel
theorem dX2_about_103 : decode cX2_about 103 = .ok (.iinc 3 1, 3) := by decide +kernel
theorem dX2_about_106 : decode cX2_about 106 = .ok (.goto (-58), 3) := by decide +kernel
theorem dX2_about_109 : decode cX2_about 109 = .ok (.iinc 2 1, 3) := by decide +kernel
theorem dX2_about_112 : decode cX2_about 112 = .ok (.goto (-88), 3) := by decide +kernel
theorem dX2_about_115 : decode cX2_about 115 = .ok (.aload_n 0, 1) := by decide +kernel
theorem dX2_about_116 : decode cX2_about 116 = .ok (.getfield 32, 3) := by decide +kernel
theorem dX2_about_119 : decode cX2_about 119 = .ok (.iconst 2, 1) := by decide +kernel
theorem dX2_about_120 : decode cX2_about 120 = .ok (.idiv, 1) := by decide +kernel
theorem dX2_about_121 : decode cX2_about 121 = .ok (.istore_n 2, 1) := by decide +kernel
theorem dX2_about_122 : decode cX2_about 122 = .ok (.iload_n 2, 1) := by decide +kernel
theorem dX2_about_123 : decode cX2_about 123 = .ok (.ifCond .le 32, 3) := by decide +kernel
theorem dX2_about_126 : decode cX2_about 126 = .ok (.iload_n 2, 1) := by decide +kernel
theorem dX2_about_127 : decode cX2_about 127 = .ok (.istore_n 3, 1) := by decide +kernel
theorem dX2_about_128 : decode cX2_about 128 = .ok (.iload_n 3, 1) := by decide +kernel
theorem dX2_about_129 : decode cX2_about 129 = .ok (.aload_n 0, 1) := by decide +kernel
theorem dX2_about_130 : decode cX2_about 130 = .ok (.getfield 32, 3) := by decide +kernel
theorem dX2_about_133 : decode cX2_about 133 = .ok (.if_icmp .ge 15, 3) := by decide +kernel
theorem dX2_about_136 : decode cX2_about 136 = .ok (.aload_n 0, 1) := by decide +kernel
theorem dX2_about_137 : decode cX2_about 137 = .ok (.iload_n 3, 1) := by decide +kernel
theorem dX2_about_138 : decode cX2_about 138 = .ok (.iload_n 2, 1) := by decide +kernel
theorem dX2_about_139 : decode cX2_about 139 = .ok (.invokevirtual 66, 3) := by decide +kernel
theorem dX2_about_142 : decode cX2_about 142 = .ok (.iinc 3 1, 3) := by decide +kernel
theorem dX2_about_145 : decode cX2_about 145 = .ok (.goto (-17), 3) := by decide +kernel
theorem dX2_about_148 : decode cX2_about 148 = .ok (.iload_n 2, 1) := by decide +kernel
theorem dX2_about_149 : decode cX2_about 149 = .ok (.iconst 2, 1) := by decide +kernel
theorem dX2_about_150 : decode cX2_about 150 = .ok (.idiv, 1) := by decide +kernel
theorem dX2_about_151 : decode cX2_about 151 = .ok (.istore_n 2, 1) := by decide +kernel
theorem dX2_about_152 : decode cX2_about 152 = .ok (.goto (-30), 3) := by decide +kernel
theorem dX2_about_155 : decode cX2_about 155 = .ok (.return_, 1) := by decide +kernel
theorem dX2_add_0 : decode cX2_add 0 = .ok (.aload_n 0, 1) := by decide +kernel
theorem dX2_add_1 : decode cX2_add 1 = .ok (.getfield 32, 3) := by decide +kernel
theorem dX2_add_4 : decode cX2_add 4 = .ok (.sipush 298, 3) := by decide +kernel
theorem dX2_add_7 : decode cX2_add 7 = .ok (.if_icmp .lt 4, 3) := by decide +kernel
theorem dX2_add_10 : decode cX2_add 10 = .ok (.return_, 1) := by decide +kernel
theorem dX2_add_11 : decode cX2_add 11 = .ok (.iconst 0, 1) := by decide +kernel
theorem dX2_add_12 : decode cX2_add 12 = .ok (.istore_n 2, 1) := by decide +kernel
theorem dX2_add_13 : decode cX2_add 13 = .ok (.iconst 0, 1) := by decide +kernel
theorem dX2_add_14 : decode cX2_add 14 = .ok (.istore_n 3, 1) := by decide +kernel
theorem dX2_add_15 : decode cX2_add 15 = .ok (.iload_n 3, 1) := by decide +kernel
theorem dX2_add_16 : decode cX2_add 16 = .ok (.aload_n 1, 1) := by decide +kernel
theorem dX2_add_17 : decode cX2_add 17 = .ok (.invokevirtual 36, 3) := by decide +kernel
theorem dX2_add_20 : decode cX2_add 20 = .ok (.if_icmp .ge 35, 3) := by decide +kernel
theorem dX2_add_23 : decode cX2_add 23 = .ok (.aload_n 0, 1) := by decide +kernel
theorem dX2_add_24 : decode cX2_add 24 = .ok (.getfield 12, 3) := by decide +kernel
theorem dX2_add_27 : decode cX2_add 27 = .ok (.aload_n 1, 1) := by decide +kernel
theorem dX2_add_28 : decode cX2_add 28 = .ok (.iload_n 3, 1) := by decide +kernel
theorem dX2_add_29 : decode cX2_add 29 = .ok (.invokevirtual 70, 3) := by decide +kernel
theorem dX2_add_32 : decode cX2_add 32 = .ok (.aload_n 1, 1) := by decide +kernel
theorem dX2_add_33 : decode cX2_add 33 = .ok (.iload_n 3, 1) := by decide +kernel
theorem dX2_add_34 : decode cX2_add 34 = .ok (.invokevirtual 74, 3) := by decide +kernel
theorem dX2_add_37 : decode cX2_add 37 = .ok (.invokevirtual 77, 3) := by decide +kernel
theorem dX2_add_40 : decode cX2_add 40 = .ok (.ifCond .gt 9, 3) := by decide +kernel
theorem dX2_add_43 : decode cX2_add 43 = .ok (.iload_n 2, 1) := by decide +kernel
theorem dX2_add_44 : decode cX2_add 44 = .ok (.iconst 1, 1) := by decide +kernel
theorem dX2_add_45 : decode cX2_add 45 = .ok (.iload_n 3, 1) := by decide +kernel
theorem dX2_add_46 : decode cX2_add 46 = .ok (.ishl, 1) := by decide +kernel
theorem dX2_add_47 : decode cX2_add 47 = .ok (.ior, 1) := by decide +kernel
theorem dX2_add_48 : decode cX2_add 48 = .ok (.istore_n 2, 1) := by decide +kernel
theorem dX2_add_49 : decode cX2_add 49 = .ok (.iinc 3 1, 3) := by decide +kernel
theorem dX2_add_52 : decode cX2_add 52 = .ok (.goto (-37), 3) := by decide +kernel
theorem dX2_add_55 : decode cX2_add 55 = .ok (.aload_n 0, 1) := by decide +kernel
theorem dX2_add_56 : decode cX2_add 56 = .ok (.getfield 18, 3) := by decide +kernel
theorem dX2_add_59 : decode cX2_add 59 = .ok (.aload_n 0, 1) := by decide +kernel
theorem dX2_add_60 : decode cX2_add 60 = .ok (.getfield 32, 3) := by decide +kernel
theorem dX2_add_63 : decode cX2_add 63 = .ok (.aload_n 0, 1) := by decide +kernel
theorem dX2_add_64 : decode cX2_add 64 = .ok (.getfield 12, 3) := by decide +kernel
theorem dX2_add_67 : decode cX2_add 67 = .ok (.invokevirtual 80, 3) := by decide +kernel
theorem dX2_add_70 : decode cX2_add 70 = .ok (.lastore, 1) := by decide +kernel
theorem dX2_add_71 : decode cX2_add 71 = .ok (.aload_n 0, 1) := by decide +kernel
theorem dX2_add_72 : decode cX2_add 72 = .ok (.getfield 22, 3) := by decide +kernel
theorem dX2_add_75 : decode cX2_add 75 = .ok (.aload_n 0, 1) := by decide +kernel
theorem dX2_add_76 : decode cX2_add 76 = .ok (.getfield 32, 3) := by decide +kernel
theorem dX2_add_79 : decode cX2_add 79 = .ok (.aload_n 0, 1) := by decide +kernel
theorem dX2_add_80 : decode cX2_add 80 = .ok (.getfield 12, 3) := by decide +kernel
theorem dX2_add_83 : decode cX2_add 83 = .ok (.invokevirtual 84, 3) := by decide +kernel
theorem dX2_add_86 : decode cX2_add 86 = .ok (.lastore, 1) := by decide +kernel
theorem dX2_add_87 : decode cX2_add 87 = .ok (.aload_n 0, 1) := by decide +kernel
theorem dX2_add_88 : decode cX2_add 88 = .ok (.getfield 25, 3) := by decide +kernel
theorem dX2_add_91 : decode cX2_add 91 = .ok (.aload_n 0, 1) := by decide +kernel
theorem dX2_add_92 : decode cX2_add 92 = .ok (.getfield 32, 3) := by decide +kernel
theorem dX2_add_95 : decode cX2_add 95 = .ok (.iload_n 2, 1) := by decide +kernel
theorem dX2_add_96 : decode cX2_add 96 = .ok (.iastore, 1) := by decide +kernel
theorem dX2_add_97 : decode cX2_add 97 = .ok (.aload_n 0, 1) := by decide +kernel
theorem dX2_add_98 : decode cX2_add 98 = .ok (.getfield 29, 3) := by decide +kernel
theorem dX2_add_101 : decode cX2_add 101 = .ok (.aload_n 0, 1) := by decide +kernel
theorem dX2_add_102 : decode cX2_add 102 = .ok (.getfield 32, 3) := by decide +kernel
theorem dX2_add_105 : decode cX2_add 105 = .ok (.aload_n 0, 1) := by decide +kernel
theorem dX2_add_106 : decode cX2_add 106 = .ok (.getfield 32, 3) := by decide +kernel
theorem dX2_add_109 : decode cX2_add 109 = .ok (.iastore, 1) := by decide +kernel
theorem dX2_add_110 : decode cX2_add 110 = .ok (.aload_n 0, 1) := by decide +kernel
theorem dX2_add_111 : decode cX2_add 111 = .ok (.dup, 1) := by decide +kernel
theorem dX2_add_112 : decode cX2_add 112 = .ok (.getfield 32, 3) := by decide +kernel
theorem dX2_add_115 : decode cX2_add 115 = .ok (.iconst 1, 1) := by decide +kernel
theorem dX2_add_116 : decode cX2_add 116 = .ok (.iadd, 1) := by decide +kernel
theorem dX2_add_117 : decode cX2_add 117 = .ok (.putfield 32, 3) := by decide +kernel
theorem dX2_add_120 : decode cX2_add 120 = .ok (.return_, 1) := by decide +kernel
theorem dX2_sink_0 : decode cX2_sink 0 = .ok (.iload_n 2, 1) := by decide +kernel
theorem dX2_sink_1 : decode cX2_sink 1 = .ok (.iconst 1, 1) := by decide +kernel
theorem dX2_sink_2 : decode cX2_sink 2 = .ok (.if_icmp .lt 16, 3) := by decide +kernel
theorem dX2_sink_5 : decode cX2_sink 5 = .ok (.iload_n 1, 1) := by decide +kernel
theorem dX2_sink_6 : decode cX2_sink 6 = .ok (.iload_n 2, 1) := by decide +kernel
theorem dX2_sink_7 : decode cX2_sink 7 = .ok (.if_icmp .lt 11, 3) := by decide +kernel
theorem dX2_sink_10 : decode cX2_sink 10 = .ok (.iload_n 1, 1) := by decide +kernel
theorem dX2_sink_11 : decode cX2_sink 11 = .ok (.aload_n 0, 1) := by decide +kernel
theorem dX2_sink_12 : decode cX2_sink 12 = .ok (.getfield 32, 3) := by decide +kernel
theorem dX2_sink_15 : decode cX2_sink 15 = .ok (.if_icmp .lt 4, 3) := by decide +kernel
theorem dX2_sink_18 : decode cX2_sink 18 = .ok (.return_, 1) := by decide +kernel
theorem dX2_sink_19 : decode cX2_sink 19 = .ok (.aload_n 0, 1) := by decide +kernel
theorem dX2_sink_20 : decode cX2_sink 20 = .ok (.iload_n 1, 1) := by decide +kernel
theorem dX2_sink_21 : decode cX2_sink 21 = .ok (.invokevirtual 87, 3) := by decide +kernel
theorem dX2_sink_24 : decode cX2_sink 24 = .ok (.istore_n 3, 1) := by decide +kernel
theorem dX2_sink_25 : decode cX2_sink 25 = .ok (.iload_n 1, 1) := by decide +kernel
theorem dX2_sink_26 : decode cX2_sink 26 = .ok (.istore 4, 2) := by decide +kernel
theorem dX2_sink_28 : decode cX2_sink 28 = .ok (.iload 4, 2) := by decide +kernel
theorem dX2_sink_30 : decode cX2_sink 30 = .ok (.iload_n 2, 1) := by decide +kernel
theorem dX2_sink_31 : decode cX2_sink 31 = .ok (.if_icmp .lt 44, 3) := by decide +kernel
theorem dX2_sink_34 : decode cX2_sink 34 = .ok (.aload_n 0, 1) := by decide +kernel
theorem dX2_sink_35 : decode cX2_sink 35 = .ok (.aload_n 0, 1) := by decide +kernel
theorem dX2_sink_36 : decode cX2_sink 36 = .ok (.iload 4, 2) := by decide +kernel
theorem dX2_sink_38 : decode cX2_sink 38 = .ok (.iload_n 2, 1) := by decide +kernel
theorem dX2_sink_39 : decode cX2_sink 39 = .ok (.isub, 1) := by decide +kernel
theorem dX2_sink_40 : decode cX2_sink 40 = .ok (.invokevirtual 87, 3) := by decide +kernel
theorem dX2_sink_43 : decode cX2_sink 43 = .ok (.iload_n 3, 1) := by decide +kernel
theorem dX2_sink_44 : decode cX2_sink 44 = .ok (.invokevirtual 90, 3) := by decide +kernel
theorem dX2_sink_47 : decode cX2_sink 47 = .ok (.ifCond .le 28, 3) := by decide +kernel
theorem dX2_sink_50 : decode cX2_sink 50 = .ok (.aload_n 0, 1) := by decide +kernel
theorem dX2_sink_51 : decode cX2_sink 51 = .ok (.getfield 29, 3) := by decide +kernel
theorem dX2_sink_54 : decode cX2_sink 54 = .ok (.iload 4, 2) := by decide +kernel
theorem dX2_sink_56 : decode cX2_sink 56 = .ok (.aload_n 0, 1) := by decide +kernel
theorem dX2_sink_57 : decode cX2_sink 57 = .ok (.getfield 29, 3) := by decide +kernel
theorem dX2_sink_60 : decode cX2_sink 60 = .ok (.iload 4, 2) := by decide +kernel
theorem dX2_sink_62 : decode cX2_sink 62 = .ok (.iload_n 2, 1) := by decide +kernel
theorem dX2_sink_63 : decode cX2_sink 63 = .ok (.isub, 1) := by decide +kernel
theorem dX2_sink_64 : decode cX2_sink 64 = .ok (.iaload, 1) := by decide +kernel
theorem dX2_sink_65 : decode cX2_sink 65 = .ok (.iastore, 1) := by decide +kernel
theorem dX2_sink_66 : decode cX2_sink 66 = .ok (.iload 4, 2) := by decide +kernel
theorem dX2_sink_68 : decode cX2_sink 68 = .ok (.iload_n 2, 1) := by decide +kernel
theorem dX2_sink_69 : decode cX2_sink 69 = .ok (.isub, 1) := by decide +kernel
theorem dX2_sink_70 : decode cX2_sink 70 = .ok (.istore 4, 2) := by decide +kernel
theorem dX2_sink_72 : decode cX2_sink 72 = .ok (.goto (-44), 3) := by decide +kernel
theorem dX2_sink_75 : decode cX2_sink 75 = .ok (.aload_n 0, 1) := by decide +kernel
theorem dX2_sink_76 : decode cX2_sink 76 = .ok (.getfield 29, 3) := by decide +kernel
theorem dX2_sink_79 : decode cX2_sink 79 = .ok (.iload 4, 2) := by decide +kernel
theorem dX2_sink_81 : decode cX2_sink 81 = .ok (.iload_n 3, 1) := by decide +kernel
theorem dX2_sink_82 : decode cX2_sink 82 = .ok (.iastore, 1) := by decide +kernel
theorem dX2_sink_83 : decode cX2_sink 83 = .ok (.return_, 1) := by decide +kernel
theorem dX2_discAt_0 : decode cX2_discAt 0 = .ok (.iload_n 1, 1) := by decide +kernel
theorem dX2_discAt_1 : decode cX2_discAt 1 = .ok (.ifCond .lt 20, 3) := by decide +kernel
theorem dX2_discAt_4 : decode cX2_discAt 4 = .ok (.iload_n 1, 1) := by decide +kernel
theorem dX2_discAt_5 : decode cX2_discAt 5 = .ok (.aload_n 0, 1) := by decide +kernel
theorem dX2_discAt_6 : decode cX2_discAt 6 = .ok (.getfield 32, 3) := by decide +kernel
theorem dX2_discAt_9 : decode cX2_discAt 9 = .ok (.if_icmp .ge 12, 3) := by decide +kernel
theorem dX2_discAt_12 : decode cX2_discAt 12 = .ok (.aload_n 0, 1) := by decide +kernel
theorem dX2_discAt_13 : decode cX2_discAt 13 = .ok (.getfield 29, 3) := by decide +kernel
theorem dX2_discAt_16 : decode cX2_discAt 16 = .ok (.iload_n 1, 1) := by decide +kernel
theorem dX2_discAt_17 : decode cX2_discAt 17 = .ok (.iaload, 1) := by decide +kernel
theorem dX2_discAt_18 : decode cX2_discAt 18 = .ok (.goto 4, 3) := by decide +kernel
theorem dX2_discAt_21 : decode cX2_discAt 21 = .ok (.iconst 0, 1) := by decide +kernel
theorem dX2_discAt_22 : decode cX2_discAt 22 = .ok (.ireturn, 1) := by decide +kernel
theorem dX2_sizeOrder_0 : decode cX2_sizeOrder 0 = .ok (.iload_n 1, 1) := by decide +kernel
theorem dX2_sizeOrder_1 : decode cX2_sizeOrder 1 = .ok (.ifCond .lt 21, 3) := by decide +kernel
theorem dX2_sizeOrder_4 : decode cX2_sizeOrder 4 = .ok (.iload_n 1, 1) := by decide +kernel
theorem dX2_sizeOrder_5 : decode cX2_sizeOrder 5 = .ok (.sipush 298, 3) := by decide +kernel
theorem dX2_sizeOrder_8 : decode cX2_sizeOrder 8 = .ok (.if_icmp .ge 14, 3) := by decide +kernel
theorem dX2_sizeOrder_11 : decode cX2_sizeOrder 11 = .ok (.iload_n 2, 1) := by decide +kernel
theorem dX2_sizeOrder_12 : decode cX2_sizeOrder 12 = .ok (.ifCond .lt 10, 3) := by decide +kernel
theorem dX2_sizeOrder_15 : decode cX2_sizeOrder 15 = .ok (.iload_n 2, 1) := by decide +kernel
theorem dX2_sizeOrder_16 : decode cX2_sizeOrder 16 = .ok (.sipush 298, 3) := by decide +kernel
theorem dX2_sizeOrder_19 : decode cX2_sizeOrder 19 = .ok (.if_icmp .lt 5, 3) := by decide +kernel
theorem dX2_sizeOrder_22 : decode cX2_sizeOrder 22 = .ok (.iconst 0, 1) := by decide +kernel
theorem dX2_sizeOrder_23 : decode cX2_sizeOrder 23 = .ok (.ireturn, 1) := by decide +kernel
theorem dX2_sizeOrder_24 : decode cX2_sizeOrder 24 = .ok (.aload_n 0, 1) := by decide +kernel
theorem dX2_sizeOrder_25 : decode cX2_sizeOrder 25 = .ok (.getfield 18, 3) := by decide +kernel
theorem dX2_sizeOrder_28 : decode cX2_sizeOrder 28 = .ok (.iload_n 1, 1) := by decide +kernel
theorem dX2_sizeOrder_29 : decode cX2_sizeOrder 29 = .ok (.laload, 1) := by decide +kernel
theorem dX2_sizeOrder_30 : decode cX2_sizeOrder 30 = .ok (.aload_n 0, 1) := by decide +kernel
theorem dX2_sizeOrder_31 : decode cX2_sizeOrder 31 = .ok (.getfield 22, 3) := by decide +kernel
theorem dX2_sizeOrder_34 : decode cX2_sizeOrder 34 = .ok (.iload_n 1, 1) := by decide +kernel
theorem dX2_sizeOrder_35 : decode cX2_sizeOrder 35 = .ok (.laload, 1) := by decide +kernel
theorem dX2_sizeOrder_36 : decode cX2_sizeOrder 36 = .ok (.aload_n 0, 1) := by decide +kernel
theorem dX2_sizeOrder_37 : decode cX2_sizeOrder 37 = .ok (.getfield 18, 3) := by decide +kernel
theorem dX2_sizeOrder_40 : decode cX2_sizeOrder 40 = .ok (.iload_n 2, 1) := by decide +kernel
theorem dX2_sizeOrder_41 : decode cX2_sizeOrder 41 = .ok (.laload, 1) := by decide +kernel
theorem dX2_sizeOrder_42 : decode cX2_sizeOrder 42 = .ok (.aload_n 0, 1) := by decide +kernel
theorem dX2_sizeOrder_43 : decode cX2_sizeOrder 43 = .ok (.getfield 22, 3) := by decide +kernel
theorem dX2_sizeOrder_46 : decode cX2_sizeOrder 46 = .ok (.iload_n 2, 1) := by decide +kernel
theorem dX2_sizeOrder_47 : decode cX2_sizeOrder 47 = .ok (.laload, 1) := by decide +kernel
theorem dX2_sizeOrder_48 : decode cX2_sizeOrder 48 = .ok (.invokestatic 93, 3) := by decide +kernel
theorem dX2_sizeOrder_51 : decode cX2_sizeOrder 51 = .ok (.ireturn, 1) := by decide +kernel
theorem dX2_bitsOf_0 : decode cX2_bitsOf 0 = .ok (.iload_n 1, 1) := by decide +kernel
theorem dX2_bitsOf_1 : decode cX2_bitsOf 1 = .ok (.ifCond .lt 20, 3) := by decide +kernel
theorem dX2_bitsOf_4 : decode cX2_bitsOf 4 = .ok (.iload_n 1, 1) := by decide +kernel
theorem dX2_bitsOf_5 : decode cX2_bitsOf 5 = .ok (.aload_n 0, 1) := by decide +kernel
theorem dX2_bitsOf_6 : decode cX2_bitsOf 6 = .ok (.getfield 32, 3) := by decide +kernel
theorem dX2_bitsOf_9 : decode cX2_bitsOf 9 = .ok (.if_icmp .ge 12, 3) := by decide +kernel
theorem dX2_bitsOf_12 : decode cX2_bitsOf 12 = .ok (.aload_n 0, 1) := by decide +kernel
theorem dX2_bitsOf_13 : decode cX2_bitsOf 13 = .ok (.getfield 25, 3) := by decide +kernel
theorem dX2_bitsOf_16 : decode cX2_bitsOf 16 = .ok (.iload_n 1, 1) := by decide +kernel
theorem dX2_bitsOf_17 : decode cX2_bitsOf 17 = .ok (.iaload, 1) := by decide +kernel
theorem dX2_bitsOf_18 : decode cX2_bitsOf 18 = .ok (.goto 4, 3) := by decide +kernel
theorem dX2_bitsOf_21 : decode cX2_bitsOf 21 = .ok (.iconst 0, 1) := by decide +kernel
theorem dX2_bitsOf_22 : decode cX2_bitsOf 22 = .ok (.ireturn, 1) := by decide +kernel
theorem dX2_tellSize_0 : decode cX2_tellSize 0 = .ok (.iload_n 1, 1) := by decide +kernel
theorem dX2_tellSize_1 : decode cX2_tellSize 1 = .ok (.ifCond .lt 27, 3) := by decide +kernel
theorem dX2_tellSize_4 : decode cX2_tellSize 4 = .ok (.iload_n 1, 1) := by decide +kernel
theorem dX2_tellSize_5 : decode cX2_tellSize 5 = .ok (.aload_n 0, 1) := by decide +kernel
theorem dX2_tellSize_6 : decode cX2_tellSize 6 = .ok (.getfield 32, 3) := by decide +kernel
theorem dX2_tellSize_9 : decode cX2_tellSize 9 = .ok (.if_icmp .ge 19, 3) := by decide +kernel
theorem dX2_tellSize_12 : decode cX2_tellSize 12 = .ok (.aload_n 2, 1) := by decide +kernel
theorem dX2_tellSize_13 : decode cX2_tellSize 13 = .ok (.aload_n 0, 1) := by decide +kernel
theorem dX2_tellSize_14 : decode cX2_tellSize 14 = .ok (.getfield 18, 3) := by decide +kernel
theorem dX2_tellSize_17 : decode cX2_tellSize 17 = .ok (.iload_n 1, 1) := by decide +kernel
theorem dX2_tellSize_18 : decode cX2_tellSize 18 = .ok (.laload, 1) := by decide +kernel
theorem dX2_tellSize_19 : decode cX2_tellSize 19 = .ok (.aload_n 0, 1) := by decide +kernel
theorem dX2_tellSize_20 : decode cX2_tellSize 20 = .ok (.getfield 22, 3) := by decide +kernel
theorem dX2_tellSize_23 : decode cX2_tellSize 23 = .ok (.iload_n 1, 1) := by decide +kernel
theorem dX2_tellSize_24 : decode cX2_tellSize 24 = .ok (.laload, 1) := by decide +kernel
theorem dX2_tellSize_25 : decode cX2_tellSize 25 = .ok (.invokevirtual 99, 3) := by decide +kernel
theorem dX2_tellSize_28 : decode cX2_tellSize 28 = .ok (.return_, 1) := by decide +kernel
theorem dX2_holding_0 : decode cX2_holding 0 = .ok (.iconst (-1), 1) := by decide +kernel
theorem dX2_holding_1 : decode cX2_holding 1 = .ok (.istore_n 3, 1) := by decide +kernel
theorem dX2_holding_2 : decode cX2_holding 2 = .ok (.iconst 0, 1) := by decide +kernel
theorem dX2_holding_3 : decode cX2_holding 3 = .ok (.istore 4, 2) := by decide +kernel
theorem dX2_holding_5 : decode cX2_holding 5 = .ok (.iload 4, 2) := by decide +kernel
theorem dX2_holding_7 : decode cX2_holding 7 = .ok (.aload_n 0, 1) := by decide +kernel
theorem dX2_holding_8 : decode cX2_holding 8 = .ok (.getfield 32, 3) := by decide +kernel
theorem dX2_holding_11 : decode cX2_holding 11 = .ok (.if_icmp .ge 76, 3) := by decide +kernel
theorem dX2_holding_14 : decode cX2_holding 14 = .ok (.aload_n 0, 1) := by decide +kernel
theorem dX2_holding_15 : decode cX2_holding 15 = .ok (.iload 4, 2) := by decide +kernel
theorem dX2_holding_17 : decode cX2_holding 17 = .ok (.invokevirtual 87, 3) := by decide +kernel
theorem dX2_holding_20 : decode cX2_holding 20 = .ok (.istore 5, 2) := by decide +kernel
theorem dX2_holding_22 : decode cX2_holding 22 = .ok (.aload_n 0, 1) := by decide +kernel
theorem dX2_holding_23 : decode cX2_holding 23 = .ok (.iload 5, 2) := by decide +kernel
theorem dX2_holding_25 : decode cX2_holding 25 = .ok (.invokevirtual 103, 3) := by decide +kernel
theorem dX2_holding_28 : decode cX2_holding 28 = .ok (.invokestatic 106, 3) := by decide +kernel
theorem dX2_holding_31 : decode cX2_holding 31 = .ok (.iload_n 1, 1) := by decide +kernel
theorem dX2_holding_32 : decode cX2_holding 32 = .ok (.if_icmp .ge 6, 3) := by decide +kernel
theorem dX2_holding_35 : decode cX2_holding 35 = .ok (.goto 46, 3) := by decide +kernel
theorem dX2_holding_38 : decode cX2_holding 38 = .ok (.iload_n 3, 1) := by decide +kernel
theorem dX2_holding_39 : decode cX2_holding 39 = .ok (.iconst (-1), 1) := by decide +kernel
theorem dX2_holding_40 : decode cX2_holding 40 = .ok (.if_icmp .eq 16, 3) := by decide +kernel
theorem dX2_holding_43 : decode cX2_holding 43 = .ok (.aload_n 0, 1) := by decide +kernel
theorem dX2_holding_44 : decode cX2_holding 44 = .ok (.iload 5, 2) := by decide +kernel
theorem dX2_holding_46 : decode cX2_holding 46 = .ok (.iload_n 3, 1) := by decide +kernel
theorem dX2_holding_47 : decode cX2_holding 47 = .ok (.invokevirtual 90, 3) := by decide +kernel
theorem dX2_holding_50 : decode cX2_holding 50 = .ok (.ifCond .le 6, 3) := by decide +kernel
theorem dX2_holding_53 : decode cX2_holding 53 = .ok (.goto 34, 3) := by decide +kernel
theorem dX2_holding_56 : decode cX2_holding 56 = .ok (.iload_n 3, 1) := by decide +kernel
theorem dX2_holding_57 : decode cX2_holding 57 = .ok (.iconst (-1), 1) := by decide +kernel
theorem dX2_holding_58 : decode cX2_holding 58 = .ok (.if_icmp .eq 20, 3) := by decide +kernel
theorem dX2_holding_61 : decode cX2_holding 61 = .ok (.aload_n 0, 1) := by decide +kernel
theorem dX2_holding_62 : decode cX2_holding 62 = .ok (.iload 5, 2) := by decide +kernel
theorem dX2_holding_64 : decode cX2_holding 64 = .ok (.invokevirtual 103, 3) := by decide +kernel
theorem dX2_holding_67 : decode cX2_holding 67 = .ok (.aload_n 0, 1) := by decide +kernel
theorem dX2_holding_68 : decode cX2_holding 68 = .ok (.iload_n 3, 1) := by decide +kernel
theorem dX2_holding_69 : decode cX2_holding 69 = .ok (.invokevirtual 103, 3) := by decide +kernel
theorem dX2_holding_72 : decode cX2_holding 72 = .ok (.invokestatic 111, 3) := by decide +kernel
theorem dX2_holding_75 : decode cX2_holding 75 = .ok (.ifCond .eq 6, 3) := by decide +kernel
theorem dX2_holding_78 : decode cX2_holding 78 = .ok (.iload 5, 2) := by decide +kernel
theorem dX2_holding_80 : decode cX2_holding 80 = .ok (.istore_n 3, 1) := by decide +kernel
theorem dX2_holding_81 : decode cX2_holding 81 = .ok (.iinc 4 1, 3) := by decide +kernel
theorem dX2_holding_84 : decode cX2_holding 84 = .ok (.goto (-79), 3) := by decide +kernel
theorem dX2_holding_87 : decode cX2_holding 87 = .ok (.aload_n 0, 1) := by decide +kernel
theorem dX2_holding_88 : decode cX2_holding 88 = .ok (.iload_n 3, 1) := by decide +kernel
theorem dX2_holding_89 : decode cX2_holding 89 = .ok (.aload_n 2, 1) := by decide +kernel
theorem dX2_holding_90 : decode cX2_holding 90 = .ok (.invokevirtual 115, 3) := by decide +kernel
theorem dX2_holding_93 : decode cX2_holding 93 = .ok (.aload_n 0, 1) := by decide +kernel
theorem dX2_holding_94 : decode cX2_holding 94 = .ok (.iload_n 3, 1) := by decide +kernel
theorem dX2_holding_95 : decode cX2_holding 95 = .ok (.invokevirtual 103, 3) := by decide +kernel
theorem dX2_holding_98 : decode cX2_holding 98 = .ok (.ireturn, 1) := by decide +kernel
theorem dX2_isFuller_0 : decode cX2_isFuller 0 = .ok (.iload_n 0, 1) := by decide +kernel
theorem dX2_isFuller_1 : decode cX2_isFuller 1 = .ok (.invokestatic 106, 3) := by decide +kernel
theorem dX2_isFuller_4 : decode cX2_isFuller 4 = .ok (.iload_n 1, 1) := by decide +kernel
theorem dX2_isFuller_5 : decode cX2_isFuller 5 = .ok (.invokestatic 106, 3) := by decide +kernel
theorem dX2_isFuller_8 : decode cX2_isFuller 8 = .ok (.isub, 1) := by decide +kernel
theorem dX2_isFuller_9 : decode cX2_isFuller 9 = .ok (.istore_n 2, 1) := by decide +kernel
theorem dX2_isFuller_10 : decode cX2_isFuller 10 = .ok (.iload_n 2, 1) := by decide +kernel
theorem dX2_isFuller_11 : decode cX2_isFuller 11 = .ok (.ifCond .gt 12, 3) := by decide +kernel
theorem dX2_isFuller_14 : decode cX2_isFuller 14 = .ok (.iload_n 2, 1) := by decide +kernel
theorem dX2_isFuller_15 : decode cX2_isFuller 15 = .ok (.ifCond .ne 12, 3) := by decide +kernel
theorem dX2_isFuller_18 : decode cX2_isFuller 18 = .ok (.iload_n 0, 1) := by decide +kernel
theorem dX2_isFuller_19 : decode cX2_isFuller 19 = .ok (.iload_n 1, 1) := by decide +kernel
theorem dX2_isFuller_20 : decode cX2_isFuller 20 = .ok (.if_icmp .ge 7, 3) := by decide +kernel
theorem dX2_isFuller_23 : decode cX2_isFuller 23 = .ok (.iconst 1, 1) := by decide +kernel
theorem dX2_isFuller_24 : decode cX2_isFuller 24 = .ok (.goto 4, 3) := by decide +kernel
theorem dX2_isFuller_27 : decode cX2_isFuller 27 = .ok (.iconst 0, 1) := by decide +kernel
theorem dX2_isFuller_28 : decode cX2_isFuller 28 = .ok (.ireturn, 1) := by decide +kernel
theorem dX2_parting_0 : decode cX2_parting 0 = .ok (.iconst (-1), 1) := by decide +kernel
theorem dX2_parting_1 : decode cX2_parting 1 = .ok (.istore_n 2, 1) := by decide +kernel
theorem dX2_parting_2 : decode cX2_parting 2 = .ok (.iconst 0, 1) := by decide +kernel
theorem dX2_parting_3 : decode cX2_parting 3 = .ok (.istore_n 3, 1) := by decide +kernel
theorem dX2_parting_4 : decode cX2_parting 4 = .ok (.iconst 0, 1) := by decide +kernel
theorem dX2_parting_5 : decode cX2_parting 5 = .ok (.istore 4, 2) := by decide +kernel
theorem dX2_parting_7 : decode cX2_parting 7 = .ok (.iload 4, 2) := by decide +kernel
theorem dX2_parting_9 : decode cX2_parting 9 = .ok (.aload_n 0, 1) := by decide +kernel
theorem dX2_parting_10 : decode cX2_parting 10 = .ok (.getfield 32, 3) := by decide +kernel
theorem dX2_parting_13 : decode cX2_parting 13 = .ok (.if_icmp .ge 124, 3) := by decide +kernel
theorem dX2_parting_16 : decode cX2_parting 16 = .ok (.aload_n 0, 1) := by decide +kernel
theorem dX2_parting_17 : decode cX2_parting 17 = .ok (.iload 4, 2) := by decide +kernel
theorem dX2_parting_19 : decode cX2_parting 19 = .ok (.invokevirtual 87, 3) := by decide +kernel
theorem dX2_parting_22 : decode cX2_parting 22 = .ok (.istore 5, 2) := by decide +kernel
theorem dX2_parting_24 : decode cX2_parting 24 = .ok (.iload_n 2, 1) := by decide +kernel
theorem dX2_parting_25 : decode cX2_parting 25 = .ok (.iconst (-1), 1) := by decide +kernel
theorem dX2_parting_26 : decode cX2_parting 26 = .ok (.if_icmp .eq 16, 3) := by decide +kernel
theorem dX2_parting_29 : decode cX2_parting 29 = .ok (.aload_n 0, 1) := by decide +kernel
theorem dX2_parting_30 : decode cX2_parting 30 = .ok (.iload 5, 2) := by decide +kernel
theorem dX2_parting_32 : decode cX2_parting 32 = .ok (.iload_n 2, 1) := by decide +kernel
theorem dX2_parting_33 : decode cX2_parting 33 = .ok (.invokevirtual 90, 3) := by decide +kernel
theorem dX2_parting_36 : decode cX2_parting 36 = .ok (.ifCond .le 6, 3) := by decide +kernel
theorem dX2_parting_39 : decode cX2_parting 39 = .ok (.goto 98, 3) := by decide +kernel
theorem dX2_parting_42 : decode cX2_parting 42 = .ok (.aload_n 0, 1) := by decide +kernel
theorem dX2_parting_43 : decode cX2_parting 43 = .ok (.iload 5, 2) := by decide +kernel
theorem dX2_parting_45 : decode cX2_parting 45 = .ok (.invokevirtual 103, 3) := by decide +kernel
theorem dX2_parting_48 : decode cX2_parting 48 = .ok (.istore 6, 2) := by decide +kernel
theorem dX2_parting_50 : decode cX2_parting 50 = .ok (.iconst 0, 1) := by decide +kernel
theorem dX2_parting_51 : decode cX2_parting 51 = .ok (.istore 7, 2) := by decide +kernel
theorem dX2_parting_53 : decode cX2_parting 53 = .ok (.iload 7, 2) := by decide +kernel
theorem dX2_parting_55 : decode cX2_parting 55 = .ok (.iload 4, 2) := by decide +kernel
theorem dX2_parting_57 : decode cX2_parting 57 = .ok (.if_icmp .ge 62, 3) := by decide +kernel
theorem dX2_parting_60 : decode cX2_parting 60 = .ok (.aload_n 0, 1) := by decide +kernel
theorem dX2_parting_61 : decode cX2_parting 61 = .ok (.aload_n 0, 1) := by decide +kernel
theorem dX2_parting_62 : decode cX2_parting 62 = .ok (.iload 7, 2) := by decide +kernel
theorem dX2_parting_64 : decode cX2_parting 64 = .ok (.invokevirtual 87, 3) := by decide +kernel
theorem dX2_parting_67 : decode cX2_parting 67 = .ok (.invokevirtual 103, 3) := by decide +kernel
theorem dX2_parting_70 : decode cX2_parting 70 = .ok (.istore 8, 2) := by decide +kernel
theorem dX2_parting_72 : decode cX2_parting 72 = .ok (.iload 6, 2) := by decide +kernel
theorem dX2_parting_74 : decode cX2_parting 74 = .ok (.iload 8, 2) := by decide +kernel
theorem dX2_parting_76 : decode cX2_parting 76 = .ok (.ior, 1) := by decide +kernel
theorem dX2_parting_77 : decode cX2_parting 77 = .ok (.aload_n 0, 1) := by decide +kernel
theorem dX2_parting_78 : decode cX2_parting 78 = .ok (.getfield 47, 3) := by decide +kernel
theorem dX2_parting_81 : decode cX2_parting 81 = .ok (.if_icmp .eq 6, 3) := by decide +kernel
theorem dX2_parting_84 : decode cX2_parting 84 = .ok (.goto 29, 3) := by decide +kernel
theorem dX2_parting_87 : decode cX2_parting 87 = .ok (.iload_n 3, 1) := by decide +kernel
theorem dX2_parting_88 : decode cX2_parting 88 = .ok (.aload_n 0, 1) := by decide +kernel
theorem dX2_parting_89 : decode cX2_parting 89 = .ok (.iload 6, 2) := by decide +kernel
theorem dX2_parting_91 : decode cX2_parting 91 = .ok (.iload 8, 2) := by decide +kernel
theorem dX2_parting_93 : decode cX2_parting 93 = .ok (.invokevirtual 119, 3) := by decide +kernel
theorem dX2_parting_96 : decode cX2_parting 96 = .ok (.invokestatic 122, 3) := by decide +kernel
theorem dX2_parting_99 : decode cX2_parting 99 = .ok (.istore_n 3, 1) := by decide +kernel
theorem dX2_parting_100 : decode cX2_parting 100 = .ok (.iload_n 3, 1) := by decide +kernel
theorem dX2_parting_101 : decode cX2_parting 101 = .ok (.aload_n 0, 1) := by decide +kernel
theorem dX2_parting_102 : decode cX2_parting 102 = .ok (.iload 8, 2) := by decide +kernel
theorem dX2_parting_104 : decode cX2_parting 104 = .ok (.iload 6, 2) := by decide +kernel
theorem dX2_parting_106 : decode cX2_parting 106 = .ok (.invokevirtual 119, 3) := by decide +kernel
theorem dX2_parting_109 : decode cX2_parting 109 = .ok (.invokestatic 122, 3) := by decide +kernel
theorem dX2_parting_112 : decode cX2_parting 112 = .ok (.istore_n 3, 1) := by decide +kernel
theorem dX2_parting_113 : decode cX2_parting 113 = .ok (.iinc 7 1, 3) := by decide +kernel
theorem dX2_parting_116 : decode cX2_parting 116 = .ok (.goto (-63), 3) := by decide +kernel
theorem dX2_parting_119 : decode cX2_parting 119 = .ok (.iload_n 3, 1) := by decide +kernel
theorem dX2_parting_120 : decode cX2_parting 120 = .ok (.ifCond .eq 11, 3) := by decide +kernel
theorem dX2_parting_123 : decode cX2_parting 123 = .ok (.iload_n 2, 1) := by decide +kernel
theorem dX2_parting_124 : decode cX2_parting 124 = .ok (.iconst (-1), 1) := by decide +kernel
theorem dX2_parting_125 : decode cX2_parting 125 = .ok (.if_icmp .ne 6, 3) := by decide +kernel
theorem dX2_parting_128 : decode cX2_parting 128 = .ok (.iload 5, 2) := by decide +kernel
theorem dX2_parting_130 : decode cX2_parting 130 = .ok (.istore_n 2, 1) := by decide +kernel
theorem dX2_parting_131 : decode cX2_parting 131 = .ok (.iinc 4 1, 3) := by decide +kernel
theorem dX2_parting_134 : decode cX2_parting 134 = .ok (.goto (-127), 3) := by decide +kernel
theorem dX2_parting_137 : decode cX2_parting 137 = .ok (.aload_n 0, 1) := by decide +kernel
theorem dX2_parting_138 : decode cX2_parting 138 = .ok (.iload_n 2, 1) := by decide +kernel
theorem dX2_parting_139 : decode cX2_parting 139 = .ok (.aload_n 1, 1) := by decide +kernel
theorem dX2_parting_140 : decode cX2_parting 140 = .ok (.invokevirtual 115, 3) := by decide +kernel
theorem dX2_parting_143 : decode cX2_parting 143 = .ok (.iload_n 3, 1) := by decide +kernel
theorem dX2_parting_144 : decode cX2_parting 144 = .ok (.ireturn, 1) := by decide +kernel
theorem dX2_partBetween_0 : decode cX2_partBetween 0 = .ok (.aload_n 0, 1) := by decide +kernel
theorem dX2_partBetween_1 : decode cX2_partBetween 1 = .ok (.getfield 47, 3) := by decide +kernel
theorem dX2_partBetween_4 : decode cX2_partBetween 4 = .ok (.iload_n 2, 1) := by decide +kernel
theorem dX2_partBetween_5 : decode cX2_partBetween 5 = .ok (.iconst (-1), 1) := by decide +kernel
theorem dX2_partBetween_6 : decode cX2_partBetween 6 = .ok (.ixor, 1) := by decide +kernel
theorem dX2_partBetween_7 : decode cX2_partBetween 7 = .ok (.iand, 1) := by decide +kernel
theorem dX2_partBetween_8 : decode cX2_partBetween 8 = .ok (.iconst 1, 1) := by decide +kernel
theorem dX2_partBetween_9 : decode cX2_partBetween 9 = .ok (.ior, 1) := by decide +kernel
theorem dX2_partBetween_10 : decode cX2_partBetween 10 = .ok (.istore_n 3, 1) := by decide +kernel
theorem dX2_partBetween_11 : decode cX2_partBetween 11 = .ok (.iload_n 3, 1) := by decide +kernel
theorem dX2_partBetween_12 : decode cX2_partBetween 12 = .ok (.iload_n 1, 1) := by decide +kernel
theorem dX2_partBetween_13 : decode cX2_partBetween 13 = .ok (.iconst (-1), 1) := by decide +kernel
theorem dX2_partBetween_14 : decode cX2_partBetween 14 = .ok (.ixor, 1) := by decide +kernel
theorem dX2_partBetween_15 : decode cX2_partBetween 15 = .ok (.iand, 1) := by decide +kernel
theorem dX2_partBetween_16 : decode cX2_partBetween 16 = .ok (.ifCond .ne 15, 3) := by decide +kernel
theorem dX2_partBetween_19 : decode cX2_partBetween 19 = .ok (.iload_n 3, 1) := by decide +kernel
theorem dX2_partBetween_20 : decode cX2_partBetween 20 = .ok (.aload_n 0, 1) := by decide +kernel
theorem dX2_partBetween_21 : decode cX2_partBetween 21 = .ok (.getfield 47, 3) := by decide +kernel
theorem dX2_partBetween_24 : decode cX2_partBetween 24 = .ok (.if_icmp .eq 7, 3) := by decide +kernel
theorem dX2_partBetween_27 : decode cX2_partBetween 27 = .ok (.iload_n 3, 1) := by decide +kernel
theorem dX2_partBetween_28 : decode cX2_partBetween 28 = .ok (.goto 4, 3) := by decide +kernel
theorem dX2_partBetween_31 : decode cX2_partBetween 31 = .ok (.iconst 0, 1) := by decide +kernel
theorem dX2_partBetween_32 : decode cX2_partBetween 32 = .ok (.ireturn, 1) := by decide +kernel
theorem dX2_lesser_0 : decode cX2_lesser 0 = .ok (.iload_n 0, 1) := by decide +kernel
theorem dX2_lesser_1 : decode cX2_lesser 1 = .ok (.ifCond .eq 7, 3) := by decide +kernel
theorem dX2_lesser_4 : decode cX2_lesser 4 = .ok (.iload_n 1, 1) := by decide +kernel
theorem dX2_lesser_5 : decode cX2_lesser 5 = .ok (.ifCond .ne 7, 3) := by decide +kernel
theorem dX2_lesser_8 : decode cX2_lesser 8 = .ok (.iload_n 0, 1) := by decide +kernel
theorem dX2_lesser_9 : decode cX2_lesser 9 = .ok (.iload_n 1, 1) := by decide +kernel
theorem dX2_lesser_10 : decode cX2_lesser 10 = .ok (.ior, 1) := by decide +kernel
theorem dX2_lesser_11 : decode cX2_lesser 11 = .ok (.ireturn, 1) := by decide +kernel
theorem dX2_lesser_12 : decode cX2_lesser 12 = .ok (.iload_n 0, 1) := by decide +kernel
theorem dX2_lesser_13 : decode cX2_lesser 13 = .ok (.iload_n 1, 1) := by decide +kernel
theorem dX2_lesser_14 : decode cX2_lesser 14 = .ok (.invokestatic 41, 3) := by decide +kernel
theorem dX2_lesser_17 : decode cX2_lesser 17 = .ok (.ireturn, 1) := by decide +kernel
theorem dX3_init_0 : decode cX3_init 0 = .ok (.aload_n 0, 1) := by decide +kernel
theorem dX3_init_1 : decode cX3_init 1 = .ok (.invokespecial 1, 3) := by decide +kernel
theorem dX3_init_4 : decode cX3_init 4 = .ok (.aload_n 0, 1) := by decide +kernel
theorem dX3_init_5 : decode cX3_init 5 = .ok (.lconst 1, 1) := by decide +kernel
theorem dX3_init_6 : decode cX3_init 6 = .ok (.putfield 7, 3) := by decide +kernel
theorem dX3_init_9 : decode cX3_init 9 = .ok (.return_, 1) := by decide +kernel
theorem dX3_set_0 : decode cX3_set 0 = .ok (.lload_n 1, 1) := by decide +kernel
theorem dX3_set_1 : decode cX3_set 1 = .ok (.lload_n 3, 1) := by decide +kernel
theorem dX3_set_2 : decode cX3_set 2 = .ok (.invokestatic 13, 3) := by decide +kernel
theorem dX3_set_5 : decode cX3_set 5 = .ok (.lstore 5, 2) := by decide +kernel
theorem dX3_set_7 : decode cX3_set 7 = .ok (.lload_n 3, 1) := by decide +kernel
theorem dX3_set_8 : decode cX3_set 8 = .ok (.lconst 0, 1) := by decide +kernel
theorem dX3_set_9 : decode cX3_set 9 = .ok (.lcmp, 1) := by decide +kernel
theorem dX3_set_10 : decode cX3_set 10 = .ok (.ifCond .ge 7, 3) := by decide +kernel
theorem dX3_set_13 : decode cX3_set 13 = .ok (.iconst 1, 1) := by decide +kernel
theorem dX3_set_14 : decode cX3_set 14 = .ok (.goto 4, 3) := by decide +kernel
theorem dX3_set_17 : decode cX3_set 17 = .ok (.iconst 0, 1) := by decide +kernel
theorem dX3_set_18 : decode cX3_set 18 = .ok (.istore 7, 2) := by decide +kernel
theorem dX3_set_20 : decode cX3_set 20 = .ok (.lload_n 3, 1) := by decide +kernel
theorem dX3_set_21 : decode cX3_set 21 = .ok (.lconst 0, 1) := by decide +kernel
theorem dX3_set_22 : decode cX3_set 22 = .ok (.lcmp, 1) := by decide +kernel
theorem dX3_set_23 : decode cX3_set 23 = .ok (.ifCond .eq 10, 3) := by decide +kernel
theorem dX3_set_26 : decode cX3_set 26 = .ok (.lload 5, 2) := by decide +kernel
theorem dX3_set_28 : decode cX3_set 28 = .ok (.lconst 0, 1) := by decide +kernel
theorem dX3_set_29 : decode cX3_set 29 = .ok (.lcmp, 1) := by decide +kernel
theorem dX3_set_30 : decode cX3_set 30 = .ok (.ifCond .ne 14, 3) := by decide +kernel
theorem dX3_set_33 : decode cX3_set 33 = .ok (.aload_n 0, 1) := by decide +kernel
theorem dX3_set_34 : decode cX3_set 34 = .ok (.lconst 0, 1) := by decide +kernel
theorem dX3_set_35 : decode cX3_set 35 = .ok (.putfield 17, 3) := by decide +kernel
theorem dX3_set_38 : decode cX3_set 38 = .ok (.aload_n 0, 1) := by decide +kernel
theorem dX3_set_39 : decode cX3_set 39 = .ok (.lconst 1, 1) := by decide +kernel
theorem dX3_set_40 : decode cX3_set 40 = .ok (.putfield 7, 3) := by decide +kernel
theorem dX3_set_43 : decode cX3_set 43 = .ok (.return_, 1) := by decide +kernel
theorem dX3_set_44 : decode cX3_set 44 = .ok (.aload_n 0, 1) := by decide +kernel
theorem dX3_set_45 : decode cX3_set 45 = .ok (.iload 7, 2) := by decide +kernel
theorem dX3_set_47 : decode cX3_set 47 = .ok (.ifCond .eq 8, 3) := by decide +kernel
theorem dX3_set_50 : decode cX3_set 50 = .ok (.lload_n 1, 1) := by decide +kernel
theorem dX3_set_51 : decode cX3_set 51 = .ok (.lneg, 1) := by decide +kernel
theorem dX3_set_52 : decode cX3_set 52 = .ok (.goto 4, 3) := by decide +kernel
theorem dX3_set_55 : decode cX3_set 55 = .ok (.lload_n 1, 1) := by decide +kernel
theorem dX3_set_56 : decode cX3_set 56 = .ok (.lload 5, 2) := by decide +kernel
theorem dX3_set_58 : decode cX3_set 58 = .ok (.ldiv, 1) := by decide +kernel
theorem dX3_set_59 : decode cX3_set 59 = .ok (.putfield 17, 3) := by decide +kernel
theorem dX3_set_62 : decode cX3_set 62 = .ok (.aload_n 0, 1) := by decide +kernel
theorem dX3_set_63 : decode cX3_set 63 = .ok (.iload 7, 2) := by decide +kernel
theorem dX3_set_65 : decode cX3_set 65 = .ok (.ifCond .eq 8, 3) := by decide +kernel
theorem dX3_set_68 : decode cX3_set 68 = .ok (.lload_n 3, 1) := by decide +kernel
theorem dX3_set_69 : decode cX3_set 69 = .ok (.lneg, 1) := by decide +kernel
theorem dX3_set_70 : decode cX3_set 70 = .ok (.goto 4, 3) := by decide +kernel
theorem dX3_set_73 : decode cX3_set 73 = .ok (.lload_n 3, 1) := by decide +kernel
theorem dX3_set_74 : decode cX3_set 74 = .ok (.lload 5, 2) := by decide +kernel
theorem dX3_set_76 : decode cX3_set 76 = .ok (.ldiv, 1) := by decide +kernel
theorem dX3_set_77 : decode cX3_set 77 = .ok (.putfield 7, 3) := by decide +kernel
theorem dX3_set_80 : decode cX3_set 80 = .ok (.return_, 1) := by decide +kernel
theorem dX3_part_0 : decode cX3_part 0 = .ok (.iload_n 1, 1) := by decide +kernel
theorem dX3_part_1 : decode cX3_part 1 = .ok (.ifCond .ne 10, 3) := by decide +kernel
theorem dX3_part_4 : decode cX3_part 4 = .ok (.aload_n 0, 1) := by decide +kernel
theorem dX3_part_5 : decode cX3_part 5 = .ok (.getfield 17, 3) := by decide +kernel
theorem dX3_part_8 : decode cX3_part 8 = .ok (.goto 7, 3) := by decide +kernel
theorem dX3_part_11 : decode cX3_part 11 = .ok (.aload_n 0, 1) := by decide +kernel
theorem dX3_part_12 : decode cX3_part 12 = .ok (.getfield 7, 3) := by decide +kernel
theorem dX3_part_15 : decode cX3_part 15 = .ok (.lreturn, 1) := by decide +kernel
theorem dX3_against_0 : decode cX3_against 0 = .ok (.aload_n 0, 1) := by decide +kernel
theorem dX3_against_1 : decode cX3_against 1 = .ok (.getfield 17, 3) := by decide +kernel
theorem dX3_against_4 : decode cX3_against 4 = .ok (.aload_n 0, 1) := by decide +kernel
theorem dX3_against_5 : decode cX3_against 5 = .ok (.getfield 7, 3) := by decide +kernel
theorem dX3_against_8 : decode cX3_against 8 = .ok (.lload_n 1, 1) := by decide +kernel
theorem dX3_against_9 : decode cX3_against 9 = .ok (.lload_n 3, 1) := by decide +kernel
theorem dX3_against_10 : decode cX3_against 10 = .ok (.invokestatic 20, 3) := by decide +kernel
theorem dX3_against_13 : decode cX3_against 13 = .ok (.ireturn, 1) := by decide +kernel
theorem dX3_gcd_0 : decode cX3_gcd 0 = .ok (.lload_n 0, 1) := by decide +kernel
theorem dX3_gcd_1 : decode cX3_gcd 1 = .ok (.invokestatic 24, 3) := by decide +kernel
theorem dX3_gcd_4 : decode cX3_gcd 4 = .ok (.lstore 4, 2) := by decide +kernel
theorem dX3_gcd_6 : decode cX3_gcd 6 = .ok (.lload_n 2, 1) := by decide +kernel
theorem dX3_gcd_7 : decode cX3_gcd 7 = .ok (.invokestatic 24, 3) := by decide +kernel
theorem dX3_gcd_10 : decode cX3_gcd 10 = .ok (.lstore 6, 2) := by decide +kernel
theorem dX3_gcd_12 : decode cX3_gcd 12 = .ok (.iconst 0, 1) := by decide +kernel
theorem dX3_gcd_13 : decode cX3_gcd 13 = .ok (.istore 8, 2) := by decide +kernel
theorem dX3_gcd_15 : decode cX3_gcd 15 = .ok (.iload 8, 2) := by decide +kernel
theorem dX3_gcd_17 : decode cX3_gcd 17 = .ok (.sipush 200, 3) := by decide +kernel
theorem dX3_gcd_20 : decode cX3_gcd 20 = .ok (.if_icmp .ge 31, 3) := by decide +kernel
theorem dX3_gcd_23 : decode cX3_gcd 23 = .ok (.lload 6, 2) := by decide +kernel
theorem dX3_gcd_25 : decode cX3_gcd 25 = .ok (.lconst 0, 1) := by decide +kernel
theorem dX3_gcd_26 : decode cX3_gcd 26 = .ok (.lcmp, 1) := by decide +kernel
theorem dX3_gcd_27 : decode cX3_gcd 27 = .ok (.ifCond .eq 24, 3) := by decide +kernel
theorem dX3_gcd_30 : decode cX3_gcd 30 = .ok (.lload 4, 2) := by decide +kernel
theorem dX3_gcd_32 : decode cX3_gcd 32 = .ok (.lload 6, 2) := by decide +kernel
theorem dX3_gcd_34 : decode cX3_gcd 34 = .ok (.lrem, 1) := by decide +kernel
theorem dX3_gcd_35 : decode cX3_gcd 35 = .ok (.lstore 9, 2) := by decide +kernel
theorem dX3_gcd_37 : decode cX3_gcd 37 = .ok (.lload 6, 2) := by decide +kernel
theorem dX3_gcd_39 : decode cX3_gcd 39 = .ok (.lstore 4, 2) := by decide +kernel
theorem dX3_gcd_41 : decode cX3_gcd 41 = .ok (.lload 9, 2) := by decide +kernel
theorem dX3_gcd_43 : decode cX3_gcd 43 = .ok (.lstore 6, 2) := by decide +kernel
theorem dX3_gcd_45 : decode cX3_gcd 45 = .ok (.iinc 8 1, 3) := by decide +kernel
theorem dX3_gcd_48 : decode cX3_gcd 48 = .ok (.goto (-33), 3) := by decide +kernel
theorem dX3_gcd_51 : decode cX3_gcd 51 = .ok (.lload 4, 2) := by decide +kernel
theorem dX3_gcd_53 : decode cX3_gcd 53 = .ok (.lreturn, 1) := by decide +kernel
theorem dX3_compare_0 : decode cX3_compare 0 = .ok (.lload_n 0, 1) := by decide +kernel
theorem dX3_compare_1 : decode cX3_compare 1 = .ok (.lstore 8, 2) := by decide +kernel
theorem dX3_compare_3 : decode cX3_compare 3 = .ok (.lload_n 2, 1) := by decide +kernel
theorem dX3_compare_4 : decode cX3_compare 4 = .ok (.lstore 10, 2) := by decide +kernel
theorem dX3_compare_6 : decode cX3_compare 6 = .ok (.lload 4, 2) := by decide +kernel
theorem dX3_compare_8 : decode cX3_compare 8 = .ok (.lstore 12, 2) := by decide +kernel
theorem dX3_compare_10 : decode cX3_compare 10 = .ok (.lload 6, 2) := by decide +kernel
theorem dX3_compare_12 : decode cX3_compare 12 = .ok (.lstore 14, 2) := by decide +kernel
theorem dX3_compare_14 : decode cX3_compare 14 = .ok (.iconst 0, 1) := by decide +kernel
theorem dX3_compare_15 : decode cX3_compare 15 = .ok (.istore 16, 2) := by decide +kernel
theorem dX3_compare_17 : decode cX3_compare 17 = .ok (.iload 16, 2) := by decide +kernel
theorem dX3_compare_19 : decode cX3_compare 19 = .ok (.sipush 200, 3) := by decide +kernel
theorem dX3_compare_22 : decode cX3_compare 22 = .ok (.if_icmp .ge 121, 3) := by decide +kernel
theorem dX3_compare_25 : decode cX3_compare 25 = .ok (.lload 10, 2) := by decide +kernel
theorem dX3_compare_27 : decode cX3_compare 27 = .ok (.lconst 0, 1) := by decide +kernel
theorem dX3_compare_28 : decode cX3_compare 28 = .ok (.lcmp, 1) := by decide +kernel
theorem dX3_compare_29 : decode cX3_compare 29 = .ok (.ifCond .le 114, 3) := by decide +kernel
theorem dX3_compare_32 : decode cX3_compare 32 = .ok (.lload 14, 2) := by decide +kernel
theorem dX3_compare_34 : decode cX3_compare 34 = .ok (.lconst 0, 1) := by decide +kernel
theorem dX3_compare_35 : decode cX3_compare 35 = .ok (.lcmp, 1) := by decide +kernel
theorem dX3_compare_36 : decode cX3_compare 36 = .ok (.ifCond .le 107, 3) := by decide +kernel
theorem dX3_compare_39 : decode cX3_compare 39 = .ok (.lload 8, 2) := by decide +kernel
theorem dX3_compare_41 : decode cX3_compare 41 = .ok (.lload 10, 2) := by decide +kernel
theorem dX3_compare_43 : decode cX3_compare 43 = .ok (.invokestatic 30, 3) := by decide +kernel
theorem dX3_compare_46 : decode cX3_compare 46 = .ok (.lstore 17, 2) := by decide +kernel
theorem dX3_compare_48 : decode cX3_compare 48 = .ok (.lload 12, 2) := by decide +kernel
theorem dX3_compare_50 : decode cX3_compare 50 = .ok (.lload 14, 2) := by decide +kernel
theorem dX3_compare_52 : decode cX3_compare 52 = .ok (.invokestatic 30, 3) := by decide +kernel
theorem dX3_compare_55 : decode cX3_compare 55 = .ok (.lstore 19, 2) := by decide +kernel
theorem dX3_compare_57 : decode cX3_compare 57 = .ok (.lload 8, 2) := by decide +kernel
theorem dX3_compare_59 : decode cX3_compare 59 = .ok (.lload 17, 2) := by decide +kernel
theorem dX3_compare_61 : decode cX3_compare 61 = .ok (.lload 10, 2) := by decide +kernel
theorem dX3_compare_63 : decode cX3_compare 63 = .ok (.lmul, 1) := by decide +kernel
theorem dX3_compare_64 : decode cX3_compare 64 = .ok (.lsub, 1) := by decide +kernel
theorem dX3_compare_65 : decode cX3_compare 65 = .ok (.lstore 21, 2) := by decide +kernel
theorem dX3_compare_67 : decode cX3_compare 67 = .ok (.lload 12, 2) := by decide +kernel
theorem dX3_compare_69 : decode cX3_compare 69 = .ok (.lload 19, 2) := by decide +kernel
theorem dX3_compare_71 : decode cX3_compare 71 = .ok (.lload 14, 2) := by decide +kernel
theorem dX3_compare_73 : decode cX3_compare 73 = .ok (.lmul, 1) := by decide +kernel
theorem dX3_compare_74 : decode cX3_compare 74 = .ok (.lsub, 1) := by decide +kernel
theorem dX3_compare_75 : decode cX3_compare 75 = .ok (.lstore 23, 2) := by decide +kernel
theorem dX3_compare_77 : decode cX3_compare 77 = .ok (.lload 17, 2) := by decide +kernel
theorem dX3_compare_79 : decode cX3_compare 79 = .ok (.lload 19, 2) := by decide +kernel
theorem dX3_compare_81 : decode cX3_compare 81 = .ok (.lcmp, 1) := by decide +kernel
theorem dX3_compare_82 : decode cX3_compare 82 = .ok (.ifCond .eq 17, 3) := by decide +kernel
theorem dX3_compare_85 : decode cX3_compare 85 = .ok (.lload 17, 2) := by decide +kernel
theorem dX3_compare_87 : decode cX3_compare 87 = .ok (.lload 19, 2) := by decide +kernel
theorem dX3_compare_89 : decode cX3_compare 89 = .ok (.lcmp, 1) := by decide +kernel
theorem dX3_compare_90 : decode cX3_compare 90 = .ok (.ifCond .ge 7, 3) := by decide +kernel
theorem dX3_compare_93 : decode cX3_compare 93 = .ok (.iconst (-1), 1) := by decide +kernel
theorem dX3_compare_94 : decode cX3_compare 94 = .ok (.goto 4, 3) := by decide +kernel
theorem dX3_compare_97 : decode cX3_compare 97 = .ok (.iconst 1, 1) := by decide +kernel
theorem dX3_compare_98 : decode cX3_compare 98 = .ok (.ireturn, 1) := by decide +kernel
theorem dX3_compare_99 : decode cX3_compare 99 = .ok (.lload 21, 2) := by decide +kernel
theorem dX3_compare_101 : decode cX3_compare 101 = .ok (.lconst 0, 1) := by decide +kernel
theorem dX3_compare_102 : decode cX3_compare 102 = .ok (.lcmp, 1) := by decide +kernel
theorem dX3_compare_103 : decode cX3_compare 103 = .ok (.ifCond .eq 10, 3) := by decide +kernel
theorem dX3_compare_106 : decode cX3_compare 106 = .ok (.lload 23, 2) := by decide +kernel
theorem dX3_compare_108 : decode cX3_compare 108 = .ok (.lconst 0, 1) := by decide +kernel
theorem dX3_compare_109 : decode cX3_compare 109 = .ok (.lcmp, 1) := by decide +kernel
theorem dX3_compare_110 : decode cX3_compare 110 = .ok (.ifCond .ne 11, 3) := by decide +kernel
theorem dX3_compare_113 : decode cX3_compare 113 = .ok (.lload 21, 2) := by decide +kernel
theorem dX3_compare_115 : decode cX3_compare 115 = .ok (.lload 23, 2) := by decide +kernel
theorem dX3_compare_117 : decode cX3_compare 117 = .ok (.invokestatic 33, 3) := by decide +kernel
theorem dX3_compare_120 : decode cX3_compare 120 = .ok (.ireturn, 1) := by decide +kernel
theorem dX3_compare_121 : decode cX3_compare 121 = .ok (.lload 14, 2) := by decide +kernel
theorem dX3_compare_123 : decode cX3_compare 123 = .ok (.lstore 8, 2) := by decide +kernel
theorem dX3_compare_125 : decode cX3_compare 125 = .ok (.lload 10, 2) := by decide +kernel
theorem dX3_compare_127 : decode cX3_compare 127 = .ok (.lstore 12, 2) := by decide +kernel
theorem dX3_compare_129 : decode cX3_compare 129 = .ok (.lload 23, 2) := by decide +kernel
theorem dX3_compare_131 : decode cX3_compare 131 = .ok (.lstore 10, 2) := by decide +kernel
theorem dX3_compare_133 : decode cX3_compare 133 = .ok (.lload 21, 2) := by decide +kernel
theorem dX3_compare_135 : decode cX3_compare 135 = .ok (.lstore 14, 2) := by decide +kernel
theorem dX3_compare_137 : decode cX3_compare 137 = .ok (.iinc 16 1, 3) := by decide +kernel
theorem dX3_compare_140 : decode cX3_compare 140 = .ok (.goto (-123), 3) := by decide +kernel
theorem dX3_compare_143 : decode cX3_compare 143 = .ok (.iconst 0, 1) := by decide +kernel
theorem dX3_compare_144 : decode cX3_compare 144 = .ok (.ireturn, 1) := by decide +kernel
theorem dX4_init_0 : decode cX4_init 0 = .ok (.aload_n 0, 1) := by decide +kernel
theorem dX4_init_1 : decode cX4_init 1 = .ok (.invokespecial 5, 3) := by decide +kernel
theorem dX4_init_4 : decode cX4_init 4 = .ok (.aload_n 0, 1) := by decide +kernel
theorem dX4_init_5 : decode cX4_init 5 = .ok (.sipush 129, 3) := by decide +kernel
theorem dX4_init_8 : decode cX4_init 8 = .ok (.newarray .int, 2) := by decide +kernel
theorem dX4_init_10 : decode cX4_init 10 = .ok (.putfield 11, 3) := by decide +kernel
theorem dX4_init_13 : decode cX4_init 13 = .ok (.aload_n 0, 1) := by decide +kernel
theorem dX4_init_14 : decode cX4_init 14 = .ok (.sipush 129, 3) := by decide +kernel
theorem dX4_init_17 : decode cX4_init 17 = .ok (.newarray .int, 2) := by decide +kernel
theorem dX4_init_19 : decode cX4_init 19 = .ok (.putfield 15, 3) := by decide +kernel
theorem dX4_init_22 : decode cX4_init 22 = .ok (.aload_n 0, 1) := by decide +kernel
theorem dX4_init_23 : decode cX4_init 23 = .ok (.bipush 20, 2) := by decide +kernel
theorem dX4_init_25 : decode cX4_init 25 = .ok (.sipush 129, 3) := by decide +kernel
theorem dX4_init_28 : decode cX4_init 28 = .ok (.multianewarray 18 2, 4) := by decide +kernel
theorem dX4_init_32 : decode cX4_init 32 = .ok (.putfield 20, 3) := by decide +kernel
theorem dX4_init_35 : decode cX4_init 35 = .ok (.aload_n 0, 1) := by decide +kernel
theorem dX4_init_36 : decode cX4_init 36 = .ok (.bipush 19, 2) := by decide +kernel
theorem dX4_init_38 : decode cX4_init 38 = .ok (.putfield 23, 3) := by decide +kernel
theorem dX4_init_41 : decode cX4_init 41 = .ok (.iconst 0, 1) := by decide +kernel
theorem dX4_init_42 : decode cX4_init 42 = .ok (.istore_n 1, 1) := by decide +kernel
theorem dX4_init_43 : decode cX4_init 43 = .ok (.iload_n 1, 1) := by decide +kernel
theorem dX4_init_44 : decode cX4_init 44 = .ok (.bipush 40, 2) := by decide +kernel
theorem dX4_init_46 : decode cX4_init 46 = .ok (.if_icmp .ge 19, 3) := by decide +kernel
theorem dX4_init_49 : decode cX4_init 49 = .ok (.aload_n 0, 1) := by decide +kernel
theorem dX4_init_50 : decode cX4_init 50 = .ok (.getfield 11, 3) := by decide +kernel
theorem dX4_init_53 : decode cX4_init 53 = .ok (.bipush 80, 2) := by decide +kernel
theorem dX4_init_55 : decode cX4_init 55 = .ok (.iload_n 1, 1) := by decide +kernel
theorem dX4_init_56 : decode cX4_init 56 = .ok (.iadd, 1) := by decide +kernel
theorem dX4_init_57 : decode cX4_init 57 = .ok (.iconst (-1), 1) := by decide +kernel
theorem dX4_init_58 : decode cX4_init 58 = .ok (.iastore, 1) := by decide +kernel
theorem dX4_init_59 : decode cX4_init 59 = .ok (.iinc 1 1, 3) := by decide +kernel
theorem dX4_init_62 : decode cX4_init 62 = .ok (.goto (-19), 3) := by decide +kernel
theorem dX4_init_65 : decode cX4_init 65 = .ok (.return_, 1) := by decide +kernel
theorem dX4_has_0 : decode cX4_has 0 = .ok (.iload_n 1, 1) := by decide +kernel
theorem dX4_has_1 : decode cX4_has 1 = .ok (.ifCond .lt 26, 3) := by decide +kernel
theorem dX4_has_4 : decode cX4_has 4 = .ok (.iload_n 1, 1) := by decide +kernel
theorem dX4_has_5 : decode cX4_has 5 = .ok (.bipush 40, 2) := by decide +kernel
theorem dX4_has_7 : decode cX4_has 7 = .ok (.if_icmp .ge 20, 3) := by decide +kernel
theorem dX4_has_10 : decode cX4_has 10 = .ok (.aload_n 0, 1) := by decide +kernel
theorem dX4_has_11 : decode cX4_has 11 = .ok (.getfield 11, 3) := by decide +kernel
theorem dX4_has_14 : decode cX4_has 14 = .ok (.bipush 80, 2) := by decide +kernel
theorem dX4_has_16 : decode cX4_has 16 = .ok (.iload_n 1, 1) := by decide +kernel
theorem dX4_has_17 : decode cX4_has 17 = .ok (.iadd, 1) := by decide +kernel
theorem dX4_has_18 : decode cX4_has 18 = .ok (.iaload, 1) := by decide +kernel
theorem dX4_has_19 : decode cX4_has 19 = .ok (.iconst (-1), 1) := by decide +kernel
theorem dX4_has_20 : decode cX4_has 20 = .ok (.if_icmp .eq 7, 3) := by decide +kernel
theorem dX4_has_23 : decode cX4_has 23 = .ok (.iconst 1, 1) := by decide +kernel
theorem dX4_has_24 : decode cX4_has 24 = .ok (.goto 4, 3) := by decide +kernel
theorem dX4_has_27 : decode cX4_has 27 = .ok (.iconst 0, 1) := by decide +kernel
theorem dX4_has_28 : decode cX4_has 28 = .ok (.ireturn, 1) := by decide +kernel
theorem dX4_free_0 : decode cX4_free 0 = .ok (.iconst 0, 1) := by decide +kernel
theorem dX4_free_1 : decode cX4_free 1 = .ok (.istore_n 1, 1) := by decide +kernel
theorem dX4_free_2 : decode cX4_free 2 = .ok (.iload_n 1, 1) := by decide +kernel
theorem dX4_free_3 : decode cX4_free 3 = .ok (.bipush 40, 2) := by decide +kernel
theorem dX4_free_5 : decode cX4_free 5 = .ok (.if_icmp .ge 24, 3) := by decide +kernel
theorem dX4_free_8 : decode cX4_free 8 = .ok (.aload_n 0, 1) := by decide +kernel
theorem dX4_free_9 : decode cX4_free 9 = .ok (.getfield 11, 3) := by decide +kernel
theorem dX4_free_12 : decode cX4_free 12 = .ok (.bipush 80, 2) := by decide +kernel
theorem dX4_free_14 : decode cX4_free 14 = .ok (.iload_n 1, 1) := by decide +kernel
theorem dX4_free_15 : decode cX4_free 15 = .ok (.iadd, 1) := by decide +kernel
theorem dX4_free_16 : decode cX4_free 16 = .ok (.iaload, 1) := by decide +kernel
theorem dX4_free_17 : decode cX4_free 17 = .ok (.iconst (-1), 1) := by decide +kernel
theorem dX4_free_18 : decode cX4_free 18 = .ok (.if_icmp .ne 5, 3) := by decide +kernel
theorem dX4_free_21 : decode cX4_free 21 = .ok (.iload_n 1, 1) := by decide +kernel
theorem dX4_free_22 : decode cX4_free 22 = .ok (.ireturn, 1) := by decide +kernel
theorem dX4_free_23 : decode cX4_free 23 = .ok (.iinc 1 1, 3) := by decide +kernel
theorem dX4_free_26 : decode cX4_free 26 = .ok (.goto (-24), 3) := by decide +kernel
theorem dX4_free_29 : decode cX4_free 29 = .ok (.iconst (-1), 1) := by decide +kernel
theorem dX4_free_30 : decode cX4_free 30 = .ok (.ireturn, 1) := by decide +kernel
theorem dX4_place_0 : decode cX4_place 0 = .ok (.iload_n 1, 1) := by decide +kernel
theorem dX4_place_1 : decode cX4_place 1 = .ok (.ifCond .lt 17, 3) := by decide +kernel
theorem dX4_place_4 : decode cX4_place 4 = .ok (.iload_n 1, 1) := by decide +kernel
theorem dX4_place_5 : decode cX4_place 5 = .ok (.bipush 40, 2) := by decide +kernel
theorem dX4_place_7 : decode cX4_place 7 = .ok (.if_icmp .ge 11, 3) := by decide +kernel
theorem dX4_place_10 : decode cX4_place 10 = .ok (.iload 4, 2) := by decide +kernel
theorem dX4_place_12 : decode cX4_place 12 = .ok (.invokestatic 27, 3) := by decide +kernel
theorem dX4_place_15 : decode cX4_place 15 = .ok (.ifCond .ne 4, 3) := by decide +kernel
theorem dX4_place_18 : decode cX4_place 18 = .ok (.return_, 1) := by decide +kernel
theorem dX4_place_19 : decode cX4_place 19 = .ok (.aload_n 0, 1) := by decide +kernel
theorem dX4_place_20 : decode cX4_place 20 = .ok (.getfield 11, 3) := by decide +kernel
theorem dX4_place_23 : decode cX4_place 23 = .ok (.iconst 0, 1) := by decide +kernel
theorem dX4_place_24 : decode cX4_place 24 = .ok (.iload_n 1, 1) := by decide +kernel
theorem dX4_place_25 : decode cX4_place 25 = .ok (.iadd, 1) := by decide +kernel
theorem dX4_place_26 : decode cX4_place 26 = .ok (.iload_n 2, 1) := by decide +kernel
theorem dX4_place_27 : decode cX4_place 27 = .ok (.iastore, 1) := by decide +kernel
theorem dX4_place_28 : decode cX4_place 28 = .ok (.aload_n 0, 1) := by decide +kernel
theorem dX4_place_29 : decode cX4_place 29 = .ok (.getfield 11, 3) := by decide +kernel
theorem dX4_place_32 : decode cX4_place 32 = .ok (.bipush 40, 2) := by decide +kernel
theorem dX4_place_34 : decode cX4_place 34 = .ok (.iload_n 1, 1) := by decide +kernel
theorem dX4_place_35 : decode cX4_place 35 = .ok (.iadd, 1) := by decide +kernel
theorem dX4_place_36 : decode cX4_place 36 = .ok (.iload_n 3, 1) := by decide +kernel
theorem dX4_place_37 : decode cX4_place 37 = .ok (.iastore, 1) := by decide +kernel
theorem dX4_place_38 : decode cX4_place 38 = .ok (.aload_n 0, 1) := by decide +kernel
theorem dX4_place_39 : decode cX4_place 39 = .ok (.getfield 11, 3) := by decide +kernel
theorem dX4_place_42 : decode cX4_place 42 = .ok (.bipush 80, 2) := by decide +kernel
theorem dX4_place_44 : decode cX4_place 44 = .ok (.iload_n 1, 1) := by decide +kernel
theorem dX4_place_45 : decode cX4_place 45 = .ok (.iadd, 1) := by decide +kernel
theorem dX4_place_46 : decode cX4_place 46 = .ok (.iload 4, 2) := by decide +kernel
theorem dX4_place_48 : decode cX4_place 48 = .ok (.iastore, 1) := by decide +kernel
theorem dX4_place_49 : decode cX4_place 49 = .ok (.return_, 1) := by decide +kernel
theorem dX4_remove_0 : decode cX4_remove 0 = .ok (.aload_n 0, 1) := by decide +kernel
theorem dX4_remove_1 : decode cX4_remove 1 = .ok (.iload_n 1, 1) := by decide +kernel
theorem dX4_remove_2 : decode cX4_remove 2 = .ok (.invokevirtual 31, 3) := by decide +kernel
theorem dX4_remove_5 : decode cX4_remove 5 = .ok (.ifCond .eq 13, 3) := by decide +kernel
theorem dX4_remove_8 : decode cX4_remove 8 = .ok (.aload_n 0, 1) := by decide +kernel
theorem dX4_remove_9 : decode cX4_remove 9 = .ok (.getfield 11, 3) := by decide +kernel
theorem dX4_remove_12 : decode cX4_remove 12 = .ok (.bipush 80, 2) := by decide +kernel
theorem dX4_remove_14 : decode cX4_remove 14 = .ok (.iload_n 1, 1) := by decide +kernel
theorem dX4_remove_15 : decode cX4_remove 15 = .ok (.iadd, 1) := by decide +kernel
theorem dX4_remove_16 : decode cX4_remove 16 = .ok (.iconst (-1), 1) := by decide +kernel
theorem dX4_remove_17 : decode cX4_remove 17 = .ok (.iastore, 1) := by decide +kernel
theorem dX4_remove_18 : decode cX4_remove 18 = .ok (.return_, 1) := by decide +kernel
theorem dX4_setPace_0 : decode cX4_setPace 0 = .ok (.iload_n 1, 1) := by decide +kernel
theorem dX4_setPace_1 : decode cX4_setPace 1 = .ok (.invokestatic 27, 3) := by decide +kernel
theorem dX4_setPace_4 : decode cX4_setPace 4 = .ok (.ifCond .ne 4, 3) := by decide +kernel
theorem dX4_setPace_7 : decode cX4_setPace 7 = .ok (.return_, 1) := by decide +kernel
theorem dX4_setPace_8 : decode cX4_setPace 8 = .ok (.aload_n 0, 1) := by decide +kernel
theorem dX4_setPace_9 : decode cX4_setPace 9 = .ok (.getfield 11, 3) := by decide +kernel
theorem dX4_setPace_12 : decode cX4_setPace 12 = .ok (.bipush 120, 2) := by decide +kernel
theorem dX4_setPace_14 : decode cX4_setPace 14 = .ok (.iload_n 1, 1) := by decide +kernel
theorem dX4_setPace_15 : decode cX4_setPace 15 = .ok (.iadd, 1) := by decide +kernel
theorem dX4_setPace_16 : decode cX4_setPace 16 = .ok (.iload_n 2, 1) := by decide +kernel
theorem dX4_setPace_17 : decode cX4_setPace 17 = .ok (.iastore, 1) := by decide +kernel
theorem dX4_setPace_18 : decode cX4_setPace 18 = .ok (.aload_n 0, 1) := by decide +kernel
theorem dX4_setPace_19 : decode cX4_setPace 19 = .ok (.getfield 11, 3) := by decide +kernel
theorem dX4_setPace_22 : decode cX4_setPace 22 = .ok (.bipush 124, 2) := by decide +kernel
theorem dX4_setPace_24 : decode cX4_setPace 24 = .ok (.iload_n 1, 1) := by decide +kernel
theorem dX4_setPace_25 : decode cX4_setPace 25 = .ok (.iadd, 1) := by decide +kernel
theorem dX4_setPace_26 : decode cX4_setPace 26 = .ok (.iload_n 3, 1) := by decide +kernel
theorem dX4_setPace_27 : decode cX4_setPace 27 = .ok (.iastore, 1) := by decide +kernel
theorem dX4_setPace_28 : decode cX4_setPace 28 = .ok (.return_, 1) := by decide +kernel
theorem dX4_now_0 : decode cX4_now 0 = .ok (.aload_n 0, 1) := by decide +kernel
theorem dX4_now_1 : decode cX4_now 1 = .ok (.getfield 11, 3) := by decide +kernel
theorem dX4_now_4 : decode cX4_now 4 = .ok (.sipush 128, 3) := by decide +kernel
theorem dX4_now_7 : decode cX4_now 7 = .ok (.iaload, 1) := by decide +kernel
theorem dX4_now_8 : decode cX4_now 8 = .ok (.ireturn, 1) := by decide +kernel
theorem dX4_setNow_0 : decode cX4_setNow 0 = .ok (.aload_n 0, 1) := by decide +kernel
theorem dX4_setNow_1 : decode cX4_setNow 1 = .ok (.getfield 11, 3) := by decide +kernel
theorem dX4_setNow_4 : decode cX4_setNow 4 = .ok (.sipush 128, 3) := by decide +kernel
theorem dX4_setNow_7 : decode cX4_setNow 7 = .ok (.iload_n 1, 1) := by decide +kernel
theorem dX4_setNow_8 : decode cX4_setNow 8 = .ok (.iastore, 1) := by decide +kernel
theorem dX4_setNow_9 : decode cX4_setNow 9 = .ok (.return_, 1) := by decide +kernel
theorem dX4_x_0 : decode cX4_x 0 = .ok (.aload_n 0, 1) := by decide +kernel
theorem dX4_x_1 : decode cX4_x 1 = .ok (.iload_n 1, 1) := by decide +kernel
theorem dX4_x_2 : decode cX4_x 2 = .ok (.invokevirtual 31, 3) := by decide +kernel
theorem dX4_x_5 : decode cX4_x 5 = .ok (.ifCond .eq 14, 3) := by decide +kernel
theorem dX4_x_8 : decode cX4_x 8 = .ok (.aload_n 0, 1) := by decide +kernel
theorem dX4_x_9 : decode cX4_x 9 = .ok (.getfield 11, 3) := by decide +kernel
theorem dX4_x_12 : decode cX4_x 12 = .ok (.iconst 0, 1) := by decide +kernel
theorem dX4_x_13 : decode cX4_x 13 = .ok (.iload_n 1, 1) := by decide +kernel
theorem dX4_x_14 : decode cX4_x 14 = .ok (.iadd, 1) := by decide +kernel
theorem dX4_x_15 : decode cX4_x 15 = .ok (.iaload, 1) := by decide +kernel
theorem dX4_x_16 : decode cX4_x 16 = .ok (.goto 4, 3) := by decide +kernel
theorem dX4_x_19 : decode cX4_x 19 = .ok (.iconst 0, 1) := by decide +kernel
theorem dX4_x_20 : decode cX4_x 20 = .ok (.ireturn, 1) := by decide +kernel
theorem dX4_y_0 : decode cX4_y 0 = .ok (.aload_n 0, 1) := by decide +kernel
theorem dX4_y_1 : decode cX4_y 1 = .ok (.iload_n 1, 1) := by decide +kernel
theorem dX4_y_2 : decode cX4_y 2 = .ok (.invokevirtual 31, 3) := by decide +kernel
theorem dX4_y_5 : decode cX4_y 5 = .ok (.ifCond .eq 15, 3) := by decide +kernel
theorem dX4_y_8 : decode cX4_y 8 = .ok (.aload_n 0, 1) := by decide +kernel
theorem dX4_y_9 : decode cX4_y 9 = .ok (.getfield 11, 3) := by decide +kernel
theorem dX4_y_12 : decode cX4_y 12 = .ok (.bipush 40, 2) := by decide +kernel
theorem dX4_y_14 : decode cX4_y 14 = .ok (.iload_n 1, 1) := by decide +kernel
theorem dX4_y_15 : decode cX4_y 15 = .ok (.iadd, 1) := by decide +kernel
theorem dX4_y_16 : decode cX4_y 16 = .ok (.iaload, 1) := by decide +kernel
theorem dX4_y_17 : decode cX4_y 17 = .ok (.goto 4, 3) := by decide +kernel
theorem dX4_y_20 : decode cX4_y 20 = .ok (.iconst 0, 1) := by decide +kernel
theorem dX4_y_21 : decode cX4_y 21 = .ok (.ireturn, 1) := by decide +kernel
theorem dX4_heapOf_0 : decode cX4_heapOf 0 = .ok (.aload_n 0, 1) := by decide +kernel
theorem dX4_heapOf_1 : decode cX4_heapOf 1 = .ok (.iload_n 1, 1) := by decide +kernel
theorem dX4_heapOf_2 : decode cX4_heapOf 2 = .ok (.invokevirtual 31, 3) := by decide +kernel
theorem dX4_heapOf_5 : decode cX4_heapOf 5 = .ok (.ifCond .eq 15, 3) := by decide +kernel
theorem dX4_heapOf_8 : decode cX4_heapOf 8 = .ok (.aload_n 0, 1) := by decide +kernel
theorem dX4_heapOf_9 : decode cX4_heapOf 9 = .ok (.getfield 11, 3) := by decide +kernel
theorem dX4_heapOf_12 : decode cX4_heapOf 12 = .ok (.bipush 80, 2) := by decide +kernel
theorem dX4_heapOf_14 : decode cX4_heapOf 14 = .ok (.iload_n 1, 1) := by decide +kernel
theorem dX4_heapOf_15 : decode cX4_heapOf 15 = .ok (.iadd, 1) := by decide +kernel
theorem dX4_heapOf_16 : decode cX4_heapOf 16 = .ok (.iaload, 1) := by decide +kernel
theorem dX4_heapOf_17 : decode cX4_heapOf 17 = .ok (.goto 4, 3) := by decide +kernel
theorem dX4_heapOf_20 : decode cX4_heapOf 20 = .ok (.iconst (-1), 1) := by decide +kernel
theorem dX4_heapOf_21 : decode cX4_heapOf 21 = .ok (.ireturn, 1) := by decide +kernel
theorem dX4_standX_0 : decode cX4_standX 0 = .ok (.aload_n 0, 1) := by decide +kernel
theorem dX4_standX_1 : decode cX4_standX 1 = .ok (.iload_n 1, 1) := by decide +kernel
theorem dX4_standX_2 : decode cX4_standX 2 = .ok (.invokevirtual 31, 3) := by decide +kernel
theorem dX4_standX_5 : decode cX4_standX 5 = .ok (.ifCond .eq 34, 3) := by decide +kernel
theorem dX4_standX_8 : decode cX4_standX 8 = .ok (.aload_n 0, 1) := by decide +kernel
theorem dX4_standX_9 : decode cX4_standX 9 = .ok (.getfield 11, 3) := by decide +kernel
theorem dX4_standX_12 : decode cX4_standX 12 = .ok (.iconst 0, 1) := by decide +kernel
theorem dX4_standX_13 : decode cX4_standX 13 = .ok (.iload_n 1, 1) := by decide +kernel
theorem dX4_standX_14 : decode cX4_standX 14 = .ok (.iadd, 1) := by decide +kernel
theorem dX4_standX_15 : decode cX4_standX 15 = .ok (.iaload, 1) := by decide +kernel
theorem dX4_standX_16 : decode cX4_standX 16 = .ok (.aload_n 0, 1) := by decide +kernel
theorem dX4_standX_17 : decode cX4_standX 17 = .ok (.getfield 11, 3) := by decide +kernel
theorem dX4_standX_20 : decode cX4_standX 20 = .ok (.bipush 120, 2) := by decide +kernel
theorem dX4_standX_22 : decode cX4_standX 22 = .ok (.aload_n 0, 1) := by decide +kernel
theorem dX4_standX_23 : decode cX4_standX 23 = .ok (.getfield 11, 3) := by decide +kernel
theorem dX4_standX_26 : decode cX4_standX 26 = .ok (.bipush 80, 2) := by decide +kernel
theorem dX4_standX_28 : decode cX4_standX 28 = .ok (.iload_n 1, 1) := by decide +kernel
theorem dX4_standX_29 : decode cX4_standX 29 = .ok (.iadd, 1) := by decide +kernel
theorem dX4_standX_30 : decode cX4_standX 30 = .ok (.iaload, 1) := by decide +kernel
theorem dX4_standX_31 : decode cX4_standX 31 = .ok (.iadd, 1) := by decide +kernel
theorem dX4_standX_32 : decode cX4_standX 32 = .ok (.iaload, 1) := by decide +kernel
theorem dX4_standX_33 : decode cX4_standX 33 = .ok (.iload_n 2, 1) := by decide +kernel
theorem dX4_standX_34 : decode cX4_standX 34 = .ok (.imul, 1) := by decide +kernel
theorem dX4_standX_35 : decode cX4_standX 35 = .ok (.iadd, 1) := by decide +kernel
theorem dX4_standX_36 : decode cX4_standX 36 = .ok (.goto 4, 3) := by decide +kernel
theorem dX4_standX_39 : decode cX4_standX 39 = .ok (.iconst 0, 1) := by decide +kernel
theorem dX4_standX_40 : decode cX4_standX 40 = .ok (.ireturn, 1) := by decide +kernel
theorem dX4_standY_0 : decode cX4_standY 0 = .ok (.aload_n 0, 1) := by decide +kernel
theorem dX4_standY_1 : decode cX4_standY 1 = .ok (.iload_n 1, 1) := by decide +kernel
theorem dX4_standY_2 : decode cX4_standY 2 = .ok (.invokevirtual 31, 3) := by decide +kernel
theorem dX4_standY_5 : decode cX4_standY 5 = .ok (.ifCond .eq 35, 3) := by decide +kernel
theorem dX4_standY_8 : decode cX4_standY 8 = .ok (.aload_n 0, 1) := by decide +kernel
theorem dX4_standY_9 : decode cX4_standY 9 = .ok (.getfield 11, 3) := by decide +kernel
theorem dX4_standY_12 : decode cX4_standY 12 = .ok (.bipush 40, 2) := by decide +kernel
theorem dX4_standY_14 : decode cX4_standY 14 = .ok (.iload_n 1, 1) := by decide +kernel
theorem dX4_standY_15 : decode cX4_standY 15 = .ok (.iadd, 1) := by decide +kernel
theorem dX4_standY_16 : decode cX4_standY 16 = .ok (.iaload, 1) := by decide +kernel
theorem dX4_standY_17 : decode cX4_standY 17 = .ok (.aload_n 0, 1) := by decide +kernel
theorem dX4_standY_18 : decode cX4_standY 18 = .ok (.getfield 11, 3) := by decide +kernel
theorem dX4_standY_21 : decode cX4_standY 21 = .ok (.bipush 124, 2) := by decide +kernel
theorem dX4_standY_23 : decode cX4_standY 23 = .ok (.aload_n 0, 1) := by decide +kernel
theorem dX4_standY_24 : decode cX4_standY 24 = .ok (.getfield 11, 3) := by decide +kernel
theorem dX4_standY_27 : decode cX4_standY 27 = .ok (.bipush 80, 2) := by decide +kernel
theorem dX4_standY_29 : decode cX4_standY 29 = .ok (.iload_n 1, 1) := by decide +kernel
theorem dX4_standY_30 : decode cX4_standY 30 = .ok (.iadd, 1) := by decide +kernel
theorem dX4_standY_31 : decode cX4_standY 31 = .ok (.iaload, 1) := by decide +kernel
theorem dX4_standY_32 : decode cX4_standY 32 = .ok (.iadd, 1) := by decide +kernel
theorem dX4_standY_33 : decode cX4_standY 33 = .ok (.iaload, 1) := by decide +kernel
theorem dX4_standY_34 : decode cX4_standY 34 = .ok (.iload_n 2, 1) := by decide +kernel
theorem dX4_standY_35 : decode cX4_standY 35 = .ok (.imul, 1) := by decide +kernel
theorem dX4_standY_36 : decode cX4_standY 36 = .ok (.iadd, 1) := by decide +kernel
theorem dX4_standY_37 : decode cX4_standY 37 = .ok (.goto 4, 3) := by decide +kernel
theorem dX4_standY_40 : decode cX4_standY 40 = .ok (.iconst 0, 1) := by decide +kernel
theorem dX4_standY_41 : decode cX4_standY 41 = .ok (.ireturn, 1) := by decide +kernel
theorem dX4_bits_0 : decode cX4_bits 0 = .ok (.lconst 0, 1) := by decide +kernel
theorem dX4_bits_1 : decode cX4_bits 1 = .ok (.lstore_n 2, 1) := by decide +kernel
theorem dX4_bits_2 : decode cX4_bits 2 = .ok (.iconst 0, 1) := by decide +kernel
theorem dX4_bits_3 : decode cX4_bits 3 = .ok (.istore 4, 2) := by decide +kernel
theorem dX4_bits_5 : decode cX4_bits 5 = .ok (.iload 4, 2) := by decide +kernel
theorem dX4_bits_7 : decode cX4_bits 7 = .ok (.bipush 40, 2) := by decide +kernel
theorem dX4_bits_9 : decode cX4_bits 9 = .ok (.if_icmp .ge 45, 3) := by decide +kernel
theorem dX4_bits_12 : decode cX4_bits 12 = .ok (.aload_n 0, 1) := by decide +kernel
theorem dX4_bits_13 : decode cX4_bits 13 = .ok (.getfield 11, 3) := by decide +kernel
theorem dX4_bits_16 : decode cX4_bits 16 = .ok (.bipush 80, 2) := by decide +kernel
theorem dX4_bits_18 : decode cX4_bits 18 = .ok (.iload 4, 2) := by decide +kernel
theorem dX4_bits_20 : decode cX4_bits 20 = .ok (.iadd, 1) := by decide +kernel
theorem dX4_bits_21 : decode cX4_bits 21 = .ok (.iaload, 1) := by decide +kernel
theorem dX4_bits_22 : decode cX4_bits 22 = .ok (.istore 5, 2) := by decide +kernel
theorem dX4_bits_24 : decode cX4_bits 24 = .ok (.iload 5, 2) := by decide +kernel
theorem dX4_bits_26 : decode cX4_bits 26 = .ok (.invokestatic 27, 3) := by decide +kernel
theorem dX4_bits_29 : decode cX4_bits 29 = .ok (.ifCond .eq 19, 3) := by decide +kernel
theorem dX4_bits_32 : decode cX4_bits 32 = .ok (.iload_n 1, 1) := by decide +kernel
theorem dX4_bits_33 : decode cX4_bits 33 = .ok (.iload 5, 2) := by decide +kernel
theorem dX4_bits_35 : decode cX4_bits 35 = .ok (.ishr, 1) := by decide +kernel
theorem dX4_bits_36 : decode cX4_bits 36 = .ok (.iconst 1, 1) := by decide +kernel
theorem dX4_bits_37 : decode cX4_bits 37 = .ok (.iand, 1) := by decide +kernel
theorem dX4_bits_38 : decode cX4_bits 38 = .ok (.ifCond .eq 10, 3) := by decide +kernel
theorem dX4_bits_41 : decode cX4_bits 41 = .ok (.lload_n 2, 1) := by decide +kernel
theorem dX4_bits_42 : decode cX4_bits 42 = .ok (.lconst 1, 1) := by decide +kernel
theorem dX4_bits_43 : decode cX4_bits 43 = .ok (.iload 4, 2) := by decide +kernel
theorem dX4_bits_45 : decode cX4_bits 45 = .ok (.lshl, 1) := by decide +kernel
theorem dX4_bits_46 : decode cX4_bits 46 = .ok (.lor, 1) := by decide +kernel
theorem dX4_bits_47 : decode cX4_bits 47 = .ok (.lstore_n 2, 1) := by decide +kernel
theorem dX4_bits_48 : decode cX4_bits 48 = .ok (.iinc 4 1, 3) := by decide +kernel
theorem dX4_bits_51 : decode cX4_bits 51 = .ok (.goto (-46), 3) := by decide +kernel
theorem dX4_bits_54 : decode cX4_bits 54 = .ok (.lload_n 2, 1) := by decide +kernel
theorem dX4_bits_55 : decode cX4_bits 55 = .ok (.lreturn, 1) := by decide +kernel
theorem dX4_mark_0 : decode cX4_mark 0 = .ok (.aload_n 0, 1) := by decide +kernel
theorem dX4_mark_1 : decode cX4_mark 1 = .ok (.getfield 11, 3) := by decide +kernel
theorem dX4_mark_4 : decode cX4_mark 4 = .ok (.iconst 0, 1) := by decide +kernel
theorem dX4_mark_5 : decode cX4_mark 5 = .ok (.aload_n 0, 1) := by decide +kernel
theorem dX4_mark_6 : decode cX4_mark 6 = .ok (.getfield 15, 3) := by decide +kernel
theorem dX4_mark_9 : decode cX4_mark 9 = .ok (.iconst 0, 1) := by decide +kernel
theorem dX4_mark_10 : decode cX4_mark 10 = .ok (.sipush 129, 3) := by decide +kernel
theorem dX4_mark_13 : decode cX4_mark 13 = .ok (.invokestatic 34, 3) := by decide +kernel
theorem dX4_mark_16 : decode cX4_mark 16 = .ok (.return_, 1) := by decide +kernel
theorem dX4_returnToMark_0 : decode cX4_returnToMark 0 = .ok (.aload_n 0, 1) := by decide +kernel
theorem dX4_returnToMark_1 : decode cX4_returnToMark 1 = .ok (.getfield 15, 3) := by decide +kernel
theorem dX4_returnToMark_4 : decode cX4_returnToMark 4 = .ok (.iconst 0, 1) := by decide +kernel
theorem dX4_returnToMark_5 : decode cX4_returnToMark 5 = .ok (.aload_n 0, 1) := by decide +kernel
theorem dX4_returnToMark_6 : decode cX4_returnToMark 6 = .ok (.getfield 11, 3) := by decide +kernel
theorem dX4_returnToMark_9 : decode cX4_returnToMark 9 = .ok (.iconst 0, 1) := by decide +kernel
theorem dX4_returnToMark_10 : decode cX4_returnToMark 10 = .ok (.sipush 129, 3) := by decide +kernel
theorem dX4_returnToMark_13 : decode cX4_returnToMark 13 = .ok (.invokestatic 34, 3) := by decide +kernel
theorem dX4_returnToMark_16 : decode cX4_returnToMark 16 = .ok (.return_, 1) := by decide +kernel
theorem dX4_keep_0 : decode cX4_keep 0 = .ok (.aload_n 0, 1) := by decide +kernel
theorem dX4_keep_1 : decode cX4_keep 1 = .ok (.aload_n 0, 1) := by decide +kernel
theorem dX4_keep_2 : decode cX4_keep 2 = .ok (.getfield 23, 3) := by decide +kernel
theorem dX4_keep_5 : decode cX4_keep 5 = .ok (.iconst 1, 1) := by decide +kernel
theorem dX4_keep_6 : decode cX4_keep 6 = .ok (.iadd, 1) := by decide +kernel
theorem dX4_keep_7 : decode cX4_keep 7 = .ok (.bipush 20, 2) := by decide +kernel
theorem dX4_keep_9 : decode cX4_keep 9 = .ok (.irem, 1) := by decide +kernel
theorem dX4_keep_10 : decode cX4_keep 10 = .ok (.putfield 23, 3) := by decide +kernel
theorem dX4_keep_13 : decode cX4_keep 13 = .ok (.aload_n 0, 1) := by decide +kernel
theorem dX4_keep_14 : decode cX4_keep 14 = .ok (.getfield 23, 3) := by decide +kernel
theorem dX4_keep_17 : decode cX4_keep 17 = .ok (.ifCond .lt 12, 3) := by decide +kernel
theorem dX4_keep_20 : decode cX4_keep 20 = .ok (.aload_n 0, 1) := by decide +kernel
theorem dX4_keep_21 : decode cX4_keep 21 = .ok (.getfield 23, 3) := by decide +kernel
theorem dX4_keep_24 : decode cX4_keep 24 = .ok (.bipush 20, 2) := by decide +kernel
theorem dX4_keep_26 : decode cX4_keep 26 = .ok (.if_icmp .lt 4, 3) := by decide +kernel
theorem dX4_keep_29 : decode cX4_keep 29 = .ok (.return_, 1) := by decide +kernel
theorem dX4_keep_30 : decode cX4_keep 30 = .ok (.aload_n 0, 1) := by decide +kernel
theorem dX4_keep_31 : decode cX4_keep 31 = .ok (.getfield 15, 3) := by decide +kernel
theorem dX4_keep_34 : decode cX4_keep 34 = .ok (.iconst 0, 1) := by decide +kernel
theorem dX4_keep_35 : decode cX4_keep 35 = .ok (.aload_n 0, 1) := by decide +kernel
theorem dX4_keep_36 : decode cX4_keep 36 = .ok (.getfield 20, 3) := by decide +kernel
theorem dX4_keep_39 : decode cX4_keep 39 = .ok (.aload_n 0, 1) := by decide +kernel
theorem dX4_keep_40 : decode cX4_keep 40 = .ok (.getfield 23, 3) := by decide +kernel
theorem dX4_keep_43 : decode cX4_keep 43 = .ok (.aaload, 1) := by decide +kernel
theorem dX4_keep_44 : decode cX4_keep 44 = .ok (.iconst 0, 1) := by decide +kernel
theorem dX4_keep_45 : decode cX4_keep 45 = .ok (.sipush 129, 3) := by decide +kernel
theorem dX4_keep_48 : decode cX4_keep 48 = .ok (.invokestatic 34, 3) := by decide +kernel
theorem dX4_keep_51 : decode cX4_keep 51 = .ok (.aload_n 0, 1) := by decide +kernel
theorem dX4_keep_52 : decode cX4_keep 52 = .ok (.aload_n 0, 1) := by decide +kernel
theorem dX4_keep_53 : decode cX4_keep 53 = .ok (.getfield 40, 3) := by decide +kernel
theorem dX4_keep_56 : decode cX4_keep 56 = .ok (.iconst 1, 1) := by decide +kernel
theorem dX4_keep_57 : decode cX4_keep 57 = .ok (.iadd, 1) := by decide +kernel
theorem dX4_keep_58 : decode cX4_keep 58 = .ok (.bipush 20, 2) := by decide +kernel
theorem dX4_keep_60 : decode cX4_keep 60 = .ok (.invokestatic 43, 3) := by decide +kernel
theorem dX4_keep_63 : decode cX4_keep 63 = .ok (.putfield 40, 3) := by decide +kernel
theorem dX4_keep_66 : decode cX4_keep 66 = .ok (.return_, 1) := by decide +kernel
theorem dX4_takeBack_0 : decode cX4_takeBack 0 = .ok (.aload_n 0, 1) := by decide +kernel
theorem dX4_takeBack_1 : decode cX4_takeBack 1 = .ok (.getfield 40, 3) := by decide +kernel
theorem dX4_takeBack_4 : decode cX4_takeBack 4 = .ok (.ifCond .le 19, 3) := by decide +kernel
theorem dX4_takeBack_7 : decode cX4_takeBack 7 = .ok (.aload_n 0, 1) := by decide +kernel
theorem dX4_takeBack_8 : decode cX4_takeBack 8 = .ok (.getfield 23, 3) := by decide +kernel
theorem dX4_takeBack_11 : decode cX4_takeBack 11 = .ok (.ifCond .lt 12, 3) := by decide +kernel
theorem dX4_takeBack_14 : decode cX4_takeBack 14 = .ok (.aload_n 0, 1) := by decide +kernel
theorem dX4_takeBack_15 : decode cX4_takeBack 15 = .ok (.getfield 23, 3) := by decide +kernel
theorem dX4_takeBack_18 : decode cX4_takeBack 18 = .ok (.bipush 20, 2) := by decide +kernel
theorem dX4_takeBack_20 : decode cX4_takeBack 20 = .ok (.if_icmp .lt 5, 3) := by decide +kernel
theorem dX4_takeBack_23 : decode cX4_takeBack 23 = .ok (.iconst (-1), 1) := by decide +kernel
theorem dX4_takeBack_24 : decode cX4_takeBack 24 = .ok (.ireturn, 1) := by decide +kernel
theorem dX4_takeBack_25 : decode cX4_takeBack 25 = .ok (.aload_n 0, 1) := by decide +kernel
theorem dX4_takeBack_26 : decode cX4_takeBack 26 = .ok (.getfield 20, 3) := by decide +kernel
theorem dX4_takeBack_29 : decode cX4_takeBack 29 = .ok (.aload_n 0, 1) := by decide +kernel
theorem dX4_takeBack_30 : decode cX4_takeBack 30 = .ok (.getfield 23, 3) := by decide +kernel
theorem dX4_takeBack_33 : decode cX4_takeBack 33 = .ok (.aaload, 1) := by decide +kernel
theorem dX4_takeBack_34 : decode cX4_takeBack 34 = .ok (.iconst 0, 1) := by decide +kernel
theorem dX4_takeBack_35 : decode cX4_takeBack 35 = .ok (.aload_n 0, 1) := by decide +kernel
theorem dX4_takeBack_36 : decode cX4_takeBack 36 = .ok (.getfield 11, 3) := by decide +kernel
theorem dX4_takeBack_39 : decode cX4_takeBack 39 = .ok (.iconst 0, 1) := by decide +kernel
theorem dX4_takeBack_40 : decode cX4_takeBack 40 = .ok (.sipush 129, 3) := by decide +kernel
theorem dX4_takeBack_43 : decode cX4_takeBack 43 = .ok (.invokestatic 34, 3) := by decide +kernel
theorem dX4_takeBack_46 : decode cX4_takeBack 46 = .ok (.aload_n 0, 1) := by decide +kernel
theorem dX4_takeBack_47 : decode cX4_takeBack 47 = .ok (.aload_n 0, 1) := by decide +kernel
theorem dX4_takeBack_48 : decode cX4_takeBack 48 = .ok (.getfield 23, 3) := by decide +kernel
theorem dX4_takeBack_51 : decode cX4_takeBack 51 = .ok (.bipush 20, 2) := by decide +kernel
theorem dX4_takeBack_53 : decode cX4_takeBack 53 = .ok (.iadd, 1) := by decide +kernel
theorem dX4_takeBack_54 : decode cX4_takeBack 54 = .ok (.iconst 1, 1) := by decide +kernel
theorem dX4_takeBack_55 : decode cX4_takeBack 55 = .ok (.isub, 1) := by decide +kernel
theorem dX4_takeBack_56 : decode cX4_takeBack 56 = .ok (.bipush 20, 2) := by decide +kernel
theorem dX4_takeBack_58 : decode cX4_takeBack 58 = .ok (.irem, 1) := by decide +kernel
theorem dX4_takeBack_59 : decode cX4_takeBack 59 = .ok (.putfield 23, 3) := by decide +kernel
theorem dX4_takeBack_62 : decode cX4_takeBack 62 = .ok (.aload_n 0, 1) := by decide +kernel
theorem dX4_takeBack_63 : decode cX4_takeBack 63 = .ok (.dup, 1) := by decide +kernel
theorem dX4_takeBack_64 : decode cX4_takeBack 64 = .ok (.getfield 40, 3) := by decide +kernel
theorem dX4_takeBack_67 : decode cX4_takeBack 67 = .ok (.iconst 1, 1) := by decide +kernel
theorem dX4_takeBack_68 : decode cX4_takeBack 68 = .ok (.isub, 1) := by decide +kernel
theorem dX4_takeBack_69 : decode cX4_takeBack 69 = .ok (.putfield 40, 3) := by decide +kernel
theorem dX4_takeBack_72 : decode cX4_takeBack 72 = .ok (.aload_n 0, 1) := by decide +kernel
theorem dX4_takeBack_73 : decode cX4_takeBack 73 = .ok (.getfield 40, 3) := by decide +kernel
theorem dX4_takeBack_76 : decode cX4_takeBack 76 = .ok (.ireturn, 1) := by decide +kernel
theorem dX4_deeds_0 : decode cX4_deeds 0 = .ok (.aload_n 0, 1) := by decide +kernel
theorem dX4_deeds_1 : decode cX4_deeds 1 = .ok (.getfield 40, 3) := by decide +kernel
theorem dX4_deeds_4 : decode cX4_deeds 4 = .ok (.ireturn, 1) := by decide +kernel
theorem dX5_init_0 : decode cX5_init 0 = .ok (.aload_n 0, 1) := by decide +kernel
theorem dX5_init_1 : decode cX5_init 1 = .ok (.invokespecial 5, 3) := by decide +kernel
theorem dX5_init_4 : decode cX5_init 4 = .ok (.aload_n 0, 1) := by decide +kernel
theorem dX5_init_5 : decode cX5_init 5 = .ok (.bipush 82, 2) := by decide +kernel
theorem dX5_init_7 : decode cX5_init 7 = .ok (.newarray .int, 2) := by decide +kernel
theorem dX5_init_9 : decode cX5_init 9 = .ok (.putfield 13, 3) := by decide +kernel
theorem dX5_init_12 : decode cX5_init 12 = .ok (.aload_n 0, 1) := by decide +kernel
theorem dX5_init_13 : decode cX5_init 13 = .ok (.bipush 82, 2) := by decide +kernel
theorem dX5_init_15 : decode cX5_init 15 = .ok (.newarray .int, 2) := by decide +kernel
theorem dX5_init_17 : decode cX5_init 17 = .ok (.putfield 17, 3) := by decide +kernel
theorem dX5_init_20 : decode cX5_init 20 = .ok (.aload_n 0, 1) := by decide +kernel
theorem dX5_init_21 : decode cX5_init 21 = .ok (.bipush 82, 2) := by decide +kernel
theorem dX5_init_23 : decode cX5_init 23 = .ok (.newarray .int, 2) := by decide +kernel
theorem dX5_init_25 : decode cX5_init 25 = .ok (.putfield 20, 3) := by decide +kernel
theorem dX5_init_28 : decode cX5_init 28 = .ok (.return_, 1) := by decide +kernel
theorem dX5_count_0 : decode cX5_count 0 = .ok (.aload_n 0, 1) := by decide +kernel
theorem dX5_count_1 : decode cX5_count 1 = .ok (.getfield 23, 3) := by decide +kernel
theorem dX5_count_4 : decode cX5_count 4 = .ok (.ireturn, 1) := by decide +kernel
theorem dX5_x_0 : decode cX5_x 0 = .ok (.iload_n 1, 1) := by decide +kernel
theorem dX5_x_1 : decode cX5_x 1 = .ok (.ifCond .lt 20, 3) := by decide +kernel
theorem dX5_x_4 : decode cX5_x 4 = .ok (.iload_n 1, 1) := by decide +kernel
theorem dX5_x_5 : decode cX5_x 5 = .ok (.aload_n 0, 1) := by decide +kernel
theorem dX5_x_6 : decode cX5_x 6 = .ok (.getfield 23, 3) := by decide +kernel
theorem dX5_x_9 : decode cX5_x 9 = .ok (.if_icmp .ge 12, 3) := by decide +kernel
theorem dX5_x_12 : decode cX5_x 12 = .ok (.aload_n 0, 1) := by decide +kernel
theorem dX5_x_13 : decode cX5_x 13 = .ok (.getfield 13, 3) := by decide +kernel
theorem dX5_x_16 : decode cX5_x 16 = .ok (.iload_n 1, 1) := by decide +kernel
theorem dX5_x_17 : decode cX5_x 17 = .ok (.iaload, 1) := by decide +kernel
theorem dX5_x_18 : decode cX5_x 18 = .ok (.goto 4, 3) := by decide +kernel
theorem dX5_x_21 : decode cX5_x 21 = .ok (.iconst 0, 1) := by decide +kernel
theorem dX5_x_22 : decode cX5_x 22 = .ok (.ireturn, 1) := by decide +kernel
theorem dX5_y_0 : decode cX5_y 0 = .ok (.iload_n 1, 1) := by decide +kernel
theorem dX5_y_1 : decode cX5_y 1 = .ok (.ifCond .lt 20, 3) := by decide +kernel
theorem dX5_y_4 : decode cX5_y 4 = .ok (.iload_n 1, 1) := by decide +kernel
theorem dX5_y_5 : decode cX5_y 5 = .ok (.aload_n 0, 1) := by decide +kernel
theorem dX5_y_6 : decode cX5_y 6 = .ok (.getfield 23, 3) := by decide +kernel
theorem dX5_y_9 : decode cX5_y 9 = .ok (.if_icmp .ge 12, 3) := by decide +kernel
theorem dX5_y_12 : decode cX5_y 12 = .ok (.aload_n 0, 1) := by decide +kernel
theorem dX5_y_13 : decode cX5_y 13 = .ok (.getfield 17, 3) := by decide +kernel
theorem dX5_y_16 : decode cX5_y 16 = .ok (.iload_n 1, 1) := by decide +kernel
theorem dX5_y_17 : decode cX5_y 17 = .ok (.iaload, 1) := by decide +kernel
theorem dX5_y_18 : decode cX5_y 18 = .ok (.goto 4, 3) := by decide +kernel
theorem dX5_y_21 : decode cX5_y 21 = .ok (.iconst 0, 1) := by decide +kernel
theorem dX5_y_22 : decode cX5_y 22 = .ok (.ireturn, 1) := by decide +kernel
theorem dX5_number_0 : decode cX5_number 0 = .ok (.iload_n 1, 1) := by decide +kernel
theorem dX5_number_1 : decode cX5_number 1 = .ok (.ifCond .lt 20, 3) := by decide +kernel
theorem dX5_number_4 : decode cX5_number 4 = .ok (.iload_n 1, 1) := by decide +kernel
theorem dX5_number_5 : decode cX5_number 5 = .ok (.aload_n 0, 1) := by decide +kernel
theorem dX5_number_6 : decode cX5_number 6 = .ok (.getfield 23, 3) := by decide +kernel
theorem dX5_number_9 : decode cX5_number 9 = .ok (.if_icmp .ge 12, 3) := by decide +kernel
theorem dX5_number_12 : decode cX5_number 12 = .ok (.aload_n 0, 1) := by decide +kernel
theorem dX5_number_13 : decode cX5_number 13 = .ok (.getfield 20, 3) := by decide +kernel
theorem dX5_number_16 : decode cX5_number 16 = .ok (.iload_n 1, 1) := by decide +kernel
theorem dX5_number_17 : decode cX5_number 17 = .ok (.iaload, 1) := by decide +kernel
theorem dX5_number_18 : decode cX5_number 18 = .ok (.goto 4, 3) := by decide +kernel
theorem dX5_number_21 : decode cX5_number 21 = .ok (.iconst (-1), 1) := by decide +kernel
theorem dX5_number_22 : decode cX5_number 22 = .ok (.ireturn, 1) := by decide +kernel
theorem dX5_after_0 : decode cX5_after 0 = .ok (.iload_n 1, 1) := by decide +kernel
theorem dX5_after_1 : decode cX5_after 1 = .ok (.iconst 1, 1) := by decide +kernel
theorem dX5_after_2 : decode cX5_after 2 = .ok (.iadd, 1) := by decide +kernel
theorem dX5_after_3 : decode cX5_after 3 = .ok (.aload_n 0, 1) := by decide +kernel
theorem dX5_after_4 : decode cX5_after 4 = .ok (.getfield 23, 3) := by decide +kernel
theorem dX5_after_7 : decode cX5_after 7 = .ok (.if_icmp .ge 9, 3) := by decide +kernel
theorem dX5_after_10 : decode cX5_after 10 = .ok (.iload_n 1, 1) := by decide +kernel
theorem dX5_after_11 : decode cX5_after 11 = .ok (.iconst 1, 1) := by decide +kernel
theorem dX5_after_12 : decode cX5_after 12 = .ok (.iadd, 1) := by decide +kernel
theorem dX5_after_13 : decode cX5_after 13 = .ok (.goto 4, 3) := by decide +kernel
theorem dX5_after_16 : decode cX5_after 16 = .ok (.iconst 0, 1) := by decide +kernel
theorem dX5_after_17 : decode cX5_after 17 = .ok (.ireturn, 1) := by decide +kernel
theorem dX5_before_0 : decode cX5_before 0 = .ok (.iload_n 1, 1) := by decide +kernel
theorem dX5_before_1 : decode cX5_before 1 = .ok (.ifCond .le 9, 3) := by decide +kernel
theorem dX5_before_4 : decode cX5_before 4 = .ok (.iload_n 1, 1) := by decide +kernel
theorem dX5_before_5 : decode cX5_before 5 = .ok (.iconst 1, 1) := by decide +kernel
theorem dX5_before_6 : decode cX5_before 6 = .ok (.isub, 1) := by decide +kernel
theorem dX5_before_7 : decode cX5_before 7 = .ok (.goto 9, 3) := by decide +kernel
theorem dX5_before_10 : decode cX5_before 10 = .ok (.aload_n 0, 1) := by decide +kernel
theorem dX5_before_11 : decode cX5_before 11 = .ok (.getfield 23, 3) := by decide +kernel
theorem dX5_before_14 : decode cX5_before 14 = .ok (.iconst 1, 1) := by decide +kernel
theorem dX5_before_15 : decode cX5_before 15 = .ok (.isub, 1) := by decide +kernel
theorem dX5_before_16 : decode cX5_before 16 = .ok (.ireturn, 1) := by decide +kernel
theorem dX5_sideX_0 : decode cX5_sideX 0 = .ok (.aload_n 0, 1) := by decide +kernel
theorem dX5_sideX_1 : decode cX5_sideX 1 = .ok (.aload_n 0, 1) := by decide +kernel
theorem dX5_sideX_2 : decode cX5_sideX 2 = .ok (.iload_n 1, 1) := by decide +kernel
theorem dX5_sideX_3 : decode cX5_sideX 3 = .ok (.invokevirtual 27, 3) := by decide +kernel
theorem dX5_sideX_6 : decode cX5_sideX 6 = .ok (.invokevirtual 31, 3) := by decide +kernel
theorem dX5_sideX_9 : decode cX5_sideX 9 = .ok (.aload_n 0, 1) := by decide +kernel
theorem dX5_sideX_10 : decode cX5_sideX 10 = .ok (.iload_n 1, 1) := by decide +kernel
theorem dX5_sideX_11 : decode cX5_sideX 11 = .ok (.invokevirtual 31, 3) := by decide +kernel
theorem dX5_sideX_14 : decode cX5_sideX 14 = .ok (.isub, 1) := by decide +kernel
theorem dX5_sideX_15 : decode cX5_sideX 15 = .ok (.i2l, 1) := by decide +kernel
theorem dX5_sideX_16 : decode cX5_sideX 16 = .ok (.lreturn, 1) := by decide +kernel
theorem dX5_sideY_0 : decode cX5_sideY 0 = .ok (.aload_n 0, 1) := by decide +kernel
theorem dX5_sideY_1 : decode cX5_sideY 1 = .ok (.aload_n 0, 1) := by decide +kernel
theorem dX5_sideY_2 : decode cX5_sideY 2 = .ok (.iload_n 1, 1) := by decide +kernel
theorem dX5_sideY_3 : decode cX5_sideY 3 = .ok (.invokevirtual 27, 3) := by decide +kernel
theorem dX5_sideY_6 : decode cX5_sideY 6 = .ok (.invokevirtual 34, 3) := by decide +kernel
theorem dX5_sideY_9 : decode cX5_sideY 9 = .ok (.aload_n 0, 1) := by decide +kernel
theorem dX5_sideY_10 : decode cX5_sideY 10 = .ok (.iload_n 1, 1) := by decide +kernel
theorem dX5_sideY_11 : decode cX5_sideY 11 = .ok (.invokevirtual 34, 3) := by decide +kernel
theorem dX5_sideY_14 : decode cX5_sideY 14 = .ok (.isub, 1) := by decide +kernel
theorem dX5_sideY_15 : decode cX5_sideY 15 = .ok (.i2l, 1) := by decide +kernel
theorem dX5_sideY_16 : decode cX5_sideY 16 = .ok (.lreturn, 1) := by decide +kernel
theorem dX5_sideSquared_0 : decode cX5_sideSquared 0 = .ok (.aload_n 0, 1) := by decide +kernel
theorem dX5_sideSquared_1 : decode cX5_sideSquared 1 = .ok (.iload_n 1, 1) := by decide +kernel
theorem dX5_sideSquared_2 : decode cX5_sideSquared 2 = .ok (.invokevirtual 37, 3) := by decide +kernel
theorem dX5_sideSquared_5 : decode cX5_sideSquared 5 = .ok (.aload_n 0, 1) := by decide +kernel
theorem dX5_sideSquared_6 : decode cX5_sideSquared 6 = .ok (.iload_n 1, 1) := by decide +kernel
theorem dX5_sideSquared_7 : decode cX5_sideSquared 7 = .ok (.invokevirtual 37, 3) := by decide +kernel
theorem dX5_sideSquared_10 : decode cX5_sideSquared 10 = .ok (.lmul, 1) := by decide +kernel
theorem dX5_sideSquared_11 : decode cX5_sideSquared 11 = .ok (.aload_n 0, 1) := by decide +kernel
theorem dX5_sideSquared_12 : decode cX5_sideSquared 12 = .ok (.iload_n 1, 1) := by decide +kernel
theorem dX5_sideSquared_13 : decode cX5_sideSquared 13 = .ok (.invokevirtual 41, 3) := by decide +kernel
theorem dX5_sideSquared_16 : decode cX5_sideSquared 16 = .ok (.aload_n 0, 1) := by decide +kernel
theorem dX5_sideSquared_17 : decode cX5_sideSquared 17 = .ok (.iload_n 1, 1) := by decide +kernel
theorem dX5_sideSquared_18 : decode cX5_sideSquared 18 = .ok (.invokevirtual 41, 3) := by decide +kernel
theorem dX5_sideSquared_21 : decode cX5_sideSquared 21 = .ok (.lmul, 1) := by decide +kernel
theorem dX5_sideSquared_22 : decode cX5_sideSquared 22 = .ok (.ladd, 1) := by decide +kernel
theorem dX5_sideSquared_23 : decode cX5_sideSquared 23 = .ok (.lreturn, 1) := by decide +kernel
theorem dX5_about_0 : decode cX5_about 0 = .ok (.aload_n 0, 1) := by decide +kernel
theorem dX5_about_1 : decode cX5_about 1 = .ok (.iconst 0, 1) := by decide +kernel
theorem dX5_about_2 : decode cX5_about 2 = .ok (.putfield 23, 3) := by decide +kernel
theorem dX5_about_5 : decode cX5_about 5 = .ok (.iconst 0, 1) := by decide +kernel
theorem dX5_about_6 : decode cX5_about 6 = .ok (.istore_n 2, 1) := by decide +kernel
theorem dX5_about_7 : decode cX5_about 7 = .ok (.iload_n 2, 1) := by decide +kernel
theorem dX5_about_8 : decode cX5_about 8 = .ok (.aload_n 1, 1) := by decide +kernel
theorem dX5_about_9 : decode cX5_about 9 = .ok (.invokevirtual 44, 3) := by decide +kernel
theorem dX5_about_12 : decode cX5_about 12 = .ok (.if_icmp .ge 16, 3) := by decide +kernel
theorem dX5_about_15 : decode cX5_about 15 = .ok (.aload_n 0, 1) := by decide +kernel
theorem dX5_about_16 : decode cX5_about 16 = .ok (.aload_n 1, 1) := by decide +kernel
theorem dX5_about_17 : decode cX5_about 17 = .ok (.iload_n 2, 1) := by decide +kernel
theorem dX5_about_18 : decode cX5_about 18 = .ok (.iconst 0, 1) := by decide +kernel
theorem dX5_about_19 : decode cX5_about 19 = .ok (.invokevirtual 47, 3) := by decide +kernel
theorem dX5_about_22 : decode cX5_about 22 = .ok (.iinc 2 1, 3) := by decide +kernel
theorem dX5_about_25 : decode cX5_about 25 = .ok (.goto (-18), 3) := by decide +kernel
theorem dX5_about_28 : decode cX5_about 28 = .ok (.aload_n 0, 1) := by decide +kernel
theorem dX5_about_29 : decode cX5_about 29 = .ok (.getfield 23, 3) := by decide +kernel
theorem dX5_about_32 : decode cX5_about 32 = .ok (.iconst 1, 1) := by decide +kernel
theorem dX5_about_33 : decode cX5_about 33 = .ok (.isub, 1) := by decide +kernel
theorem dX5_about_34 : decode cX5_about 34 = .ok (.istore_n 2, 1) := by decide +kernel
theorem dX5_about_35 : decode cX5_about 35 = .ok (.aload_n 1, 1) := by decide +kernel
theorem dX5_about_36 : decode cX5_about 36 = .ok (.invokevirtual 44, 3) := by decide +kernel
theorem dX5_about_39 : decode cX5_about 39 = .ok (.iconst 2, 1) := by decide +kernel
theorem dX5_about_40 : decode cX5_about 40 = .ok (.isub, 1) := by decide +kernel
theorem dX5_about_41 : decode cX5_about 41 = .ok (.istore_n 3, 1) := by decide +kernel
theorem dX5_about_42 : decode cX5_about 42 = .ok (.iload_n 3, 1) := by decide +kernel
theorem dX5_about_43 : decode cX5_about 43 = .ok (.ifCond .lt 16, 3) := by decide +kernel
theorem dX5_about_46 : decode cX5_about 46 = .ok (.aload_n 0, 1) := by decide +kernel
theorem dX5_about_47 : decode cX5_about 47 = .ok (.aload_n 1, 1) := by decide +kernel
theorem dX5_about_48 : decode cX5_about 48 = .ok (.iload_n 3, 1) := by decide +kernel
theorem dX5_about_49 : decode cX5_about 49 = .ok (.iload_n 2, 1) := by decide +kernel
theorem dX5_about_50 : decode cX5_about 50 = .ok (.invokevirtual 47, 3) := by decide +kernel
theorem dX5_about_53 : decode cX5_about 53 = .ok (.iinc 3 (-1), 3) := by decide +kernel
theorem dX5_about_56 : decode cX5_about 56 = .ok (.goto (-14), 3) := by decide +kernel
theorem dX5_about_59 : decode cX5_about 59 = .ok (.aload_n 0, 1) := by decide +kernel
theorem dX5_about_60 : decode cX5_about 60 = .ok (.getfield 23, 3) := by decide +kernel
theorem dX5_about_63 : decode cX5_about 63 = .ok (.iconst 1, 1) := by decide +kernel
theorem dX5_about_64 : decode cX5_about 64 = .ok (.if_icmp .le 13, 3) := by decide +kernel
theorem dX5_about_67 : decode cX5_about 67 = .ok (.aload_n 0, 1) := by decide +kernel
theorem dX5_about_68 : decode cX5_about 68 = .ok (.dup, 1) := by decide +kernel
theorem dX5_about_69 : decode cX5_about 69 = .ok (.getfield 23, 3) := by decide +kernel
theorem dX5_about_72 : decode cX5_about 72 = .ok (.iconst 1, 1) := by decide +kernel
theorem dX5_about_73 : decode cX5_about 73 = .ok (.isub, 1) := by decide +kernel
theorem dX5_about_74 : decode cX5_about 74 = .ok (.putfield 23, 3) := by decide +kernel
theorem dX5_about_77 : decode cX5_about 77 = .ok (.return_, 1) := by decide +kernel
theorem dX5_lay_0 : decode cX5_lay 0 = .ok (.aload_n 0, 1) := by decide +kernel
theorem dX5_lay_1 : decode cX5_lay 1 = .ok (.getfield 23, 3) := by decide +kernel
theorem dX5_lay_4 : decode cX5_lay 4 = .ok (.iload_n 3, 1) := by decide +kernel
theorem dX5_lay_5 : decode cX5_lay 5 = .ok (.iconst 1, 1) := by decide +kernel
theorem dX5_lay_6 : decode cX5_lay 6 = .ok (.iadd, 1) := by decide +kernel
theorem dX5_lay_7 : decode cX5_lay 7 = .ok (.if_icmp .le 49, 3) := by decide +kernel
theorem dX5_lay_10 : decode cX5_lay 10 = .ok (.aload_n 0, 1) := by decide +kernel
theorem dX5_lay_11 : decode cX5_lay 11 = .ok (.getfield 23, 3) := by decide +kernel
theorem dX5_lay_14 : decode cX5_lay 14 = .ok (.iconst 1, 1) := by decide +kernel
theorem dX5_lay_15 : decode cX5_lay 15 = .ok (.if_icmp .le 41, 3) := by decide +kernel
theorem dX5_lay_18 : decode cX5_lay 18 = .ok (.aload_n 0, 1) := by decide +kernel
theorem dX5_lay_19 : decode cX5_lay 19 = .ok (.aload_n 0, 1) := by decide +kernel
theorem dX5_lay_20 : decode cX5_lay 20 = .ok (.getfield 23, 3) := by decide +kernel
theorem dX5_lay_23 : decode cX5_lay 23 = .ok (.iconst 2, 1) := by decide +kernel
theorem dX5_lay_24 : decode cX5_lay 24 = .ok (.isub, 1) := by decide +kernel
theorem dX5_lay_25 : decode cX5_lay 25 = .ok (.aload_n 1, 1) := by decide +kernel
theorem dX5_lay_26 : decode cX5_lay 26 = .ok (.iload_n 2, 1) := by decide +kernel
theorem dX5_lay_27 : decode cX5_lay 27 = .ok (.invokevirtual 51, 3) := by decide +kernel
theorem dX5_lay_30 : decode cX5_lay 30 = .ok (.aload_n 1, 1) := by decide +kernel
theorem dX5_lay_31 : decode cX5_lay 31 = .ok (.iload_n 2, 1) := by decide +kernel
theorem dX5_lay_32 : decode cX5_lay 32 = .ok (.invokevirtual 52, 3) := by decide +kernel
theorem dX5_lay_35 : decode cX5_lay 35 = .ok (.invokevirtual 53, 3) := by decide +kernel
theorem dX5_lay_38 : decode cX5_lay 38 = .ok (.lconst 0, 1) := by decide +kernel
theorem dX5_lay_39 : decode cX5_lay 39 = .ok (.lcmp, 1) := by decide +kernel
theorem dX5_lay_40 : decode cX5_lay 40 = .ok (.ifCond .gt 16, 3) := by decide +kernel
theorem dX5_lay_43 : decode cX5_lay 43 = .ok (.aload_n 0, 1) := by decide +kernel
theorem dX5_lay_44 : decode cX5_lay 44 = .ok (.dup, 1) := by decide +kernel
theorem dX5_lay_45 : decode cX5_lay 45 = .ok (.getfield 23, 3) := by decide +kernel
theorem dX5_lay_48 : decode cX5_lay 48 = .ok (.iconst 1, 1) := by decide +kernel
theorem dX5_lay_49 : decode cX5_lay 49 = .ok (.isub, 1) := by decide +kernel
theorem dX5_lay_50 : decode cX5_lay 50 = .ok (.putfield 23, 3) := by decide +kernel
theorem dX5_lay_53 : decode cX5_lay 53 = .ok (.goto (-53), 3) := by decide +kernel
theorem dX5_lay_56 : decode cX5_lay 56 = .ok (.aload_n 0, 1) := by decide +kernel
theorem dX5_lay_57 : decode cX5_lay 57 = .ok (.getfield 23, 3) := by decide +kernel
theorem dX5_lay_60 : decode cX5_lay 60 = .ok (.ifCond .lt 12, 3) := by decide +kernel
theorem dX5_lay_63 : decode cX5_lay 63 = .ok (.aload_n 0, 1) := by decide +kernel
theorem dX5_lay_64 : decode cX5_lay 64 = .ok (.getfield 23, 3) := by decide +kernel
theorem dX5_lay_67 : decode cX5_lay 67 = .ok (.bipush 82, 2) := by decide +kernel
theorem dX5_lay_69 : decode cX5_lay 69 = .ok (.if_icmp .lt 4, 3) := by decide +kernel
theorem dX5_lay_72 : decode cX5_lay 72 = .ok (.return_, 1) := by decide +kernel
theorem dX5_lay_73 : decode cX5_lay 73 = .ok (.aload_n 0, 1) := by decide +kernel
theorem dX5_lay_74 : decode cX5_lay 74 = .ok (.getfield 13, 3) := by decide +kernel
theorem dX5_lay_77 : decode cX5_lay 77 = .ok (.aload_n 0, 1) := by decide +kernel
theorem dX5_lay_78 : decode cX5_lay 78 = .ok (.getfield 23, 3) := by decide +kernel
theorem dX5_lay_81 : decode cX5_lay 81 = .ok (.aload_n 1, 1) := by decide +kernel
theorem dX5_lay_82 : decode cX5_lay 82 = .ok (.iload_n 2, 1) := by decide +kernel
theorem dX5_lay_83 : decode cX5_lay 83 = .ok (.invokevirtual 51, 3) := by decide +kernel
theorem dX5_lay_86 : decode cX5_lay 86 = .ok (.iastore, 1) := by decide +kernel
theorem dX5_lay_87 : decode cX5_lay 87 = .ok (.aload_n 0, 1) := by decide +kernel
theorem dX5_lay_88 : decode cX5_lay 88 = .ok (.getfield 17, 3) := by decide +kernel
theorem dX5_lay_91 : decode cX5_lay 91 = .ok (.aload_n 0, 1) := by decide +kernel
theorem dX5_lay_92 : decode cX5_lay 92 = .ok (.getfield 23, 3) := by decide +kernel
theorem dX5_lay_95 : decode cX5_lay 95 = .ok (.aload_n 1, 1) := by decide +kernel
theorem dX5_lay_96 : decode cX5_lay 96 = .ok (.iload_n 2, 1) := by decide +kernel
theorem dX5_lay_97 : decode cX5_lay 97 = .ok (.invokevirtual 52, 3) := by decide +kernel
theorem dX5_lay_100 : decode cX5_lay 100 = .ok (.iastore, 1) := by decide +kernel
theorem dX5_lay_101 : decode cX5_lay 101 = .ok (.aload_n 0, 1) := by decide +kernel
theorem dX5_lay_102 : decode cX5_lay 102 = .ok (.getfield 20, 3) := by decide +kernel
theorem dX5_lay_105 : decode cX5_lay 105 = .ok (.aload_n 0, 1) := by decide +kernel
theorem dX5_lay_106 : decode cX5_lay 106 = .ok (.getfield 23, 3) := by decide +kernel
theorem dX5_lay_109 : decode cX5_lay 109 = .ok (.aload_n 1, 1) := by decide +kernel
theorem dX5_lay_110 : decode cX5_lay 110 = .ok (.iload_n 2, 1) := by decide +kernel
theorem dX5_lay_111 : decode cX5_lay 111 = .ok (.invokevirtual 57, 3) := by decide +kernel
theorem dX5_lay_114 : decode cX5_lay 114 = .ok (.iastore, 1) := by decide +kernel
theorem dX5_lay_115 : decode cX5_lay 115 = .ok (.aload_n 0, 1) := by decide +kernel
theorem dX5_lay_116 : decode cX5_lay 116 = .ok (.dup, 1) := by decide +kernel
theorem dX5_lay_117 : decode cX5_lay 117 = .ok (.getfield 23, 3) := by decide +kernel
theorem dX5_lay_120 : decode cX5_lay 120 = .ok (.iconst 1, 1) := by decide +kernel
theorem dX5_lay_121 : decode cX5_lay 121 = .ok (.iadd, 1) := by decide +kernel
theorem dX5_lay_122 : decode cX5_lay 122 = .ok (.putfield 23, 3) := by decide +kernel
theorem dX5_lay_125 : decode cX5_lay 125 = .ok (.return_, 1) := by decide +kernel
theorem dX5_turn_0 : decode cX5_turn 0 = .ok (.aload_n 0, 1) := by decide +kernel
theorem dX5_turn_1 : decode cX5_turn 1 = .ok (.iload_n 1, 1) := by decide +kernel
theorem dX5_turn_2 : decode cX5_turn 2 = .ok (.invokevirtual 37, 3) := by decide +kernel
theorem dX5_turn_5 : decode cX5_turn 5 = .ok (.iload_n 3, 1) := by decide +kernel
theorem dX5_turn_6 : decode cX5_turn 6 = .ok (.aload_n 0, 1) := by decide +kernel
theorem dX5_turn_7 : decode cX5_turn 7 = .ok (.iload_n 1, 1) := by decide +kernel
theorem dX5_turn_8 : decode cX5_turn 8 = .ok (.invokevirtual 34, 3) := by decide +kernel
theorem dX5_turn_11 : decode cX5_turn 11 = .ok (.isub, 1) := by decide +kernel
theorem dX5_turn_12 : decode cX5_turn 12 = .ok (.i2l, 1) := by decide +kernel
theorem dX5_turn_13 : decode cX5_turn 13 = .ok (.lmul, 1) := by decide +kernel
theorem dX5_turn_14 : decode cX5_turn 14 = .ok (.aload_n 0, 1) := by decide +kernel
theorem dX5_turn_15 : decode cX5_turn 15 = .ok (.iload_n 1, 1) := by decide +kernel
theorem dX5_turn_16 : decode cX5_turn 16 = .ok (.invokevirtual 41, 3) := by decide +kernel
theorem dX5_turn_19 : decode cX5_turn 19 = .ok (.iload_n 2, 1) := by decide +kernel
theorem dX5_turn_20 : decode cX5_turn 20 = .ok (.aload_n 0, 1) := by decide +kernel
theorem dX5_turn_21 : decode cX5_turn 21 = .ok (.iload_n 1, 1) := by decide +kernel
theorem dX5_turn_22 : decode cX5_turn 22 = .ok (.invokevirtual 31, 3) := by decide +kernel
theorem dX5_turn_25 : decode cX5_turn 25 = .ok (.isub, 1) := by decide +kernel
theorem dX5_turn_26 : decode cX5_turn 26 = .ok (.i2l, 1) := by decide +kernel
theorem dX5_turn_27 : decode cX5_turn 27 = .ok (.lmul, 1) := by decide +kernel
theorem dX5_turn_28 : decode cX5_turn 28 = .ok (.lsub, 1) := by decide +kernel
theorem dX5_turn_29 : decode cX5_turn 29 = .ok (.lreturn, 1) := by decide +kernel
theorem dX5_twiceArea_0 : decode cX5_twiceArea 0 = .ok (.lconst 0, 1) := by decide +kernel
theorem dX5_twiceArea_1 : decode cX5_twiceArea 1 = .ok (.lstore_n 1, 1) := by decide +kernel
theorem dX5_twiceArea_2 : decode cX5_twiceArea 2 = .ok (.iconst 0, 1) := by decide +kernel
theorem dX5_twiceArea_3 : decode cX5_twiceArea 3 = .ok (.istore_n 3, 1) := by decide +kernel
theorem dX5_twiceArea_4 : decode cX5_twiceArea 4 = .ok (.iload_n 3, 1) := by decide +kernel
theorem dX5_twiceArea_5 : decode cX5_twiceArea 5 = .ok (.aload_n 0, 1) := by decide +kernel
theorem dX5_twiceArea_6 : decode cX5_twiceArea 6 = .ok (.getfield 23, 3) := by decide +kernel
theorem dX5_twiceArea_9 : decode cX5_twiceArea 9 = .ok (.if_icmp .ge 27, 3) := by decide +kernel
theorem dX5_twiceArea_12 : decode cX5_twiceArea 12 = .ok (.lload_n 1, 1) := by decide +kernel
theorem dX5_twiceArea_13 : decode cX5_twiceArea 13 = .ok (.aload_n 0, 1) := by decide +kernel
theorem dX5_twiceArea_14 : decode cX5_twiceArea 14 = .ok (.iload_n 3, 1) := by decide +kernel
theorem dX5_twiceArea_15 : decode cX5_twiceArea 15 = .ok (.aload_n 0, 1) := by decide +kernel
theorem dX5_twiceArea_16 : decode cX5_twiceArea 16 = .ok (.iconst 0, 1) := by decide +kernel
theorem dX5_twiceArea_17 : decode cX5_twiceArea 17 = .ok (.invokevirtual 31, 3) := by decide +kernel
theorem dX5_twiceArea_20 : decode cX5_twiceArea 20 = .ok (.aload_n 0, 1) := by decide +kernel
theorem dX5_twiceArea_21 : decode cX5_twiceArea 21 = .ok (.iconst 0, 1) := by decide +kernel
theorem dX5_twiceArea_22 : decode cX5_twiceArea 22 = .ok (.invokevirtual 34, 3) := by decide +kernel
theorem dX5_twiceArea_25 : decode cX5_twiceArea 25 = .ok (.invokevirtual 53, 3) := by decide +kernel
theorem dX5_twiceArea_28 : decode cX5_twiceArea 28 = .ok (.ladd, 1) := by decide +kernel
theorem dX5_twiceArea_29 : decode cX5_twiceArea 29 = .ok (.lstore_n 1, 1) := by decide +kernel
theorem dX5_twiceArea_30 : decode cX5_twiceArea 30 = .ok (.iinc 3 1, 3) := by decide +kernel
theorem dX5_twiceArea_33 : decode cX5_twiceArea 33 = .ok (.goto (-29), 3) := by decide +kernel
theorem dX5_twiceArea_36 : decode cX5_twiceArea 36 = .ok (.lload_n 1, 1) := by decide +kernel
theorem dX5_twiceArea_37 : decode cX5_twiceArea 37 = .ok (.lreturn, 1) := by decide +kernel
theorem dX5_height_0 : decode cX5_height 0 = .ok (.lconst 0, 1) := by decide +kernel
theorem dX5_height_1 : decode cX5_height 1 = .ok (.lstore_n 2, 1) := by decide +kernel
theorem dX5_height_2 : decode cX5_height 2 = .ok (.iconst 0, 1) := by decide +kernel
theorem dX5_height_3 : decode cX5_height 3 = .ok (.istore 4, 2) := by decide +kernel
theorem dX5_height_5 : decode cX5_height 5 = .ok (.iload 4, 2) := by decide +kernel
theorem dX5_height_7 : decode cX5_height 7 = .ok (.aload_n 0, 1) := by decide +kernel
theorem dX5_height_8 : decode cX5_height 8 = .ok (.getfield 23, 3) := by decide +kernel
theorem dX5_height_11 : decode cX5_height 11 = .ok (.if_icmp .ge 33, 3) := by decide +kernel
theorem dX5_height_14 : decode cX5_height 14 = .ok (.lload_n 2, 1) := by decide +kernel
theorem dX5_height_15 : decode cX5_height 15 = .ok (.aload_n 0, 1) := by decide +kernel
theorem dX5_height_16 : decode cX5_height 16 = .ok (.iload_n 1, 1) := by decide +kernel
theorem dX5_height_17 : decode cX5_height 17 = .ok (.aload_n 0, 1) := by decide +kernel
theorem dX5_height_18 : decode cX5_height 18 = .ok (.getfield 13, 3) := by decide +kernel
theorem dX5_height_21 : decode cX5_height 21 = .ok (.iload 4, 2) := by decide +kernel
theorem dX5_height_23 : decode cX5_height 23 = .ok (.iaload, 1) := by decide +kernel
theorem dX5_height_24 : decode cX5_height 24 = .ok (.aload_n 0, 1) := by decide +kernel
theorem dX5_height_25 : decode cX5_height 25 = .ok (.getfield 17, 3) := by decide +kernel
theorem dX5_height_28 : decode cX5_height 28 = .ok (.iload 4, 2) := by decide +kernel
theorem dX5_height_30 : decode cX5_height 30 = .ok (.iaload, 1) := by decide +kernel
theorem dX5_height_31 : decode cX5_height 31 = .ok (.invokevirtual 53, 3) := by decide +kernel
theorem dX5_height_34 : decode cX5_height 34 = .ok (.invokestatic 60, 3) := by decide +kernel
theorem dX5_height_37 : decode cX5_height 37 = .ok (.lstore_n 2, 1) := by decide +kernel
theorem dX5_height_38 : decode cX5_height 38 = .ok (.iinc 4 1, 3) := by decide +kernel
theorem dX5_height_41 : decode cX5_height 41 = .ok (.goto (-36), 3) := by decide +kernel
theorem dX5_height_44 : decode cX5_height 44 = .ok (.lload_n 2, 1) := by decide +kernel
theorem dX5_height_45 : decode cX5_height 45 = .ok (.lreturn, 1) := by decide +kernel
theorem dX5_narrowest_0 : decode cX5_narrowest 0 = .ok (.iconst 0, 1) := by decide +kernel
theorem dX5_narrowest_1 : decode cX5_narrowest 1 = .ok (.istore_n 2, 1) := by decide +kernel
theorem dX5_narrowest_2 : decode cX5_narrowest 2 = .ok (.iconst 0, 1) := by decide +kernel
theorem dX5_narrowest_3 : decode cX5_narrowest 3 = .ok (.istore_n 3, 1) := by decide +kernel
theorem dX5_narrowest_4 : decode cX5_narrowest 4 = .ok (.iload_n 3, 1) := by decide +kernel
theorem dX5_narrowest_5 : decode cX5_narrowest 5 = .ok (.aload_n 0, 1) := by decide +kernel
theorem dX5_narrowest_6 : decode cX5_narrowest 6 = .ok (.getfield 23, 3) := by decide +kernel
theorem dX5_narrowest_9 : decode cX5_narrowest 9 = .ok (.if_icmp .ge 53, 3) := by decide +kernel
theorem dX5_narrowest_12 : decode cX5_narrowest 12 = .ok (.aload_n 0, 1) := by decide +kernel
theorem dX5_narrowest_13 : decode cX5_narrowest 13 = .ok (.iload_n 3, 1) := by decide +kernel
theorem dX5_narrowest_14 : decode cX5_narrowest 14 = .ok (.invokevirtual 66, 3) := by decide +kernel
theorem dX5_narrowest_17 : decode cX5_narrowest 17 = .ok (.aload_n 0, 1) := by decide +kernel
theorem dX5_narrowest_18 : decode cX5_narrowest 18 = .ok (.iload_n 3, 1) := by decide +kernel
theorem dX5_narrowest_19 : decode cX5_narrowest 19 = .ok (.invokevirtual 66, 3) := by decide +kernel
theorem dX5_narrowest_22 : decode cX5_narrowest 22 = .ok (.lmul, 1) := by decide +kernel
theorem dX5_narrowest_23 : decode cX5_narrowest 23 = .ok (.lstore 4, 2) := by decide +kernel
theorem dX5_narrowest_25 : decode cX5_narrowest 25 = .ok (.iload_n 3, 1) := by decide +kernel
theorem dX5_narrowest_26 : decode cX5_narrowest 26 = .ok (.ifCond .eq 17, 3) := by decide +kernel
theorem dX5_narrowest_29 : decode cX5_narrowest 29 = .ok (.aload_n 1, 1) := by decide +kernel
theorem dX5_narrowest_30 : decode cX5_narrowest 30 = .ok (.lload 4, 2) := by decide +kernel
theorem dX5_narrowest_32 : decode cX5_narrowest 32 = .ok (.aload_n 0, 1) := by decide +kernel
theorem dX5_narrowest_33 : decode cX5_narrowest 33 = .ok (.iload_n 3, 1) := by decide +kernel
theorem dX5_narrowest_34 : decode cX5_narrowest 34 = .ok (.invokevirtual 69, 3) := by decide +kernel
theorem dX5_narrowest_37 : decode cX5_narrowest 37 = .ok (.invokevirtual 72, 3) := by decide +kernel
theorem dX5_narrowest_40 : decode cX5_narrowest 40 = .ok (.ifCond .le 16, 3) := by decide +kernel
theorem dX5_narrowest_43 : decode cX5_narrowest 43 = .ok (.aload_n 1, 1) := by decide +kernel
theorem dX5_narrowest_44 : decode cX5_narrowest 44 = .ok (.lload 4, 2) := by decide +kernel
theorem dX5_narrowest_46 : decode cX5_narrowest 46 = .ok (.aload_n 0, 1) := by decide +kernel
theorem dX5_narrowest_47 : decode cX5_narrowest 47 = .ok (.iload_n 3, 1) := by decide +kernel
theorem dX5_narrowest_48 : decode cX5_narrowest 48 = .ok (.invokevirtual 69, 3) := by decide +kernel
theorem dX5_narrowest_51 : decode cX5_narrowest 51 = .ok (.invokevirtual 78, 3) := by decide +kernel
theorem dX5_narrowest_54 : decode cX5_narrowest 54 = .ok (.iload_n 3, 1) := by decide +kernel
theorem dX5_narrowest_55 : decode cX5_narrowest 55 = .ok (.istore_n 2, 1) := by decide +kernel
theorem dX5_narrowest_56 : decode cX5_narrowest 56 = .ok (.iinc 3 1, 3) := by decide +kernel
theorem dX5_narrowest_59 : decode cX5_narrowest 59 = .ok (.goto (-55), 3) := by decide +kernel
theorem dX5_narrowest_62 : decode cX5_narrowest 62 = .ok (.aload_n 0, 1) := by decide +kernel
theorem dX5_narrowest_63 : decode cX5_narrowest 63 = .ok (.iload_n 2, 1) := by decide +kernel
theorem dX5_narrowest_64 : decode cX5_narrowest 64 = .ok (.invokevirtual 82, 3) := by decide +kernel
theorem dX5_narrowest_67 : decode cX5_narrowest 67 = .ok (.ireturn, 1) := by decide +kernel
theorem dX5_leastBox_0 : decode cX5_leastBox 0 = .ok (.iconst 0, 1) := by decide +kernel
theorem dX5_leastBox_1 : decode cX5_leastBox 1 = .ok (.istore_n 2, 1) := by decide +kernel
theorem dX5_leastBox_2 : decode cX5_leastBox 2 = .ok (.iconst 0, 1) := by decide +kernel
theorem dX5_leastBox_3 : decode cX5_leastBox 3 = .ok (.istore_n 3, 1) := by decide +kernel
theorem dX5_leastBox_4 : decode cX5_leastBox 4 = .ok (.iload_n 3, 1) := by decide +kernel
theorem dX5_leastBox_5 : decode cX5_leastBox 5 = .ok (.aload_n 0, 1) := by decide +kernel
theorem dX5_leastBox_6 : decode cX5_leastBox 6 = .ok (.getfield 23, 3) := by decide +kernel
theorem dX5_leastBox_9 : decode cX5_leastBox 9 = .ok (.if_icmp .ge 77, 3) := by decide +kernel
theorem dX5_leastBox_12 : decode cX5_leastBox 12 = .ok (.aload_n 0, 1) := by decide +kernel
theorem dX5_leastBox_13 : decode cX5_leastBox 13 = .ok (.iload_n 3, 1) := by decide +kernel
theorem dX5_leastBox_14 : decode cX5_leastBox 14 = .ok (.invokevirtual 66, 3) := by decide +kernel
theorem dX5_leastBox_17 : decode cX5_leastBox 17 = .ok (.aload_n 0, 1) := by decide +kernel
theorem dX5_leastBox_18 : decode cX5_leastBox 18 = .ok (.aload_n 0, 1) := by decide +kernel
theorem dX5_leastBox_19 : decode cX5_leastBox 19 = .ok (.iload_n 3, 1) := by decide +kernel
theorem dX5_leastBox_20 : decode cX5_leastBox 20 = .ok (.invokevirtual 37, 3) := by decide +kernel
theorem dX5_leastBox_23 : decode cX5_leastBox 23 = .ok (.aload_n 0, 1) := by decide +kernel
theorem dX5_leastBox_24 : decode cX5_leastBox 24 = .ok (.iload_n 3, 1) := by decide +kernel
theorem dX5_leastBox_25 : decode cX5_leastBox 25 = .ok (.invokevirtual 41, 3) := by decide +kernel
theorem dX5_leastBox_28 : decode cX5_leastBox 28 = .ok (.invokevirtual 83, 3) := by decide +kernel
theorem dX5_leastBox_31 : decode cX5_leastBox 31 = .ok (.aload_n 0, 1) := by decide +kernel
theorem dX5_leastBox_32 : decode cX5_leastBox 32 = .ok (.aload_n 0, 1) := by decide +kernel
theorem dX5_leastBox_33 : decode cX5_leastBox 33 = .ok (.iload_n 3, 1) := by decide +kernel
theorem dX5_leastBox_34 : decode cX5_leastBox 34 = .ok (.invokevirtual 37, 3) := by decide +kernel
theorem dX5_leastBox_37 : decode cX5_leastBox 37 = .ok (.aload_n 0, 1) := by decide +kernel
theorem dX5_leastBox_38 : decode cX5_leastBox 38 = .ok (.iload_n 3, 1) := by decide +kernel
theorem dX5_leastBox_39 : decode cX5_leastBox 39 = .ok (.invokevirtual 41, 3) := by decide +kernel
theorem dX5_leastBox_42 : decode cX5_leastBox 42 = .ok (.invokevirtual 86, 3) := by decide +kernel
theorem dX5_leastBox_45 : decode cX5_leastBox 45 = .ok (.lsub, 1) := by decide +kernel
theorem dX5_leastBox_46 : decode cX5_leastBox 46 = .ok (.lmul, 1) := by decide +kernel
theorem dX5_leastBox_47 : decode cX5_leastBox 47 = .ok (.lstore 4, 2) := by decide +kernel
theorem dX5_leastBox_49 : decode cX5_leastBox 49 = .ok (.iload_n 3, 1) := by decide +kernel
theorem dX5_leastBox_50 : decode cX5_leastBox 50 = .ok (.ifCond .eq 17, 3) := by decide +kernel
theorem dX5_leastBox_53 : decode cX5_leastBox 53 = .ok (.aload_n 1, 1) := by decide +kernel
theorem dX5_leastBox_54 : decode cX5_leastBox 54 = .ok (.lload 4, 2) := by decide +kernel
theorem dX5_leastBox_56 : decode cX5_leastBox 56 = .ok (.aload_n 0, 1) := by decide +kernel
theorem dX5_leastBox_57 : decode cX5_leastBox 57 = .ok (.iload_n 3, 1) := by decide +kernel
theorem dX5_leastBox_58 : decode cX5_leastBox 58 = .ok (.invokevirtual 69, 3) := by decide +kernel
theorem dX5_leastBox_61 : decode cX5_leastBox 61 = .ok (.invokevirtual 72, 3) := by decide +kernel
theorem dX5_leastBox_64 : decode cX5_leastBox 64 = .ok (.ifCond .le 16, 3) := by decide +kernel
theorem dX5_leastBox_67 : decode cX5_leastBox 67 = .ok (.aload_n 1, 1) := by decide +kernel
theorem dX5_leastBox_68 : decode cX5_leastBox 68 = .ok (.lload 4, 2) := by decide +kernel
theorem dX5_leastBox_70 : decode cX5_leastBox 70 = .ok (.aload_n 0, 1) := by decide +kernel
theorem dX5_leastBox_71 : decode cX5_leastBox 71 = .ok (.iload_n 3, 1) := by decide +kernel
theorem dX5_leastBox_72 : decode cX5_leastBox 72 = .ok (.invokevirtual 69, 3) := by decide +kernel
theorem dX5_leastBox_75 : decode cX5_leastBox 75 = .ok (.invokevirtual 78, 3) := by decide +kernel
theorem dX5_leastBox_78 : decode cX5_leastBox 78 = .ok (.iload_n 3, 1) := by decide +kernel
theorem dX5_leastBox_79 : decode cX5_leastBox 79 = .ok (.istore_n 2, 1) := by decide +kernel
theorem dX5_leastBox_80 : decode cX5_leastBox 80 = .ok (.iinc 3 1, 3) := by decide +kernel
theorem dX5_leastBox_83 : decode cX5_leastBox 83 = .ok (.goto (-79), 3) := by decide +kernel
theorem dX5_leastBox_86 : decode cX5_leastBox 86 = .ok (.aload_n 0, 1) := by decide +kernel
theorem dX5_leastBox_87 : decode cX5_leastBox 87 = .ok (.iload_n 2, 1) := by decide +kernel
theorem dX5_leastBox_88 : decode cX5_leastBox 88 = .ok (.invokevirtual 82, 3) := by decide +kernel
theorem dX5_leastBox_91 : decode cX5_leastBox 91 = .ok (.ireturn, 1) := by decide +kernel
theorem dX5_farthest_0 : decode cX5_farthest 0 = .ok (.aload_n 0, 1) := by decide +kernel
theorem dX5_farthest_1 : decode cX5_farthest 1 = .ok (.lload_n 1, 1) := by decide +kernel
theorem dX5_farthest_2 : decode cX5_farthest 2 = .ok (.lload_n 3, 1) := by decide +kernel
theorem dX5_farthest_3 : decode cX5_farthest 3 = .ok (.invokevirtual 83, 3) := by decide +kernel
theorem dX5_farthest_6 : decode cX5_farthest 6 = .ok (.lstore 5, 2) := by decide +kernel
theorem dX5_farthest_8 : decode cX5_farthest 8 = .ok (.iconst 0, 1) := by decide +kernel
theorem dX5_farthest_9 : decode cX5_farthest 9 = .ok (.istore 7, 2) := by decide +kernel
theorem dX5_farthest_11 : decode cX5_farthest 11 = .ok (.iload 7, 2) := by decide +kernel
theorem dX5_farthest_13 : decode cX5_farthest 13 = .ok (.aload_n 0, 1) := by decide +kernel
theorem dX5_farthest_14 : decode cX5_farthest 14 = .ok (.getfield 23, 3) := by decide +kernel
theorem dX5_farthest_17 : decode cX5_farthest 17 = .ok (.if_icmp .ge 39, 3) := by decide +kernel
theorem dX5_farthest_20 : decode cX5_farthest 20 = .ok (.lload_n 1, 1) := by decide +kernel
theorem dX5_farthest_21 : decode cX5_farthest 21 = .ok (.aload_n 0, 1) := by decide +kernel
theorem dX5_farthest_22 : decode cX5_farthest 22 = .ok (.getfield 13, 3) := by decide +kernel
theorem dX5_farthest_25 : decode cX5_farthest 25 = .ok (.iload 7, 2) := by decide +kernel
theorem dX5_farthest_27 : decode cX5_farthest 27 = .ok (.iaload, 1) := by decide +kernel
theorem dX5_farthest_28 : decode cX5_farthest 28 = .ok (.i2l, 1) := by decide +kernel
theorem dX5_farthest_29 : decode cX5_farthest 29 = .ok (.lmul, 1) := by decide +kernel
theorem dX5_farthest_30 : decode cX5_farthest 30 = .ok (.lload_n 3, 1) := by decide +kernel
theorem dX5_farthest_31 : decode cX5_farthest 31 = .ok (.aload_n 0, 1) := by decide +kernel
theorem dX5_farthest_32 : decode cX5_farthest 32 = .ok (.getfield 17, 3) := by decide +kernel
theorem dX5_farthest_35 : decode cX5_farthest 35 = .ok (.iload 7, 2) := by decide +kernel
theorem dX5_farthest_37 : decode cX5_farthest 37 = .ok (.iaload, 1) := by decide +kernel
theorem dX5_farthest_38 : decode cX5_farthest 38 = .ok (.i2l, 1) := by decide +kernel
theorem dX5_farthest_39 : decode cX5_farthest 39 = .ok (.lmul, 1) := by decide +kernel
theorem dX5_farthest_40 : decode cX5_farthest 40 = .ok (.ladd, 1) := by decide +kernel
theorem dX5_farthest_41 : decode cX5_farthest 41 = .ok (.lload 5, 2) := by decide +kernel
theorem dX5_farthest_43 : decode cX5_farthest 43 = .ok (.lcmp, 1) := by decide +kernel
theorem dX5_farthest_44 : decode cX5_farthest 44 = .ok (.ifCond .ne 6, 3) := by decide +kernel
theorem dX5_farthest_47 : decode cX5_farthest 47 = .ok (.iload 7, 2) := by decide +kernel
theorem dX5_farthest_49 : decode cX5_farthest 49 = .ok (.ireturn, 1) := by decide +kernel
theorem dX5_farthest_50 : decode cX5_farthest 50 = .ok (.iinc 7 1, 3) := by decide +kernel
theorem dX5_farthest_53 : decode cX5_farthest 53 = .ok (.goto (-42), 3) := by decide +kernel
theorem dX5_farthest_56 : decode cX5_farthest 56 = .ok (.iconst (-1), 1) := by decide +kernel
theorem dX5_farthest_57 : decode cX5_farthest 57 = .ok (.ireturn, 1) := by decide +kernel
theorem dX5_most_0 : decode cX5_most 0 = .ok (.lload_n 1, 1) := by decide +kernel
theorem dX5_most_1 : decode cX5_most 1 = .ok (.aload_n 0, 1) := by decide +kernel
theorem dX5_most_2 : decode cX5_most 2 = .ok (.getfield 13, 3) := by decide +kernel
theorem dX5_most_5 : decode cX5_most 5 = .ok (.iconst 0, 1) := by decide +kernel
theorem dX5_most_6 : decode cX5_most 6 = .ok (.iaload, 1) := by decide +kernel
theorem dX5_most_7 : decode cX5_most 7 = .ok (.i2l, 1) := by decide +kernel
theorem dX5_most_8 : decode cX5_most 8 = .ok (.lmul, 1) := by decide +kernel
theorem dX5_most_9 : decode cX5_most 9 = .ok (.lload_n 3, 1) := by decide +kernel
theorem dX5_most_10 : decode cX5_most 10 = .ok (.aload_n 0, 1) := by decide +kernel
theorem dX5_most_11 : decode cX5_most 11 = .ok (.getfield 17, 3) := by decide +kernel
theorem dX5_most_14 : decode cX5_most 14 = .ok (.iconst 0, 1) := by decide +kernel
theorem dX5_most_15 : decode cX5_most 15 = .ok (.iaload, 1) := by decide +kernel
theorem dX5_most_16 : decode cX5_most 16 = .ok (.i2l, 1) := by decide +kernel
theorem dX5_most_17 : decode cX5_most 17 = .ok (.lmul, 1) := by decide +kernel
theorem dX5_most_18 : decode cX5_most 18 = .ok (.ladd, 1) := by decide +kernel
theorem dX5_most_19 : decode cX5_most 19 = .ok (.lstore 5, 2) := by decide +kernel
theorem dX5_most_21 : decode cX5_most 21 = .ok (.iconst 1, 1) := by decide +kernel
theorem dX5_most_22 : decode cX5_most 22 = .ok (.istore 7, 2) := by decide +kernel
theorem dX5_most_24 : decode cX5_most 24 = .ok (.iload 7, 2) := by decide +kernel
theorem dX5_most_26 : decode cX5_most 26 = .ok (.aload_n 0, 1) := by decide +kernel
theorem dX5_most_27 : decode cX5_most 27 = .ok (.getfield 23, 3) := by decide +kernel
theorem dX5_most_30 : decode cX5_most 30 = .ok (.if_icmp .ge 37, 3) := by decide +kernel
theorem dX5_most_33 : decode cX5_most 33 = .ok (.lload 5, 2) := by decide +kernel
theorem dX5_most_35 : decode cX5_most 35 = .ok (.lload_n 1, 1) := by decide +kernel
theorem dX5_most_36 : decode cX5_most 36 = .ok (.aload_n 0, 1) := by decide +kernel
theorem dX5_most_37 : decode cX5_most 37 = .ok (.getfield 13, 3) := by decide +kernel
theorem dX5_most_40 : decode cX5_most 40 = .ok (.iload 7, 2) := by decide +kernel
theorem dX5_most_42 : decode cX5_most 42 = .ok (.iaload, 1) := by decide +kernel
theorem dX5_most_43 : decode cX5_most 43 = .ok (.i2l, 1) := by decide +kernel
theorem dX5_most_44 : decode cX5_most 44 = .ok (.lmul, 1) := by decide +kernel
theorem dX5_most_45 : decode cX5_most 45 = .ok (.lload_n 3, 1) := by decide +kernel
theorem dX5_most_46 : decode cX5_most 46 = .ok (.aload_n 0, 1) := by decide +kernel
theorem dX5_most_47 : decode cX5_most 47 = .ok (.getfield 17, 3) := by decide +kernel
theorem dX5_most_50 : decode cX5_most 50 = .ok (.iload 7, 2) := by decide +kernel
theorem dX5_most_52 : decode cX5_most 52 = .ok (.iaload, 1) := by decide +kernel
theorem dX5_most_53 : decode cX5_most 53 = .ok (.i2l, 1) := by decide +kernel
theorem dX5_most_54 : decode cX5_most 54 = .ok (.lmul, 1) := by decide +kernel
theorem dX5_most_55 : decode cX5_most 55 = .ok (.ladd, 1) := by decide +kernel
theorem dX5_most_56 : decode cX5_most 56 = .ok (.invokestatic 60, 3) := by decide +kernel
theorem dX5_most_59 : decode cX5_most 59 = .ok (.lstore 5, 2) := by decide +kernel
theorem dX5_most_61 : decode cX5_most 61 = .ok (.iinc 7 1, 3) := by decide +kernel
theorem dX5_most_64 : decode cX5_most 64 = .ok (.goto (-40), 3) := by decide +kernel
theorem dX5_most_67 : decode cX5_most 67 = .ok (.lload 5, 2) := by decide +kernel
theorem dX5_most_69 : decode cX5_most 69 = .ok (.lreturn, 1) := by decide +kernel
theorem dX5_least_0 : decode cX5_least 0 = .ok (.lload_n 1, 1) := by decide +kernel
theorem dX5_least_1 : decode cX5_least 1 = .ok (.aload_n 0, 1) := by decide +kernel
theorem dX5_least_2 : decode cX5_least 2 = .ok (.getfield 13, 3) := by decide +kernel
theorem dX5_least_5 : decode cX5_least 5 = .ok (.iconst 0, 1) := by decide +kernel
theorem dX5_least_6 : decode cX5_least 6 = .ok (.iaload, 1) := by decide +kernel
theorem dX5_least_7 : decode cX5_least 7 = .ok (.i2l, 1) := by decide +kernel
theorem dX5_least_8 : decode cX5_least 8 = .ok (.lmul, 1) := by decide +kernel
theorem dX5_least_9 : decode cX5_least 9 = .ok (.lload_n 3, 1) := by decide +kernel
theorem dX5_least_10 : decode cX5_least 10 = .ok (.aload_n 0, 1) := by decide +kernel
theorem dX5_least_11 : decode cX5_least 11 = .ok (.getfield 17, 3) := by decide +kernel
theorem dX5_least_14 : decode cX5_least 14 = .ok (.iconst 0, 1) := by decide +kernel
theorem dX5_least_15 : decode cX5_least 15 = .ok (.iaload, 1) := by decide +kernel
theorem dX5_least_16 : decode cX5_least 16 = .ok (.i2l, 1) := by decide +kernel
theorem dX5_least_17 : decode cX5_least 17 = .ok (.lmul, 1) := by decide +kernel
theorem dX5_least_18 : decode cX5_least 18 = .ok (.ladd, 1) := by decide +kernel
theorem dX5_least_19 : decode cX5_least 19 = .ok (.lstore 5, 2) := by decide +kernel
theorem dX5_least_21 : decode cX5_least 21 = .ok (.iconst 1, 1) := by decide +kernel
theorem dX5_least_22 : decode cX5_least 22 = .ok (.istore 7, 2) := by decide +kernel
theorem dX5_least_24 : decode cX5_least 24 = .ok (.iload 7, 2) := by decide +kernel
theorem dX5_least_26 : decode cX5_least 26 = .ok (.aload_n 0, 1) := by decide +kernel
theorem dX5_least_27 : decode cX5_least 27 = .ok (.getfield 23, 3) := by decide +kernel
theorem dX5_least_30 : decode cX5_least 30 = .ok (.if_icmp .ge 37, 3) := by decide +kernel
theorem dX5_least_33 : decode cX5_least 33 = .ok (.lload 5, 2) := by decide +kernel
theorem dX5_least_35 : decode cX5_least 35 = .ok (.lload_n 1, 1) := by decide +kernel
theorem dX5_least_36 : decode cX5_least 36 = .ok (.aload_n 0, 1) := by decide +kernel
theorem dX5_least_37 : decode cX5_least 37 = .ok (.getfield 13, 3) := by decide +kernel
theorem dX5_least_40 : decode cX5_least 40 = .ok (.iload 7, 2) := by decide +kernel
theorem dX5_least_42 : decode cX5_least 42 = .ok (.iaload, 1) := by decide +kernel
theorem dX5_least_43 : decode cX5_least 43 = .ok (.i2l, 1) := by decide +kernel
theorem dX5_least_44 : decode cX5_least 44 = .ok (.lmul, 1) := by decide +kernel
theorem dX5_least_45 : decode cX5_least 45 = .ok (.lload_n 3, 1) := by decide +kernel
theorem dX5_least_46 : decode cX5_least 46 = .ok (.aload_n 0, 1) := by decide +kernel
theorem dX5_least_47 : decode cX5_least 47 = .ok (.getfield 17, 3) := by decide +kernel
theorem dX5_least_50 : decode cX5_least 50 = .ok (.iload 7, 2) := by decide +kernel
theorem dX5_least_52 : decode cX5_least 52 = .ok (.iaload, 1) := by decide +kernel
theorem dX5_least_53 : decode cX5_least 53 = .ok (.i2l, 1) := by decide +kernel
theorem dX5_least_54 : decode cX5_least 54 = .ok (.lmul, 1) := by decide +kernel
theorem dX5_least_55 : decode cX5_least 55 = .ok (.ladd, 1) := by decide +kernel
theorem dX5_least_56 : decode cX5_least 56 = .ok (.invokestatic 89, 3) := by decide +kernel
theorem dX5_least_59 : decode cX5_least 59 = .ok (.lstore 5, 2) := by decide +kernel
theorem dX5_least_61 : decode cX5_least 61 = .ok (.iinc 7 1, 3) := by decide +kernel
theorem dX5_least_64 : decode cX5_least 64 = .ok (.goto (-40), 3) := by decide +kernel
theorem dX5_least_67 : decode cX5_least 67 = .ok (.lload 5, 2) := by decide +kernel
theorem dX5_least_69 : decode cX5_least 69 = .ok (.lreturn, 1) := by decide +kernel
theorem dX5_touches_0 : decode cX5_touches 0 = .ok (.aload_n 0, 1) := by decide +kernel
theorem dX5_touches_1 : decode cX5_touches 1 = .ok (.aload_n 1, 1) := by decide +kernel
theorem dX5_touches_2 : decode cX5_touches 2 = .ok (.lconst 1, 1) := by decide +kernel
theorem dX5_touches_3 : decode cX5_touches 3 = .ok (.lconst 0, 1) := by decide +kernel
theorem dX5_touches_4 : decode cX5_touches 4 = .ok (.invokevirtual 92, 3) := by decide +kernel
theorem dX5_touches_7 : decode cX5_touches 7 = .ok (.ifCond .ne 33, 3) := by decide +kernel
theorem dX5_touches_10 : decode cX5_touches 10 = .ok (.aload_n 0, 1) := by decide +kernel
theorem dX5_touches_11 : decode cX5_touches 11 = .ok (.aload_n 1, 1) := by decide +kernel
theorem dX5_touches_12 : decode cX5_touches 12 = .ok (.lconst 0, 1) := by decide +kernel
theorem dX5_touches_13 : decode cX5_touches 13 = .ok (.lconst 1, 1) := by decide +kernel
theorem dX5_touches_14 : decode cX5_touches 14 = .ok (.invokevirtual 92, 3) := by decide +kernel
theorem dX5_touches_17 : decode cX5_touches 17 = .ok (.ifCond .ne 23, 3) := by decide +kernel
theorem dX5_touches_20 : decode cX5_touches 20 = .ok (.aload_n 0, 1) := by decide +kernel
theorem dX5_touches_21 : decode cX5_touches 21 = .ok (.aload_n 1, 1) := by decide +kernel
theorem dX5_touches_22 : decode cX5_touches 22 = .ok (.invokevirtual 96, 3) := by decide +kernel
theorem dX5_touches_25 : decode cX5_touches 25 = .ok (.ifCond .ne 15, 3) := by decide +kernel
theorem dX5_touches_28 : decode cX5_touches 28 = .ok (.aload_n 1, 1) := by decide +kernel
theorem dX5_touches_29 : decode cX5_touches 29 = .ok (.aload_n 0, 1) := by decide +kernel
theorem dX5_touches_30 : decode cX5_touches 30 = .ok (.invokevirtual 96, 3) := by decide +kernel
theorem dX5_touches_33 : decode cX5_touches 33 = .ok (.ifCond .ne 7, 3) := by decide +kernel
theorem dX5_touches_36 : decode cX5_touches 36 = .ok (.iconst 1, 1) := by decide +kernel
theorem dX5_touches_37 : decode cX5_touches 37 = .ok (.goto 4, 3) := by decide +kernel
theorem dX5_touches_40 : decode cX5_touches 40 = .ok (.iconst 0, 1) := by decide +kernel
theorem dX5_touches_41 : decode cX5_touches 41 = .ok (.ireturn, 1) := by decide +kernel
theorem dX5_isApartBySides_0 : decode cX5_isApartBySides 0 = .ok (.iconst 0, 1) := by decide +kernel
theorem dX5_isApartBySides_1 : decode cX5_isApartBySides 1 = .ok (.istore_n 2, 1) := by decide +kernel
theorem dX5_isApartBySides_2 : decode cX5_isApartBySides 2 = .ok (.iload_n 2, 1) := by decide +kernel
theorem dX5_isApartBySides_3 : decode cX5_isApartBySides 3 = .ok (.aload_n 0, 1) := by decide +kernel
theorem dX5_isApartBySides_4 : decode cX5_isApartBySides 4 = .ok (.getfield 23, 3) := by decide +kernel
theorem dX5_isApartBySides_7 : decode cX5_isApartBySides 7 = .ok (.if_icmp .ge 48, 3) := by decide +kernel
theorem dX5_isApartBySides_10 : decode cX5_isApartBySides 10 = .ok (.aload_n 0, 1) := by decide +kernel
theorem dX5_isApartBySides_11 : decode cX5_isApartBySides 11 = .ok (.aload_n 1, 1) := by decide +kernel
theorem dX5_isApartBySides_12 : decode cX5_isApartBySides 12 = .ok (.aload_n 0, 1) := by decide +kernel
theorem dX5_isApartBySides_13 : decode cX5_isApartBySides 13 = .ok (.iload_n 2, 1) := by decide +kernel
theorem dX5_isApartBySides_14 : decode cX5_isApartBySides 14 = .ok (.invokevirtual 37, 3) := by decide +kernel
theorem dX5_isApartBySides_17 : decode cX5_isApartBySides 17 = .ok (.aload_n 0, 1) := by decide +kernel
theorem dX5_isApartBySides_18 : decode cX5_isApartBySides 18 = .ok (.iload_n 2, 1) := by decide +kernel
theorem dX5_isApartBySides_19 : decode cX5_isApartBySides 19 = .ok (.invokevirtual 41, 3) := by decide +kernel
theorem dX5_isApartBySides_22 : decode cX5_isApartBySides 22 = .ok (.invokevirtual 92, 3) := by decide +kernel
theorem dX5_isApartBySides_25 : decode cX5_isApartBySides 25 = .ok (.ifCond .ne 22, 3) := by decide +kernel
theorem dX5_isApartBySides_28 : decode cX5_isApartBySides 28 = .ok (.aload_n 0, 1) := by decide +kernel
theorem dX5_isApartBySides_29 : decode cX5_isApartBySides 29 = .ok (.aload_n 1, 1) := by decide +kernel
theorem dX5_isApartBySides_30 : decode cX5_isApartBySides 30 = .ok (.aload_n 0, 1) := by decide +kernel
theorem dX5_isApartBySides_31 : decode cX5_isApartBySides 31 = .ok (.iload_n 2, 1) := by decide +kernel
theorem dX5_isApartBySides_32 : decode cX5_isApartBySides 32 = .ok (.invokevirtual 41, 3) := by decide +kernel
theorem dX5_isApartBySides_35 : decode cX5_isApartBySides 35 = .ok (.lneg, 1) := by decide +kernel
theorem dX5_isApartBySides_36 : decode cX5_isApartBySides 36 = .ok (.aload_n 0, 1) := by decide +kernel
theorem dX5_isApartBySides_37 : decode cX5_isApartBySides 37 = .ok (.iload_n 2, 1) := by decide +kernel
theorem dX5_isApartBySides_38 : decode cX5_isApartBySides 38 = .ok (.invokevirtual 37, 3) := by decide +kernel
theorem dX5_isApartBySides_41 : decode cX5_isApartBySides 41 = .ok (.invokevirtual 92, 3) := by decide +kernel
theorem dX5_isApartBySides_44 : decode cX5_isApartBySides 44 = .ok (.ifCond .eq 5, 3) := by decide +kernel
theorem dX5_isApartBySides_47 : decode cX5_isApartBySides 47 = .ok (.iconst 1, 1) := by decide +kernel
theorem dX5_isApartBySides_48 : decode cX5_isApartBySides 48 = .ok (.ireturn, 1) := by decide +kernel
theorem dX5_isApartBySides_49 : decode cX5_isApartBySides 49 = .ok (.iinc 2 1, 3) := by decide +kernel
theorem dX5_isApartBySides_52 : decode cX5_isApartBySides 52 = .ok (.goto (-50), 3) := by decide +kernel
theorem dX5_isApartBySides_55 : decode cX5_isApartBySides 55 = .ok (.iconst 0, 1) := by decide +kernel
theorem dX5_isApartBySides_56 : decode cX5_isApartBySides 56 = .ok (.ireturn, 1) := by decide +kernel
theorem dX5_isApart_0 : decode cX5_isApart 0 = .ok (.aload_n 0, 1) := by decide +kernel
theorem dX5_isApart_1 : decode cX5_isApart 1 = .ok (.lload_n 2, 1) := by decide +kernel
theorem dX5_isApart_2 : decode cX5_isApart 2 = .ok (.lload 4, 2) := by decide +kernel
theorem dX5_isApart_4 : decode cX5_isApart 4 = .ok (.invokevirtual 83, 3) := by decide +kernel
theorem dX5_isApart_7 : decode cX5_isApart 7 = .ok (.aload_n 1, 1) := by decide +kernel
theorem dX5_isApart_8 : decode cX5_isApart 8 = .ok (.lload_n 2, 1) := by decide +kernel
theorem dX5_isApart_9 : decode cX5_isApart 9 = .ok (.lload 4, 2) := by decide +kernel
theorem dX5_isApart_11 : decode cX5_isApart 11 = .ok (.invokevirtual 86, 3) := by decide +kernel
theorem dX5_isApart_14 : decode cX5_isApart 14 = .ok (.lcmp, 1) := by decide +kernel
theorem dX5_isApart_15 : decode cX5_isApart 15 = .ok (.ifCond .lt 21, 3) := by decide +kernel
theorem dX5_isApart_18 : decode cX5_isApart 18 = .ok (.aload_n 1, 1) := by decide +kernel
theorem dX5_isApart_19 : decode cX5_isApart 19 = .ok (.lload_n 2, 1) := by decide +kernel
theorem dX5_isApart_20 : decode cX5_isApart 20 = .ok (.lload 4, 2) := by decide +kernel
theorem dX5_isApart_22 : decode cX5_isApart 22 = .ok (.invokevirtual 83, 3) := by decide +kernel
theorem dX5_isApart_25 : decode cX5_isApart 25 = .ok (.aload_n 0, 1) := by decide +kernel
theorem dX5_isApart_26 : decode cX5_isApart 26 = .ok (.lload_n 2, 1) := by decide +kernel
theorem dX5_isApart_27 : decode cX5_isApart 27 = .ok (.lload 4, 2) := by decide +kernel
theorem dX5_isApart_29 : decode cX5_isApart 29 = .ok (.invokevirtual 86, 3) := by decide +kernel
theorem dX5_isApart_32 : decode cX5_isApart 32 = .ok (.lcmp, 1) := by decide +kernel
theorem dX5_isApart_33 : decode cX5_isApart 33 = .ok (.ifCond .ge 7, 3) := by decide +kernel
theorem dX5_isApart_36 : decode cX5_isApart 36 = .ok (.iconst 1, 1) := by decide +kernel
theorem dX5_isApart_37 : decode cX5_isApart 37 = .ok (.goto 4, 3) := by decide +kernel
theorem dX5_isApart_40 : decode cX5_isApart 40 = .ok (.iconst 0, 1) := by decide +kernel
theorem dX5_isApart_41 : decode cX5_isApart 41 = .ok (.ireturn, 1) := by decide +kernel
theorem dX5_wholeOnRim_0 : decode cX5_wholeOnRim 0 = .ok (.aload_n 0, 1) := by decide +kernel
theorem dX5_wholeOnRim_1 : decode cX5_wholeOnRim 1 = .ok (.getfield 23, 3) := by decide +kernel
theorem dX5_wholeOnRim_4 : decode cX5_wholeOnRim 4 = .ok (.iconst 1, 1) := by decide +kernel
theorem dX5_wholeOnRim_5 : decode cX5_wholeOnRim 5 = .ok (.if_icmp .ne 5, 3) := by decide +kernel
theorem dX5_wholeOnRim_8 : decode cX5_wholeOnRim 8 = .ok (.lconst 1, 1) := by decide +kernel
theorem dX5_wholeOnRim_9 : decode cX5_wholeOnRim 9 = .ok (.lreturn, 1) := by decide +kernel
theorem dX5_wholeOnRim_10 : decode cX5_wholeOnRim 10 = .ok (.aload_n 0, 1) := by decide +kernel
theorem dX5_wholeOnRim_11 : decode cX5_wholeOnRim 11 = .ok (.getfield 23, 3) := by decide +kernel
theorem dX5_wholeOnRim_14 : decode cX5_wholeOnRim 14 = .ok (.iconst 2, 1) := by decide +kernel
theorem dX5_wholeOnRim_15 : decode cX5_wholeOnRim 15 = .ok (.if_icmp .ne 19, 3) := by decide +kernel
theorem dX5_wholeOnRim_18 : decode cX5_wholeOnRim 18 = .ok (.aload_n 0, 1) := by decide +kernel
theorem dX5_wholeOnRim_19 : decode cX5_wholeOnRim 19 = .ok (.iconst 0, 1) := by decide +kernel
theorem dX5_wholeOnRim_20 : decode cX5_wholeOnRim 20 = .ok (.invokevirtual 37, 3) := by decide +kernel
theorem dX5_wholeOnRim_23 : decode cX5_wholeOnRim 23 = .ok (.aload_n 0, 1) := by decide +kernel
theorem dX5_wholeOnRim_24 : decode cX5_wholeOnRim 24 = .ok (.iconst 0, 1) := by decide +kernel
theorem dX5_wholeOnRim_25 : decode cX5_wholeOnRim 25 = .ok (.invokevirtual 41, 3) := by decide +kernel
theorem dX5_wholeOnRim_28 : decode cX5_wholeOnRim 28 = .ok (.invokestatic 100, 3) := by decide +kernel
theorem dX5_wholeOnRim_31 : decode cX5_wholeOnRim 31 = .ok (.lconst 1, 1) := by decide +kernel
theorem dX5_wholeOnRim_32 : decode cX5_wholeOnRim 32 = .ok (.ladd, 1) := by decide +kernel
theorem dX5_wholeOnRim_33 : decode cX5_wholeOnRim 33 = .ok (.lreturn, 1) := by decide +kernel
theorem dX5_wholeOnRim_34 : decode cX5_wholeOnRim 34 = .ok (.lconst 0, 1) := by decide +kernel
theorem dX5_wholeOnRim_35 : decode cX5_wholeOnRim 35 = .ok (.lstore_n 1, 1) := by decide +kernel
theorem dX5_wholeOnRim_36 : decode cX5_wholeOnRim 36 = .ok (.iconst 0, 1) := by decide +kernel
theorem dX5_wholeOnRim_37 : decode cX5_wholeOnRim 37 = .ok (.istore_n 3, 1) := by decide +kernel
theorem dX5_wholeOnRim_38 : decode cX5_wholeOnRim 38 = .ok (.iload_n 3, 1) := by decide +kernel
theorem dX5_wholeOnRim_39 : decode cX5_wholeOnRim 39 = .ok (.aload_n 0, 1) := by decide +kernel
theorem dX5_wholeOnRim_40 : decode cX5_wholeOnRim 40 = .ok (.getfield 23, 3) := by decide +kernel
theorem dX5_wholeOnRim_43 : decode cX5_wholeOnRim 43 = .ok (.if_icmp .ge 25, 3) := by decide +kernel
theorem dX5_wholeOnRim_46 : decode cX5_wholeOnRim 46 = .ok (.lload_n 1, 1) := by decide +kernel
theorem dX5_wholeOnRim_47 : decode cX5_wholeOnRim 47 = .ok (.aload_n 0, 1) := by decide +kernel
theorem dX5_wholeOnRim_48 : decode cX5_wholeOnRim 48 = .ok (.iload_n 3, 1) := by decide +kernel
theorem dX5_wholeOnRim_49 : decode cX5_wholeOnRim 49 = .ok (.invokevirtual 37, 3) := by decide +kernel
theorem dX5_wholeOnRim_52 : decode cX5_wholeOnRim 52 = .ok (.aload_n 0, 1) := by decide +kernel
theorem dX5_wholeOnRim_53 : decode cX5_wholeOnRim 53 = .ok (.iload_n 3, 1) := by decide +kernel
theorem dX5_wholeOnRim_54 : decode cX5_wholeOnRim 54 = .ok (.invokevirtual 41, 3) := by decide +kernel
theorem dX5_wholeOnRim_57 : decode cX5_wholeOnRim 57 = .ok (.invokestatic 100, 3) := by decide +kernel
theorem dX5_wholeOnRim_60 : decode cX5_wholeOnRim 60 = .ok (.ladd, 1) := by decide +kernel
theorem dX5_wholeOnRim_61 : decode cX5_wholeOnRim 61 = .ok (.lstore_n 1, 1) := by decide +kernel
theorem dX5_wholeOnRim_62 : decode cX5_wholeOnRim 62 = .ok (.iinc 3 1, 3) := by decide +kernel
theorem dX5_wholeOnRim_65 : decode cX5_wholeOnRim 65 = .ok (.goto (-27), 3) := by decide +kernel
theorem dX5_wholeOnRim_68 : decode cX5_wholeOnRim 68 = .ok (.lload_n 1, 1) := by decide +kernel
theorem dX5_wholeOnRim_69 : decode cX5_wholeOnRim 69 = .ok (.lreturn, 1) := by decide +kernel
theorem dX5_wholeWithin_0 : decode cX5_wholeWithin 0 = .ok (.aload_n 0, 1) := by decide +kernel
theorem dX5_wholeWithin_1 : decode cX5_wholeWithin 1 = .ok (.getfield 23, 3) := by decide +kernel
theorem dX5_wholeWithin_4 : decode cX5_wholeWithin 4 = .ok (.iconst 3, 1) := by decide +kernel
theorem dX5_wholeWithin_5 : decode cX5_wholeWithin 5 = .ok (.if_icmp .ge 7, 3) := by decide +kernel
theorem dX5_wholeWithin_8 : decode cX5_wholeWithin 8 = .ok (.lconst 0, 1) := by decide +kernel
theorem dX5_wholeWithin_9 : decode cX5_wholeWithin 9 = .ok (.goto 20, 3) := by decide +kernel
theorem dX5_wholeWithin_12 : decode cX5_wholeWithin 12 = .ok (.aload_n 0, 1) := by decide +kernel
theorem dX5_wholeWithin_13 : decode cX5_wholeWithin 13 = .ok (.invokevirtual 103, 3) := by decide +kernel
theorem dX5_wholeWithin_16 : decode cX5_wholeWithin 16 = .ok (.aload_n 0, 1) := by decide +kernel
theorem dX5_wholeWithin_17 : decode cX5_wholeWithin 17 = .ok (.invokevirtual 107, 3) := by decide +kernel
theorem dX5_wholeWithin_20 : decode cX5_wholeWithin 20 = .ok (.lsub, 1) := by decide +kernel
theorem dX5_wholeWithin_21 : decode cX5_wholeWithin 21 = .ok (.ldc2_w 110, 3) := by decide +kernel
theorem dX5_wholeWithin_24 : decode cX5_wholeWithin 24 = .ok (.ladd, 1) := by decide +kernel
theorem dX5_wholeWithin_25 : decode cX5_wholeWithin 25 = .ok (.ldc2_w 110, 3) := by decide +kernel
theorem dX5_wholeWithin_28 : decode cX5_wholeWithin 28 = .ok (.ldiv, 1) := by decide +kernel
theorem dX5_wholeWithin_29 : decode cX5_wholeWithin 29 = .ok (.lreturn, 1) := by decide +kernel
theorem dX5_sidesSeen_0 : decode cX5_sidesSeen 0 = .ok (.iconst 0, 1) := by decide +kernel
theorem dX5_sidesSeen_1 : decode cX5_sidesSeen 1 = .ok (.istore_n 3, 1) := by decide +kernel
theorem dX5_sidesSeen_2 : decode cX5_sidesSeen 2 = .ok (.iconst 0, 1) := by decide +kernel
theorem dX5_sidesSeen_3 : decode cX5_sidesSeen 3 = .ok (.istore 4, 2) := by decide +kernel
theorem dX5_sidesSeen_5 : decode cX5_sidesSeen 5 = .ok (.iload 4, 2) := by decide +kernel
theorem dX5_sidesSeen_7 : decode cX5_sidesSeen 7 = .ok (.aload_n 0, 1) := by decide +kernel
theorem dX5_sidesSeen_8 : decode cX5_sidesSeen 8 = .ok (.getfield 23, 3) := by decide +kernel
theorem dX5_sidesSeen_11 : decode cX5_sidesSeen 11 = .ok (.if_icmp .ge 25, 3) := by decide +kernel
theorem dX5_sidesSeen_14 : decode cX5_sidesSeen 14 = .ok (.aload_n 0, 1) := by decide +kernel
theorem dX5_sidesSeen_15 : decode cX5_sidesSeen 15 = .ok (.iload 4, 2) := by decide +kernel
theorem dX5_sidesSeen_17 : decode cX5_sidesSeen 17 = .ok (.iload_n 1, 1) := by decide +kernel
theorem dX5_sidesSeen_18 : decode cX5_sidesSeen 18 = .ok (.iload_n 2, 1) := by decide +kernel
theorem dX5_sidesSeen_19 : decode cX5_sidesSeen 19 = .ok (.invokevirtual 53, 3) := by decide +kernel
theorem dX5_sidesSeen_22 : decode cX5_sidesSeen 22 = .ok (.lconst 0, 1) := by decide +kernel
theorem dX5_sidesSeen_23 : decode cX5_sidesSeen 23 = .ok (.lcmp, 1) := by decide +kernel
theorem dX5_sidesSeen_24 : decode cX5_sidesSeen 24 = .ok (.ifCond .ge 6, 3) := by decide +kernel
theorem dX5_sidesSeen_27 : decode cX5_sidesSeen 27 = .ok (.iinc 3 1, 3) := by decide +kernel
theorem dX5_sidesSeen_30 : decode cX5_sidesSeen 30 = .ok (.iinc 4 1, 3) := by decide +kernel
theorem dX5_sidesSeen_33 : decode cX5_sidesSeen 33 = .ok (.goto (-28), 3) := by decide +kernel
theorem dX5_sidesSeen_36 : decode cX5_sidesSeen 36 = .ok (.iload_n 3, 1) := by decide +kernel
theorem dX5_sidesSeen_37 : decode cX5_sidesSeen 37 = .ok (.ireturn, 1) := by decide +kernel
theorem dX5_seenFrom_0 : decode cX5_seenFrom 0 = .ok (.iconst 0, 1) := by decide +kernel
theorem dX5_seenFrom_1 : decode cX5_seenFrom 1 = .ok (.istore_n 3, 1) := by decide +kernel
theorem dX5_seenFrom_2 : decode cX5_seenFrom 2 = .ok (.iload_n 3, 1) := by decide +kernel
theorem dX5_seenFrom_3 : decode cX5_seenFrom 3 = .ok (.aload_n 0, 1) := by decide +kernel
theorem dX5_seenFrom_4 : decode cX5_seenFrom 4 = .ok (.getfield 23, 3) := by decide +kernel
theorem dX5_seenFrom_7 : decode cX5_seenFrom 7 = .ok (.if_icmp .ge 43, 3) := by decide +kernel
theorem dX5_seenFrom_10 : decode cX5_seenFrom 10 = .ok (.aload_n 0, 1) := by decide +kernel
theorem dX5_seenFrom_11 : decode cX5_seenFrom 11 = .ok (.iload_n 3, 1) := by decide +kernel
theorem dX5_seenFrom_12 : decode cX5_seenFrom 12 = .ok (.iload_n 1, 1) := by decide +kernel
theorem dX5_seenFrom_13 : decode cX5_seenFrom 13 = .ok (.iload_n 2, 1) := by decide +kernel
theorem dX5_seenFrom_14 : decode cX5_seenFrom 14 = .ok (.invokevirtual 53, 3) := by decide +kernel
theorem dX5_seenFrom_17 : decode cX5_seenFrom 17 = .ok (.lconst 0, 1) := by decide +kernel
theorem dX5_seenFrom_18 : decode cX5_seenFrom 18 = .ok (.lcmp, 1) := by decide +kernel
theorem dX5_seenFrom_19 : decode cX5_seenFrom 19 = .ok (.ifCond .ge 25, 3) := by decide +kernel
theorem dX5_seenFrom_22 : decode cX5_seenFrom 22 = .ok (.aload_n 0, 1) := by decide +kernel
theorem dX5_seenFrom_23 : decode cX5_seenFrom 23 = .ok (.aload_n 0, 1) := by decide +kernel
theorem dX5_seenFrom_24 : decode cX5_seenFrom 24 = .ok (.iload_n 3, 1) := by decide +kernel
theorem dX5_seenFrom_25 : decode cX5_seenFrom 25 = .ok (.invokevirtual 112, 3) := by decide +kernel
theorem dX5_seenFrom_28 : decode cX5_seenFrom 28 = .ok (.iload_n 1, 1) := by decide +kernel
theorem dX5_seenFrom_29 : decode cX5_seenFrom 29 = .ok (.iload_n 2, 1) := by decide +kernel
theorem dX5_seenFrom_30 : decode cX5_seenFrom 30 = .ok (.invokevirtual 53, 3) := by decide +kernel
theorem dX5_seenFrom_33 : decode cX5_seenFrom 33 = .ok (.lconst 0, 1) := by decide +kernel
theorem dX5_seenFrom_34 : decode cX5_seenFrom 34 = .ok (.lcmp, 1) := by decide +kernel
theorem dX5_seenFrom_35 : decode cX5_seenFrom 35 = .ok (.ifCond .lt 9, 3) := by decide +kernel
theorem dX5_seenFrom_38 : decode cX5_seenFrom 38 = .ok (.aload_n 0, 1) := by decide +kernel
theorem dX5_seenFrom_39 : decode cX5_seenFrom 39 = .ok (.iload_n 3, 1) := by decide +kernel
theorem dX5_seenFrom_40 : decode cX5_seenFrom 40 = .ok (.invokevirtual 82, 3) := by decide +kernel
theorem dX5_seenFrom_43 : decode cX5_seenFrom 43 = .ok (.ireturn, 1) := by decide +kernel
theorem dX5_seenFrom_44 : decode cX5_seenFrom 44 = .ok (.iinc 3 1, 3) := by decide +kernel
theorem dX5_seenFrom_47 : decode cX5_seenFrom 47 = .ok (.goto (-45), 3) := by decide +kernel
theorem dX5_seenFrom_50 : decode cX5_seenFrom 50 = .ok (.iconst (-1), 1) := by decide +kernel
theorem dX5_seenFrom_51 : decode cX5_seenFrom 51 = .ok (.ireturn, 1) := by decide +kernel
theorem dX5_seenTo_0 : decode cX5_seenTo 0 = .ok (.iconst 0, 1) := by decide +kernel
theorem dX5_seenTo_1 : decode cX5_seenTo 1 = .ok (.istore_n 3, 1) := by decide +kernel
theorem dX5_seenTo_2 : decode cX5_seenTo 2 = .ok (.iload_n 3, 1) := by decide +kernel
theorem dX5_seenTo_3 : decode cX5_seenTo 3 = .ok (.aload_n 0, 1) := by decide +kernel
theorem dX5_seenTo_4 : decode cX5_seenTo 4 = .ok (.getfield 23, 3) := by decide +kernel
theorem dX5_seenTo_7 : decode cX5_seenTo 7 = .ok (.if_icmp .ge 43, 3) := by decide +kernel
theorem dX5_seenTo_10 : decode cX5_seenTo 10 = .ok (.aload_n 0, 1) := by decide +kernel
theorem dX5_seenTo_11 : decode cX5_seenTo 11 = .ok (.iload_n 3, 1) := by decide +kernel
theorem dX5_seenTo_12 : decode cX5_seenTo 12 = .ok (.iload_n 1, 1) := by decide +kernel
theorem dX5_seenTo_13 : decode cX5_seenTo 13 = .ok (.iload_n 2, 1) := by decide +kernel
theorem dX5_seenTo_14 : decode cX5_seenTo 14 = .ok (.invokevirtual 53, 3) := by decide +kernel
theorem dX5_seenTo_17 : decode cX5_seenTo 17 = .ok (.lconst 0, 1) := by decide +kernel
theorem dX5_seenTo_18 : decode cX5_seenTo 18 = .ok (.lcmp, 1) := by decide +kernel
theorem dX5_seenTo_19 : decode cX5_seenTo 19 = .ok (.ifCond .lt 25, 3) := by decide +kernel
theorem dX5_seenTo_22 : decode cX5_seenTo 22 = .ok (.aload_n 0, 1) := by decide +kernel
theorem dX5_seenTo_23 : decode cX5_seenTo 23 = .ok (.aload_n 0, 1) := by decide +kernel
theorem dX5_seenTo_24 : decode cX5_seenTo 24 = .ok (.iload_n 3, 1) := by decide +kernel
theorem dX5_seenTo_25 : decode cX5_seenTo 25 = .ok (.invokevirtual 112, 3) := by decide +kernel
theorem dX5_seenTo_28 : decode cX5_seenTo 28 = .ok (.iload_n 1, 1) := by decide +kernel
theorem dX5_seenTo_29 : decode cX5_seenTo 29 = .ok (.iload_n 2, 1) := by decide +kernel
theorem dX5_seenTo_30 : decode cX5_seenTo 30 = .ok (.invokevirtual 53, 3) := by decide +kernel
theorem dX5_seenTo_33 : decode cX5_seenTo 33 = .ok (.lconst 0, 1) := by decide +kernel
theorem dX5_seenTo_34 : decode cX5_seenTo 34 = .ok (.lcmp, 1) := by decide +kernel
theorem dX5_seenTo_35 : decode cX5_seenTo 35 = .ok (.ifCond .ge 9, 3) := by decide +kernel
theorem dX5_seenTo_38 : decode cX5_seenTo 38 = .ok (.aload_n 0, 1) := by decide +kernel
theorem dX5_seenTo_39 : decode cX5_seenTo 39 = .ok (.iload_n 3, 1) := by decide +kernel
theorem dX5_seenTo_40 : decode cX5_seenTo 40 = .ok (.invokevirtual 82, 3) := by decide +kernel
theorem dX5_seenTo_43 : decode cX5_seenTo 43 = .ok (.ireturn, 1) := by decide +kernel
theorem dX5_seenTo_44 : decode cX5_seenTo 44 = .ok (.iinc 3 1, 3) := by decide +kernel
theorem dX5_seenTo_47 : decode cX5_seenTo 47 = .ok (.goto (-45), 3) := by decide +kernel
theorem dX5_seenTo_50 : decode cX5_seenTo 50 = .ok (.iconst (-1), 1) := by decide +kernel
theorem dX5_seenTo_51 : decode cX5_seenTo 51 = .ok (.ireturn, 1) := by decide +kernel
theorem dX6_init_0 : decode cX6_init 0 = .ok (.aload_n 0, 1) := by decide +kernel
theorem dX6_init_1 : decode cX6_init 1 = .ok (.invokespecial 3, 3) := by decide +kernel
theorem dX6_init_4 : decode cX6_init 4 = .ok (.aload_n 0, 1) := by decide +kernel
theorem dX6_init_5 : decode cX6_init 5 = .ok (.new 9, 3) := by decide +kernel
theorem dX6_init_8 : decode cX6_init 8 = .ok (.dup, 1) := by decide +kernel
theorem dX6_init_9 : decode cX6_init 9 = .ok (.invokespecial 11, 3) := by decide +kernel
theorem dX6_init_12 : decode cX6_init 12 = .ok (.putfield 12, 3) := by decide +kernel
theorem dX6_init_15 : decode cX6_init 15 = .ok (.aload_n 0, 1) := by decide +kernel
theorem dX6_init_16 : decode cX6_init 16 = .ok (.new 18, 3) := by decide +kernel
theorem dX6_init_19 : decode cX6_init 19 = .ok (.dup, 1) := by decide +kernel
theorem dX6_init_20 : decode cX6_init 20 = .ok (.invokespecial 20, 3) := by decide +kernel
theorem dX6_init_23 : decode cX6_init 23 = .ok (.putfield 21, 3) := by decide +kernel
theorem dX6_init_26 : decode cX6_init 26 = .ok (.aload_n 0, 1) := by decide +kernel
theorem dX6_init_27 : decode cX6_init 27 = .ok (.bipush 40, 2) := by decide +kernel
theorem dX6_init_29 : decode cX6_init 29 = .ok (.newarray .int, 2) := by decide +kernel
theorem dX6_init_31 : decode cX6_init 31 = .ok (.putfield 25, 3) := by decide +kernel
theorem dX6_init_34 : decode cX6_init 34 = .ok (.return_, 1) := by decide +kernel
theorem dX6_peel_0 : decode cX6_peel 0 = .ok (.iconst 0, 1) := by decide +kernel
theorem dX6_peel_1 : decode cX6_peel 1 = .ok (.istore_n 2, 1) := by decide +kernel
theorem dX6_peel_2 : decode cX6_peel 2 = .ok (.aload_n 0, 1) := by decide +kernel
theorem dX6_peel_3 : decode cX6_peel 3 = .ok (.getfield 12, 3) := by decide +kernel
theorem dX6_peel_6 : decode cX6_peel 6 = .ok (.aload_n 1, 1) := by decide +kernel
theorem dX6_peel_7 : decode cX6_peel 7 = .ok (.invokevirtual 29, 3) := by decide +kernel
theorem dX6_peel_10 : decode cX6_peel 10 = .ok (.iload_n 2, 1) := by decide +kernel
theorem dX6_peel_11 : decode cX6_peel 11 = .ok (.bipush 40, 2) := by decide +kernel
theorem dX6_peel_13 : decode cX6_peel 13 = .ok (.if_icmp .ge 62, 3) := by decide +kernel
theorem dX6_peel_16 : decode cX6_peel 16 = .ok (.aload_n 0, 1) := by decide +kernel
theorem dX6_peel_17 : decode cX6_peel 17 = .ok (.getfield 12, 3) := by decide +kernel
theorem dX6_peel_20 : decode cX6_peel 20 = .ok (.invokevirtual 33, 3) := by decide +kernel
theorem dX6_peel_23 : decode cX6_peel 23 = .ok (.ifCond .le 52, 3) := by decide +kernel
theorem dX6_peel_26 : decode cX6_peel 26 = .ok (.aload_n 0, 1) := by decide +kernel
theorem dX6_peel_27 : decode cX6_peel 27 = .ok (.getfield 21, 3) := by decide +kernel
theorem dX6_peel_30 : decode cX6_peel 30 = .ok (.aload_n 0, 1) := by decide +kernel
theorem dX6_peel_31 : decode cX6_peel 31 = .ok (.getfield 12, 3) := by decide +kernel
theorem dX6_peel_34 : decode cX6_peel 34 = .ok (.invokevirtual 37, 3) := by decide +kernel
theorem dX6_peel_37 : decode cX6_peel 37 = .ok (.iconst 0, 1) := by decide +kernel
theorem dX6_peel_38 : decode cX6_peel 38 = .ok (.istore_n 3, 1) := by decide +kernel
theorem dX6_peel_39 : decode cX6_peel 39 = .ok (.iload_n 3, 1) := by decide +kernel
theorem dX6_peel_40 : decode cX6_peel 40 = .ok (.aload_n 0, 1) := by decide +kernel
theorem dX6_peel_41 : decode cX6_peel 41 = .ok (.getfield 21, 3) := by decide +kernel
theorem dX6_peel_44 : decode cX6_peel 44 = .ok (.invokevirtual 40, 3) := by decide +kernel
theorem dX6_peel_47 : decode cX6_peel 47 = .ok (.if_icmp .ge 22, 3) := by decide +kernel
theorem dX6_peel_50 : decode cX6_peel 50 = .ok (.aload_n 0, 1) := by decide +kernel
theorem dX6_peel_51 : decode cX6_peel 51 = .ok (.aload_n 0, 1) := by decide +kernel
theorem dX6_peel_52 : decode cX6_peel 52 = .ok (.getfield 21, 3) := by decide +kernel
theorem dX6_peel_55 : decode cX6_peel 55 = .ok (.iload_n 3, 1) := by decide +kernel
theorem dX6_peel_56 : decode cX6_peel 56 = .ok (.invokevirtual 41, 3) := by decide +kernel
theorem dX6_peel_59 : decode cX6_peel 59 = .ok (.iload_n 2, 1) := by decide +kernel
theorem dX6_peel_60 : decode cX6_peel 60 = .ok (.invokevirtual 45, 3) := by decide +kernel
theorem dX6_peel_63 : decode cX6_peel 63 = .ok (.iinc 3 1, 3) := by decide +kernel
theorem dX6_peel_66 : decode cX6_peel 66 = .ok (.goto (-27), 3) := by decide +kernel
theorem dX6_peel_69 : decode cX6_peel 69 = .ok (.iinc 2 1, 3) := by decide +kernel
theorem dX6_peel_72 : decode cX6_peel 72 = .ok (.goto (-62), 3) := by decide +kernel
theorem dX6_peel_75 : decode cX6_peel 75 = .ok (.iload_n 2, 1) := by decide +kernel
theorem dX6_peel_76 : decode cX6_peel 76 = .ok (.ireturn, 1) := by decide +kernel
theorem dX6_takeAway_0 : decode cX6_takeAway 0 = .ok (.iload_n 1, 1) := by decide +kernel
theorem dX6_takeAway_1 : decode cX6_takeAway 1 = .ok (.ifCond .lt 16, 3) := by decide +kernel
theorem dX6_takeAway_4 : decode cX6_takeAway 4 = .ok (.iload_n 1, 1) := by decide +kernel
theorem dX6_takeAway_5 : decode cX6_takeAway 5 = .ok (.bipush 40, 2) := by decide +kernel
theorem dX6_takeAway_7 : decode cX6_takeAway 7 = .ok (.if_icmp .ge 10, 3) := by decide +kernel
theorem dX6_takeAway_10 : decode cX6_takeAway 10 = .ok (.aload_n 0, 1) := by decide +kernel
theorem dX6_takeAway_11 : decode cX6_takeAway 11 = .ok (.getfield 25, 3) := by decide +kernel
theorem dX6_takeAway_14 : decode cX6_takeAway 14 = .ok (.iload_n 1, 1) := by decide +kernel
theorem dX6_takeAway_15 : decode cX6_takeAway 15 = .ok (.iload_n 2, 1) := by decide +kernel
theorem dX6_takeAway_16 : decode cX6_takeAway 16 = .ok (.iastore, 1) := by decide +kernel
theorem dX6_takeAway_17 : decode cX6_takeAway 17 = .ok (.aload_n 0, 1) := by decide +kernel
theorem dX6_takeAway_18 : decode cX6_takeAway 18 = .ok (.getfield 12, 3) := by decide +kernel
theorem dX6_takeAway_21 : decode cX6_takeAway 21 = .ok (.iload_n 1, 1) := by decide +kernel
theorem dX6_takeAway_22 : decode cX6_takeAway 22 = .ok (.invokevirtual 49, 3) := by decide +kernel
theorem dX6_takeAway_25 : decode cX6_takeAway 25 = .ok (.return_, 1) := by decide +kernel
theorem dX6_layerOf_0 : decode cX6_layerOf 0 = .ok (.iload_n 1, 1) := by decide +kernel
theorem dX6_layerOf_1 : decode cX6_layerOf 1 = .ok (.ifCond .lt 18, 3) := by decide +kernel
theorem dX6_layerOf_4 : decode cX6_layerOf 4 = .ok (.iload_n 1, 1) := by decide +kernel
theorem dX6_layerOf_5 : decode cX6_layerOf 5 = .ok (.bipush 40, 2) := by decide +kernel
theorem dX6_layerOf_7 : decode cX6_layerOf 7 = .ok (.if_icmp .ge 12, 3) := by decide +kernel
theorem dX6_layerOf_10 : decode cX6_layerOf 10 = .ok (.aload_n 0, 1) := by decide +kernel
theorem dX6_layerOf_11 : decode cX6_layerOf 11 = .ok (.getfield 25, 3) := by decide +kernel
theorem dX6_layerOf_14 : decode cX6_layerOf 14 = .ok (.iload_n 1, 1) := by decide +kernel
theorem dX6_layerOf_15 : decode cX6_layerOf 15 = .ok (.iaload, 1) := by decide +kernel
theorem dX6_layerOf_16 : decode cX6_layerOf 16 = .ok (.goto 4, 3) := by decide +kernel
theorem dX6_layerOf_19 : decode cX6_layerOf 19 = .ok (.iconst (-1), 1) := by decide +kernel
theorem dX6_layerOf_20 : decode cX6_layerOf 20 = .ok (.ireturn, 1) := by decide +kernel
theorem dX7_init_0 : decode cX7_init 0 = .ok (.aload_n 0, 1) := by decide +kernel
theorem dX7_init_1 : decode cX7_init 1 = .ok (.invokespecial 1, 3) := by decide +kernel
theorem dX7_init_4 : decode cX7_init 4 = .ok (.return_, 1) := by decide +kernel
theorem dX7_about_0 : decode cX7_about 0 = .ok (.aload_n 0, 1) := by decide +kernel
theorem dX7_about_1 : decode cX7_about 1 = .ok (.lconst 0, 1) := by decide +kernel
theorem dX7_about_2 : decode cX7_about 2 = .ok (.putfield 7, 3) := by decide +kernel
theorem dX7_about_5 : decode cX7_about 5 = .ok (.iconst 0, 1) := by decide +kernel
theorem dX7_about_6 : decode cX7_about 6 = .ok (.istore_n 3, 1) := by decide +kernel
theorem dX7_about_7 : decode cX7_about 7 = .ok (.iload_n 3, 1) := by decide +kernel
theorem dX7_about_8 : decode cX7_about 8 = .ok (.aload_n 2, 1) := by decide +kernel
theorem dX7_about_9 : decode cX7_about 9 = .ok (.invokevirtual 13, 3) := by decide +kernel
theorem dX7_about_12 : decode cX7_about 12 = .ok (.if_icmp .ge 64, 3) := by decide +kernel
theorem dX7_about_15 : decode cX7_about 15 = .ok (.iconst 0, 1) := by decide +kernel
theorem dX7_about_16 : decode cX7_about 16 = .ok (.istore 4, 2) := by decide +kernel
theorem dX7_about_18 : decode cX7_about 18 = .ok (.iload 4, 2) := by decide +kernel
theorem dX7_about_20 : decode cX7_about 20 = .ok (.iload_n 3, 1) := by decide +kernel
theorem dX7_about_21 : decode cX7_about 21 = .ok (.if_icmp .ge 49, 3) := by decide +kernel
theorem dX7_about_24 : decode cX7_about 24 = .ok (.aload_n 0, 1) := by decide +kernel
theorem dX7_about_25 : decode cX7_about 25 = .ok (.aload_n 1, 1) := by decide +kernel
theorem dX7_about_26 : decode cX7_about 26 = .ok (.aload_n 2, 1) := by decide +kernel
theorem dX7_about_27 : decode cX7_about 27 = .ok (.iload_n 3, 1) := by decide +kernel
theorem dX7_about_28 : decode cX7_about 28 = .ok (.iload 4, 2) := by decide +kernel
theorem dX7_about_30 : decode cX7_about 30 = .ok (.invokevirtual 19, 3) := by decide +kernel
theorem dX7_about_33 : decode cX7_about 33 = .ok (.ifCond .ne 6, 3) := by decide +kernel
theorem dX7_about_36 : decode cX7_about 36 = .ok (.goto 28, 3) := by decide +kernel
theorem dX7_about_39 : decode cX7_about 39 = .ok (.aload_n 0, 1) := by decide +kernel
theorem dX7_about_40 : decode cX7_about 40 = .ok (.aload_n 1, 1) := by decide +kernel
theorem dX7_about_41 : decode cX7_about 41 = .ok (.invokevirtual 23, 3) := by decide +kernel
theorem dX7_about_44 : decode cX7_about 44 = .ok (.aload_n 0, 1) := by decide +kernel
theorem dX7_about_45 : decode cX7_about 45 = .ok (.getfield 7, 3) := by decide +kernel
theorem dX7_about_48 : decode cX7_about 48 = .ok (.lconst 0, 1) := by decide +kernel
theorem dX7_about_49 : decode cX7_about 49 = .ok (.lcmp, 1) := by decide +kernel
theorem dX7_about_50 : decode cX7_about 50 = .ok (.ifCond .eq 10, 3) := by decide +kernel
theorem dX7_about_53 : decode cX7_about 53 = .ok (.aload_n 0, 1) := by decide +kernel
theorem dX7_about_54 : decode cX7_about 54 = .ok (.invokevirtual 27, 3) := by decide +kernel
theorem dX7_about_57 : decode cX7_about 57 = .ok (.ifCond .eq 7, 3) := by decide +kernel
theorem dX7_about_60 : decode cX7_about 60 = .ok (.aload_n 0, 1) := by decide +kernel
theorem dX7_about_61 : decode cX7_about 61 = .ok (.invokevirtual 31, 3) := by decide +kernel
theorem dX7_about_64 : decode cX7_about 64 = .ok (.iinc 4 1, 3) := by decide +kernel
theorem dX7_about_67 : decode cX7_about 67 = .ok (.goto (-49), 3) := by decide +kernel
theorem dX7_about_70 : decode cX7_about 70 = .ok (.iinc 3 1, 3) := by decide +kernel
theorem dX7_about_73 : decode cX7_about 73 = .ok (.goto (-66), 3) := by decide +kernel
theorem dX7_about_76 : decode cX7_about 76 = .ok (.return_, 1) := by decide +kernel
theorem dX7_cross_0 : decode cX7_cross 0 = .ok (.aload_n 2, 1) := by decide +kernel
theorem dX7_cross_1 : decode cX7_cross 1 = .ok (.iload_n 3, 1) := by decide +kernel
theorem dX7_cross_2 : decode cX7_cross 2 = .ok (.invokevirtual 34, 3) := by decide +kernel
theorem dX7_cross_5 : decode cX7_cross 5 = .ok (.istore 5, 2) := by decide +kernel
theorem dX7_cross_7 : decode cX7_cross 7 = .ok (.aload_n 2, 1) := by decide +kernel
theorem dX7_cross_8 : decode cX7_cross 8 = .ok (.iload_n 3, 1) := by decide +kernel
theorem dX7_cross_9 : decode cX7_cross 9 = .ok (.invokevirtual 38, 3) := by decide +kernel
theorem dX7_cross_12 : decode cX7_cross 12 = .ok (.istore 6, 2) := by decide +kernel
theorem dX7_cross_14 : decode cX7_cross 14 = .ok (.aload_n 2, 1) := by decide +kernel
theorem dX7_cross_15 : decode cX7_cross 15 = .ok (.iload 4, 2) := by decide +kernel
theorem dX7_cross_17 : decode cX7_cross 17 = .ok (.invokevirtual 34, 3) := by decide +kernel
theorem dX7_cross_20 : decode cX7_cross 20 = .ok (.istore 7, 2) := by decide +kernel
theorem dX7_cross_22 : decode cX7_cross 22 = .ok (.aload_n 2, 1) := by decide +kernel
theorem dX7_cross_23 : decode cX7_cross 23 = .ok (.iload 4, 2) := by decide +kernel
theorem dX7_cross_25 : decode cX7_cross 25 = .ok (.invokevirtual 38, 3) := by decide +kernel
theorem dX7_cross_28 : decode cX7_cross 28 = .ok (.istore 8, 2) := by decide +kernel
theorem dX7_cross_30 : decode cX7_cross 30 = .ok (.aload_n 1, 1) := by decide +kernel
theorem dX7_cross_31 : decode cX7_cross 31 = .ok (.iload 6, 2) := by decide +kernel
theorem dX7_cross_33 : decode cX7_cross 33 = .ok (.invokevirtual 41, 3) := by decide +kernel
theorem dX7_cross_36 : decode cX7_cross 36 = .ok (.aload_n 1, 1) := by decide +kernel
theorem dX7_cross_37 : decode cX7_cross 37 = .ok (.iload 5, 2) := by decide +kernel
theorem dX7_cross_39 : decode cX7_cross 39 = .ok (.invokevirtual 41, 3) := by decide +kernel
theorem dX7_cross_42 : decode cX7_cross 42 = .ok (.isub, 1) := by decide +kernel
theorem dX7_cross_43 : decode cX7_cross 43 = .ok (.i2l, 1) := by decide +kernel
theorem dX7_cross_44 : decode cX7_cross 44 = .ok (.lstore 9, 2) := by decide +kernel
theorem dX7_cross_46 : decode cX7_cross 46 = .ok (.aload_n 1, 1) := by decide +kernel
theorem dX7_cross_47 : decode cX7_cross 47 = .ok (.iload 6, 2) := by decide +kernel
theorem dX7_cross_49 : decode cX7_cross 49 = .ok (.invokevirtual 46, 3) := by decide +kernel
theorem dX7_cross_52 : decode cX7_cross 52 = .ok (.aload_n 1, 1) := by decide +kernel
theorem dX7_cross_53 : decode cX7_cross 53 = .ok (.iload 5, 2) := by decide +kernel
theorem dX7_cross_55 : decode cX7_cross 55 = .ok (.invokevirtual 46, 3) := by decide +kernel
theorem dX7_cross_58 : decode cX7_cross 58 = .ok (.isub, 1) := by decide +kernel
theorem dX7_cross_59 : decode cX7_cross 59 = .ok (.i2l, 1) := by decide +kernel
theorem dX7_cross_60 : decode cX7_cross 60 = .ok (.lstore 11, 2) := by decide +kernel
theorem dX7_cross_62 : decode cX7_cross 62 = .ok (.aload_n 1, 1) := by decide +kernel
theorem dX7_cross_63 : decode cX7_cross 63 = .ok (.iload 8, 2) := by decide +kernel
theorem dX7_cross_65 : decode cX7_cross 65 = .ok (.invokevirtual 41, 3) := by decide +kernel
theorem dX7_cross_68 : decode cX7_cross 68 = .ok (.aload_n 1, 1) := by decide +kernel
theorem dX7_cross_69 : decode cX7_cross 69 = .ok (.iload 7, 2) := by decide +kernel
theorem dX7_cross_71 : decode cX7_cross 71 = .ok (.invokevirtual 41, 3) := by decide +kernel
theorem dX7_cross_74 : decode cX7_cross 74 = .ok (.isub, 1) := by decide +kernel
theorem dX7_cross_75 : decode cX7_cross 75 = .ok (.i2l, 1) := by decide +kernel
theorem dX7_cross_76 : decode cX7_cross 76 = .ok (.lstore 13, 2) := by decide +kernel
theorem dX7_cross_78 : decode cX7_cross 78 = .ok (.aload_n 1, 1) := by decide +kernel
theorem dX7_cross_79 : decode cX7_cross 79 = .ok (.iload 8, 2) := by decide +kernel
theorem dX7_cross_81 : decode cX7_cross 81 = .ok (.invokevirtual 46, 3) := by decide +kernel
theorem dX7_cross_84 : decode cX7_cross 84 = .ok (.aload_n 1, 1) := by decide +kernel
theorem dX7_cross_85 : decode cX7_cross 85 = .ok (.iload 7, 2) := by decide +kernel
theorem dX7_cross_87 : decode cX7_cross 87 = .ok (.invokevirtual 46, 3) := by decide +kernel
theorem dX7_cross_90 : decode cX7_cross 90 = .ok (.isub, 1) := by decide +kernel
theorem dX7_cross_91 : decode cX7_cross 91 = .ok (.i2l, 1) := by decide +kernel
theorem dX7_cross_92 : decode cX7_cross 92 = .ok (.lstore 15, 2) := by decide +kernel
theorem dX7_cross_94 : decode cX7_cross 94 = .ok (.lload 9, 2) := by decide +kernel
theorem dX7_cross_96 : decode cX7_cross 96 = .ok (.lload 15, 2) := by decide +kernel
theorem dX7_cross_98 : decode cX7_cross 98 = .ok (.lmul, 1) := by decide +kernel
theorem dX7_cross_99 : decode cX7_cross 99 = .ok (.lload 11, 2) := by decide +kernel
theorem dX7_cross_101 : decode cX7_cross 101 = .ok (.lload 13, 2) := by decide +kernel
theorem dX7_cross_103 : decode cX7_cross 103 = .ok (.lmul, 1) := by decide +kernel
theorem dX7_cross_104 : decode cX7_cross 104 = .ok (.lsub, 1) := by decide +kernel
theorem dX7_cross_105 : decode cX7_cross 105 = .ok (.lstore 17, 2) := by decide +kernel
theorem dX7_cross_107 : decode cX7_cross 107 = .ok (.lload 17, 2) := by decide +kernel
theorem dX7_cross_109 : decode cX7_cross 109 = .ok (.lconst 0, 1) := by decide +kernel
theorem dX7_cross_110 : decode cX7_cross 110 = .ok (.lcmp, 1) := by decide +kernel
theorem dX7_cross_111 : decode cX7_cross 111 = .ok (.ifCond .ne 5, 3) := by decide +kernel
theorem dX7_cross_114 : decode cX7_cross 114 = .ok (.iconst 0, 1) := by decide +kernel
theorem dX7_cross_115 : decode cX7_cross 115 = .ok (.ireturn, 1) := by decide +kernel
theorem dX7_cross_116 : decode cX7_cross 116 = .ok (.lload 17, 2) := by decide +kernel
theorem dX7_cross_118 : decode cX7_cross 118 = .ok (.lconst 0, 1) := by decide +kernel
theorem dX7_cross_119 : decode cX7_cross 119 = .ok (.lcmp, 1) := by decide +kernel
theorem dX7_cross_120 : decode cX7_cross 120 = .ok (.ifCond .ge 9, 3) := by decide +kernel
theorem dX7_cross_123 : decode cX7_cross 123 = .ok (.ldc2_w 49, 3) := by decide +kernel
theorem dX7_cross_126 : decode cX7_cross 126 = .ok (.goto 4, 3) := by decide +kernel
theorem dX7_cross_129 : decode cX7_cross 129 = .ok (.lconst 1, 1) := by decide +kernel
theorem dX7_cross_130 : decode cX7_cross 130 = .ok (.lstore 19, 2) := by decide +kernel
theorem dX7_cross_132 : decode cX7_cross 132 = .ok (.lload 19, 2) := by decide +kernel
theorem dX7_cross_134 : decode cX7_cross 134 = .ok (.aload_n 1, 1) := by decide +kernel
theorem dX7_cross_135 : decode cX7_cross 135 = .ok (.iload 6, 2) := by decide +kernel
theorem dX7_cross_137 : decode cX7_cross 137 = .ok (.invokestatic 51, 3) := by decide +kernel
theorem dX7_cross_140 : decode cX7_cross 140 = .ok (.aload_n 1, 1) := by decide +kernel
theorem dX7_cross_141 : decode cX7_cross 141 = .ok (.iload 5, 2) := by decide +kernel
theorem dX7_cross_143 : decode cX7_cross 143 = .ok (.invokestatic 51, 3) := by decide +kernel
theorem dX7_cross_146 : decode cX7_cross 146 = .ok (.lsub, 1) := by decide +kernel
theorem dX7_cross_147 : decode cX7_cross 147 = .ok (.lmul, 1) := by decide +kernel
theorem dX7_cross_148 : decode cX7_cross 148 = .ok (.lstore 21, 2) := by decide +kernel
theorem dX7_cross_150 : decode cX7_cross 150 = .ok (.lload 19, 2) := by decide +kernel
theorem dX7_cross_152 : decode cX7_cross 152 = .ok (.aload_n 1, 1) := by decide +kernel
theorem dX7_cross_153 : decode cX7_cross 153 = .ok (.iload 8, 2) := by decide +kernel
theorem dX7_cross_155 : decode cX7_cross 155 = .ok (.invokestatic 51, 3) := by decide +kernel
theorem dX7_cross_158 : decode cX7_cross 158 = .ok (.aload_n 1, 1) := by decide +kernel
theorem dX7_cross_159 : decode cX7_cross 159 = .ok (.iload 7, 2) := by decide +kernel
theorem dX7_cross_161 : decode cX7_cross 161 = .ok (.invokestatic 51, 3) := by decide +kernel
theorem dX7_cross_164 : decode cX7_cross 164 = .ok (.lsub, 1) := by decide +kernel
theorem dX7_cross_165 : decode cX7_cross 165 = .ok (.lmul, 1) := by decide +kernel
theorem dX7_cross_166 : decode cX7_cross 166 = .ok (.lstore 23, 2) := by decide +kernel
theorem dX7_cross_168 : decode cX7_cross 168 = .ok (.aload_n 0, 1) := by decide +kernel
theorem dX7_cross_169 : decode cX7_cross 169 = .ok (.ldc2_w 55, 3) := by decide +kernel
theorem dX7_cross_172 : decode cX7_cross 172 = .ok (.lload 19, 2) := by decide +kernel
theorem dX7_cross_174 : decode cX7_cross 174 = .ok (.lmul, 1) := by decide +kernel
theorem dX7_cross_175 : decode cX7_cross 175 = .ok (.lload 17, 2) := by decide +kernel
theorem dX7_cross_177 : decode cX7_cross 177 = .ok (.lmul, 1) := by decide +kernel
theorem dX7_cross_178 : decode cX7_cross 178 = .ok (.putfield 57, 3) := by decide +kernel
theorem dX7_cross_181 : decode cX7_cross 181 = .ok (.aload_n 0, 1) := by decide +kernel
theorem dX7_cross_182 : decode cX7_cross 182 = .ok (.lload 21, 2) := by decide +kernel
theorem dX7_cross_184 : decode cX7_cross 184 = .ok (.lload 15, 2) := by decide +kernel
theorem dX7_cross_186 : decode cX7_cross 186 = .ok (.lmul, 1) := by decide +kernel
theorem dX7_cross_187 : decode cX7_cross 187 = .ok (.lload 23, 2) := by decide +kernel
theorem dX7_cross_189 : decode cX7_cross 189 = .ok (.lload 11, 2) := by decide +kernel
theorem dX7_cross_191 : decode cX7_cross 191 = .ok (.lmul, 1) := by decide +kernel
theorem dX7_cross_192 : decode cX7_cross 192 = .ok (.lsub, 1) := by decide +kernel
theorem dX7_cross_193 : decode cX7_cross 193 = .ok (.putfield 60, 3) := by decide +kernel
theorem dX7_cross_196 : decode cX7_cross 196 = .ok (.aload_n 0, 1) := by decide +kernel
theorem dX7_cross_197 : decode cX7_cross 197 = .ok (.lload 9, 2) := by decide +kernel
theorem dX7_cross_199 : decode cX7_cross 199 = .ok (.lload 23, 2) := by decide +kernel
theorem dX7_cross_201 : decode cX7_cross 201 = .ok (.lmul, 1) := by decide +kernel
theorem dX7_cross_202 : decode cX7_cross 202 = .ok (.lload 13, 2) := by decide +kernel
theorem dX7_cross_204 : decode cX7_cross 204 = .ok (.lload 21, 2) := by decide +kernel
theorem dX7_cross_206 : decode cX7_cross 206 = .ok (.lmul, 1) := by decide +kernel
theorem dX7_cross_207 : decode cX7_cross 207 = .ok (.lsub, 1) := by decide +kernel
theorem dX7_cross_208 : decode cX7_cross 208 = .ok (.putfield 63, 3) := by decide +kernel
theorem dX7_cross_211 : decode cX7_cross 211 = .ok (.iconst 1, 1) := by decide +kernel
theorem dX7_cross_212 : decode cX7_cross 212 = .ok (.ireturn, 1) := by decide +kernel
theorem dX7_square_0 : decode cX7_square 0 = .ok (.aload_n 0, 1) := by decide +kernel
theorem dX7_square_1 : decode cX7_square 1 = .ok (.iload_n 1, 1) := by decide +kernel
theorem dX7_square_2 : decode cX7_square 2 = .ok (.invokevirtual 41, 3) := by decide +kernel
theorem dX7_square_5 : decode cX7_square 5 = .ok (.aload_n 0, 1) := by decide +kernel
theorem dX7_square_6 : decode cX7_square 6 = .ok (.iload_n 1, 1) := by decide +kernel
theorem dX7_square_7 : decode cX7_square 7 = .ok (.invokevirtual 41, 3) := by decide +kernel
theorem dX7_square_10 : decode cX7_square 10 = .ok (.imul, 1) := by decide +kernel
theorem dX7_square_11 : decode cX7_square 11 = .ok (.aload_n 0, 1) := by decide +kernel
theorem dX7_square_12 : decode cX7_square 12 = .ok (.iload_n 1, 1) := by decide +kernel
theorem dX7_square_13 : decode cX7_square 13 = .ok (.invokevirtual 46, 3) := by decide +kernel
theorem dX7_square_16 : decode cX7_square 16 = .ok (.aload_n 0, 1) := by decide +kernel
theorem dX7_square_17 : decode cX7_square 17 = .ok (.iload_n 1, 1) := by decide +kernel
theorem dX7_square_18 : decode cX7_square 18 = .ok (.invokevirtual 46, 3) := by decide +kernel
theorem dX7_square_21 : decode cX7_square 21 = .ok (.imul, 1) := by decide +kernel
theorem dX7_square_22 : decode cX7_square 22 = .ok (.iadd, 1) := by decide +kernel
theorem dX7_square_23 : decode cX7_square 23 = .ok (.i2l, 1) := by decide +kernel
theorem dX7_square_24 : decode cX7_square 24 = .ok (.lreturn, 1) := by decide +kernel
theorem dX7_measure_0 : decode cX7_measure 0 = .ok (.iconst 0, 1) := by decide +kernel
theorem dX7_measure_1 : decode cX7_measure 1 = .ok (.istore_n 2, 1) := by decide +kernel
theorem dX7_measure_2 : decode cX7_measure 2 = .ok (.iload_n 2, 1) := by decide +kernel
theorem dX7_measure_3 : decode cX7_measure 3 = .ok (.aload_n 1, 1) := by decide +kernel
theorem dX7_measure_4 : decode cX7_measure 4 = .ok (.invokevirtual 66, 3) := by decide +kernel
theorem dX7_measure_7 : decode cX7_measure 7 = .ok (.if_icmp .ge 99, 3) := by decide +kernel
theorem dX7_measure_10 : decode cX7_measure 10 = .ok (.aload_n 1, 1) := by decide +kernel
theorem dX7_measure_11 : decode cX7_measure 11 = .ok (.iload_n 2, 1) := by decide +kernel
theorem dX7_measure_12 : decode cX7_measure 12 = .ok (.invokevirtual 41, 3) := by decide +kernel
theorem dX7_measure_15 : decode cX7_measure 15 = .ok (.i2l, 1) := by decide +kernel
theorem dX7_measure_16 : decode cX7_measure 16 = .ok (.aload_n 0, 1) := by decide +kernel
theorem dX7_measure_17 : decode cX7_measure 17 = .ok (.getfield 57, 3) := by decide +kernel
theorem dX7_measure_20 : decode cX7_measure 20 = .ok (.lmul, 1) := by decide +kernel
theorem dX7_measure_21 : decode cX7_measure 21 = .ok (.aload_n 0, 1) := by decide +kernel
theorem dX7_measure_22 : decode cX7_measure 22 = .ok (.getfield 60, 3) := by decide +kernel
theorem dX7_measure_25 : decode cX7_measure 25 = .ok (.lsub, 1) := by decide +kernel
theorem dX7_measure_26 : decode cX7_measure 26 = .ok (.lstore_n 3, 1) := by decide +kernel
theorem dX7_measure_27 : decode cX7_measure 27 = .ok (.aload_n 1, 1) := by decide +kernel
theorem dX7_measure_28 : decode cX7_measure 28 = .ok (.iload_n 2, 1) := by decide +kernel
theorem dX7_measure_29 : decode cX7_measure 29 = .ok (.invokevirtual 46, 3) := by decide +kernel
theorem dX7_measure_32 : decode cX7_measure 32 = .ok (.i2l, 1) := by decide +kernel
theorem dX7_measure_33 : decode cX7_measure 33 = .ok (.aload_n 0, 1) := by decide +kernel
theorem dX7_measure_34 : decode cX7_measure 34 = .ok (.getfield 57, 3) := by decide +kernel
theorem dX7_measure_37 : decode cX7_measure 37 = .ok (.lmul, 1) := by decide +kernel
theorem dX7_measure_38 : decode cX7_measure 38 = .ok (.aload_n 0, 1) := by decide +kernel
theorem dX7_measure_39 : decode cX7_measure 39 = .ok (.getfield 63, 3) := by decide +kernel
theorem dX7_measure_42 : decode cX7_measure 42 = .ok (.lsub, 1) := by decide +kernel
theorem dX7_measure_43 : decode cX7_measure 43 = .ok (.lstore 5, 2) := by decide +kernel
theorem dX7_measure_45 : decode cX7_measure 45 = .ok (.lload_n 3, 1) := by decide +kernel
theorem dX7_measure_46 : decode cX7_measure 46 = .ok (.lload_n 3, 1) := by decide +kernel
theorem dX7_measure_47 : decode cX7_measure 47 = .ok (.lmul, 1) := by decide +kernel
theorem dX7_measure_48 : decode cX7_measure 48 = .ok (.lload 5, 2) := by decide +kernel
theorem dX7_measure_50 : decode cX7_measure 50 = .ok (.lload 5, 2) := by decide +kernel
theorem dX7_measure_52 : decode cX7_measure 52 = .ok (.lmul, 1) := by decide +kernel
theorem dX7_measure_53 : decode cX7_measure 53 = .ok (.ladd, 1) := by decide +kernel
theorem dX7_measure_54 : decode cX7_measure 54 = .ok (.lstore 7, 2) := by decide +kernel
theorem dX7_measure_56 : decode cX7_measure 56 = .ok (.aload_n 0, 1) := by decide +kernel
theorem dX7_measure_57 : decode cX7_measure 57 = .ok (.iload_n 2, 1) := by decide +kernel
theorem dX7_measure_58 : decode cX7_measure 58 = .ok (.ifCond .ne 8, 3) := by decide +kernel
theorem dX7_measure_61 : decode cX7_measure 61 = .ok (.lload 7, 2) := by decide +kernel
theorem dX7_measure_63 : decode cX7_measure 63 = .ok (.goto 12, 3) := by decide +kernel
theorem dX7_measure_66 : decode cX7_measure 66 = .ok (.aload_n 0, 1) := by decide +kernel
theorem dX7_measure_67 : decode cX7_measure 67 = .ok (.getfield 67, 3) := by decide +kernel
theorem dX7_measure_70 : decode cX7_measure 70 = .ok (.lload 7, 2) := by decide +kernel
theorem dX7_measure_72 : decode cX7_measure 72 = .ok (.invokestatic 70, 3) := by decide +kernel
theorem dX7_measure_75 : decode cX7_measure 75 = .ok (.putfield 67, 3) := by decide +kernel
theorem dX7_measure_78 : decode cX7_measure 78 = .ok (.aload_n 0, 1) := by decide +kernel
theorem dX7_measure_79 : decode cX7_measure 79 = .ok (.iload_n 2, 1) := by decide +kernel
theorem dX7_measure_80 : decode cX7_measure 80 = .ok (.ifCond .ne 8, 3) := by decide +kernel
theorem dX7_measure_83 : decode cX7_measure 83 = .ok (.lload 7, 2) := by decide +kernel
theorem dX7_measure_85 : decode cX7_measure 85 = .ok (.goto 12, 3) := by decide +kernel
theorem dX7_measure_88 : decode cX7_measure 88 = .ok (.aload_n 0, 1) := by decide +kernel
theorem dX7_measure_89 : decode cX7_measure 89 = .ok (.getfield 76, 3) := by decide +kernel
theorem dX7_measure_92 : decode cX7_measure 92 = .ok (.lload 7, 2) := by decide +kernel
theorem dX7_measure_94 : decode cX7_measure 94 = .ok (.invokestatic 79, 3) := by decide +kernel
theorem dX7_measure_97 : decode cX7_measure 97 = .ok (.putfield 76, 3) := by decide +kernel
theorem dX7_measure_100 : decode cX7_measure 100 = .ok (.iinc 2 1, 3) := by decide +kernel
theorem dX7_measure_103 : decode cX7_measure 103 = .ok (.goto (-101), 3) := by decide +kernel
theorem dX7_measure_106 : decode cX7_measure 106 = .ok (.return_, 1) := by decide +kernel
theorem dX7_isBetter_0 : decode cX7_isBetter 0 = .ok (.aload_n 0, 1) := by decide +kernel
theorem dX7_isBetter_1 : decode cX7_isBetter 1 = .ok (.getfield 76, 3) := by decide +kernel
theorem dX7_isBetter_4 : decode cX7_isBetter 4 = .ok (.aload_n 0, 1) := by decide +kernel
theorem dX7_isBetter_5 : decode cX7_isBetter 5 = .ok (.getfield 67, 3) := by decide +kernel
theorem dX7_isBetter_8 : decode cX7_isBetter 8 = .ok (.lsub, 1) := by decide +kernel
theorem dX7_isBetter_9 : decode cX7_isBetter 9 = .ok (.aload_n 0, 1) := by decide +kernel
theorem dX7_isBetter_10 : decode cX7_isBetter 10 = .ok (.getfield 57, 3) := by decide +kernel
theorem dX7_isBetter_13 : decode cX7_isBetter 13 = .ok (.aload_n 0, 1) := by decide +kernel
theorem dX7_isBetter_14 : decode cX7_isBetter 14 = .ok (.getfield 57, 3) := by decide +kernel
theorem dX7_isBetter_17 : decode cX7_isBetter 17 = .ok (.lmul, 1) := by decide +kernel
theorem dX7_isBetter_18 : decode cX7_isBetter 18 = .ok (.aload_n 0, 1) := by decide +kernel
theorem dX7_isBetter_19 : decode cX7_isBetter 19 = .ok (.getfield 82, 3) := by decide +kernel
theorem dX7_isBetter_22 : decode cX7_isBetter 22 = .ok (.aload_n 0, 1) := by decide +kernel
theorem dX7_isBetter_23 : decode cX7_isBetter 23 = .ok (.getfield 85, 3) := by decide +kernel
theorem dX7_isBetter_26 : decode cX7_isBetter 26 = .ok (.lsub, 1) := by decide +kernel
theorem dX7_isBetter_27 : decode cX7_isBetter 27 = .ok (.aload_n 0, 1) := by decide +kernel
theorem dX7_isBetter_28 : decode cX7_isBetter 28 = .ok (.getfield 7, 3) := by decide +kernel
theorem dX7_isBetter_31 : decode cX7_isBetter 31 = .ok (.aload_n 0, 1) := by decide +kernel
theorem dX7_isBetter_32 : decode cX7_isBetter 32 = .ok (.getfield 7, 3) := by decide +kernel
theorem dX7_isBetter_35 : decode cX7_isBetter 35 = .ok (.lmul, 1) := by decide +kernel
theorem dX7_isBetter_36 : decode cX7_isBetter 36 = .ok (.invokestatic 88, 3) := by decide +kernel
theorem dX7_isBetter_39 : decode cX7_isBetter 39 = .ok (.istore_n 1, 1) := by decide +kernel
theorem dX7_isBetter_40 : decode cX7_isBetter 40 = .ok (.iload_n 1, 1) := by decide +kernel
theorem dX7_isBetter_41 : decode cX7_isBetter 41 = .ok (.ifCond .ne 23, 3) := by decide +kernel
theorem dX7_isBetter_44 : decode cX7_isBetter 44 = .ok (.aload_n 0, 1) := by decide +kernel
theorem dX7_isBetter_45 : decode cX7_isBetter 45 = .ok (.getfield 60, 3) := by decide +kernel
theorem dX7_isBetter_48 : decode cX7_isBetter 48 = .ok (.aload_n 0, 1) := by decide +kernel
theorem dX7_isBetter_49 : decode cX7_isBetter 49 = .ok (.getfield 57, 3) := by decide +kernel
theorem dX7_isBetter_52 : decode cX7_isBetter 52 = .ok (.aload_n 0, 1) := by decide +kernel
theorem dX7_isBetter_53 : decode cX7_isBetter 53 = .ok (.getfield 94, 3) := by decide +kernel
theorem dX7_isBetter_56 : decode cX7_isBetter 56 = .ok (.aload_n 0, 1) := by decide +kernel
theorem dX7_isBetter_57 : decode cX7_isBetter 57 = .ok (.getfield 7, 3) := by decide +kernel
theorem dX7_isBetter_60 : decode cX7_isBetter 60 = .ok (.invokestatic 88, 3) := by decide +kernel
theorem dX7_isBetter_63 : decode cX7_isBetter 63 = .ok (.istore_n 1, 1) := by decide +kernel
theorem dX7_isBetter_64 : decode cX7_isBetter 64 = .ok (.iload_n 1, 1) := by decide +kernel
theorem dX7_isBetter_65 : decode cX7_isBetter 65 = .ok (.ifCond .ne 23, 3) := by decide +kernel
theorem dX7_isBetter_68 : decode cX7_isBetter 68 = .ok (.aload_n 0, 1) := by decide +kernel
theorem dX7_isBetter_69 : decode cX7_isBetter 69 = .ok (.getfield 63, 3) := by decide +kernel
theorem dX7_isBetter_72 : decode cX7_isBetter 72 = .ok (.aload_n 0, 1) := by decide +kernel
theorem dX7_isBetter_73 : decode cX7_isBetter 73 = .ok (.getfield 57, 3) := by decide +kernel
theorem dX7_isBetter_76 : decode cX7_isBetter 76 = .ok (.aload_n 0, 1) := by decide +kernel
theorem dX7_isBetter_77 : decode cX7_isBetter 77 = .ok (.getfield 96, 3) := by decide +kernel
theorem dX7_isBetter_80 : decode cX7_isBetter 80 = .ok (.aload_n 0, 1) := by decide +kernel
theorem dX7_isBetter_81 : decode cX7_isBetter 81 = .ok (.getfield 7, 3) := by decide +kernel
theorem dX7_isBetter_84 : decode cX7_isBetter 84 = .ok (.invokestatic 88, 3) := by decide +kernel
theorem dX7_isBetter_87 : decode cX7_isBetter 87 = .ok (.istore_n 1, 1) := by decide +kernel
theorem dX7_isBetter_88 : decode cX7_isBetter 88 = .ok (.iload_n 1, 1) := by decide +kernel
theorem dX7_isBetter_89 : decode cX7_isBetter 89 = .ok (.ifCond .ge 7, 3) := by decide +kernel
theorem dX7_isBetter_92 : decode cX7_isBetter 92 = .ok (.iconst 1, 1) := by decide +kernel
theorem dX7_isBetter_93 : decode cX7_isBetter 93 = .ok (.goto 4, 3) := by decide +kernel
theorem dX7_isBetter_96 : decode cX7_isBetter 96 = .ok (.iconst 0, 1) := by decide +kernel
theorem dX7_isBetter_97 : decode cX7_isBetter 97 = .ok (.ireturn, 1) := by decide +kernel
theorem dX7_keepTried_0 : decode cX7_keepTried 0 = .ok (.aload_n 0, 1) := by decide +kernel
theorem dX7_keepTried_1 : decode cX7_keepTried 1 = .ok (.aload_n 0, 1) := by decide +kernel
theorem dX7_keepTried_2 : decode cX7_keepTried 2 = .ok (.getfield 57, 3) := by decide +kernel
theorem dX7_keepTried_5 : decode cX7_keepTried 5 = .ok (.putfield 7, 3) := by decide +kernel
theorem dX7_keepTried_8 : decode cX7_keepTried 8 = .ok (.aload_n 0, 1) := by decide +kernel
theorem dX7_keepTried_9 : decode cX7_keepTried 9 = .ok (.aload_n 0, 1) := by decide +kernel
theorem dX7_keepTried_10 : decode cX7_keepTried 10 = .ok (.getfield 60, 3) := by decide +kernel
theorem dX7_keepTried_13 : decode cX7_keepTried 13 = .ok (.putfield 94, 3) := by decide +kernel
theorem dX7_keepTried_16 : decode cX7_keepTried 16 = .ok (.aload_n 0, 1) := by decide +kernel
theorem dX7_keepTried_17 : decode cX7_keepTried 17 = .ok (.aload_n 0, 1) := by decide +kernel
theorem dX7_keepTried_18 : decode cX7_keepTried 18 = .ok (.getfield 63, 3) := by decide +kernel
theorem dX7_keepTried_21 : decode cX7_keepTried 21 = .ok (.putfield 96, 3) := by decide +kernel
theorem dX7_keepTried_24 : decode cX7_keepTried 24 = .ok (.aload_n 0, 1) := by decide +kernel
theorem dX7_keepTried_25 : decode cX7_keepTried 25 = .ok (.aload_n 0, 1) := by decide +kernel
theorem dX7_keepTried_26 : decode cX7_keepTried 26 = .ok (.getfield 67, 3) := by decide +kernel
theorem dX7_keepTried_29 : decode cX7_keepTried 29 = .ok (.putfield 85, 3) := by decide +kernel
theorem dX7_keepTried_32 : decode cX7_keepTried 32 = .ok (.aload_n 0, 1) := by decide +kernel
theorem dX7_keepTried_33 : decode cX7_keepTried 33 = .ok (.aload_n 0, 1) := by decide +kernel
theorem dX7_keepTried_34 : decode cX7_keepTried 34 = .ok (.getfield 76, 3) := by decide +kernel
theorem dX7_keepTried_37 : decode cX7_keepTried 37 = .ok (.putfield 82, 3) := by decide +kernel
theorem dX7_keepTried_40 : decode cX7_keepTried 40 = .ok (.return_, 1) := by decide +kernel
theorem dX7_tell_0 : decode cX7_tell 0 = .ok (.iload_n 1, 1) := by decide +kernel
theorem dX7_tell_1 : decode cX7_tell 1 = .ok (.ifCond .ne 28, 3) := by decide +kernel
theorem dX7_tell_4 : decode cX7_tell 4 = .ok (.aload_n 2, 1) := by decide +kernel
theorem dX7_tell_5 : decode cX7_tell 5 = .ok (.aload_n 0, 1) := by decide +kernel
theorem dX7_tell_6 : decode cX7_tell 6 = .ok (.getfield 82, 3) := by decide +kernel
theorem dX7_tell_9 : decode cX7_tell 9 = .ok (.aload_n 0, 1) := by decide +kernel
theorem dX7_tell_10 : decode cX7_tell 10 = .ok (.getfield 85, 3) := by decide +kernel
theorem dX7_tell_13 : decode cX7_tell 13 = .ok (.lsub, 1) := by decide +kernel
theorem dX7_tell_14 : decode cX7_tell 14 = .ok (.aload_n 0, 1) := by decide +kernel
theorem dX7_tell_15 : decode cX7_tell 15 = .ok (.getfield 7, 3) := by decide +kernel
theorem dX7_tell_18 : decode cX7_tell 18 = .ok (.aload_n 0, 1) := by decide +kernel
theorem dX7_tell_19 : decode cX7_tell 19 = .ok (.getfield 7, 3) := by decide +kernel
theorem dX7_tell_22 : decode cX7_tell 22 = .ok (.lmul, 1) := by decide +kernel
theorem dX7_tell_23 : decode cX7_tell 23 = .ok (.invokevirtual 98, 3) := by decide +kernel
theorem dX7_tell_26 : decode cX7_tell 26 = .ok (.goto 77, 3) := by decide +kernel
theorem dX7_tell_29 : decode cX7_tell 29 = .ok (.iload_n 1, 1) := by decide +kernel
theorem dX7_tell_30 : decode cX7_tell 30 = .ok (.iconst 1, 1) := by decide +kernel
theorem dX7_tell_31 : decode cX7_tell 31 = .ok (.if_icmp .ne 23, 3) := by decide +kernel
theorem dX7_tell_34 : decode cX7_tell 34 = .ok (.aload_n 2, 1) := by decide +kernel
theorem dX7_tell_35 : decode cX7_tell 35 = .ok (.aload_n 0, 1) := by decide +kernel
theorem dX7_tell_36 : decode cX7_tell 36 = .ok (.getfield 85, 3) := by decide +kernel
theorem dX7_tell_39 : decode cX7_tell 39 = .ok (.aload_n 0, 1) := by decide +kernel
theorem dX7_tell_40 : decode cX7_tell 40 = .ok (.getfield 7, 3) := by decide +kernel
theorem dX7_tell_43 : decode cX7_tell 43 = .ok (.aload_n 0, 1) := by decide +kernel
theorem dX7_tell_44 : decode cX7_tell 44 = .ok (.getfield 7, 3) := by decide +kernel
theorem dX7_tell_47 : decode cX7_tell 47 = .ok (.lmul, 1) := by decide +kernel
theorem dX7_tell_48 : decode cX7_tell 48 = .ok (.invokevirtual 98, 3) := by decide +kernel
theorem dX7_tell_51 : decode cX7_tell 51 = .ok (.goto 52, 3) := by decide +kernel
theorem dX7_tell_54 : decode cX7_tell 54 = .ok (.iload_n 1, 1) := by decide +kernel
theorem dX7_tell_55 : decode cX7_tell 55 = .ok (.iconst 2, 1) := by decide +kernel
theorem dX7_tell_56 : decode cX7_tell 56 = .ok (.if_icmp .ne 23, 3) := by decide +kernel
theorem dX7_tell_59 : decode cX7_tell 59 = .ok (.aload_n 2, 1) := by decide +kernel
theorem dX7_tell_60 : decode cX7_tell 60 = .ok (.aload_n 0, 1) := by decide +kernel
theorem dX7_tell_61 : decode cX7_tell 61 = .ok (.getfield 82, 3) := by decide +kernel
theorem dX7_tell_64 : decode cX7_tell 64 = .ok (.aload_n 0, 1) := by decide +kernel
theorem dX7_tell_65 : decode cX7_tell 65 = .ok (.getfield 7, 3) := by decide +kernel
theorem dX7_tell_68 : decode cX7_tell 68 = .ok (.aload_n 0, 1) := by decide +kernel
theorem dX7_tell_69 : decode cX7_tell 69 = .ok (.getfield 7, 3) := by decide +kernel
theorem dX7_tell_72 : decode cX7_tell 72 = .ok (.lmul, 1) := by decide +kernel
theorem dX7_tell_73 : decode cX7_tell 73 = .ok (.invokevirtual 98, 3) := by decide +kernel
theorem dX7_tell_76 : decode cX7_tell 76 = .ok (.goto 27, 3) := by decide +kernel
theorem dX7_tell_79 : decode cX7_tell 79 = .ok (.aload_n 2, 1) := by decide +kernel
theorem dX7_tell_80 : decode cX7_tell 80 = .ok (.iload_n 1, 1) := by decide +kernel
theorem dX7_tell_81 : decode cX7_tell 81 = .ok (.iconst 3, 1) := by decide +kernel
theorem dX7_tell_82 : decode cX7_tell 82 = .ok (.if_icmp .ne 10, 3) := by decide +kernel
theorem dX7_tell_85 : decode cX7_tell 85 = .ok (.aload_n 0, 1) := by decide +kernel
theorem dX7_tell_86 : decode cX7_tell 86 = .ok (.getfield 94, 3) := by decide +kernel
theorem dX7_tell_89 : decode cX7_tell 89 = .ok (.goto 7, 3) := by decide +kernel
theorem dX7_tell_92 : decode cX7_tell 92 = .ok (.aload_n 0, 1) := by decide +kernel
theorem dX7_tell_93 : decode cX7_tell 93 = .ok (.getfield 96, 3) := by decide +kernel
theorem dX7_tell_96 : decode cX7_tell 96 = .ok (.aload_n 0, 1) := by decide +kernel
theorem dX7_tell_97 : decode cX7_tell 97 = .ok (.getfield 7, 3) := by decide +kernel
theorem dX7_tell_100 : decode cX7_tell 100 = .ok (.invokevirtual 98, 3) := by decide +kernel
theorem dX7_tell_103 : decode cX7_tell 103 = .ok (.return_, 1) := by decide +kernel
theorem dX8_init_0 : decode cX8_init 0 = .ok (.aload_n 0, 1) := by decide +kernel
theorem dX8_init_1 : decode cX8_init 1 = .ok (.invokespecial 3, 3) := by decide +kernel
theorem dX8_init_4 : decode cX8_init 4 = .ok (.aload_n 0, 1) := by decide +kernel
theorem dX8_init_5 : decode cX8_init 5 = .ok (.bipush 41, 2) := by decide +kernel
theorem dX8_init_7 : decode cX8_init 7 = .ok (.newarray .int, 2) := by decide +kernel
theorem dX8_init_9 : decode cX8_init 9 = .ok (.putfield 11, 3) := by decide +kernel
theorem dX8_init_12 : decode cX8_init 12 = .ok (.aload_n 0, 1) := by decide +kernel
theorem dX8_init_13 : decode cX8_init 13 = .ok (.bipush 41, 2) := by decide +kernel
theorem dX8_init_15 : decode cX8_init 15 = .ok (.newarray .int, 2) := by decide +kernel
theorem dX8_init_17 : decode cX8_init 17 = .ok (.putfield 15, 3) := by decide +kernel
theorem dX8_init_20 : decode cX8_init 20 = .ok (.aload_n 0, 1) := by decide +kernel
theorem dX8_init_21 : decode cX8_init 21 = .ok (.bipush 41, 2) := by decide +kernel
theorem dX8_init_23 : decode cX8_init 23 = .ok (.newarray .int, 2) := by decide +kernel
theorem dX8_init_25 : decode cX8_init 25 = .ok (.putfield 18, 3) := by decide +kernel
theorem dX8_init_28 : decode cX8_init 28 = .ok (.return_, 1) := by decide +kernel
theorem dX8_count_0 : decode cX8_count 0 = .ok (.aload_n 0, 1) := by decide +kernel
theorem dX8_count_1 : decode cX8_count 1 = .ok (.getfield 21, 3) := by decide +kernel
theorem dX8_count_4 : decode cX8_count 4 = .ok (.ireturn, 1) := by decide +kernel
theorem dX8_x_0 : decode cX8_x 0 = .ok (.iload_n 1, 1) := by decide +kernel
theorem dX8_x_1 : decode cX8_x 1 = .ok (.ifCond .lt 20, 3) := by decide +kernel
theorem dX8_x_4 : decode cX8_x 4 = .ok (.iload_n 1, 1) := by decide +kernel
theorem dX8_x_5 : decode cX8_x 5 = .ok (.aload_n 0, 1) := by decide +kernel
theorem dX8_x_6 : decode cX8_x 6 = .ok (.getfield 21, 3) := by decide +kernel
theorem dX8_x_9 : decode cX8_x 9 = .ok (.if_icmp .ge 12, 3) := by decide +kernel
theorem dX8_x_12 : decode cX8_x 12 = .ok (.aload_n 0, 1) := by decide +kernel
theorem dX8_x_13 : decode cX8_x 13 = .ok (.getfield 11, 3) := by decide +kernel
theorem dX8_x_16 : decode cX8_x 16 = .ok (.iload_n 1, 1) := by decide +kernel
theorem dX8_x_17 : decode cX8_x 17 = .ok (.iaload, 1) := by decide +kernel
theorem dX8_x_18 : decode cX8_x 18 = .ok (.goto 4, 3) := by decide +kernel
theorem dX8_x_21 : decode cX8_x 21 = .ok (.iconst 0, 1) := by decide +kernel
theorem dX8_x_22 : decode cX8_x 22 = .ok (.ireturn, 1) := by decide +kernel
theorem dX8_y_0 : decode cX8_y 0 = .ok (.iload_n 1, 1) := by decide +kernel
theorem dX8_y_1 : decode cX8_y 1 = .ok (.ifCond .lt 20, 3) := by decide +kernel
theorem dX8_y_4 : decode cX8_y 4 = .ok (.iload_n 1, 1) := by decide +kernel
theorem dX8_y_5 : decode cX8_y 5 = .ok (.aload_n 0, 1) := by decide +kernel
theorem dX8_y_6 : decode cX8_y 6 = .ok (.getfield 21, 3) := by decide +kernel
theorem dX8_y_9 : decode cX8_y 9 = .ok (.if_icmp .ge 12, 3) := by decide +kernel
theorem dX8_y_12 : decode cX8_y 12 = .ok (.aload_n 0, 1) := by decide +kernel
theorem dX8_y_13 : decode cX8_y 13 = .ok (.getfield 15, 3) := by decide +kernel
theorem dX8_y_16 : decode cX8_y 16 = .ok (.iload_n 1, 1) := by decide +kernel
theorem dX8_y_17 : decode cX8_y 17 = .ok (.iaload, 1) := by decide +kernel
theorem dX8_y_18 : decode cX8_y 18 = .ok (.goto 4, 3) := by decide +kernel
theorem dX8_y_21 : decode cX8_y 21 = .ok (.iconst 0, 1) := by decide +kernel
theorem dX8_y_22 : decode cX8_y 22 = .ok (.ireturn, 1) := by decide +kernel
theorem dX8_number_0 : decode cX8_number 0 = .ok (.iload_n 1, 1) := by decide +kernel
theorem dX8_number_1 : decode cX8_number 1 = .ok (.ifCond .lt 20, 3) := by decide +kernel
theorem dX8_number_4 : decode cX8_number 4 = .ok (.iload_n 1, 1) := by decide +kernel
theorem dX8_number_5 : decode cX8_number 5 = .ok (.aload_n 0, 1) := by decide +kernel
theorem dX8_number_6 : decode cX8_number 6 = .ok (.getfield 21, 3) := by decide +kernel
theorem dX8_number_9 : decode cX8_number 9 = .ok (.if_icmp .ge 12, 3) := by decide +kernel
theorem dX8_number_12 : decode cX8_number 12 = .ok (.aload_n 0, 1) := by decide +kernel
theorem dX8_number_13 : decode cX8_number 13 = .ok (.getfield 18, 3) := by decide +kernel
theorem dX8_number_16 : decode cX8_number 16 = .ok (.iload_n 1, 1) := by decide +kernel
theorem dX8_number_17 : decode cX8_number 17 = .ok (.iaload, 1) := by decide +kernel
theorem dX8_number_18 : decode cX8_number 18 = .ok (.goto 4, 3) := by decide +kernel
theorem dX8_number_21 : decode cX8_number 21 = .ok (.iconst (-1), 1) := by decide +kernel
theorem dX8_number_22 : decode cX8_number 22 = .ok (.ireturn, 1) := by decide +kernel
theorem dX8_collect_0 : decode cX8_collect 0 = .ok (.aload_n 0, 1) := by decide +kernel
theorem dX8_collect_1 : decode cX8_collect 1 = .ok (.iconst 0, 1) := by decide +kernel
theorem dX8_collect_2 : decode cX8_collect 2 = .ok (.putfield 21, 3) := by decide +kernel
theorem dX8_collect_5 : decode cX8_collect 5 = .ok (.iconst 0, 1) := by decide +kernel
theorem dX8_collect_6 : decode cX8_collect 6 = .ok (.istore 5, 2) := by decide +kernel
theorem dX8_collect_8 : decode cX8_collect 8 = .ok (.iload 5, 2) := by decide +kernel
theorem dX8_collect_10 : decode cX8_collect 10 = .ok (.bipush 40, 2) := by decide +kernel
theorem dX8_collect_12 : decode cX8_collect 12 = .ok (.if_icmp .ge 42, 3) := by decide +kernel
theorem dX8_collect_15 : decode cX8_collect 15 = .ok (.lload_n 2, 1) := by decide +kernel
theorem dX8_collect_16 : decode cX8_collect 16 = .ok (.iload 5, 2) := by decide +kernel
theorem dX8_collect_18 : decode cX8_collect 18 = .ok (.lshr, 1) := by decide +kernel
theorem dX8_collect_19 : decode cX8_collect 19 = .ok (.lconst 1, 1) := by decide +kernel
theorem dX8_collect_20 : decode cX8_collect 20 = .ok (.land, 1) := by decide +kernel
theorem dX8_collect_21 : decode cX8_collect 21 = .ok (.lconst 0, 1) := by decide +kernel
theorem dX8_collect_22 : decode cX8_collect 22 = .ok (.lcmp, 1) := by decide +kernel
theorem dX8_collect_23 : decode cX8_collect 23 = .ok (.ifCond .eq 25, 3) := by decide +kernel
theorem dX8_collect_26 : decode cX8_collect 26 = .ok (.aload_n 0, 1) := by decide +kernel
theorem dX8_collect_27 : decode cX8_collect 27 = .ok (.aload_n 1, 1) := by decide +kernel
theorem dX8_collect_28 : decode cX8_collect 28 = .ok (.iload 5, 2) := by decide +kernel
theorem dX8_collect_30 : decode cX8_collect 30 = .ok (.iload 4, 2) := by decide +kernel
theorem dX8_collect_32 : decode cX8_collect 32 = .ok (.invokevirtual 25, 3) := by decide +kernel
theorem dX8_collect_35 : decode cX8_collect 35 = .ok (.aload_n 1, 1) := by decide +kernel
theorem dX8_collect_36 : decode cX8_collect 36 = .ok (.iload 5, 2) := by decide +kernel
theorem dX8_collect_38 : decode cX8_collect 38 = .ok (.iload 4, 2) := by decide +kernel
theorem dX8_collect_40 : decode cX8_collect 40 = .ok (.invokevirtual 31, 3) := by decide +kernel
theorem dX8_collect_43 : decode cX8_collect 43 = .ok (.iload 5, 2) := by decide +kernel
theorem dX8_collect_45 : decode cX8_collect 45 = .ok (.invokevirtual 34, 3) := by decide +kernel
theorem dX8_collect_48 : decode cX8_collect 48 = .ok (.iinc 5 1, 3) := by decide +kernel
theorem dX8_collect_51 : decode cX8_collect 51 = .ok (.goto (-43), 3) := by decide +kernel
theorem dX8_collect_54 : decode cX8_collect 54 = .ok (.return_, 1) := by decide +kernel
theorem dX8_add_0 : decode cX8_add 0 = .ok (.aload_n 0, 1) := by decide +kernel
theorem dX8_add_1 : decode cX8_add 1 = .ok (.getfield 21, 3) := by decide +kernel
theorem dX8_add_4 : decode cX8_add 4 = .ok (.istore 4, 2) := by decide +kernel
theorem dX8_add_6 : decode cX8_add 6 = .ok (.iload 4, 2) := by decide +kernel
theorem dX8_add_8 : decode cX8_add 8 = .ok (.ifCond .le 48, 3) := by decide +kernel
theorem dX8_add_11 : decode cX8_add 11 = .ok (.aload_n 0, 1) := by decide +kernel
theorem dX8_add_12 : decode cX8_add 12 = .ok (.getfield 11, 3) := by decide +kernel
theorem dX8_add_15 : decode cX8_add 15 = .ok (.iload 4, 2) := by decide +kernel
theorem dX8_add_17 : decode cX8_add 17 = .ok (.iconst 1, 1) := by decide +kernel
theorem dX8_add_18 : decode cX8_add 18 = .ok (.isub, 1) := by decide +kernel
theorem dX8_add_19 : decode cX8_add 19 = .ok (.iaload, 1) := by decide +kernel
theorem dX8_add_20 : decode cX8_add 20 = .ok (.iload_n 1, 1) := by decide +kernel
theorem dX8_add_21 : decode cX8_add 21 = .ok (.if_icmp .gt 29, 3) := by decide +kernel
theorem dX8_add_24 : decode cX8_add 24 = .ok (.aload_n 0, 1) := by decide +kernel
theorem dX8_add_25 : decode cX8_add 25 = .ok (.getfield 11, 3) := by decide +kernel
theorem dX8_add_28 : decode cX8_add 28 = .ok (.iload 4, 2) := by decide +kernel
theorem dX8_add_30 : decode cX8_add 30 = .ok (.iconst 1, 1) := by decide +kernel
theorem dX8_add_31 : decode cX8_add 31 = .ok (.isub, 1) := by decide +kernel
theorem dX8_add_32 : decode cX8_add 32 = .ok (.iaload, 1) := by decide +kernel
theorem dX8_add_33 : decode cX8_add 33 = .ok (.iload_n 1, 1) := by decide +kernel
theorem dX8_add_34 : decode cX8_add 34 = .ok (.if_icmp .ne 22, 3) := by decide +kernel
theorem dX8_add_37 : decode cX8_add 37 = .ok (.aload_n 0, 1) := by decide +kernel
theorem dX8_add_38 : decode cX8_add 38 = .ok (.getfield 15, 3) := by decide +kernel
theorem dX8_add_41 : decode cX8_add 41 = .ok (.iload 4, 2) := by decide +kernel
theorem dX8_add_43 : decode cX8_add 43 = .ok (.iconst 1, 1) := by decide +kernel
theorem dX8_add_44 : decode cX8_add 44 = .ok (.isub, 1) := by decide +kernel
theorem dX8_add_45 : decode cX8_add 45 = .ok (.iaload, 1) := by decide +kernel
theorem dX8_add_46 : decode cX8_add 46 = .ok (.iload_n 2, 1) := by decide +kernel
theorem dX8_add_47 : decode cX8_add 47 = .ok (.if_icmp .le 9, 3) := by decide +kernel
theorem dX8_add_50 : decode cX8_add 50 = .ok (.iinc 4 (-1), 3) := by decide +kernel
theorem dX8_add_53 : decode cX8_add 53 = .ok (.goto (-47), 3) := by decide +kernel
theorem dX8_add_56 : decode cX8_add 56 = .ok (.aload_n 0, 1) := by decide +kernel
theorem dX8_add_57 : decode cX8_add 57 = .ok (.getfield 21, 3) := by decide +kernel
theorem dX8_add_60 : decode cX8_add 60 = .ok (.bipush 41, 2) := by decide +kernel
theorem dX8_add_62 : decode cX8_add 62 = .ok (.if_icmp .ge 34, 3) := by decide +kernel
theorem dX8_add_65 : decode cX8_add 65 = .ok (.iload 4, 2) := by decide +kernel
theorem dX8_add_67 : decode cX8_add 67 = .ok (.ifCond .le 30, 3) := by decide +kernel
theorem dX8_add_70 : decode cX8_add 70 = .ok (.aload_n 0, 1) := by decide +kernel
theorem dX8_add_71 : decode cX8_add 71 = .ok (.getfield 11, 3) := by decide +kernel
theorem dX8_add_74 : decode cX8_add 74 = .ok (.iload 4, 2) := by decide +kernel
theorem dX8_add_76 : decode cX8_add 76 = .ok (.iconst 1, 1) := by decide +kernel
theorem dX8_add_77 : decode cX8_add 77 = .ok (.isub, 1) := by decide +kernel
theorem dX8_add_78 : decode cX8_add 78 = .ok (.iaload, 1) := by decide +kernel
theorem dX8_add_79 : decode cX8_add 79 = .ok (.iload_n 1, 1) := by decide +kernel
theorem dX8_add_80 : decode cX8_add 80 = .ok (.if_icmp .ne 17, 3) := by decide +kernel
theorem dX8_add_83 : decode cX8_add 83 = .ok (.aload_n 0, 1) := by decide +kernel
theorem dX8_add_84 : decode cX8_add 84 = .ok (.getfield 15, 3) := by decide +kernel
theorem dX8_add_87 : decode cX8_add 87 = .ok (.iload 4, 2) := by decide +kernel
theorem dX8_add_89 : decode cX8_add 89 = .ok (.iconst 1, 1) := by decide +kernel
theorem dX8_add_90 : decode cX8_add 90 = .ok (.isub, 1) := by decide +kernel
theorem dX8_add_91 : decode cX8_add 91 = .ok (.iaload, 1) := by decide +kernel
theorem dX8_add_92 : decode cX8_add 92 = .ok (.iload_n 2, 1) := by decide +kernel
theorem dX8_add_93 : decode cX8_add 93 = .ok (.if_icmp .ne 4, 3) := by decide +kernel
theorem dX8_add_96 : decode cX8_add 96 = .ok (.return_, 1) := by decide +kernel
theorem dX8_add_97 : decode cX8_add 97 = .ok (.aload_n 0, 1) := by decide +kernel
theorem dX8_add_98 : decode cX8_add 98 = .ok (.getfield 21, 3) := by decide +kernel
theorem dX8_add_101 : decode cX8_add 101 = .ok (.istore 5, 2) := by decide +kernel
theorem dX8_add_103 : decode cX8_add 103 = .ok (.iload 5, 2) := by decide +kernel
theorem dX8_add_105 : decode cX8_add 105 = .ok (.iload 4, 2) := by decide +kernel
theorem dX8_add_107 : decode cX8_add 107 = .ok (.if_icmp .le 19, 3) := by decide +kernel
theorem dX8_add_110 : decode cX8_add 110 = .ok (.aload_n 0, 1) := by decide +kernel
theorem dX8_add_111 : decode cX8_add 111 = .ok (.iload 5, 2) := by decide +kernel
theorem dX8_add_113 : decode cX8_add 113 = .ok (.iconst 1, 1) := by decide +kernel
theorem dX8_add_114 : decode cX8_add 114 = .ok (.isub, 1) := by decide +kernel
theorem dX8_add_115 : decode cX8_add 115 = .ok (.iload 5, 2) := by decide +kernel
theorem dX8_add_117 : decode cX8_add 117 = .ok (.invokevirtual 38, 3) := by decide +kernel
theorem dX8_add_120 : decode cX8_add 120 = .ok (.iinc 5 (-1), 3) := by decide +kernel
theorem dX8_add_123 : decode cX8_add 123 = .ok (.goto (-20), 3) := by decide +kernel
theorem dX8_add_126 : decode cX8_add 126 = .ok (.aload_n 0, 1) := by decide +kernel
theorem dX8_add_127 : decode cX8_add 127 = .ok (.getfield 11, 3) := by decide +kernel
theorem dX8_add_130 : decode cX8_add 130 = .ok (.iload 4, 2) := by decide +kernel
theorem dX8_add_132 : decode cX8_add 132 = .ok (.iload_n 1, 1) := by decide +kernel
theorem dX8_add_133 : decode cX8_add 133 = .ok (.iastore, 1) := by decide +kernel
theorem dX8_add_134 : decode cX8_add 134 = .ok (.aload_n 0, 1) := by decide +kernel
theorem dX8_add_135 : decode cX8_add 135 = .ok (.getfield 15, 3) := by decide +kernel
theorem dX8_add_138 : decode cX8_add 138 = .ok (.iload 4, 2) := by decide +kernel
theorem dX8_add_140 : decode cX8_add 140 = .ok (.iload_n 2, 1) := by decide +kernel
theorem dX8_add_141 : decode cX8_add 141 = .ok (.iastore, 1) := by decide +kernel
theorem dX8_add_142 : decode cX8_add 142 = .ok (.aload_n 0, 1) := by decide +kernel
theorem dX8_add_143 : decode cX8_add 143 = .ok (.getfield 18, 3) := by decide +kernel
theorem dX8_add_146 : decode cX8_add 146 = .ok (.iload 4, 2) := by decide +kernel
theorem dX8_add_148 : decode cX8_add 148 = .ok (.iload_n 3, 1) := by decide +kernel
theorem dX8_add_149 : decode cX8_add 149 = .ok (.iastore, 1) := by decide +kernel
theorem dX8_add_150 : decode cX8_add 150 = .ok (.aload_n 0, 1) := by decide +kernel
theorem dX8_add_151 : decode cX8_add 151 = .ok (.dup, 1) := by decide +kernel
theorem dX8_add_152 : decode cX8_add 152 = .ok (.getfield 21, 3) := by decide +kernel
theorem dX8_add_155 : decode cX8_add 155 = .ok (.iconst 1, 1) := by decide +kernel
theorem dX8_add_156 : decode cX8_add 156 = .ok (.iadd, 1) := by decide +kernel
theorem dX8_add_157 : decode cX8_add 157 = .ok (.putfield 21, 3) := by decide +kernel
theorem dX8_add_160 : decode cX8_add 160 = .ok (.return_, 1) := by decide +kernel
theorem dX8_copy_0 : decode cX8_copy 0 = .ok (.aload_n 0, 1) := by decide +kernel
theorem dX8_copy_1 : decode cX8_copy 1 = .ok (.iconst 0, 1) := by decide +kernel
theorem dX8_copy_2 : decode cX8_copy 2 = .ok (.putfield 21, 3) := by decide +kernel
theorem dX8_copy_5 : decode cX8_copy 5 = .ok (.iconst 0, 1) := by decide +kernel
theorem dX8_copy_6 : decode cX8_copy 6 = .ok (.istore_n 2, 1) := by decide +kernel
theorem dX8_copy_7 : decode cX8_copy 7 = .ok (.iload_n 2, 1) := by decide +kernel
theorem dX8_copy_8 : decode cX8_copy 8 = .ok (.aload_n 1, 1) := by decide +kernel
theorem dX8_copy_9 : decode cX8_copy 9 = .ok (.getfield 21, 3) := by decide +kernel
theorem dX8_copy_12 : decode cX8_copy 12 = .ok (.if_icmp .ge 61, 3) := by decide +kernel
theorem dX8_copy_15 : decode cX8_copy 15 = .ok (.iload_n 2, 1) := by decide +kernel
theorem dX8_copy_16 : decode cX8_copy 16 = .ok (.bipush 41, 2) := by decide +kernel
theorem dX8_copy_18 : decode cX8_copy 18 = .ok (.if_icmp .ge 55, 3) := by decide +kernel
theorem dX8_copy_21 : decode cX8_copy 21 = .ok (.aload_n 0, 1) := by decide +kernel
theorem dX8_copy_22 : decode cX8_copy 22 = .ok (.getfield 11, 3) := by decide +kernel
theorem dX8_copy_25 : decode cX8_copy 25 = .ok (.iload_n 2, 1) := by decide +kernel
theorem dX8_copy_26 : decode cX8_copy 26 = .ok (.aload_n 1, 1) := by decide +kernel
theorem dX8_copy_27 : decode cX8_copy 27 = .ok (.getfield 11, 3) := by decide +kernel
theorem dX8_copy_30 : decode cX8_copy 30 = .ok (.iload_n 2, 1) := by decide +kernel
theorem dX8_copy_31 : decode cX8_copy 31 = .ok (.iaload, 1) := by decide +kernel
theorem dX8_copy_32 : decode cX8_copy 32 = .ok (.iastore, 1) := by decide +kernel
theorem dX8_copy_33 : decode cX8_copy 33 = .ok (.aload_n 0, 1) := by decide +kernel
theorem dX8_copy_34 : decode cX8_copy 34 = .ok (.getfield 15, 3) := by decide +kernel
theorem dX8_copy_37 : decode cX8_copy 37 = .ok (.iload_n 2, 1) := by decide +kernel
theorem dX8_copy_38 : decode cX8_copy 38 = .ok (.aload_n 1, 1) := by decide +kernel
theorem dX8_copy_39 : decode cX8_copy 39 = .ok (.getfield 15, 3) := by decide +kernel
theorem dX8_copy_42 : decode cX8_copy 42 = .ok (.iload_n 2, 1) := by decide +kernel
theorem dX8_copy_43 : decode cX8_copy 43 = .ok (.iaload, 1) := by decide +kernel
theorem dX8_copy_44 : decode cX8_copy 44 = .ok (.iastore, 1) := by decide +kernel
theorem dX8_copy_45 : decode cX8_copy 45 = .ok (.aload_n 0, 1) := by decide +kernel
theorem dX8_copy_46 : decode cX8_copy 46 = .ok (.getfield 18, 3) := by decide +kernel
theorem dX8_copy_49 : decode cX8_copy 49 = .ok (.iload_n 2, 1) := by decide +kernel
theorem dX8_copy_50 : decode cX8_copy 50 = .ok (.aload_n 1, 1) := by decide +kernel
theorem dX8_copy_51 : decode cX8_copy 51 = .ok (.getfield 18, 3) := by decide +kernel
theorem dX8_copy_54 : decode cX8_copy 54 = .ok (.iload_n 2, 1) := by decide +kernel
theorem dX8_copy_55 : decode cX8_copy 55 = .ok (.iaload, 1) := by decide +kernel
theorem dX8_copy_56 : decode cX8_copy 56 = .ok (.iastore, 1) := by decide +kernel
theorem dX8_copy_57 : decode cX8_copy 57 = .ok (.aload_n 0, 1) := by decide +kernel
theorem dX8_copy_58 : decode cX8_copy 58 = .ok (.dup, 1) := by decide +kernel
theorem dX8_copy_59 : decode cX8_copy 59 = .ok (.getfield 21, 3) := by decide +kernel
theorem dX8_copy_62 : decode cX8_copy 62 = .ok (.iconst 1, 1) := by decide +kernel
theorem dX8_copy_63 : decode cX8_copy 63 = .ok (.iadd, 1) := by decide +kernel
theorem dX8_copy_64 : decode cX8_copy 64 = .ok (.putfield 21, 3) := by decide +kernel
theorem dX8_copy_67 : decode cX8_copy 67 = .ok (.iinc 2 1, 3) := by decide +kernel
theorem dX8_copy_70 : decode cX8_copy 70 = .ok (.goto (-63), 3) := by decide +kernel
theorem dX8_copy_73 : decode cX8_copy 73 = .ok (.return_, 1) := by decide +kernel
theorem dX8_drop_0 : decode cX8_drop 0 = .ok (.iconst 0, 1) := by decide +kernel
theorem dX8_drop_1 : decode cX8_drop 1 = .ok (.istore_n 2, 1) := by decide +kernel
theorem dX8_drop_2 : decode cX8_drop 2 = .ok (.iconst 0, 1) := by decide +kernel
theorem dX8_drop_3 : decode cX8_drop 3 = .ok (.istore_n 3, 1) := by decide +kernel
theorem dX8_drop_4 : decode cX8_drop 4 = .ok (.iload_n 3, 1) := by decide +kernel
theorem dX8_drop_5 : decode cX8_drop 5 = .ok (.aload_n 0, 1) := by decide +kernel
theorem dX8_drop_6 : decode cX8_drop 6 = .ok (.getfield 21, 3) := by decide +kernel
theorem dX8_drop_9 : decode cX8_drop 9 = .ok (.if_icmp .ge 31, 3) := by decide +kernel
theorem dX8_drop_12 : decode cX8_drop 12 = .ok (.aload_n 0, 1) := by decide +kernel
theorem dX8_drop_13 : decode cX8_drop 13 = .ok (.getfield 18, 3) := by decide +kernel
theorem dX8_drop_16 : decode cX8_drop 16 = .ok (.iload_n 3, 1) := by decide +kernel
theorem dX8_drop_17 : decode cX8_drop 17 = .ok (.iaload, 1) := by decide +kernel
theorem dX8_drop_18 : decode cX8_drop 18 = .ok (.iload_n 1, 1) := by decide +kernel
theorem dX8_drop_19 : decode cX8_drop 19 = .ok (.if_icmp .ne 6, 3) := by decide +kernel
theorem dX8_drop_22 : decode cX8_drop 22 = .ok (.goto 12, 3) := by decide +kernel
theorem dX8_drop_25 : decode cX8_drop 25 = .ok (.aload_n 0, 1) := by decide +kernel
theorem dX8_drop_26 : decode cX8_drop 26 = .ok (.iload_n 3, 1) := by decide +kernel
theorem dX8_drop_27 : decode cX8_drop 27 = .ok (.iload_n 2, 1) := by decide +kernel
theorem dX8_drop_28 : decode cX8_drop 28 = .ok (.invokevirtual 38, 3) := by decide +kernel
theorem dX8_drop_31 : decode cX8_drop 31 = .ok (.iinc 2 1, 3) := by decide +kernel
theorem dX8_drop_34 : decode cX8_drop 34 = .ok (.iinc 3 1, 3) := by decide +kernel
theorem dX8_drop_37 : decode cX8_drop 37 = .ok (.goto (-33), 3) := by decide +kernel
theorem dX8_drop_40 : decode cX8_drop 40 = .ok (.aload_n 0, 1) := by decide +kernel
theorem dX8_drop_41 : decode cX8_drop 41 = .ok (.iload_n 2, 1) := by decide +kernel
theorem dX8_drop_42 : decode cX8_drop 42 = .ok (.putfield 21, 3) := by decide +kernel
theorem dX8_drop_45 : decode cX8_drop 45 = .ok (.return_, 1) := by decide +kernel
theorem dX8_move_0 : decode cX8_move 0 = .ok (.iload_n 1, 1) := by decide +kernel
theorem dX8_move_1 : decode cX8_move 1 = .ok (.ifCond .lt 19, 3) := by decide +kernel
theorem dX8_move_4 : decode cX8_move 4 = .ok (.iload_n 1, 1) := by decide +kernel
theorem dX8_move_5 : decode cX8_move 5 = .ok (.bipush 41, 2) := by decide +kernel
theorem dX8_move_7 : decode cX8_move 7 = .ok (.if_icmp .ge 13, 3) := by decide +kernel
theorem dX8_move_10 : decode cX8_move 10 = .ok (.iload_n 2, 1) := by decide +kernel
theorem dX8_move_11 : decode cX8_move 11 = .ok (.ifCond .lt 9, 3) := by decide +kernel
theorem dX8_move_14 : decode cX8_move 14 = .ok (.iload_n 2, 1) := by decide +kernel
theorem dX8_move_15 : decode cX8_move 15 = .ok (.bipush 41, 2) := by decide +kernel
theorem dX8_move_17 : decode cX8_move 17 = .ok (.if_icmp .lt 4, 3) := by decide +kernel
theorem dX8_move_20 : decode cX8_move 20 = .ok (.return_, 1) := by decide +kernel
theorem dX8_move_21 : decode cX8_move 21 = .ok (.aload_n 0, 1) := by decide +kernel
theorem dX8_move_22 : decode cX8_move 22 = .ok (.getfield 11, 3) := by decide +kernel
theorem dX8_move_25 : decode cX8_move 25 = .ok (.iload_n 2, 1) := by decide +kernel
theorem dX8_move_26 : decode cX8_move 26 = .ok (.aload_n 0, 1) := by decide +kernel
theorem dX8_move_27 : decode cX8_move 27 = .ok (.getfield 11, 3) := by decide +kernel
theorem dX8_move_30 : decode cX8_move 30 = .ok (.iload_n 1, 1) := by decide +kernel
theorem dX8_move_31 : decode cX8_move 31 = .ok (.iaload, 1) := by decide +kernel
theorem dX8_move_32 : decode cX8_move 32 = .ok (.iastore, 1) := by decide +kernel
theorem dX8_move_33 : decode cX8_move 33 = .ok (.aload_n 0, 1) := by decide +kernel
theorem dX8_move_34 : decode cX8_move 34 = .ok (.getfield 15, 3) := by decide +kernel
theorem dX8_move_37 : decode cX8_move 37 = .ok (.iload_n 2, 1) := by decide +kernel
theorem dX8_move_38 : decode cX8_move 38 = .ok (.aload_n 0, 1) := by decide +kernel
theorem dX8_move_39 : decode cX8_move 39 = .ok (.getfield 15, 3) := by decide +kernel
theorem dX8_move_42 : decode cX8_move 42 = .ok (.iload_n 1, 1) := by decide +kernel
theorem dX8_move_43 : decode cX8_move 43 = .ok (.iaload, 1) := by decide +kernel
theorem dX8_move_44 : decode cX8_move 44 = .ok (.iastore, 1) := by decide +kernel
theorem dX8_move_45 : decode cX8_move 45 = .ok (.aload_n 0, 1) := by decide +kernel
theorem dX8_move_46 : decode cX8_move 46 = .ok (.getfield 18, 3) := by decide +kernel
theorem dX8_move_49 : decode cX8_move 49 = .ok (.iload_n 2, 1) := by decide +kernel
theorem dX8_move_50 : decode cX8_move 50 = .ok (.aload_n 0, 1) := by decide +kernel
theorem dX8_move_51 : decode cX8_move 51 = .ok (.getfield 18, 3) := by decide +kernel
theorem dX8_move_54 : decode cX8_move 54 = .ok (.iload_n 1, 1) := by decide +kernel
theorem dX8_move_55 : decode cX8_move 55 = .ok (.iaload, 1) := by decide +kernel
theorem dX8_move_56 : decode cX8_move 56 = .ok (.iastore, 1) := by decide +kernel
theorem dX8_move_57 : decode cX8_move 57 = .ok (.return_, 1) := by decide +kernel
theorem dX8_indexOf_0 : decode cX8_indexOf 0 = .ok (.iconst 0, 1) := by decide +kernel
theorem dX8_indexOf_1 : decode cX8_indexOf 1 = .ok (.istore_n 3, 1) := by decide +kernel
theorem dX8_indexOf_2 : decode cX8_indexOf 2 = .ok (.iload_n 3, 1) := by decide +kernel
theorem dX8_indexOf_3 : decode cX8_indexOf 3 = .ok (.aload_n 0, 1) := by decide +kernel
theorem dX8_indexOf_4 : decode cX8_indexOf 4 = .ok (.getfield 21, 3) := by decide +kernel
theorem dX8_indexOf_7 : decode cX8_indexOf 7 = .ok (.if_icmp .ge 31, 3) := by decide +kernel
theorem dX8_indexOf_10 : decode cX8_indexOf 10 = .ok (.aload_n 0, 1) := by decide +kernel
theorem dX8_indexOf_11 : decode cX8_indexOf 11 = .ok (.getfield 11, 3) := by decide +kernel
theorem dX8_indexOf_14 : decode cX8_indexOf 14 = .ok (.iload_n 3, 1) := by decide +kernel
theorem dX8_indexOf_15 : decode cX8_indexOf 15 = .ok (.iaload, 1) := by decide +kernel
theorem dX8_indexOf_16 : decode cX8_indexOf 16 = .ok (.iload_n 1, 1) := by decide +kernel
theorem dX8_indexOf_17 : decode cX8_indexOf 17 = .ok (.if_icmp .ne 15, 3) := by decide +kernel
theorem dX8_indexOf_20 : decode cX8_indexOf 20 = .ok (.aload_n 0, 1) := by decide +kernel
theorem dX8_indexOf_21 : decode cX8_indexOf 21 = .ok (.getfield 15, 3) := by decide +kernel
theorem dX8_indexOf_24 : decode cX8_indexOf 24 = .ok (.iload_n 3, 1) := by decide +kernel
theorem dX8_indexOf_25 : decode cX8_indexOf 25 = .ok (.iaload, 1) := by decide +kernel
theorem dX8_indexOf_26 : decode cX8_indexOf 26 = .ok (.iload_n 2, 1) := by decide +kernel
theorem dX8_indexOf_27 : decode cX8_indexOf 27 = .ok (.if_icmp .ne 5, 3) := by decide +kernel
theorem dX8_indexOf_30 : decode cX8_indexOf 30 = .ok (.iload_n 3, 1) := by decide +kernel
theorem dX8_indexOf_31 : decode cX8_indexOf 31 = .ok (.ireturn, 1) := by decide +kernel
theorem dX8_indexOf_32 : decode cX8_indexOf 32 = .ok (.iinc 3 1, 3) := by decide +kernel
theorem dX8_indexOf_35 : decode cX8_indexOf 35 = .ok (.goto (-33), 3) := by decide +kernel
theorem dX8_indexOf_38 : decode cX8_indexOf 38 = .ok (.iconst (-1), 1) := by decide +kernel
theorem dX8_indexOf_39 : decode cX8_indexOf 39 = .ok (.ireturn, 1) := by decide +kernel
theorem dX8_distance_0 : decode cX8_distance 0 = .ok (.aload_n 0, 1) := by decide +kernel
theorem dX8_distance_1 : decode cX8_distance 1 = .ok (.iload_n 2, 1) := by decide +kernel
theorem dX8_distance_2 : decode cX8_distance 2 = .ok (.invokevirtual 42, 3) := by decide +kernel
theorem dX8_distance_5 : decode cX8_distance 5 = .ok (.aload_n 0, 1) := by decide +kernel
theorem dX8_distance_6 : decode cX8_distance 6 = .ok (.iload_n 1, 1) := by decide +kernel
theorem dX8_distance_7 : decode cX8_distance 7 = .ok (.invokevirtual 42, 3) := by decide +kernel
theorem dX8_distance_10 : decode cX8_distance 10 = .ok (.isub, 1) := by decide +kernel
theorem dX8_distance_11 : decode cX8_distance 11 = .ok (.istore_n 3, 1) := by decide +kernel
theorem dX8_distance_12 : decode cX8_distance 12 = .ok (.aload_n 0, 1) := by decide +kernel
theorem dX8_distance_13 : decode cX8_distance 13 = .ok (.iload_n 2, 1) := by decide +kernel
theorem dX8_distance_14 : decode cX8_distance 14 = .ok (.invokevirtual 46, 3) := by decide +kernel
theorem dX8_distance_17 : decode cX8_distance 17 = .ok (.aload_n 0, 1) := by decide +kernel
theorem dX8_distance_18 : decode cX8_distance 18 = .ok (.iload_n 1, 1) := by decide +kernel
theorem dX8_distance_19 : decode cX8_distance 19 = .ok (.invokevirtual 46, 3) := by decide +kernel
theorem dX8_distance_22 : decode cX8_distance 22 = .ok (.isub, 1) := by decide +kernel
theorem dX8_distance_23 : decode cX8_distance 23 = .ok (.istore 4, 2) := by decide +kernel
theorem dX8_distance_25 : decode cX8_distance 25 = .ok (.iload_n 3, 1) := by decide +kernel
theorem dX8_distance_26 : decode cX8_distance 26 = .ok (.iload_n 3, 1) := by decide +kernel
theorem dX8_distance_27 : decode cX8_distance 27 = .ok (.imul, 1) := by decide +kernel
theorem dX8_distance_28 : decode cX8_distance 28 = .ok (.iload 4, 2) := by decide +kernel
theorem dX8_distance_30 : decode cX8_distance 30 = .ok (.iload 4, 2) := by decide +kernel
theorem dX8_distance_32 : decode cX8_distance 32 = .ok (.imul, 1) := by decide +kernel
theorem dX8_distance_33 : decode cX8_distance 33 = .ok (.iadd, 1) := by decide +kernel
theorem dX8_distance_34 : decode cX8_distance 34 = .ok (.ireturn, 1) := by decide +kernel
theorem dX8_depth_0 : decode cX8_depth 0 = .ok (.aload_n 0, 1) := by decide +kernel
theorem dX8_depth_1 : decode cX8_depth 1 = .ok (.getfield 21, 3) := by decide +kernel
theorem dX8_depth_4 : decode cX8_depth 4 = .ok (.istore_n 3, 1) := by decide +kernel
theorem dX8_depth_5 : decode cX8_depth 5 = .ok (.iconst 0, 1) := by decide +kernel
theorem dX8_depth_6 : decode cX8_depth 6 = .ok (.istore 4, 2) := by decide +kernel
theorem dX8_depth_8 : decode cX8_depth 8 = .ok (.iload 4, 2) := by decide +kernel
theorem dX8_depth_10 : decode cX8_depth 10 = .ok (.aload_n 0, 1) := by decide +kernel
theorem dX8_depth_11 : decode cX8_depth 11 = .ok (.getfield 21, 3) := by decide +kernel
theorem dX8_depth_14 : decode cX8_depth 14 = .ok (.if_icmp .ge 60, 3) := by decide +kernel
theorem dX8_depth_17 : decode cX8_depth 17 = .ok (.aload_n 0, 1) := by decide +kernel
theorem dX8_depth_18 : decode cX8_depth 18 = .ok (.getfield 11, 3) := by decide +kernel
theorem dX8_depth_21 : decode cX8_depth 21 = .ok (.iload 4, 2) := by decide +kernel
theorem dX8_depth_23 : decode cX8_depth 23 = .ok (.iaload, 1) := by decide +kernel
theorem dX8_depth_24 : decode cX8_depth 24 = .ok (.iload_n 1, 1) := by decide +kernel
theorem dX8_depth_25 : decode cX8_depth 25 = .ok (.if_icmp .ne 14, 3) := by decide +kernel
theorem dX8_depth_28 : decode cX8_depth 28 = .ok (.aload_n 0, 1) := by decide +kernel
theorem dX8_depth_29 : decode cX8_depth 29 = .ok (.getfield 15, 3) := by decide +kernel
theorem dX8_depth_32 : decode cX8_depth 32 = .ok (.iload 4, 2) := by decide +kernel
theorem dX8_depth_34 : decode cX8_depth 34 = .ok (.iaload, 1) := by decide +kernel
theorem dX8_depth_35 : decode cX8_depth 35 = .ok (.iload_n 2, 1) := by decide +kernel
theorem dX8_depth_36 : decode cX8_depth 36 = .ok (.if_icmp .eq 32, 3) := by decide +kernel
theorem dX8_depth_39 : decode cX8_depth 39 = .ok (.iload_n 3, 1) := by decide +kernel
theorem dX8_depth_40 : decode cX8_depth 40 = .ok (.aload_n 0, 1) := by decide +kernel
theorem dX8_depth_41 : decode cX8_depth 41 = .ok (.iload_n 1, 1) := by decide +kernel
theorem dX8_depth_42 : decode cX8_depth 42 = .ok (.iload_n 2, 1) := by decide +kernel
theorem dX8_depth_43 : decode cX8_depth 43 = .ok (.aload_n 0, 1) := by decide +kernel
theorem dX8_depth_44 : decode cX8_depth 44 = .ok (.getfield 11, 3) := by decide +kernel
theorem dX8_depth_47 : decode cX8_depth 47 = .ok (.iload 4, 2) := by decide +kernel
theorem dX8_depth_49 : decode cX8_depth 49 = .ok (.iaload, 1) := by decide +kernel
theorem dX8_depth_50 : decode cX8_depth 50 = .ok (.iload_n 1, 1) := by decide +kernel
theorem dX8_depth_51 : decode cX8_depth 51 = .ok (.isub, 1) := by decide +kernel
theorem dX8_depth_52 : decode cX8_depth 52 = .ok (.aload_n 0, 1) := by decide +kernel
theorem dX8_depth_53 : decode cX8_depth 53 = .ok (.getfield 15, 3) := by decide +kernel
theorem dX8_depth_56 : decode cX8_depth 56 = .ok (.iload 4, 2) := by decide +kernel
theorem dX8_depth_58 : decode cX8_depth 58 = .ok (.iaload, 1) := by decide +kernel
theorem dX8_depth_59 : decode cX8_depth 59 = .ok (.iload_n 2, 1) := by decide +kernel
theorem dX8_depth_60 : decode cX8_depth 60 = .ok (.isub, 1) := by decide +kernel
theorem dX8_depth_61 : decode cX8_depth 61 = .ok (.invokevirtual 49, 3) := by decide +kernel
theorem dX8_depth_64 : decode cX8_depth 64 = .ok (.invokestatic 53, 3) := by decide +kernel
theorem dX8_depth_67 : decode cX8_depth 67 = .ok (.istore_n 3, 1) := by decide +kernel
theorem dX8_depth_68 : decode cX8_depth 68 = .ok (.iinc 4 1, 3) := by decide +kernel
theorem dX8_depth_71 : decode cX8_depth 71 = .ok (.goto (-63), 3) := by decide +kernel
theorem dX8_depth_74 : decode cX8_depth 74 = .ok (.iload_n 3, 1) := by decide +kernel
theorem dX8_depth_75 : decode cX8_depth 75 = .ok (.ireturn, 1) := by decide +kernel
theorem dX8_depthBeside_0 : decode cX8_depthBeside 0 = .ok (.iconst 0, 1) := by decide +kernel
theorem dX8_depthBeside_1 : decode cX8_depthBeside 1 = .ok (.istore 5, 2) := by decide +kernel
theorem dX8_depthBeside_3 : decode cX8_depthBeside 3 = .ok (.iconst 0, 1) := by decide +kernel
theorem dX8_depthBeside_4 : decode cX8_depthBeside 4 = .ok (.istore 6, 2) := by decide +kernel
theorem dX8_depthBeside_6 : decode cX8_depthBeside 6 = .ok (.iconst 0, 1) := by decide +kernel
theorem dX8_depthBeside_7 : decode cX8_depthBeside 7 = .ok (.istore 7, 2) := by decide +kernel
theorem dX8_depthBeside_9 : decode cX8_depthBeside 9 = .ok (.iconst 0, 1) := by decide +kernel
theorem dX8_depthBeside_10 : decode cX8_depthBeside 10 = .ok (.istore 8, 2) := by decide +kernel
theorem dX8_depthBeside_12 : decode cX8_depthBeside 12 = .ok (.iconst 0, 1) := by decide +kernel
theorem dX8_depthBeside_13 : decode cX8_depthBeside 13 = .ok (.istore 9, 2) := by decide +kernel
theorem dX8_depthBeside_15 : decode cX8_depthBeside 15 = .ok (.iload 9, 2) := by decide +kernel
theorem dX8_depthBeside_17 : decode cX8_depthBeside 17 = .ok (.aload_n 0, 1) := by decide +kernel
theorem dX8_depthBeside_18 : decode cX8_depthBeside 18 = .ok (.getfield 21, 3) := by decide +kernel
theorem dX8_depthBeside_21 : decode cX8_depthBeside 21 = .ok (.if_icmp .ge 102, 3) := by decide +kernel
theorem dX8_depthBeside_24 : decode cX8_depthBeside 24 = .ok (.iload_n 3, 1) := by decide +kernel
theorem dX8_depthBeside_25 : decode cX8_depthBeside 25 = .ok (.aload_n 0, 1) := by decide +kernel
theorem dX8_depthBeside_26 : decode cX8_depthBeside 26 = .ok (.getfield 15, 3) := by decide +kernel
theorem dX8_depthBeside_29 : decode cX8_depthBeside 29 = .ok (.iload 9, 2) := by decide +kernel
theorem dX8_depthBeside_31 : decode cX8_depthBeside 31 = .ok (.iaload, 1) := by decide +kernel
theorem dX8_depthBeside_32 : decode cX8_depthBeside 32 = .ok (.iload_n 2, 1) := by decide +kernel
theorem dX8_depthBeside_33 : decode cX8_depthBeside 33 = .ok (.isub, 1) := by decide +kernel
theorem dX8_depthBeside_34 : decode cX8_depthBeside 34 = .ok (.imul, 1) := by decide +kernel
theorem dX8_depthBeside_35 : decode cX8_depthBeside 35 = .ok (.iload 4, 2) := by decide +kernel
theorem dX8_depthBeside_37 : decode cX8_depthBeside 37 = .ok (.aload_n 0, 1) := by decide +kernel
theorem dX8_depthBeside_38 : decode cX8_depthBeside 38 = .ok (.getfield 11, 3) := by decide +kernel
theorem dX8_depthBeside_41 : decode cX8_depthBeside 41 = .ok (.iload 9, 2) := by decide +kernel
theorem dX8_depthBeside_43 : decode cX8_depthBeside 43 = .ok (.iaload, 1) := by decide +kernel
theorem dX8_depthBeside_44 : decode cX8_depthBeside 44 = .ok (.iload_n 1, 1) := by decide +kernel
theorem dX8_depthBeside_45 : decode cX8_depthBeside 45 = .ok (.isub, 1) := by decide +kernel
theorem dX8_depthBeside_46 : decode cX8_depthBeside 46 = .ok (.imul, 1) := by decide +kernel
theorem dX8_depthBeside_47 : decode cX8_depthBeside 47 = .ok (.isub, 1) := by decide +kernel
theorem dX8_depthBeside_48 : decode cX8_depthBeside 48 = .ok (.istore 10, 2) := by decide +kernel
theorem dX8_depthBeside_50 : decode cX8_depthBeside 50 = .ok (.iload_n 3, 1) := by decide +kernel
theorem dX8_depthBeside_51 : decode cX8_depthBeside 51 = .ok (.aload_n 0, 1) := by decide +kernel
theorem dX8_depthBeside_52 : decode cX8_depthBeside 52 = .ok (.getfield 11, 3) := by decide +kernel
theorem dX8_depthBeside_55 : decode cX8_depthBeside 55 = .ok (.iload 9, 2) := by decide +kernel
theorem dX8_depthBeside_57 : decode cX8_depthBeside 57 = .ok (.iaload, 1) := by decide +kernel
theorem dX8_depthBeside_58 : decode cX8_depthBeside 58 = .ok (.iload_n 1, 1) := by decide +kernel
theorem dX8_depthBeside_59 : decode cX8_depthBeside 59 = .ok (.isub, 1) := by decide +kernel
theorem dX8_depthBeside_60 : decode cX8_depthBeside 60 = .ok (.imul, 1) := by decide +kernel
theorem dX8_depthBeside_61 : decode cX8_depthBeside 61 = .ok (.iload 4, 2) := by decide +kernel
theorem dX8_depthBeside_63 : decode cX8_depthBeside 63 = .ok (.aload_n 0, 1) := by decide +kernel
theorem dX8_depthBeside_64 : decode cX8_depthBeside 64 = .ok (.getfield 15, 3) := by decide +kernel
theorem dX8_depthBeside_67 : decode cX8_depthBeside 67 = .ok (.iload 9, 2) := by decide +kernel
theorem dX8_depthBeside_69 : decode cX8_depthBeside 69 = .ok (.iaload, 1) := by decide +kernel
theorem dX8_depthBeside_70 : decode cX8_depthBeside 70 = .ok (.iload_n 2, 1) := by decide +kernel
theorem dX8_depthBeside_71 : decode cX8_depthBeside 71 = .ok (.isub, 1) := by decide +kernel
theorem dX8_depthBeside_72 : decode cX8_depthBeside 72 = .ok (.imul, 1) := by decide +kernel
theorem dX8_depthBeside_73 : decode cX8_depthBeside 73 = .ok (.iadd, 1) := by decide +kernel
theorem dX8_depthBeside_74 : decode cX8_depthBeside 74 = .ok (.istore 11, 2) := by decide +kernel
theorem dX8_depthBeside_76 : decode cX8_depthBeside 76 = .ok (.iload 10, 2) := by decide +kernel
theorem dX8_depthBeside_78 : decode cX8_depthBeside 78 = .ok (.ifCond .le 9, 3) := by decide +kernel
theorem dX8_depthBeside_81 : decode cX8_depthBeside 81 = .ok (.iinc 5 1, 3) := by decide +kernel
theorem dX8_depthBeside_84 : decode cX8_depthBeside 84 = .ok (.goto 33, 3) := by decide +kernel
theorem dX8_depthBeside_87 : decode cX8_depthBeside 87 = .ok (.iload 10, 2) := by decide +kernel
theorem dX8_depthBeside_89 : decode cX8_depthBeside 89 = .ok (.ifCond .ge 9, 3) := by decide +kernel
theorem dX8_depthBeside_92 : decode cX8_depthBeside 92 = .ok (.iinc 6 1, 3) := by decide +kernel
theorem dX8_depthBeside_95 : decode cX8_depthBeside 95 = .ok (.goto 22, 3) := by decide +kernel
theorem dX8_depthBeside_98 : decode cX8_depthBeside 98 = .ok (.iload 11, 2) := by decide +kernel
theorem dX8_depthBeside_100 : decode cX8_depthBeside 100 = .ok (.ifCond .le 9, 3) := by decide +kernel
theorem dX8_depthBeside_103 : decode cX8_depthBeside 103 = .ok (.iinc 7 1, 3) := by decide +kernel
theorem dX8_depthBeside_106 : decode cX8_depthBeside 106 = .ok (.goto 11, 3) := by decide +kernel
theorem dX8_depthBeside_109 : decode cX8_depthBeside 109 = .ok (.iload 11, 2) := by decide +kernel
theorem dX8_depthBeside_111 : decode cX8_depthBeside 111 = .ok (.ifCond .ge 6, 3) := by decide +kernel
theorem dX8_depthBeside_114 : decode cX8_depthBeside 114 = .ok (.iinc 8 1, 3) := by decide +kernel
theorem dX8_depthBeside_117 : decode cX8_depthBeside 117 = .ok (.iinc 9 1, 3) := by decide +kernel
theorem dX8_depthBeside_120 : decode cX8_depthBeside 120 = .ok (.goto (-105), 3) := by decide +kernel
theorem dX8_depthBeside_123 : decode cX8_depthBeside 123 = .ok (.aload_n 0, 1) := by decide +kernel
theorem dX8_depthBeside_124 : decode cX8_depthBeside 124 = .ok (.getfield 21, 3) := by decide +kernel
theorem dX8_depthBeside_127 : decode cX8_depthBeside 127 = .ok (.iload 5, 2) := by decide +kernel
theorem dX8_depthBeside_129 : decode cX8_depthBeside 129 = .ok (.isub, 1) := by decide +kernel
theorem dX8_depthBeside_130 : decode cX8_depthBeside 130 = .ok (.iload 6, 2) := by decide +kernel
theorem dX8_depthBeside_132 : decode cX8_depthBeside 132 = .ok (.isub, 1) := by decide +kernel
theorem dX8_depthBeside_133 : decode cX8_depthBeside 133 = .ok (.iload 7, 2) := by decide +kernel
theorem dX8_depthBeside_135 : decode cX8_depthBeside 135 = .ok (.isub, 1) := by decide +kernel
theorem dX8_depthBeside_136 : decode cX8_depthBeside 136 = .ok (.iload 8, 2) := by decide +kernel
theorem dX8_depthBeside_138 : decode cX8_depthBeside 138 = .ok (.isub, 1) := by decide +kernel
theorem dX8_depthBeside_139 : decode cX8_depthBeside 139 = .ok (.istore 9, 2) := by decide +kernel
theorem dX8_depthBeside_141 : decode cX8_depthBeside 141 = .ok (.iload 9, 2) := by decide +kernel
theorem dX8_depthBeside_143 : decode cX8_depthBeside 143 = .ok (.iload 5, 2) := by decide +kernel
theorem dX8_depthBeside_145 : decode cX8_depthBeside 145 = .ok (.iload 6, 2) := by decide +kernel
theorem dX8_depthBeside_147 : decode cX8_depthBeside 147 = .ok (.invokestatic 53, 3) := by decide +kernel
theorem dX8_depthBeside_150 : decode cX8_depthBeside 150 = .ok (.iadd, 1) := by decide +kernel
theorem dX8_depthBeside_151 : decode cX8_depthBeside 151 = .ok (.iload 7, 2) := by decide +kernel
theorem dX8_depthBeside_153 : decode cX8_depthBeside 153 = .ok (.iload 8, 2) := by decide +kernel
theorem dX8_depthBeside_155 : decode cX8_depthBeside 155 = .ok (.invokestatic 53, 3) := by decide +kernel
theorem dX8_depthBeside_158 : decode cX8_depthBeside 158 = .ok (.iadd, 1) := by decide +kernel
theorem dX8_depthBeside_159 : decode cX8_depthBeside 159 = .ok (.ireturn, 1) := by decide +kernel
theorem dX9_init_0 : decode cX9_init 0 = .ok (.aload_n 0, 1) := by decide +kernel
theorem dX9_init_1 : decode cX9_init 1 = .ok (.invokespecial 3, 3) := by decide +kernel
theorem dX9_init_4 : decode cX9_init 4 = .ok (.aload_n 0, 1) := by decide +kernel
theorem dX9_init_5 : decode cX9_init 5 = .ok (.sipush 400, 3) := by decide +kernel
theorem dX9_init_8 : decode cX9_init 8 = .ok (.newarray .int, 2) := by decide +kernel
theorem dX9_init_10 : decode cX9_init 10 = .ok (.putfield 11, 3) := by decide +kernel
theorem dX9_init_13 : decode cX9_init 13 = .ok (.aload_n 0, 1) := by decide +kernel
theorem dX9_init_14 : decode cX9_init 14 = .ok (.iconst (-1), 1) := by decide +kernel
theorem dX9_init_15 : decode cX9_init 15 = .ok (.putfield 15, 3) := by decide +kernel
theorem dX9_init_18 : decode cX9_init 18 = .ok (.return_, 1) := by decide +kernel
theorem dX9_length_0 : decode cX9_length 0 = .ok (.aload_n 0, 1) := by decide +kernel
theorem dX9_length_1 : decode cX9_length 1 = .ok (.getfield 19, 3) := by decide +kernel
theorem dX9_length_4 : decode cX9_length 4 = .ok (.ireturn, 1) := by decide +kernel
theorem dX9_faultPlace_0 : decode cX9_faultPlace 0 = .ok (.aload_n 0, 1) := by decide +kernel
theorem dX9_faultPlace_1 : decode cX9_faultPlace 1 = .ok (.getfield 15, 3) := by decide +kernel
theorem dX9_faultPlace_4 : decode cX9_faultPlace 4 = .ok (.ireturn, 1) := by decide +kernel
theorem dX9_hasRoom_0 : decode cX9_hasRoom 0 = .ok (.aload_n 0, 1) := by decide +kernel
theorem dX9_hasRoom_1 : decode cX9_hasRoom 1 = .ok (.getfield 19, 3) := by decide +kernel
theorem dX9_hasRoom_4 : decode cX9_hasRoom 4 = .ok (.iload_n 1, 1) := by decide +kernel
theorem dX9_hasRoom_5 : decode cX9_hasRoom 5 = .ok (.iadd, 1) := by decide +kernel
theorem dX9_hasRoom_6 : decode cX9_hasRoom 6 = .ok (.sipush 400, 3) := by decide +kernel
theorem dX9_hasRoom_9 : decode cX9_hasRoom 9 = .ok (.if_icmp .gt 7, 3) := by decide +kernel
theorem dX9_hasRoom_12 : decode cX9_hasRoom 12 = .ok (.iconst 1, 1) := by decide +kernel
theorem dX9_hasRoom_13 : decode cX9_hasRoom 13 = .ok (.goto 4, 3) := by decide +kernel
theorem dX9_hasRoom_16 : decode cX9_hasRoom 16 = .ok (.iconst 0, 1) := by decide +kernel
theorem dX9_hasRoom_17 : decode cX9_hasRoom 17 = .ok (.ireturn, 1) := by decide +kernel
theorem dX9_take_0 : decode cX9_take 0 = .ok (.bipush 24, 2) := by decide +kernel
theorem dX9_take_2 : decode cX9_take 2 = .ok (.istore_n 2, 1) := by decide +kernel
theorem dX9_take_3 : decode cX9_take 3 = .ok (.iload_n 2, 1) := by decide +kernel
theorem dX9_take_4 : decode cX9_take 4 = .ok (.ifCond .lt 44, 3) := by decide +kernel
theorem dX9_take_7 : decode cX9_take 7 = .ok (.aload_n 0, 1) := by decide +kernel
theorem dX9_take_8 : decode cX9_take 8 = .ok (.iconst 1, 1) := by decide +kernel
theorem dX9_take_9 : decode cX9_take 9 = .ok (.invokevirtual 22, 3) := by decide +kernel
theorem dX9_take_12 : decode cX9_take 12 = .ok (.ifCond .ne 4, 3) := by decide +kernel
theorem dX9_take_15 : decode cX9_take 15 = .ok (.return_, 1) := by decide +kernel
theorem dX9_take_16 : decode cX9_take 16 = .ok (.aload_n 0, 1) := by decide +kernel
theorem dX9_take_17 : decode cX9_take 17 = .ok (.getfield 11, 3) := by decide +kernel
theorem dX9_take_20 : decode cX9_take 20 = .ok (.aload_n 0, 1) := by decide +kernel
theorem dX9_take_21 : decode cX9_take 21 = .ok (.getfield 19, 3) := by decide +kernel
theorem dX9_take_24 : decode cX9_take 24 = .ok (.iload_n 1, 1) := by decide +kernel
theorem dX9_take_25 : decode cX9_take 25 = .ok (.iload_n 2, 1) := by decide +kernel
theorem dX9_take_26 : decode cX9_take 26 = .ok (.ishr, 1) := by decide +kernel
theorem dX9_take_27 : decode cX9_take 27 = .ok (.sipush 255, 3) := by decide +kernel
theorem dX9_take_30 : decode cX9_take 30 = .ok (.iand, 1) := by decide +kernel
theorem dX9_take_31 : decode cX9_take 31 = .ok (.iastore, 1) := by decide +kernel
theorem dX9_take_32 : decode cX9_take 32 = .ok (.aload_n 0, 1) := by decide +kernel
theorem dX9_take_33 : decode cX9_take 33 = .ok (.dup, 1) := by decide +kernel
theorem dX9_take_34 : decode cX9_take 34 = .ok (.getfield 19, 3) := by decide +kernel
theorem dX9_take_37 : decode cX9_take 37 = .ok (.iconst 1, 1) := by decide +kernel
theorem dX9_take_38 : decode cX9_take 38 = .ok (.iadd, 1) := by decide +kernel
theorem dX9_take_39 : decode cX9_take 39 = .ok (.putfield 19, 3) := by decide +kernel
theorem dX9_take_42 : decode cX9_take 42 = .ok (.iinc 2 (-8), 3) := by decide +kernel
theorem dX9_take_45 : decode cX9_take 45 = .ok (.goto (-42), 3) := by decide +kernel
theorem dX9_take_48 : decode cX9_take 48 = .ok (.return_, 1) := by decide +kernel
theorem dX9_cut_0 : decode cX9_cut 0 = .ok (.iload_n 1, 1) := by decide +kernel
theorem dX9_cut_1 : decode cX9_cut 1 = .ok (.ifCond .lt 11, 3) := by decide +kernel
theorem dX9_cut_4 : decode cX9_cut 4 = .ok (.iload_n 1, 1) := by decide +kernel
theorem dX9_cut_5 : decode cX9_cut 5 = .ok (.aload_n 0, 1) := by decide +kernel
theorem dX9_cut_6 : decode cX9_cut 6 = .ok (.getfield 19, 3) := by decide +kernel
theorem dX9_cut_9 : decode cX9_cut 9 = .ok (.if_icmp .le 5, 3) := by decide +kernel
theorem dX9_cut_12 : decode cX9_cut 12 = .ok (.iconst 0, 1) := by decide +kernel
theorem dX9_cut_13 : decode cX9_cut 13 = .ok (.ireturn, 1) := by decide +kernel
theorem dX9_cut_14 : decode cX9_cut 14 = .ok (.aload_n 0, 1) := by decide +kernel
theorem dX9_cut_15 : decode cX9_cut 15 = .ok (.iload_n 1, 1) := by decide +kernel
theorem dX9_cut_16 : decode cX9_cut 16 = .ok (.putfield 19, 3) := by decide +kernel
theorem dX9_cut_19 : decode cX9_cut 19 = .ok (.iconst 1, 1) := by decide +kernel
theorem dX9_cut_20 : decode cX9_cut 20 = .ok (.ireturn, 1) := by decide +kernel
theorem dX9_read_0 : decode cX9_read 0 = .ok (.iconst 0, 1) := by decide +kernel
theorem dX9_read_1 : decode cX9_read 1 = .ok (.istore_n 2, 1) := by decide +kernel
theorem dX9_read_2 : decode cX9_read 2 = .ok (.aload_n 0, 1) := by decide +kernel
theorem dX9_read_3 : decode cX9_read 3 = .ok (.iconst 0, 1) := by decide +kernel
theorem dX9_read_4 : decode cX9_read 4 = .ok (.putfield 26, 3) := by decide +kernel
theorem dX9_read_7 : decode cX9_read 7 = .ok (.aload_n 0, 1) := by decide +kernel
theorem dX9_read_8 : decode cX9_read 8 = .ok (.iconst (-1), 1) := by decide +kernel
theorem dX9_read_9 : decode cX9_read 9 = .ok (.putfield 15, 3) := by decide +kernel
theorem dX9_read_12 : decode cX9_read 12 = .ok (.aload_n 1, 1) := by decide +kernel
theorem dX9_read_13 : decode cX9_read 13 = .ok (.invokevirtual 29, 3) := by decide +kernel
theorem dX9_read_16 : decode cX9_read 16 = .ok (.sipush 400, 3) := by decide +kernel
theorem dX9_read_19 : decode cX9_read 19 = .ok (.istore_n 3, 1) := by decide +kernel
theorem dX9_read_20 : decode cX9_read 20 = .ok (.iload_n 3, 1) := by decide +kernel
theorem dX9_read_21 : decode cX9_read 21 = .ok (.ifCond .le 36, 3) := by decide +kernel
theorem dX9_read_24 : decode cX9_read 24 = .ok (.aload_n 0, 1) := by decide +kernel
theorem dX9_read_25 : decode cX9_read 25 = .ok (.getfield 26, 3) := by decide +kernel
theorem dX9_read_28 : decode cX9_read 28 = .ok (.aload_n 0, 1) := by decide +kernel
theorem dX9_read_29 : decode cX9_read 29 = .ok (.getfield 19, 3) := by decide +kernel
theorem dX9_read_32 : decode cX9_read 32 = .ok (.if_icmp .ge 25, 3) := by decide +kernel
theorem dX9_read_35 : decode cX9_read 35 = .ok (.aload_n 0, 1) := by decide +kernel
theorem dX9_read_36 : decode cX9_read 36 = .ok (.getfield 15, 3) := by decide +kernel
theorem dX9_read_39 : decode cX9_read 39 = .ok (.iconst (-1), 1) := by decide +kernel
theorem dX9_read_40 : decode cX9_read 40 = .ok (.if_icmp .ne 17, 3) := by decide +kernel
theorem dX9_read_43 : decode cX9_read 43 = .ok (.aload_n 0, 1) := by decide +kernel
theorem dX9_read_44 : decode cX9_read 44 = .ok (.aload_n 1, 1) := by decide +kernel
theorem dX9_read_45 : decode cX9_read 45 = .ok (.invokevirtual 34, 3) := by decide +kernel
theorem dX9_read_48 : decode cX9_read 48 = .ok (.iinc 2 1, 3) := by decide +kernel
theorem dX9_read_51 : decode cX9_read 51 = .ok (.iinc 3 (-1), 3) := by decide +kernel
theorem dX9_read_54 : decode cX9_read 54 = .ok (.goto (-34), 3) := by decide +kernel
theorem dX9_read_57 : decode cX9_read 57 = .ok (.aload_n 0, 1) := by decide +kernel
theorem dX9_read_58 : decode cX9_read 58 = .ok (.iconst 0, 1) := by decide +kernel
theorem dX9_read_59 : decode cX9_read 59 = .ok (.putfield 19, 3) := by decide +kernel
theorem dX9_read_62 : decode cX9_read 62 = .ok (.aload_n 0, 1) := by decide +kernel
theorem dX9_read_63 : decode cX9_read 63 = .ok (.getfield 15, 3) := by decide +kernel
theorem dX9_read_66 : decode cX9_read 66 = .ok (.iconst (-1), 1) := by decide +kernel
theorem dX9_read_67 : decode cX9_read 67 = .ok (.if_icmp .eq 9, 3) := by decide +kernel
theorem dX9_read_70 : decode cX9_read 70 = .ok (.aload_n 1, 1) := by decide +kernel
theorem dX9_read_71 : decode cX9_read 71 = .ok (.invokevirtual 38, 3) := by decide +kernel
theorem dX9_read_74 : decode cX9_read 74 = .ok (.iconst (-1), 1) := by decide +kernel
theorem dX9_read_75 : decode cX9_read 75 = .ok (.ireturn, 1) := by decide +kernel
theorem dX9_read_76 : decode cX9_read 76 = .ok (.aload_n 1, 1) := by decide +kernel
theorem dX9_read_77 : decode cX9_read 77 = .ok (.invokevirtual 41, 3) := by decide +kernel
theorem dX9_read_80 : decode cX9_read 80 = .ok (.iload_n 2, 1) := by decide +kernel
theorem dX9_read_81 : decode cX9_read 81 = .ok (.ireturn, 1) := by decide +kernel
theorem dX9_readItem_0 : decode cX9_readItem 0 = .ok (.aload_n 0, 1) := by decide +kernel
theorem dX9_readItem_1 : decode cX9_readItem 1 = .ok (.invokevirtual 44, 3) := by decide +kernel
theorem dX9_readItem_4 : decode cX9_readItem 4 = .ok (.bipush 112, 2) := by decide +kernel
theorem dX9_readItem_6 : decode cX9_readItem 6 = .ok (.if_icmp .ne 21, 3) := by decide +kernel
theorem dX9_readItem_9 : decode cX9_readItem 9 = .ok (.aload_n 0, 1) := by decide +kernel
theorem dX9_readItem_10 : decode cX9_readItem 10 = .ok (.dup, 1) := by decide +kernel
theorem dX9_readItem_11 : decode cX9_readItem 11 = .ok (.getfield 26, 3) := by decide +kernel
theorem dX9_readItem_14 : decode cX9_readItem 14 = .ok (.iconst 1, 1) := by decide +kernel
theorem dX9_readItem_15 : decode cX9_readItem 15 = .ok (.iadd, 1) := by decide +kernel
theorem dX9_readItem_16 : decode cX9_readItem 16 = .ok (.putfield 26, 3) := by decide +kernel
theorem dX9_readItem_19 : decode cX9_readItem 19 = .ok (.aload_n 0, 1) := by decide +kernel
theorem dX9_readItem_20 : decode cX9_readItem 20 = .ok (.aload_n 1, 1) := by decide +kernel
theorem dX9_readItem_21 : decode cX9_readItem 21 = .ok (.invokevirtual 48, 3) := by decide +kernel
theorem dX9_readItem_24 : decode cX9_readItem 24 = .ok (.goto 8, 3) := by decide +kernel
theorem dX9_readItem_27 : decode cX9_readItem 27 = .ok (.aload_n 0, 1) := by decide +kernel
theorem dX9_readItem_28 : decode cX9_readItem 28 = .ok (.aload_n 1, 1) := by decide +kernel
theorem dX9_readItem_29 : decode cX9_readItem 29 = .ok (.invokevirtual 51, 3) := by decide +kernel
theorem dX9_readItem_32 : decode cX9_readItem 32 = .ok (.return_, 1) := by decide +kernel
theorem dX9_readPace_0 : decode cX9_readPace 0 = .ok (.aload_n 0, 1) := by decide +kernel
theorem dX9_readPace_1 : decode cX9_readPace 1 = .ok (.invokevirtual 54, 3) := by decide +kernel
theorem dX9_readPace_4 : decode cX9_readPace 4 = .ok (.istore_n 2, 1) := by decide +kernel
theorem dX9_readPace_5 : decode cX9_readPace 5 = .ok (.aload_n 0, 1) := by decide +kernel
theorem dX9_readPace_6 : decode cX9_readPace 6 = .ok (.iconst 3, 1) := by decide +kernel
theorem dX9_readPace_7 : decode cX9_readPace 7 = .ok (.invokevirtual 57, 3) := by decide +kernel
theorem dX9_readPace_10 : decode cX9_readPace 10 = .ok (.istore_n 3, 1) := by decide +kernel
theorem dX9_readPace_11 : decode cX9_readPace 11 = .ok (.aload_n 0, 1) := by decide +kernel
theorem dX9_readPace_12 : decode cX9_readPace 12 = .ok (.bipush 44, 2) := by decide +kernel
theorem dX9_readPace_14 : decode cX9_readPace 14 = .ok (.invokevirtual 61, 3) := by decide +kernel
theorem dX9_readPace_17 : decode cX9_readPace 17 = .ok (.aload_n 0, 1) := by decide +kernel
theorem dX9_readPace_18 : decode cX9_readPace 18 = .ok (.iconst 3, 1) := by decide +kernel
theorem dX9_readPace_19 : decode cX9_readPace 19 = .ok (.invokevirtual 57, 3) := by decide +kernel
theorem dX9_readPace_22 : decode cX9_readPace 22 = .ok (.istore 4, 2) := by decide +kernel
theorem dX9_readPace_24 : decode cX9_readPace 24 = .ok (.aload_n 0, 1) := by decide +kernel
theorem dX9_readPace_25 : decode cX9_readPace 25 = .ok (.bipush 59, 2) := by decide +kernel
theorem dX9_readPace_27 : decode cX9_readPace 27 = .ok (.invokevirtual 61, 3) := by decide +kernel
theorem dX9_readPace_30 : decode cX9_readPace 30 = .ok (.aload_n 0, 1) := by decide +kernel
theorem dX9_readPace_31 : decode cX9_readPace 31 = .ok (.getfield 15, 3) := by decide +kernel
theorem dX9_readPace_34 : decode cX9_readPace 34 = .ok (.iconst (-1), 1) := by decide +kernel
theorem dX9_readPace_35 : decode cX9_readPace 35 = .ok (.if_icmp .ne 11, 3) := by decide +kernel
theorem dX9_readPace_38 : decode cX9_readPace 38 = .ok (.aload_n 1, 1) := by decide +kernel
theorem dX9_readPace_39 : decode cX9_readPace 39 = .ok (.iload_n 2, 1) := by decide +kernel
theorem dX9_readPace_40 : decode cX9_readPace 40 = .ok (.iload_n 3, 1) := by decide +kernel
theorem dX9_readPace_41 : decode cX9_readPace 41 = .ok (.iload 4, 2) := by decide +kernel
theorem dX9_readPace_43 : decode cX9_readPace 43 = .ok (.invokevirtual 65, 3) := by decide +kernel
theorem dX9_readPace_46 : decode cX9_readPace 46 = .ok (.return_, 1) := by decide +kernel
theorem dX9_readPoint_0 : decode cX9_readPoint 0 = .ok (.aload_n 0, 1) := by decide +kernel
theorem dX9_readPoint_1 : decode cX9_readPoint 1 = .ok (.getfield 26, 3) := by decide +kernel
theorem dX9_readPoint_4 : decode cX9_readPoint 4 = .ok (.istore_n 2, 1) := by decide +kernel
theorem dX9_readPoint_5 : decode cX9_readPoint 5 = .ok (.aload_n 1, 1) := by decide +kernel
theorem dX9_readPoint_6 : decode cX9_readPoint 6 = .ok (.invokevirtual 69, 3) := by decide +kernel
theorem dX9_readPoint_9 : decode cX9_readPoint 9 = .ok (.istore_n 3, 1) := by decide +kernel
theorem dX9_readPoint_10 : decode cX9_readPoint 10 = .ok (.aload_n 0, 1) := by decide +kernel
theorem dX9_readPoint_11 : decode cX9_readPoint 11 = .ok (.invokevirtual 54, 3) := by decide +kernel
theorem dX9_readPoint_14 : decode cX9_readPoint 14 = .ok (.istore 4, 2) := by decide +kernel
theorem dX9_readPoint_16 : decode cX9_readPoint 16 = .ok (.iload_n 3, 1) := by decide +kernel
theorem dX9_readPoint_17 : decode cX9_readPoint 17 = .ok (.iconst (-1), 1) := by decide +kernel
theorem dX9_readPoint_18 : decode cX9_readPoint 18 = .ok (.if_icmp .ne 8, 3) := by decide +kernel
theorem dX9_readPoint_21 : decode cX9_readPoint 21 = .ok (.aload_n 0, 1) := by decide +kernel
theorem dX9_readPoint_22 : decode cX9_readPoint 22 = .ok (.iload_n 2, 1) := by decide +kernel
theorem dX9_readPoint_23 : decode cX9_readPoint 23 = .ok (.invokevirtual 72, 3) := by decide +kernel
theorem dX9_readPoint_26 : decode cX9_readPoint 26 = .ok (.aload_n 0, 1) := by decide +kernel
theorem dX9_readPoint_27 : decode cX9_readPoint 27 = .ok (.bipush 100, 2) := by decide +kernel
theorem dX9_readPoint_29 : decode cX9_readPoint 29 = .ok (.invokevirtual 57, 3) := by decide +kernel
theorem dX9_readPoint_32 : decode cX9_readPoint 32 = .ok (.istore 5, 2) := by decide +kernel
theorem dX9_readPoint_34 : decode cX9_readPoint 34 = .ok (.aload_n 0, 1) := by decide +kernel
theorem dX9_readPoint_35 : decode cX9_readPoint 35 = .ok (.bipush 44, 2) := by decide +kernel
theorem dX9_readPoint_37 : decode cX9_readPoint 37 = .ok (.invokevirtual 61, 3) := by decide +kernel
theorem dX9_readPoint_40 : decode cX9_readPoint 40 = .ok (.aload_n 0, 1) := by decide +kernel
theorem dX9_readPoint_41 : decode cX9_readPoint 41 = .ok (.bipush 100, 2) := by decide +kernel
theorem dX9_readPoint_43 : decode cX9_readPoint 43 = .ok (.invokevirtual 57, 3) := by decide +kernel
theorem dX9_readPoint_46 : decode cX9_readPoint 46 = .ok (.istore 6, 2) := by decide +kernel
theorem dX9_readPoint_48 : decode cX9_readPoint 48 = .ok (.aload_n 0, 1) := by decide +kernel
theorem dX9_readPoint_49 : decode cX9_readPoint 49 = .ok (.bipush 59, 2) := by decide +kernel
theorem dX9_readPoint_51 : decode cX9_readPoint 51 = .ok (.invokevirtual 61, 3) := by decide +kernel
theorem dX9_readPoint_54 : decode cX9_readPoint 54 = .ok (.aload_n 0, 1) := by decide +kernel
theorem dX9_readPoint_55 : decode cX9_readPoint 55 = .ok (.getfield 15, 3) := by decide +kernel
theorem dX9_readPoint_58 : decode cX9_readPoint 58 = .ok (.iconst (-1), 1) := by decide +kernel
theorem dX9_readPoint_59 : decode cX9_readPoint 59 = .ok (.if_icmp .ne 14, 3) := by decide +kernel
theorem dX9_readPoint_62 : decode cX9_readPoint 62 = .ok (.aload_n 1, 1) := by decide +kernel
theorem dX9_readPoint_63 : decode cX9_readPoint 63 = .ok (.iload_n 3, 1) := by decide +kernel
theorem dX9_readPoint_64 : decode cX9_readPoint 64 = .ok (.iload 5, 2) := by decide +kernel
theorem dX9_readPoint_66 : decode cX9_readPoint 66 = .ok (.iload 6, 2) := by decide +kernel
theorem dX9_readPoint_68 : decode cX9_readPoint 68 = .ok (.iload 4, 2) := by decide +kernel
theorem dX9_readPoint_70 : decode cX9_readPoint 70 = .ok (.invokevirtual 75, 3) := by decide +kernel
theorem dX9_readPoint_73 : decode cX9_readPoint 73 = .ok (.return_, 1) := by decide +kernel
theorem dX9_readHeap_0 : decode cX9_readHeap 0 = .ok (.aload_n 0, 1) := by decide +kernel
theorem dX9_readHeap_1 : decode cX9_readHeap 1 = .ok (.invokevirtual 44, 3) := by decide +kernel
theorem dX9_readHeap_4 : decode cX9_readHeap 4 = .ok (.bipush 97, 2) := by decide +kernel
theorem dX9_readHeap_6 : decode cX9_readHeap 6 = .ok (.isub, 1) := by decide +kernel
theorem dX9_readHeap_7 : decode cX9_readHeap 7 = .ok (.istore_n 1, 1) := by decide +kernel
theorem dX9_readHeap_8 : decode cX9_readHeap 8 = .ok (.iload_n 1, 1) := by decide +kernel
theorem dX9_readHeap_9 : decode cX9_readHeap 9 = .ok (.invokestatic 79, 3) := by decide +kernel
theorem dX9_readHeap_12 : decode cX9_readHeap 12 = .ok (.ifCond .ne 11, 3) := by decide +kernel
theorem dX9_readHeap_15 : decode cX9_readHeap 15 = .ok (.aload_n 0, 1) := by decide +kernel
theorem dX9_readHeap_16 : decode cX9_readHeap 16 = .ok (.aload_n 0, 1) := by decide +kernel
theorem dX9_readHeap_17 : decode cX9_readHeap 17 = .ok (.getfield 26, 3) := by decide +kernel
theorem dX9_readHeap_20 : decode cX9_readHeap 20 = .ok (.invokevirtual 72, 3) := by decide +kernel
theorem dX9_readHeap_23 : decode cX9_readHeap 23 = .ok (.aload_n 0, 1) := by decide +kernel
theorem dX9_readHeap_24 : decode cX9_readHeap 24 = .ok (.dup, 1) := by decide +kernel
theorem dX9_readHeap_25 : decode cX9_readHeap 25 = .ok (.getfield 26, 3) := by decide +kernel
theorem dX9_readHeap_28 : decode cX9_readHeap 28 = .ok (.iconst 1, 1) := by decide +kernel
theorem dX9_readHeap_29 : decode cX9_readHeap 29 = .ok (.iadd, 1) := by decide +kernel
theorem dX9_readHeap_30 : decode cX9_readHeap 30 = .ok (.putfield 26, 3) := by decide +kernel
theorem dX9_readHeap_33 : decode cX9_readHeap 33 = .ok (.iload_n 1, 1) := by decide +kernel
theorem dX9_readHeap_34 : decode cX9_readHeap 34 = .ok (.ireturn, 1) := by decide +kernel
theorem dX9_readNumber_0 : decode cX9_readNumber 0 = .ok (.aload_n 0, 1) := by decide +kernel
theorem dX9_readNumber_1 : decode cX9_readNumber 1 = .ok (.getfield 26, 3) := by decide +kernel
theorem dX9_readNumber_4 : decode cX9_readNumber 4 = .ok (.istore_n 2, 1) := by decide +kernel
theorem dX9_readNumber_5 : decode cX9_readNumber 5 = .ok (.aload_n 0, 1) := by decide +kernel
theorem dX9_readNumber_6 : decode cX9_readNumber 6 = .ok (.invokevirtual 44, 3) := by decide +kernel
theorem dX9_readNumber_9 : decode cX9_readNumber 9 = .ok (.bipush 45, 2) := by decide +kernel
theorem dX9_readNumber_11 : decode cX9_readNumber 11 = .ok (.if_icmp .ne 7, 3) := by decide +kernel
theorem dX9_readNumber_14 : decode cX9_readNumber 14 = .ok (.iconst 1, 1) := by decide +kernel
theorem dX9_readNumber_15 : decode cX9_readNumber 15 = .ok (.goto 4, 3) := by decide +kernel
theorem dX9_readNumber_18 : decode cX9_readNumber 18 = .ok (.iconst 0, 1) := by decide +kernel
theorem dX9_readNumber_19 : decode cX9_readNumber 19 = .ok (.istore_n 3, 1) := by decide +kernel
theorem dX9_readNumber_20 : decode cX9_readNumber 20 = .ok (.iconst 0, 1) := by decide +kernel
theorem dX9_readNumber_21 : decode cX9_readNumber 21 = .ok (.istore 4, 2) := by decide +kernel
theorem dX9_readNumber_23 : decode cX9_readNumber 23 = .ok (.iconst 0, 1) := by decide +kernel
theorem dX9_readNumber_24 : decode cX9_readNumber 24 = .ok (.istore 5, 2) := by decide +kernel
theorem dX9_readNumber_26 : decode cX9_readNumber 26 = .ok (.iload_n 3, 1) := by decide +kernel
theorem dX9_readNumber_27 : decode cX9_readNumber 27 = .ok (.ifCond .eq 13, 3) := by decide +kernel
theorem dX9_readNumber_30 : decode cX9_readNumber 30 = .ok (.aload_n 0, 1) := by decide +kernel
theorem dX9_readNumber_31 : decode cX9_readNumber 31 = .ok (.dup, 1) := by decide +kernel
theorem dX9_readNumber_32 : decode cX9_readNumber 32 = .ok (.getfield 26, 3) := by decide +kernel
theorem dX9_readNumber_35 : decode cX9_readNumber 35 = .ok (.iconst 1, 1) := by decide +kernel
theorem dX9_readNumber_36 : decode cX9_readNumber 36 = .ok (.iadd, 1) := by decide +kernel
theorem dX9_readNumber_37 : decode cX9_readNumber 37 = .ok (.putfield 26, 3) := by decide +kernel
theorem dX9_readNumber_40 : decode cX9_readNumber 40 = .ok (.iload 5, 2) := by decide +kernel
theorem dX9_readNumber_42 : decode cX9_readNumber 42 = .ok (.iconst 3, 1) := by decide +kernel
theorem dX9_readNumber_43 : decode cX9_readNumber 43 = .ok (.if_icmp .ge 41, 3) := by decide +kernel
theorem dX9_readNumber_46 : decode cX9_readNumber 46 = .ok (.aload_n 0, 1) := by decide +kernel
theorem dX9_readNumber_47 : decode cX9_readNumber 47 = .ok (.invokevirtual 82, 3) := by decide +kernel
theorem dX9_readNumber_50 : decode cX9_readNumber 50 = .ok (.ifCond .eq 34, 3) := by decide +kernel
theorem dX9_readNumber_53 : decode cX9_readNumber 53 = .ok (.bipush 10, 2) := by decide +kernel
theorem dX9_readNumber_55 : decode cX9_readNumber 55 = .ok (.iload 4, 2) := by decide +kernel
theorem dX9_readNumber_57 : decode cX9_readNumber 57 = .ok (.imul, 1) := by decide +kernel
theorem dX9_readNumber_58 : decode cX9_readNumber 58 = .ok (.aload_n 0, 1) := by decide +kernel
theorem dX9_readNumber_59 : decode cX9_readNumber 59 = .ok (.invokevirtual 44, 3) := by decide +kernel
theorem dX9_readNumber_62 : decode cX9_readNumber 62 = .ok (.iadd, 1) := by decide +kernel
theorem dX9_readNumber_63 : decode cX9_readNumber 63 = .ok (.bipush 48, 2) := by decide +kernel
theorem dX9_readNumber_65 : decode cX9_readNumber 65 = .ok (.isub, 1) := by decide +kernel
theorem dX9_readNumber_66 : decode cX9_readNumber 66 = .ok (.istore 4, 2) := by decide +kernel
theorem dX9_readNumber_68 : decode cX9_readNumber 68 = .ok (.aload_n 0, 1) := by decide +kernel
theorem dX9_readNumber_69 : decode cX9_readNumber 69 = .ok (.dup, 1) := by decide +kernel
theorem dX9_readNumber_70 : decode cX9_readNumber 70 = .ok (.getfield 26, 3) := by decide +kernel
theorem dX9_readNumber_73 : decode cX9_readNumber 73 = .ok (.iconst 1, 1) := by decide +kernel
theorem dX9_readNumber_74 : decode cX9_readNumber 74 = .ok (.iadd, 1) := by decide +kernel
theorem dX9_readNumber_75 : decode cX9_readNumber 75 = .ok (.putfield 26, 3) := by decide +kernel
theorem dX9_readNumber_78 : decode cX9_readNumber 78 = .ok (.iinc 5 1, 3) := by decide +kernel
theorem dX9_readNumber_81 : decode cX9_readNumber 81 = .ok (.goto (-41), 3) := by decide +kernel
theorem dX9_readNumber_84 : decode cX9_readNumber 84 = .ok (.iload 5, 2) := by decide +kernel
theorem dX9_readNumber_86 : decode cX9_readNumber 86 = .ok (.ifCond .eq 10, 3) := by decide +kernel
theorem dX9_readNumber_89 : decode cX9_readNumber 89 = .ok (.aload_n 0, 1) := by decide +kernel
theorem dX9_readNumber_90 : decode cX9_readNumber 90 = .ok (.invokevirtual 82, 3) := by decide +kernel
theorem dX9_readNumber_93 : decode cX9_readNumber 93 = .ok (.ifCond .eq 11, 3) := by decide +kernel
theorem dX9_readNumber_96 : decode cX9_readNumber 96 = .ok (.aload_n 0, 1) := by decide +kernel
theorem dX9_readNumber_97 : decode cX9_readNumber 97 = .ok (.aload_n 0, 1) := by decide +kernel
theorem dX9_readNumber_98 : decode cX9_readNumber 98 = .ok (.getfield 26, 3) := by decide +kernel
theorem dX9_readNumber_101 : decode cX9_readNumber 101 = .ok (.invokevirtual 72, 3) := by decide +kernel
theorem dX9_readNumber_104 : decode cX9_readNumber 104 = .ok (.iload 4, 2) := by decide +kernel
theorem dX9_readNumber_106 : decode cX9_readNumber 106 = .ok (.iload_n 1, 1) := by decide +kernel
theorem dX9_readNumber_107 : decode cX9_readNumber 107 = .ok (.if_icmp .le 8, 3) := by decide +kernel
theorem dX9_readNumber_110 : decode cX9_readNumber 110 = .ok (.aload_n 0, 1) := by decide +kernel
theorem dX9_readNumber_111 : decode cX9_readNumber 111 = .ok (.iload_n 2, 1) := by decide +kernel
theorem dX9_readNumber_112 : decode cX9_readNumber 112 = .ok (.invokevirtual 72, 3) := by decide +kernel
theorem dX9_readNumber_115 : decode cX9_readNumber 115 = .ok (.iload_n 3, 1) := by decide +kernel
theorem dX9_readNumber_116 : decode cX9_readNumber 116 = .ok (.ifCond .eq 9, 3) := by decide +kernel
theorem dX9_readNumber_119 : decode cX9_readNumber 119 = .ok (.iload 4, 2) := by decide +kernel
theorem dX9_readNumber_121 : decode cX9_readNumber 121 = .ok (.ineg, 1) := by decide +kernel
theorem dX9_readNumber_122 : decode cX9_readNumber 122 = .ok (.goto 5, 3) := by decide +kernel
theorem dX9_readNumber_125 : decode cX9_readNumber 125 = .ok (.iload 4, 2) := by decide +kernel
theorem dX9_readNumber_127 : decode cX9_readNumber 127 = .ok (.ireturn, 1) := by decide +kernel
theorem dX9_expect_0 : decode cX9_expect 0 = .ok (.aload_n 0, 1) := by decide +kernel
theorem dX9_expect_1 : decode cX9_expect 1 = .ok (.invokevirtual 44, 3) := by decide +kernel
theorem dX9_expect_4 : decode cX9_expect 4 = .ok (.iload_n 1, 1) := by decide +kernel
theorem dX9_expect_5 : decode cX9_expect 5 = .ok (.if_icmp .eq 11, 3) := by decide +kernel
theorem dX9_expect_8 : decode cX9_expect 8 = .ok (.aload_n 0, 1) := by decide +kernel
theorem dX9_expect_9 : decode cX9_expect 9 = .ok (.aload_n 0, 1) := by decide +kernel
theorem dX9_expect_10 : decode cX9_expect 10 = .ok (.getfield 26, 3) := by decide +kernel
theorem dX9_expect_13 : decode cX9_expect 13 = .ok (.invokevirtual 72, 3) := by decide +kernel
theorem dX9_expect_16 : decode cX9_expect 16 = .ok (.aload_n 0, 1) := by decide +kernel
theorem dX9_expect_17 : decode cX9_expect 17 = .ok (.dup, 1) := by decide +kernel
theorem dX9_expect_18 : decode cX9_expect 18 = .ok (.getfield 26, 3) := by decide +kernel
theorem dX9_expect_21 : decode cX9_expect 21 = .ok (.iconst 1, 1) := by decide +kernel
theorem dX9_expect_22 : decode cX9_expect 22 = .ok (.iadd, 1) := by decide +kernel
theorem dX9_expect_23 : decode cX9_expect 23 = .ok (.putfield 26, 3) := by decide +kernel
theorem dX9_expect_26 : decode cX9_expect 26 = .ok (.return_, 1) := by decide +kernel
theorem dX9_nextIsDigit_0 : decode cX9_nextIsDigit 0 = .ok (.aload_n 0, 1) := by decide +kernel
theorem dX9_nextIsDigit_1 : decode cX9_nextIsDigit 1 = .ok (.invokevirtual 44, 3) := by decide +kernel
theorem dX9_nextIsDigit_4 : decode cX9_nextIsDigit 4 = .ok (.bipush 48, 2) := by decide +kernel
theorem dX9_nextIsDigit_6 : decode cX9_nextIsDigit 6 = .ok (.if_icmp .lt 16, 3) := by decide +kernel
theorem dX9_nextIsDigit_9 : decode cX9_nextIsDigit 9 = .ok (.aload_n 0, 1) := by decide +kernel
theorem dX9_nextIsDigit_10 : decode cX9_nextIsDigit 10 = .ok (.invokevirtual 44, 3) := by decide +kernel
theorem dX9_nextIsDigit_13 : decode cX9_nextIsDigit 13 = .ok (.bipush 57, 2) := by decide +kernel
theorem dX9_nextIsDigit_15 : decode cX9_nextIsDigit 15 = .ok (.if_icmp .gt 7, 3) := by decide +kernel
theorem dX9_nextIsDigit_18 : decode cX9_nextIsDigit 18 = .ok (.iconst 1, 1) := by decide +kernel
theorem dX9_nextIsDigit_19 : decode cX9_nextIsDigit 19 = .ok (.goto 4, 3) := by decide +kernel
theorem dX9_nextIsDigit_22 : decode cX9_nextIsDigit 22 = .ok (.iconst 0, 1) := by decide +kernel
theorem dX9_nextIsDigit_23 : decode cX9_nextIsDigit 23 = .ok (.ireturn, 1) := by decide +kernel
theorem dX9_next_0 : decode cX9_next 0 = .ok (.aload_n 0, 1) := by decide +kernel
theorem dX9_next_1 : decode cX9_next 1 = .ok (.getfield 26, 3) := by decide +kernel
theorem dX9_next_4 : decode cX9_next 4 = .ok (.ifCond .lt 26, 3) := by decide +kernel
theorem dX9_next_7 : decode cX9_next 7 = .ok (.aload_n 0, 1) := by decide +kernel
theorem dX9_next_8 : decode cX9_next 8 = .ok (.getfield 26, 3) := by decide +kernel
theorem dX9_next_11 : decode cX9_next 11 = .ok (.aload_n 0, 1) := by decide +kernel
theorem dX9_next_12 : decode cX9_next 12 = .ok (.getfield 19, 3) := by decide +kernel
theorem dX9_next_15 : decode cX9_next 15 = .ok (.if_icmp .ge 15, 3) := by decide +kernel
theorem dX9_next_18 : decode cX9_next 18 = .ok (.aload_n 0, 1) := by decide +kernel
theorem dX9_next_19 : decode cX9_next 19 = .ok (.getfield 11, 3) := by decide +kernel
theorem dX9_next_22 : decode cX9_next 22 = .ok (.aload_n 0, 1) := by decide +kernel
theorem dX9_next_23 : decode cX9_next 23 = .ok (.getfield 26, 3) := by decide +kernel
theorem dX9_next_26 : decode cX9_next 26 = .ok (.iaload, 1) := by decide +kernel
theorem dX9_next_27 : decode cX9_next 27 = .ok (.goto 4, 3) := by decide +kernel
theorem dX9_next_30 : decode cX9_next 30 = .ok (.iconst (-1), 1) := by decide +kernel
theorem dX9_next_31 : decode cX9_next 31 = .ok (.ireturn, 1) := by decide +kernel
theorem dX9_fail_0 : decode cX9_fail 0 = .ok (.aload_n 0, 1) := by decide +kernel
theorem dX9_fail_1 : decode cX9_fail 1 = .ok (.getfield 15, 3) := by decide +kernel
theorem dX9_fail_4 : decode cX9_fail 4 = .ok (.iconst (-1), 1) := by decide +kernel
theorem dX9_fail_5 : decode cX9_fail 5 = .ok (.if_icmp .ne 8, 3) := by decide +kernel
theorem dX9_fail_8 : decode cX9_fail 8 = .ok (.aload_n 0, 1) := by decide +kernel
theorem dX9_fail_9 : decode cX9_fail 9 = .ok (.iload_n 1, 1) := by decide +kernel
theorem dX9_fail_10 : decode cX9_fail 10 = .ok (.putfield 15, 3) := by decide +kernel
theorem dX9_fail_13 : decode cX9_fail 13 = .ok (.return_, 1) := by decide +kernel
theorem dX10_init_0 : decode cX10_init 0 = .ok (.aload_n 0, 1) := by decide +kernel
theorem dX10_init_1 : decode cX10_init 1 = .ok (.invokespecial 3, 3) := by decide +kernel
theorem dX10_init_4 : decode cX10_init 4 = .ok (.aload_n 0, 1) := by decide +kernel
theorem dX10_init_5 : decode cX10_init 5 = .ok (.sipush 400, 3) := by decide +kernel
theorem dX10_init_8 : decode cX10_init 8 = .ok (.newarray .int, 2) := by decide +kernel
theorem dX10_init_10 : decode cX10_init 10 = .ok (.putfield 11, 3) := by decide +kernel
theorem dX10_init_13 : decode cX10_init 13 = .ok (.return_, 1) := by decide +kernel
theorem dX10_length_0 : decode cX10_length 0 = .ok (.aload_n 0, 1) := by decide +kernel
theorem dX10_length_1 : decode cX10_length 1 = .ok (.getfield 15, 3) := by decide +kernel
theorem dX10_length_4 : decode cX10_length 4 = .ok (.ireturn, 1) := by decide +kernel
theorem dX10_at_0 : decode cX10_at 0 = .ok (.iload_n 1, 1) := by decide +kernel
theorem dX10_at_1 : decode cX10_at 1 = .ok (.ifCond .lt 20, 3) := by decide +kernel
theorem dX10_at_4 : decode cX10_at 4 = .ok (.iload_n 1, 1) := by decide +kernel
theorem dX10_at_5 : decode cX10_at 5 = .ok (.aload_n 0, 1) := by decide +kernel
theorem dX10_at_6 : decode cX10_at 6 = .ok (.getfield 15, 3) := by decide +kernel
theorem dX10_at_9 : decode cX10_at 9 = .ok (.if_icmp .ge 12, 3) := by decide +kernel
theorem dX10_at_12 : decode cX10_at 12 = .ok (.aload_n 0, 1) := by decide +kernel
theorem dX10_at_13 : decode cX10_at 13 = .ok (.getfield 11, 3) := by decide +kernel
theorem dX10_at_16 : decode cX10_at 16 = .ok (.iload_n 1, 1) := by decide +kernel
theorem dX10_at_17 : decode cX10_at 17 = .ok (.iaload, 1) := by decide +kernel
theorem dX10_at_18 : decode cX10_at 18 = .ok (.goto 4, 3) := by decide +kernel
theorem dX10_at_21 : decode cX10_at 21 = .ok (.iconst (-1), 1) := by decide +kernel
theorem dX10_at_22 : decode cX10_at 22 = .ok (.ireturn, 1) := by decide +kernel
theorem dX10_clear_0 : decode cX10_clear 0 = .ok (.aload_n 0, 1) := by decide +kernel
theorem dX10_clear_1 : decode cX10_clear 1 = .ok (.iconst 0, 1) := by decide +kernel
theorem dX10_clear_2 : decode cX10_clear 2 = .ok (.putfield 15, 3) := by decide +kernel
theorem dX10_clear_5 : decode cX10_clear 5 = .ok (.return_, 1) := by decide +kernel
theorem dX10_addByte_0 : decode cX10_addByte 0 = .ok (.aload_n 0, 1) := by decide +kernel
theorem dX10_addByte_1 : decode cX10_addByte 1 = .ok (.getfield 15, 3) := by decide +kernel
theorem dX10_addByte_4 : decode cX10_addByte 4 = .ok (.sipush 400, 3) := by decide +kernel
theorem dX10_addByte_7 : decode cX10_addByte 7 = .ok (.if_icmp .lt 4, 3) := by decide +kernel
theorem dX10_addByte_10 : decode cX10_addByte 10 = .ok (.return_, 1) := by decide +kernel
theorem dX10_addByte_11 : decode cX10_addByte 11 = .ok (.aload_n 0, 1) := by decide +kernel
theorem dX10_addByte_12 : decode cX10_addByte 12 = .ok (.getfield 11, 3) := by decide +kernel
theorem dX10_addByte_15 : decode cX10_addByte 15 = .ok (.aload_n 0, 1) := by decide +kernel
theorem dX10_addByte_16 : decode cX10_addByte 16 = .ok (.getfield 15, 3) := by decide +kernel
theorem dX10_addByte_19 : decode cX10_addByte 19 = .ok (.iload_n 1, 1) := by decide +kernel
theorem dX10_addByte_20 : decode cX10_addByte 20 = .ok (.iastore, 1) := by decide +kernel
theorem dX10_addByte_21 : decode cX10_addByte 21 = .ok (.aload_n 0, 1) := by decide +kernel
theorem dX10_addByte_22 : decode cX10_addByte 22 = .ok (.dup, 1) := by decide +kernel
theorem dX10_addByte_23 : decode cX10_addByte 23 = .ok (.getfield 15, 3) := by decide +kernel
theorem dX10_addByte_26 : decode cX10_addByte 26 = .ok (.iconst 1, 1) := by decide +kernel
theorem dX10_addByte_27 : decode cX10_addByte 27 = .ok (.iadd, 1) := by decide +kernel
theorem dX10_addByte_28 : decode cX10_addByte 28 = .ok (.putfield 15, 3) := by decide +kernel
theorem dX10_addByte_31 : decode cX10_addByte 31 = .ok (.return_, 1) := by decide +kernel
theorem dX10_addNumber_0 : decode cX10_addNumber 0 = .ok (.iload_n 1, 1) := by decide +kernel
theorem dX10_addNumber_1 : decode cX10_addNumber 1 = .ok (.invokestatic 19, 3) := by decide +kernel
theorem dX10_addNumber_4 : decode cX10_addNumber 4 = .ok (.istore_n 2, 1) := by decide +kernel
theorem dX10_addNumber_5 : decode cX10_addNumber 5 = .ok (.iload_n 1, 1) := by decide +kernel
theorem dX10_addNumber_6 : decode cX10_addNumber 6 = .ok (.ifCond .ge 9, 3) := by decide +kernel
theorem dX10_addNumber_9 : decode cX10_addNumber 9 = .ok (.aload_n 0, 1) := by decide +kernel
theorem dX10_addNumber_10 : decode cX10_addNumber 10 = .ok (.bipush 45, 2) := by decide +kernel
theorem dX10_addNumber_12 : decode cX10_addNumber 12 = .ok (.invokevirtual 25, 3) := by decide +kernel
theorem dX10_addNumber_15 : decode cX10_addNumber 15 = .ok (.iload_n 2, 1) := by decide +kernel
theorem dX10_addNumber_16 : decode cX10_addNumber 16 = .ok (.bipush 100, 2) := by decide +kernel
theorem dX10_addNumber_18 : decode cX10_addNumber 18 = .ok (.if_icmp .lt 17, 3) := by decide +kernel
theorem dX10_addNumber_21 : decode cX10_addNumber 21 = .ok (.aload_n 0, 1) := by decide +kernel
theorem dX10_addNumber_22 : decode cX10_addNumber 22 = .ok (.bipush 48, 2) := by decide +kernel
theorem dX10_addNumber_24 : decode cX10_addNumber 24 = .ok (.iload_n 2, 1) := by decide +kernel
theorem dX10_addNumber_25 : decode cX10_addNumber 25 = .ok (.bipush 100, 2) := by decide +kernel
theorem dX10_addNumber_27 : decode cX10_addNumber 27 = .ok (.idiv, 1) := by decide +kernel
theorem dX10_addNumber_28 : decode cX10_addNumber 28 = .ok (.bipush 10, 2) := by decide +kernel
theorem dX10_addNumber_30 : decode cX10_addNumber 30 = .ok (.irem, 1) := by decide +kernel
theorem dX10_addNumber_31 : decode cX10_addNumber 31 = .ok (.iadd, 1) := by decide +kernel
theorem dX10_addNumber_32 : decode cX10_addNumber 32 = .ok (.invokevirtual 25, 3) := by decide +kernel
theorem dX10_addNumber_35 : decode cX10_addNumber 35 = .ok (.iload_n 2, 1) := by decide +kernel
theorem dX10_addNumber_36 : decode cX10_addNumber 36 = .ok (.bipush 10, 2) := by decide +kernel
theorem dX10_addNumber_38 : decode cX10_addNumber 38 = .ok (.if_icmp .lt 17, 3) := by decide +kernel
theorem dX10_addNumber_41 : decode cX10_addNumber 41 = .ok (.aload_n 0, 1) := by decide +kernel
theorem dX10_addNumber_42 : decode cX10_addNumber 42 = .ok (.bipush 48, 2) := by decide +kernel
theorem dX10_addNumber_44 : decode cX10_addNumber 44 = .ok (.iload_n 2, 1) := by decide +kernel
theorem dX10_addNumber_45 : decode cX10_addNumber 45 = .ok (.bipush 10, 2) := by decide +kernel
theorem dX10_addNumber_47 : decode cX10_addNumber 47 = .ok (.idiv, 1) := by decide +kernel
theorem dX10_addNumber_48 : decode cX10_addNumber 48 = .ok (.bipush 10, 2) := by decide +kernel
theorem dX10_addNumber_50 : decode cX10_addNumber 50 = .ok (.irem, 1) := by decide +kernel
theorem dX10_addNumber_51 : decode cX10_addNumber 51 = .ok (.iadd, 1) := by decide +kernel
theorem dX10_addNumber_52 : decode cX10_addNumber 52 = .ok (.invokevirtual 25, 3) := by decide +kernel
theorem dX10_addNumber_55 : decode cX10_addNumber 55 = .ok (.aload_n 0, 1) := by decide +kernel
theorem dX10_addNumber_56 : decode cX10_addNumber 56 = .ok (.bipush 48, 2) := by decide +kernel
theorem dX10_addNumber_58 : decode cX10_addNumber 58 = .ok (.iload_n 2, 1) := by decide +kernel
theorem dX10_addNumber_59 : decode cX10_addNumber 59 = .ok (.bipush 10, 2) := by decide +kernel
theorem dX10_addNumber_61 : decode cX10_addNumber 61 = .ok (.irem, 1) := by decide +kernel
theorem dX10_addNumber_62 : decode cX10_addNumber 62 = .ok (.iadd, 1) := by decide +kernel
theorem dX10_addNumber_63 : decode cX10_addNumber 63 = .ok (.invokevirtual 25, 3) := by decide +kernel
theorem dX10_addNumber_66 : decode cX10_addNumber 66 = .ok (.return_, 1) := by decide +kernel
theorem dJ6_bitCount_0f7a4_0 : decode cJ6_bitCount_0f7a4 0 = .ok (.iload_n 0, 1) := by decide +kernel
theorem dJ6_bitCount_0f7a4_1 : decode cJ6_bitCount_0f7a4 1 = .ok (.iload_n 0, 1) := by decide +kernel
theorem dJ6_bitCount_0f7a4_2 : decode cJ6_bitCount_0f7a4 2 = .ok (.iconst 1, 1) := by decide +kernel
theorem dJ6_bitCount_0f7a4_3 : decode cJ6_bitCount_0f7a4 3 = .ok (.iushr, 1) := by decide +kernel
theorem dJ6_bitCount_0f7a4_4 : decode cJ6_bitCount_0f7a4 4 = .ok (.ldc_w 265, 3) := by decide +kernel
theorem dJ6_bitCount_0f7a4_7 : decode cJ6_bitCount_0f7a4 7 = .ok (.iand, 1) := by decide +kernel
theorem dJ6_bitCount_0f7a4_8 : decode cJ6_bitCount_0f7a4 8 = .ok (.isub, 1) := by decide +kernel
theorem dJ6_bitCount_0f7a4_9 : decode cJ6_bitCount_0f7a4 9 = .ok (.istore_n 0, 1) := by decide +kernel
theorem dJ6_bitCount_0f7a4_10 : decode cJ6_bitCount_0f7a4 10 = .ok (.iload_n 0, 1) := by decide +kernel
theorem dJ6_bitCount_0f7a4_11 : decode cJ6_bitCount_0f7a4 11 = .ok (.ldc_w 266, 3) := by decide +kernel
theorem dJ6_bitCount_0f7a4_14 : decode cJ6_bitCount_0f7a4 14 = .ok (.iand, 1) := by decide +kernel
theorem dJ6_bitCount_0f7a4_15 : decode cJ6_bitCount_0f7a4 15 = .ok (.iload_n 0, 1) := by decide +kernel
theorem dJ6_bitCount_0f7a4_16 : decode cJ6_bitCount_0f7a4 16 = .ok (.iconst 2, 1) := by decide +kernel
theorem dJ6_bitCount_0f7a4_17 : decode cJ6_bitCount_0f7a4 17 = .ok (.iushr, 1) := by decide +kernel
theorem dJ6_bitCount_0f7a4_18 : decode cJ6_bitCount_0f7a4 18 = .ok (.ldc_w 266, 3) := by decide +kernel
theorem dJ6_bitCount_0f7a4_21 : decode cJ6_bitCount_0f7a4 21 = .ok (.iand, 1) := by decide +kernel
theorem dJ6_bitCount_0f7a4_22 : decode cJ6_bitCount_0f7a4 22 = .ok (.iadd, 1) := by decide +kernel
theorem dJ6_bitCount_0f7a4_23 : decode cJ6_bitCount_0f7a4 23 = .ok (.istore_n 0, 1) := by decide +kernel
theorem dJ6_bitCount_0f7a4_24 : decode cJ6_bitCount_0f7a4 24 = .ok (.iload_n 0, 1) := by decide +kernel
theorem dJ6_bitCount_0f7a4_25 : decode cJ6_bitCount_0f7a4 25 = .ok (.iload_n 0, 1) := by decide +kernel
theorem dJ6_bitCount_0f7a4_26 : decode cJ6_bitCount_0f7a4 26 = .ok (.iconst 4, 1) := by decide +kernel
theorem dJ6_bitCount_0f7a4_27 : decode cJ6_bitCount_0f7a4 27 = .ok (.iushr, 1) := by decide +kernel
theorem dJ6_bitCount_0f7a4_28 : decode cJ6_bitCount_0f7a4 28 = .ok (.iadd, 1) := by decide +kernel
theorem dJ6_bitCount_0f7a4_29 : decode cJ6_bitCount_0f7a4 29 = .ok (.ldc_w 267, 3) := by decide +kernel
theorem dJ6_bitCount_0f7a4_32 : decode cJ6_bitCount_0f7a4 32 = .ok (.iand, 1) := by decide +kernel
theorem dJ6_bitCount_0f7a4_33 : decode cJ6_bitCount_0f7a4 33 = .ok (.istore_n 0, 1) := by decide +kernel
theorem dJ6_bitCount_0f7a4_34 : decode cJ6_bitCount_0f7a4 34 = .ok (.iload_n 0, 1) := by decide +kernel
theorem dJ6_bitCount_0f7a4_35 : decode cJ6_bitCount_0f7a4 35 = .ok (.iload_n 0, 1) := by decide +kernel
theorem dJ6_bitCount_0f7a4_36 : decode cJ6_bitCount_0f7a4 36 = .ok (.bipush 8, 2) := by decide +kernel
theorem dJ6_bitCount_0f7a4_38 : decode cJ6_bitCount_0f7a4 38 = .ok (.iushr, 1) := by decide +kernel
theorem dJ6_bitCount_0f7a4_39 : decode cJ6_bitCount_0f7a4 39 = .ok (.iadd, 1) := by decide +kernel
theorem dJ6_bitCount_0f7a4_40 : decode cJ6_bitCount_0f7a4 40 = .ok (.istore_n 0, 1) := by decide +kernel
theorem dJ6_bitCount_0f7a4_41 : decode cJ6_bitCount_0f7a4 41 = .ok (.iload_n 0, 1) := by decide +kernel
theorem dJ6_bitCount_0f7a4_42 : decode cJ6_bitCount_0f7a4 42 = .ok (.iload_n 0, 1) := by decide +kernel
theorem dJ6_bitCount_0f7a4_43 : decode cJ6_bitCount_0f7a4 43 = .ok (.bipush 16, 2) := by decide +kernel
theorem dJ6_bitCount_0f7a4_45 : decode cJ6_bitCount_0f7a4 45 = .ok (.iushr, 1) := by decide +kernel
theorem dJ6_bitCount_0f7a4_46 : decode cJ6_bitCount_0f7a4 46 = .ok (.iadd, 1) := by decide +kernel
theorem dJ6_bitCount_0f7a4_47 : decode cJ6_bitCount_0f7a4 47 = .ok (.istore_n 0, 1) := by decide +kernel
theorem dJ6_bitCount_0f7a4_48 : decode cJ6_bitCount_0f7a4 48 = .ok (.iload_n 0, 1) := by decide +kernel
theorem dJ6_bitCount_0f7a4_49 : decode cJ6_bitCount_0f7a4 49 = .ok (.bipush 63, 2) := by decide +kernel
theorem dJ6_bitCount_0f7a4_51 : decode cJ6_bitCount_0f7a4 51 = .ok (.iand, 1) := by decide +kernel
theorem dJ6_bitCount_0f7a4_52 : decode cJ6_bitCount_0f7a4 52 = .ok (.ireturn, 1) := by decide +kernel
theorem dJ13_compare_74951_0 : decode cJ13_compare_74951 0 = .ok (.lload_n 0, 1) := by decide +kernel
theorem dJ13_compare_74951_1 : decode cJ13_compare_74951 1 = .ok (.lload_n 2, 1) := by decide +kernel
theorem dJ13_compare_74951_2 : decode cJ13_compare_74951 2 = .ok (.lcmp, 1) := by decide +kernel
theorem dJ13_compare_74951_3 : decode cJ13_compare_74951 3 = .ok (.ifCond .ge 7, 3) := by decide +kernel
theorem dJ13_compare_74951_6 : decode cJ13_compare_74951 6 = .ok (.iconst (-1), 1) := by decide +kernel
theorem dJ13_compare_74951_7 : decode cJ13_compare_74951 7 = .ok (.goto 14, 3) := by decide +kernel
theorem dJ13_compare_74951_10 : decode cJ13_compare_74951 10 = .ok (.lload_n 0, 1) := by decide +kernel
theorem dJ13_compare_74951_11 : decode cJ13_compare_74951 11 = .ok (.lload_n 2, 1) := by decide +kernel
theorem dJ13_compare_74951_12 : decode cJ13_compare_74951 12 = .ok (.lcmp, 1) := by decide +kernel
theorem dJ13_compare_74951_13 : decode cJ13_compare_74951 13 = .ok (.ifCond .ne 7, 3) := by decide +kernel
theorem dJ13_compare_74951_16 : decode cJ13_compare_74951 16 = .ok (.iconst 0, 1) := by decide +kernel
theorem dJ13_compare_74951_17 : decode cJ13_compare_74951 17 = .ok (.goto 4, 3) := by decide +kernel
theorem dJ13_compare_74951_20 : decode cJ13_compare_74951 20 = .ok (.iconst 1, 1) := by decide +kernel
theorem dJ13_compare_74951_21 : decode cJ13_compare_74951 21 = .ok (.ireturn, 1) := by decide +kernel
theorem dJ13_bitCount_95d88_0 : decode cJ13_bitCount_95d88 0 = .ok (.lload_n 0, 1) := by decide +kernel
theorem dJ13_bitCount_95d88_1 : decode cJ13_bitCount_95d88 1 = .ok (.lload_n 0, 1) := by decide +kernel
theorem dJ13_bitCount_95d88_2 : decode cJ13_bitCount_95d88 2 = .ok (.iconst 1, 1) := by decide +kernel
theorem dJ13_bitCount_95d88_3 : decode cJ13_bitCount_95d88 3 = .ok (.lushr, 1) := by decide +kernel
theorem dJ13_bitCount_95d88_4 : decode cJ13_bitCount_95d88 4 = .ok (.ldc2_w 314, 3) := by decide +kernel
theorem dJ13_bitCount_95d88_7 : decode cJ13_bitCount_95d88 7 = .ok (.land, 1) := by decide +kernel
theorem dJ13_bitCount_95d88_8 : decode cJ13_bitCount_95d88 8 = .ok (.lsub, 1) := by decide +kernel
theorem dJ13_bitCount_95d88_9 : decode cJ13_bitCount_95d88 9 = .ok (.lstore_n 0, 1) := by decide +kernel
theorem dJ13_bitCount_95d88_10 : decode cJ13_bitCount_95d88 10 = .ok (.lload_n 0, 1) := by decide +kernel
theorem dJ13_bitCount_95d88_11 : decode cJ13_bitCount_95d88 11 = .ok (.ldc2_w 316, 3) := by decide +kernel
theorem dJ13_bitCount_95d88_14 : decode cJ13_bitCount_95d88 14 = .ok (.land, 1) := by decide +kernel
theorem dJ13_bitCount_95d88_15 : decode cJ13_bitCount_95d88 15 = .ok (.lload_n 0, 1) := by decide +kernel
theorem dJ13_bitCount_95d88_16 : decode cJ13_bitCount_95d88 16 = .ok (.iconst 2, 1) := by decide +kernel
theorem dJ13_bitCount_95d88_17 : decode cJ13_bitCount_95d88 17 = .ok (.lushr, 1) := by decide +kernel
theorem dJ13_bitCount_95d88_18 : decode cJ13_bitCount_95d88 18 = .ok (.ldc2_w 316, 3) := by decide +kernel
theorem dJ13_bitCount_95d88_21 : decode cJ13_bitCount_95d88 21 = .ok (.land, 1) := by decide +kernel
theorem dJ13_bitCount_95d88_22 : decode cJ13_bitCount_95d88 22 = .ok (.ladd, 1) := by decide +kernel
theorem dJ13_bitCount_95d88_23 : decode cJ13_bitCount_95d88 23 = .ok (.lstore_n 0, 1) := by decide +kernel
theorem dJ13_bitCount_95d88_24 : decode cJ13_bitCount_95d88 24 = .ok (.lload_n 0, 1) := by decide +kernel
theorem dJ13_bitCount_95d88_25 : decode cJ13_bitCount_95d88 25 = .ok (.lload_n 0, 1) := by decide +kernel
theorem dJ13_bitCount_95d88_26 : decode cJ13_bitCount_95d88 26 = .ok (.iconst 4, 1) := by decide +kernel
theorem dJ13_bitCount_95d88_27 : decode cJ13_bitCount_95d88 27 = .ok (.lushr, 1) := by decide +kernel
theorem dJ13_bitCount_95d88_28 : decode cJ13_bitCount_95d88 28 = .ok (.ladd, 1) := by decide +kernel
theorem dJ13_bitCount_95d88_29 : decode cJ13_bitCount_95d88 29 = .ok (.ldc2_w 318, 3) := by decide +kernel
theorem dJ13_bitCount_95d88_32 : decode cJ13_bitCount_95d88 32 = .ok (.land, 1) := by decide +kernel
theorem dJ13_bitCount_95d88_33 : decode cJ13_bitCount_95d88 33 = .ok (.lstore_n 0, 1) := by decide +kernel
theorem dJ13_bitCount_95d88_34 : decode cJ13_bitCount_95d88 34 = .ok (.lload_n 0, 1) := by decide +kernel
theorem dJ13_bitCount_95d88_35 : decode cJ13_bitCount_95d88 35 = .ok (.lload_n 0, 1) := by decide +kernel
theorem dJ13_bitCount_95d88_36 : decode cJ13_bitCount_95d88 36 = .ok (.bipush 8, 2) := by decide +kernel
theorem dJ13_bitCount_95d88_38 : decode cJ13_bitCount_95d88 38 = .ok (.lushr, 1) := by decide +kernel
theorem dJ13_bitCount_95d88_39 : decode cJ13_bitCount_95d88 39 = .ok (.ladd, 1) := by decide +kernel
theorem dJ13_bitCount_95d88_40 : decode cJ13_bitCount_95d88 40 = .ok (.lstore_n 0, 1) := by decide +kernel
theorem dJ13_bitCount_95d88_41 : decode cJ13_bitCount_95d88 41 = .ok (.lload_n 0, 1) := by decide +kernel
theorem dJ13_bitCount_95d88_42 : decode cJ13_bitCount_95d88 42 = .ok (.lload_n 0, 1) := by decide +kernel
theorem dJ13_bitCount_95d88_43 : decode cJ13_bitCount_95d88 43 = .ok (.bipush 16, 2) := by decide +kernel
theorem dJ13_bitCount_95d88_45 : decode cJ13_bitCount_95d88 45 = .ok (.lushr, 1) := by decide +kernel
theorem dJ13_bitCount_95d88_46 : decode cJ13_bitCount_95d88 46 = .ok (.ladd, 1) := by decide +kernel
theorem dJ13_bitCount_95d88_47 : decode cJ13_bitCount_95d88 47 = .ok (.lstore_n 0, 1) := by decide +kernel
theorem dJ13_bitCount_95d88_48 : decode cJ13_bitCount_95d88 48 = .ok (.lload_n 0, 1) := by decide +kernel
theorem dJ13_bitCount_95d88_49 : decode cJ13_bitCount_95d88 49 = .ok (.lload_n 0, 1) := by decide +kernel
theorem dJ13_bitCount_95d88_50 : decode cJ13_bitCount_95d88 50 = .ok (.bipush 32, 2) := by decide +kernel
theorem dJ13_bitCount_95d88_52 : decode cJ13_bitCount_95d88 52 = .ok (.lushr, 1) := by decide +kernel
theorem dJ13_bitCount_95d88_53 : decode cJ13_bitCount_95d88 53 = .ok (.ladd, 1) := by decide +kernel
theorem dJ13_bitCount_95d88_54 : decode cJ13_bitCount_95d88 54 = .ok (.lstore_n 0, 1) := by decide +kernel
theorem dJ13_bitCount_95d88_55 : decode cJ13_bitCount_95d88 55 = .ok (.lload_n 0, 1) := by decide +kernel
theorem dJ13_bitCount_95d88_56 : decode cJ13_bitCount_95d88 56 = .ok (.l2i, 1) := by decide +kernel
theorem dJ13_bitCount_95d88_57 : decode cJ13_bitCount_95d88 57 = .ok (.bipush 127, 2) := by decide +kernel
theorem dJ13_bitCount_95d88_59 : decode cJ13_bitCount_95d88 59 = .ok (.iand, 1) := by decide +kernel
theorem dJ13_bitCount_95d88_60 : decode cJ13_bitCount_95d88 60 = .ok (.ireturn, 1) := by decide +kernel
theorem dJ9_floorDiv_f86c9_0 : decode cJ9_floorDiv_f86c9 0 = .ok (.lload_n 0, 1) := by decide +kernel
theorem dJ9_floorDiv_f86c9_1 : decode cJ9_floorDiv_f86c9 1 = .ok (.lload_n 2, 1) := by decide +kernel
theorem dJ9_floorDiv_f86c9_2 : decode cJ9_floorDiv_f86c9 2 = .ok (.ldiv, 1) := by decide +kernel
theorem dJ9_floorDiv_f86c9_3 : decode cJ9_floorDiv_f86c9 3 = .ok (.lstore 4, 2) := by decide +kernel
theorem dJ9_floorDiv_f86c9_5 : decode cJ9_floorDiv_f86c9 5 = .ok (.lload_n 0, 1) := by decide +kernel
theorem dJ9_floorDiv_f86c9_6 : decode cJ9_floorDiv_f86c9 6 = .ok (.lload_n 2, 1) := by decide +kernel
theorem dJ9_floorDiv_f86c9_7 : decode cJ9_floorDiv_f86c9 7 = .ok (.lxor, 1) := by decide +kernel
theorem dJ9_floorDiv_f86c9_8 : decode cJ9_floorDiv_f86c9 8 = .ok (.lconst 0, 1) := by decide +kernel
theorem dJ9_floorDiv_f86c9_9 : decode cJ9_floorDiv_f86c9 9 = .ok (.lcmp, 1) := by decide +kernel
theorem dJ9_floorDiv_f86c9_10 : decode cJ9_floorDiv_f86c9 10 = .ok (.ifCond .ge 17, 3) := by decide +kernel
theorem dJ9_floorDiv_f86c9_13 : decode cJ9_floorDiv_f86c9 13 = .ok (.lload 4, 2) := by decide +kernel
theorem dJ9_floorDiv_f86c9_15 : decode cJ9_floorDiv_f86c9 15 = .ok (.lload_n 2, 1) := by decide +kernel
theorem dJ9_floorDiv_f86c9_16 : decode cJ9_floorDiv_f86c9 16 = .ok (.lmul, 1) := by decide +kernel
theorem dJ9_floorDiv_f86c9_17 : decode cJ9_floorDiv_f86c9 17 = .ok (.lload_n 0, 1) := by decide +kernel
theorem dJ9_floorDiv_f86c9_18 : decode cJ9_floorDiv_f86c9 18 = .ok (.lcmp, 1) := by decide +kernel
theorem dJ9_floorDiv_f86c9_19 : decode cJ9_floorDiv_f86c9 19 = .ok (.ifCond .eq 8, 3) := by decide +kernel
theorem dJ9_floorDiv_f86c9_22 : decode cJ9_floorDiv_f86c9 22 = .ok (.lload 4, 2) := by decide +kernel
theorem dJ9_floorDiv_f86c9_24 : decode cJ9_floorDiv_f86c9 24 = .ok (.lconst 1, 1) := by decide +kernel
theorem dJ9_floorDiv_f86c9_25 : decode cJ9_floorDiv_f86c9 25 = .ok (.lsub, 1) := by decide +kernel
theorem dJ9_floorDiv_f86c9_26 : decode cJ9_floorDiv_f86c9 26 = .ok (.lreturn, 1) := by decide +kernel
theorem dJ9_floorDiv_f86c9_27 : decode cJ9_floorDiv_f86c9 27 = .ok (.lload 4, 2) := by decide +kernel
theorem dJ9_floorDiv_f86c9_29 : decode cJ9_floorDiv_f86c9 29 = .ok (.lreturn, 1) := by decide +kernel
theorem dJ9_abs_0f7a4_0 : decode cJ9_abs_0f7a4 0 = .ok (.iload_n 0, 1) := by decide +kernel
theorem dJ9_abs_0f7a4_1 : decode cJ9_abs_0f7a4 1 = .ok (.ifCond .ge 8, 3) := by decide +kernel
theorem dJ9_abs_0f7a4_4 : decode cJ9_abs_0f7a4 4 = .ok (.iload_n 0, 1) := by decide +kernel
theorem dJ9_abs_0f7a4_5 : decode cJ9_abs_0f7a4 5 = .ok (.ineg, 1) := by decide +kernel
theorem dJ9_abs_0f7a4_6 : decode cJ9_abs_0f7a4 6 = .ok (.goto 4, 3) := by decide +kernel
theorem dJ9_abs_0f7a4_9 : decode cJ9_abs_0f7a4 9 = .ok (.iload_n 0, 1) := by decide +kernel
theorem dJ9_abs_0f7a4_10 : decode cJ9_abs_0f7a4 10 = .ok (.ireturn, 1) := by decide +kernel
theorem dJ9_abs_067f4_0 : decode cJ9_abs_067f4 0 = .ok (.lload_n 0, 1) := by decide +kernel
theorem dJ9_abs_067f4_1 : decode cJ9_abs_067f4 1 = .ok (.lconst 0, 1) := by decide +kernel
theorem dJ9_abs_067f4_2 : decode cJ9_abs_067f4 2 = .ok (.lcmp, 1) := by decide +kernel
theorem dJ9_abs_067f4_3 : decode cJ9_abs_067f4 3 = .ok (.ifCond .ge 8, 3) := by decide +kernel
theorem dJ9_abs_067f4_6 : decode cJ9_abs_067f4 6 = .ok (.lload_n 0, 1) := by decide +kernel
theorem dJ9_abs_067f4_7 : decode cJ9_abs_067f4 7 = .ok (.lneg, 1) := by decide +kernel
theorem dJ9_abs_067f4_8 : decode cJ9_abs_067f4 8 = .ok (.goto 4, 3) := by decide +kernel
theorem dJ9_abs_067f4_11 : decode cJ9_abs_067f4 11 = .ok (.lload_n 0, 1) := by decide +kernel
theorem dJ9_abs_067f4_12 : decode cJ9_abs_067f4 12 = .ok (.lreturn, 1) := by decide +kernel
theorem dJ9_max_f86c9_0 : decode cJ9_max_f86c9 0 = .ok (.lload_n 0, 1) := by decide +kernel
theorem dJ9_max_f86c9_1 : decode cJ9_max_f86c9 1 = .ok (.lload_n 2, 1) := by decide +kernel
theorem dJ9_max_f86c9_2 : decode cJ9_max_f86c9 2 = .ok (.lcmp, 1) := by decide +kernel
theorem dJ9_max_f86c9_3 : decode cJ9_max_f86c9 3 = .ok (.ifCond .lt 7, 3) := by decide +kernel
theorem dJ9_max_f86c9_6 : decode cJ9_max_f86c9 6 = .ok (.lload_n 0, 1) := by decide +kernel
theorem dJ9_max_f86c9_7 : decode cJ9_max_f86c9 7 = .ok (.goto 4, 3) := by decide +kernel
theorem dJ9_max_f86c9_10 : decode cJ9_max_f86c9 10 = .ok (.lload_n 2, 1) := by decide +kernel
theorem dJ9_max_f86c9_11 : decode cJ9_max_f86c9 11 = .ok (.lreturn, 1) := by decide +kernel
theorem dJ9_min_7cf53_0 : decode cJ9_min_7cf53 0 = .ok (.iload_n 0, 1) := by decide +kernel
theorem dJ9_min_7cf53_1 : decode cJ9_min_7cf53 1 = .ok (.iload_n 1, 1) := by decide +kernel
theorem dJ9_min_7cf53_2 : decode cJ9_min_7cf53 2 = .ok (.if_icmp .gt 7, 3) := by decide +kernel
theorem dJ9_min_7cf53_5 : decode cJ9_min_7cf53 5 = .ok (.iload_n 0, 1) := by decide +kernel
theorem dJ9_min_7cf53_6 : decode cJ9_min_7cf53 6 = .ok (.goto 4, 3) := by decide +kernel
theorem dJ9_min_7cf53_9 : decode cJ9_min_7cf53 9 = .ok (.iload_n 1, 1) := by decide +kernel
theorem dJ9_min_7cf53_10 : decode cJ9_min_7cf53 10 = .ok (.ireturn, 1) := by decide +kernel
theorem dJ9_min_f86c9_0 : decode cJ9_min_f86c9 0 = .ok (.lload_n 0, 1) := by decide +kernel
theorem dJ9_min_f86c9_1 : decode cJ9_min_f86c9 1 = .ok (.lload_n 2, 1) := by decide +kernel
theorem dJ9_min_f86c9_2 : decode cJ9_min_f86c9 2 = .ok (.lcmp, 1) := by decide +kernel
theorem dJ9_min_f86c9_3 : decode cJ9_min_f86c9 3 = .ok (.ifCond .gt 7, 3) := by decide +kernel
theorem dJ9_min_f86c9_6 : decode cJ9_min_f86c9 6 = .ok (.lload_n 0, 1) := by decide +kernel
theorem dJ9_min_f86c9_7 : decode cJ9_min_f86c9 7 = .ok (.goto 4, 3) := by decide +kernel
theorem dJ9_min_f86c9_10 : decode cJ9_min_f86c9 10 = .ok (.lload_n 2, 1) := by decide +kernel
theorem dJ9_min_f86c9_11 : decode cJ9_min_f86c9 11 = .ok (.lreturn, 1) := by decide +kernel
