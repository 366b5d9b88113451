theorem dX12_init_0 : decode cX12_init 0 = .ok (.aload_n 0, 1) := by decide +kernel
theorem dX12_init_1 : decode cX12_init 1 = .ok (.invokespecial 1, 3) := by decide +kernel
theorem dX12_init_4 : decode cX12_init 4 = .ok (.aload_n 0, 1) := by decide +kernel
theorem dX12_init_5 : decode cX12_init 5 = .ok (.sipush 170, 3) := by decide +kernel
theorem dX12_init_8 : decode cX12_init 8 = .ok (.newarray .int, 2) := by decide +kernel
theorem dX12_init_10 : decode cX12_init 10 = .ok (.putfield 7, 3) := by decide +kernel
theorem dX12_init_13 : decode cX12_init 13 = .ok (.aload_n 0, 1) := by decide +kernel
theorem dX12_init_14 : decode cX12_init 14 = .ok (.sipush 3400, 3) := by decide +kernel
theorem dX12_init_17 : decode cX12_init 17 = .ok (.newarray .int, 2) := by decide +kernel
theorem dX12_init_19 : decode cX12_init 19 = .ok (.putfield 13, 3) := by decide +kernel
theorem dX12_init_22 : decode cX12_init 22 = .ok (.aload_n 0, 1) := by decide +kernel
theorem dX12_init_23 : decode cX12_init 23 = .ok (.sipush 400, 3) := by decide +kernel
theorem dX12_init_26 : decode cX12_init 26 = .ok (.newarray .byte, 2) := by decide +kernel
theorem dX12_init_28 : decode cX12_init 28 = .ok (.putfield 16, 3) := by decide +kernel
theorem dX12_init_31 : decode cX12_init 31 = .ok (.aload_n 0, 1) := by decide +kernel
theorem dX12_init_32 : decode cX12_init 32 = .ok (.iconst (-1), 1) := by decide +kernel
theorem dX12_init_33 : decode cX12_init 33 = .ok (.putfield 20, 3) := by decide +kernel
theorem dX12_init_36 : decode cX12_init 36 = .ok (.aload_n 0, 1) := by decide +kernel
theorem dX12_init_37 : decode cX12_init 37 = .ok (.bipush 100, 2) := by decide +kernel
theorem dX12_init_39 : decode cX12_init 39 = .ok (.newarray .int, 2) := by decide +kernel
theorem dX12_init_41 : decode cX12_init 41 = .ok (.putfield 24, 3) := by decide +kernel
theorem dX12_init_44 : decode cX12_init 44 = .ok (.aload_n 0, 1) := by decide +kernel
theorem dX12_init_45 : decode cX12_init 45 = .ok (.bipush 100, 2) := by decide +kernel
theorem dX12_init_47 : decode cX12_init 47 = .ok (.newarray .int, 2) := by decide +kernel
theorem dX12_init_49 : decode cX12_init 49 = .ok (.putfield 27, 3) := by decide +kernel
theorem dX12_init_52 : decode cX12_init 52 = .ok (.aload_n 0, 1) := by decide +kernel
theorem dX12_init_53 : decode cX12_init 53 = .ok (.bipush 100, 2) := by decide +kernel
theorem dX12_init_55 : decode cX12_init 55 = .ok (.newarray .int, 2) := by decide +kernel
theorem dX12_init_57 : decode cX12_init 57 = .ok (.putfield 30, 3) := by decide +kernel
theorem dX12_init_60 : decode cX12_init 60 = .ok (.aload_n 0, 1) := by decide +kernel
theorem dX12_init_61 : decode cX12_init 61 = .ok (.bipush 41, 2) := by decide +kernel
theorem dX12_init_63 : decode cX12_init 63 = .ok (.newarray .int, 2) := by decide +kernel
theorem dX12_init_65 : decode cX12_init 65 = .ok (.putfield 33, 3) := by decide +kernel
theorem dX12_init_68 : decode cX12_init 68 = .ok (.aload_n 0, 1) := by decide +kernel
theorem dX12_init_69 : decode cX12_init 69 = .ok (.bipush 41, 2) := by decide +kernel
theorem dX12_init_71 : decode cX12_init 71 = .ok (.newarray .int, 2) := by decide +kernel
theorem dX12_init_73 : decode cX12_init 73 = .ok (.putfield 36, 3) := by decide +kernel
theorem dX12_init_76 : decode cX12_init 76 = .ok (.aload_n 0, 1) := by decide +kernel
theorem dX12_init_77 : decode cX12_init 77 = .ok (.bipush 41, 2) := by decide +kernel
theorem dX12_init_79 : decode cX12_init 79 = .ok (.newarray .int, 2) := by decide +kernel
theorem dX12_init_81 : decode cX12_init 81 = .ok (.putfield 39, 3) := by decide +kernel
theorem dX12_init_84 : decode cX12_init 84 = .ok (.aload_n 0, 1) := by decide +kernel
theorem dX12_init_85 : decode cX12_init 85 = .ok (.bipush 41, 2) := by decide +kernel
theorem dX12_init_87 : decode cX12_init 87 = .ok (.newarray .int, 2) := by decide +kernel
theorem dX12_init_89 : decode cX12_init 89 = .ok (.putfield 42, 3) := by decide +kernel
theorem dX12_init_92 : decode cX12_init 92 = .ok (.aload_n 0, 1) := by decide +kernel
theorem dX12_init_93 : decode cX12_init 93 = .ok (.iconst 3, 1) := by decide +kernel
theorem dX12_init_94 : decode cX12_init 94 = .ok (.newarray .int, 2) := by decide +kernel
theorem dX12_init_96 : decode cX12_init 96 = .ok (.putfield 45, 3) := by decide +kernel
theorem dX12_init_99 : decode cX12_init 99 = .ok (.aload_n 0, 1) := by decide +kernel
theorem dX12_init_100 : decode cX12_init 100 = .ok (.iconst 3, 1) := by decide +kernel
theorem dX12_init_101 : decode cX12_init 101 = .ok (.newarray .int, 2) := by decide +kernel
theorem dX12_init_103 : decode cX12_init 103 = .ok (.putfield 48, 3) := by decide +kernel
theorem dX12_init_106 : decode cX12_init 106 = .ok (.aload_n 0, 1) := by decide +kernel
theorem dX12_init_107 : decode cX12_init 107 = .ok (.iconst 3, 1) := by decide +kernel
theorem dX12_init_108 : decode cX12_init 108 = .ok (.newarray .int, 2) := by decide +kernel
theorem dX12_init_110 : decode cX12_init 110 = .ok (.putfield 51, 3) := by decide +kernel
theorem dX12_init_113 : decode cX12_init 113 = .ok (.aload_n 0, 1) := by decide +kernel
theorem dX12_init_114 : decode cX12_init 114 = .ok (.bipush 42, 2) := by decide +kernel
theorem dX12_init_116 : decode cX12_init 116 = .ok (.newarray .int, 2) := by decide +kernel
theorem dX12_init_118 : decode cX12_init 118 = .ok (.putfield 54, 3) := by decide +kernel
theorem dX12_init_121 : decode cX12_init 121 = .ok (.aload_n 0, 1) := by decide +kernel
theorem dX12_init_122 : decode cX12_init 122 = .ok (.bipush 42, 2) := by decide +kernel
theorem dX12_init_124 : decode cX12_init 124 = .ok (.newarray .int, 2) := by decide +kernel
theorem dX12_init_126 : decode cX12_init 126 = .ok (.putfield 57, 3) := by decide +kernel
theorem dX12_init_129 : decode cX12_init 129 = .ok (.aload_n 0, 1) := by decide +kernel
theorem dX12_init_130 : decode cX12_init 130 = .ok (.sipush 780, 3) := by decide +kernel
theorem dX12_init_133 : decode cX12_init 133 = .ok (.newarray .long, 2) := by decide +kernel
theorem dX12_init_135 : decode cX12_init 135 = .ok (.putfield 60, 3) := by decide +kernel
theorem dX12_init_138 : decode cX12_init 138 = .ok (.aload_n 0, 1) := by decide +kernel
theorem dX12_init_139 : decode cX12_init 139 = .ok (.bipush 42, 2) := by decide +kernel
theorem dX12_init_141 : decode cX12_init 141 = .ok (.newarray .int, 2) := by decide +kernel
theorem dX12_init_143 : decode cX12_init 143 = .ok (.putfield 64, 3) := by decide +kernel
theorem dX12_init_146 : decode cX12_init 146 = .ok (.aload_n 0, 1) := by decide +kernel
theorem dX12_init_147 : decode cX12_init 147 = .ok (.bipush 42, 2) := by decide +kernel
theorem dX12_init_149 : decode cX12_init 149 = .ok (.newarray .int, 2) := by decide +kernel
theorem dX12_init_151 : decode cX12_init 151 = .ok (.putfield 67, 3) := by decide +kernel
theorem dX12_init_154 : decode cX12_init 154 = .ok (.aload_n 0, 1) := by decide +kernel
theorem dX12_init_155 : decode cX12_init 155 = .ok (.sipush 500, 3) := by decide +kernel
theorem dX12_init_158 : decode cX12_init 158 = .ok (.newarray .byte, 2) := by decide +kernel
theorem dX12_init_160 : decode cX12_init 160 = .ok (.putfield 70, 3) := by decide +kernel
theorem dX12_init_163 : decode cX12_init 163 = .ok (.return_, 1) := by decide +kernel
theorem dX12_isIn_0 : decode cX12_isIn 0 = .ok (.iload_n 0, 1) := by decide +kernel
theorem dX12_isIn_1 : decode cX12_isIn 1 = .ok (.iload_n 1, 1) := by decide +kernel
theorem dX12_isIn_2 : decode cX12_isIn 2 = .ok (.if_icmp .lt 12, 3) := by decide +kernel
theorem dX12_isIn_5 : decode cX12_isIn 5 = .ok (.iload_n 0, 1) := by decide +kernel
theorem dX12_isIn_6 : decode cX12_isIn 6 = .ok (.iload_n 2, 1) := by decide +kernel
theorem dX12_isIn_7 : decode cX12_isIn 7 = .ok (.if_icmp .gt 7, 3) := by decide +kernel
theorem dX12_isIn_10 : decode cX12_isIn 10 = .ok (.iconst 1, 1) := by decide +kernel
theorem dX12_isIn_11 : decode cX12_isIn 11 = .ok (.goto 4, 3) := by decide +kernel
theorem dX12_isIn_14 : decode cX12_isIn 14 = .ok (.iconst 0, 1) := by decide +kernel
theorem dX12_isIn_15 : decode cX12_isIn 15 = .ok (.ireturn, 1) := by decide +kernel
theorem dX12_keep_0 : decode cX12_keep 0 = .ok (.aload_n 0, 1) := by decide +kernel
theorem dX12_keep_1 : decode cX12_keep 1 = .ok (.getfield 73, 3) := by decide +kernel
theorem dX12_keep_4 : decode cX12_keep 4 = .ok (.bipush 20, 2) := by decide +kernel
theorem dX12_keep_6 : decode cX12_keep 6 = .ok (.if_icmp .ne 44, 3) := by decide +kernel
theorem dX12_keep_9 : decode cX12_keep 9 = .ok (.iconst 0, 1) := by decide +kernel
theorem dX12_keep_10 : decode cX12_keep 10 = .ok (.istore_n 1, 1) := by decide +kernel
theorem dX12_keep_11 : decode cX12_keep 11 = .ok (.iload_n 1, 1) := by decide +kernel
theorem dX12_keep_12 : decode cX12_keep 12 = .ok (.sipush 3230, 3) := by decide +kernel
theorem dX12_keep_15 : decode cX12_keep 15 = .ok (.if_icmp .ge 25, 3) := by decide +kernel
theorem dX12_keep_18 : decode cX12_keep 18 = .ok (.aload_n 0, 1) := by decide +kernel
theorem dX12_keep_19 : decode cX12_keep 19 = .ok (.getfield 13, 3) := by decide +kernel
theorem dX12_keep_22 : decode cX12_keep 22 = .ok (.iload_n 1, 1) := by decide +kernel
theorem dX12_keep_23 : decode cX12_keep 23 = .ok (.aload_n 0, 1) := by decide +kernel
theorem dX12_keep_24 : decode cX12_keep 24 = .ok (.getfield 13, 3) := by decide +kernel
theorem dX12_keep_27 : decode cX12_keep 27 = .ok (.iload_n 1, 1) := by decide +kernel
theorem dX12_keep_28 : decode cX12_keep 28 = .ok (.sipush 170, 3) := by decide +kernel
theorem dX12_keep_31 : decode cX12_keep 31 = .ok (.iadd, 1) := by decide +kernel
theorem dX12_keep_32 : decode cX12_keep 32 = .ok (.iaload, 1) := by decide +kernel
theorem dX12_keep_33 : decode cX12_keep 33 = .ok (.iastore, 1) := by decide +kernel
theorem dX12_keep_34 : decode cX12_keep 34 = .ok (.iinc 1 1, 3) := by decide +kernel
theorem dX12_keep_37 : decode cX12_keep 37 = .ok (.goto (-26), 3) := by decide +kernel
theorem dX12_keep_40 : decode cX12_keep 40 = .ok (.aload_n 0, 1) := by decide +kernel
theorem dX12_keep_41 : decode cX12_keep 41 = .ok (.dup, 1) := by decide +kernel
theorem dX12_keep_42 : decode cX12_keep 42 = .ok (.getfield 73, 3) := by decide +kernel
theorem dX12_keep_45 : decode cX12_keep 45 = .ok (.iconst 1, 1) := by decide +kernel
theorem dX12_keep_46 : decode cX12_keep 46 = .ok (.isub, 1) := by decide +kernel
theorem dX12_keep_47 : decode cX12_keep 47 = .ok (.putfield 73, 3) := by decide +kernel
theorem dX12_keep_50 : decode cX12_keep 50 = .ok (.iconst 0, 1) := by decide +kernel
theorem dX12_keep_51 : decode cX12_keep 51 = .ok (.istore_n 1, 1) := by decide +kernel
theorem dX12_keep_52 : decode cX12_keep 52 = .ok (.iload_n 1, 1) := by decide +kernel
theorem dX12_keep_53 : decode cX12_keep 53 = .ok (.sipush 170, 3) := by decide +kernel
theorem dX12_keep_56 : decode cX12_keep 56 = .ok (.if_icmp .ge 30, 3) := by decide +kernel
theorem dX12_keep_59 : decode cX12_keep 59 = .ok (.aload_n 0, 1) := by decide +kernel
theorem dX12_keep_60 : decode cX12_keep 60 = .ok (.getfield 13, 3) := by decide +kernel
theorem dX12_keep_63 : decode cX12_keep 63 = .ok (.sipush 170, 3) := by decide +kernel
theorem dX12_keep_66 : decode cX12_keep 66 = .ok (.aload_n 0, 1) := by decide +kernel
theorem dX12_keep_67 : decode cX12_keep 67 = .ok (.getfield 73, 3) := by decide +kernel
theorem dX12_keep_70 : decode cX12_keep 70 = .ok (.imul, 1) := by decide +kernel
theorem dX12_keep_71 : decode cX12_keep 71 = .ok (.iload_n 1, 1) := by decide +kernel
theorem dX12_keep_72 : decode cX12_keep 72 = .ok (.iadd, 1) := by decide +kernel
theorem dX12_keep_73 : decode cX12_keep 73 = .ok (.aload_n 0, 1) := by decide +kernel
theorem dX12_keep_74 : decode cX12_keep 74 = .ok (.getfield 7, 3) := by decide +kernel
theorem dX12_keep_77 : decode cX12_keep 77 = .ok (.iload_n 1, 1) := by decide +kernel
theorem dX12_keep_78 : decode cX12_keep 78 = .ok (.iaload, 1) := by decide +kernel
theorem dX12_keep_79 : decode cX12_keep 79 = .ok (.iastore, 1) := by decide +kernel
theorem dX12_keep_80 : decode cX12_keep 80 = .ok (.iinc 1 1, 3) := by decide +kernel
theorem dX12_keep_83 : decode cX12_keep 83 = .ok (.goto (-31), 3) := by decide +kernel
theorem dX12_keep_86 : decode cX12_keep 86 = .ok (.aload_n 0, 1) := by decide +kernel
theorem dX12_keep_87 : decode cX12_keep 87 = .ok (.dup, 1) := by decide +kernel
theorem dX12_keep_88 : decode cX12_keep 88 = .ok (.getfield 73, 3) := by decide +kernel
theorem dX12_keep_91 : decode cX12_keep 91 = .ok (.iconst 1, 1) := by decide +kernel
theorem dX12_keep_92 : decode cX12_keep 92 = .ok (.iadd, 1) := by decide +kernel
theorem dX12_keep_93 : decode cX12_keep 93 = .ok (.putfield 73, 3) := by decide +kernel
theorem dX12_keep_96 : decode cX12_keep 96 = .ok (.return_, 1) := by decide +kernel
theorem dX12_back_0 : decode cX12_back 0 = .ok (.aload_n 0, 1) := by decide +kernel
theorem dX12_back_1 : decode cX12_back 1 = .ok (.getfield 73, 3) := by decide +kernel
theorem dX12_back_4 : decode cX12_back 4 = .ok (.ifCond .ne 5, 3) := by decide +kernel
theorem dX12_back_7 : decode cX12_back 7 = .ok (.iconst (-1), 1) := by decide +kernel
theorem dX12_back_8 : decode cX12_back 8 = .ok (.ireturn, 1) := by decide +kernel
theorem dX12_back_9 : decode cX12_back 9 = .ok (.aload_n 0, 1) := by decide +kernel
theorem dX12_back_10 : decode cX12_back 10 = .ok (.dup, 1) := by decide +kernel
theorem dX12_back_11 : decode cX12_back 11 = .ok (.getfield 73, 3) := by decide +kernel
theorem dX12_back_14 : decode cX12_back 14 = .ok (.iconst 1, 1) := by decide +kernel
theorem dX12_back_15 : decode cX12_back 15 = .ok (.isub, 1) := by decide +kernel
theorem dX12_back_16 : decode cX12_back 16 = .ok (.putfield 73, 3) := by decide +kernel
theorem dX12_back_19 : decode cX12_back 19 = .ok (.iconst 0, 1) := by decide +kernel
theorem dX12_back_20 : decode cX12_back 20 = .ok (.istore_n 1, 1) := by decide +kernel
theorem dX12_back_21 : decode cX12_back 21 = .ok (.iload_n 1, 1) := by decide +kernel
theorem dX12_back_22 : decode cX12_back 22 = .ok (.sipush 170, 3) := by decide +kernel
theorem dX12_back_25 : decode cX12_back 25 = .ok (.if_icmp .ge 30, 3) := by decide +kernel
theorem dX12_back_28 : decode cX12_back 28 = .ok (.aload_n 0, 1) := by decide +kernel
theorem dX12_back_29 : decode cX12_back 29 = .ok (.getfield 7, 3) := by decide +kernel
theorem dX12_back_32 : decode cX12_back 32 = .ok (.iload_n 1, 1) := by decide +kernel
theorem dX12_back_33 : decode cX12_back 33 = .ok (.aload_n 0, 1) := by decide +kernel
theorem dX12_back_34 : decode cX12_back 34 = .ok (.getfield 13, 3) := by decide +kernel
theorem dX12_back_37 : decode cX12_back 37 = .ok (.sipush 170, 3) := by decide +kernel
theorem dX12_back_40 : decode cX12_back 40 = .ok (.aload_n 0, 1) := by decide +kernel
theorem dX12_back_41 : decode cX12_back 41 = .ok (.getfield 73, 3) := by decide +kernel
theorem dX12_back_44 : decode cX12_back 44 = .ok (.imul, 1) := by decide +kernel
theorem dX12_back_45 : decode cX12_back 45 = .ok (.iload_n 1, 1) := by decide +kernel
theorem dX12_back_46 : decode cX12_back 46 = .ok (.iadd, 1) := by decide +kernel
theorem dX12_back_47 : decode cX12_back 47 = .ok (.iaload, 1) := by decide +kernel
theorem dX12_back_48 : decode cX12_back 48 = .ok (.iastore, 1) := by decide +kernel
theorem dX12_back_49 : decode cX12_back 49 = .ok (.iinc 1 1, 3) := by decide +kernel
theorem dX12_back_52 : decode cX12_back 52 = .ok (.goto (-31), 3) := by decide +kernel
theorem dX12_back_55 : decode cX12_back 55 = .ok (.aload_n 0, 1) := by decide +kernel
theorem dX12_back_56 : decode cX12_back 56 = .ok (.getfield 73, 3) := by decide +kernel
theorem dX12_back_59 : decode cX12_back 59 = .ok (.ireturn, 1) := by decide +kernel
theorem dX12_isPoint_0 : decode cX12_isPoint 0 = .ok (.iload_n 1, 1) := by decide +kernel
theorem dX12_isPoint_1 : decode cX12_isPoint 1 = .ok (.iconst 0, 1) := by decide +kernel
theorem dX12_isPoint_2 : decode cX12_isPoint 2 = .ok (.bipush 39, 2) := by decide +kernel
theorem dX12_isPoint_4 : decode cX12_isPoint 4 = .ok (.invokestatic 76, 3) := by decide +kernel
theorem dX12_isPoint_7 : decode cX12_isPoint 7 = .ok (.ifCond .eq 19, 3) := by decide +kernel
theorem dX12_isPoint_10 : decode cX12_isPoint 10 = .ok (.aload_n 0, 1) := by decide +kernel
theorem dX12_isPoint_11 : decode cX12_isPoint 11 = .ok (.getfield 7, 3) := by decide +kernel
theorem dX12_isPoint_14 : decode cX12_isPoint 14 = .ok (.iconst 0, 1) := by decide +kernel
theorem dX12_isPoint_15 : decode cX12_isPoint 15 = .ok (.iload_n 1, 1) := by decide +kernel
theorem dX12_isPoint_16 : decode cX12_isPoint 16 = .ok (.iadd, 1) := by decide +kernel
theorem dX12_isPoint_17 : decode cX12_isPoint 17 = .ok (.iaload, 1) := by decide +kernel
theorem dX12_isPoint_18 : decode cX12_isPoint 18 = .ok (.iconst 1, 1) := by decide +kernel
theorem dX12_isPoint_19 : decode cX12_isPoint 19 = .ok (.if_icmp .ne 7, 3) := by decide +kernel
theorem dX12_isPoint_22 : decode cX12_isPoint 22 = .ok (.iconst 1, 1) := by decide +kernel
theorem dX12_isPoint_23 : decode cX12_isPoint 23 = .ok (.goto 4, 3) := by decide +kernel
theorem dX12_isPoint_26 : decode cX12_isPoint 26 = .ok (.iconst 0, 1) := by decide +kernel
theorem dX12_isPoint_27 : decode cX12_isPoint 27 = .ok (.ireturn, 1) := by decide +kernel
theorem dX12_isPlace_0 : decode cX12_isPlace 0 = .ok (.iload_n 0, 1) := by decide +kernel
theorem dX12_isPlace_1 : decode cX12_isPlace 1 = .ok (.bipush (-100), 2) := by decide +kernel
theorem dX12_isPlace_3 : decode cX12_isPlace 3 = .ok (.bipush 100, 2) := by decide +kernel
theorem dX12_isPlace_5 : decode cX12_isPlace 5 = .ok (.invokestatic 76, 3) := by decide +kernel
theorem dX12_isPlace_8 : decode cX12_isPlace 8 = .ok (.ifCond .eq 18, 3) := by decide +kernel
theorem dX12_isPlace_11 : decode cX12_isPlace 11 = .ok (.iload_n 1, 1) := by decide +kernel
theorem dX12_isPlace_12 : decode cX12_isPlace 12 = .ok (.bipush (-100), 2) := by decide +kernel
theorem dX12_isPlace_14 : decode cX12_isPlace 14 = .ok (.bipush 100, 2) := by decide +kernel
theorem dX12_isPlace_16 : decode cX12_isPlace 16 = .ok (.invokestatic 76, 3) := by decide +kernel
theorem dX12_isPlace_19 : decode cX12_isPlace 19 = .ok (.ifCond .eq 7, 3) := by decide +kernel
theorem dX12_isPlace_22 : decode cX12_isPlace 22 = .ok (.iconst 1, 1) := by decide +kernel
theorem dX12_isPlace_23 : decode cX12_isPlace 23 = .ok (.goto 4, 3) := by decide +kernel
theorem dX12_isPlace_26 : decode cX12_isPlace 26 = .ok (.iconst 0, 1) := by decide +kernel
theorem dX12_isPlace_27 : decode cX12_isPlace 27 = .ok (.ireturn, 1) := by decide +kernel
theorem dX12_isHeap_0 : decode cX12_isHeap 0 = .ok (.iload_n 0, 1) := by decide +kernel
theorem dX12_isHeap_1 : decode cX12_isHeap 1 = .ok (.iconst 0, 1) := by decide +kernel
theorem dX12_isHeap_2 : decode cX12_isHeap 2 = .ok (.iconst 3, 1) := by decide +kernel
theorem dX12_isHeap_3 : decode cX12_isHeap 3 = .ok (.invokestatic 76, 3) := by decide +kernel
theorem dX12_isHeap_6 : decode cX12_isHeap 6 = .ok (.ireturn, 1) := by decide +kernel
theorem dX12_free_0 : decode cX12_free 0 = .ok (.iconst 0, 1) := by decide +kernel
theorem dX12_free_1 : decode cX12_free 1 = .ok (.istore_n 1, 1) := by decide +kernel
theorem dX12_free_2 : decode cX12_free 2 = .ok (.iload_n 1, 1) := by decide +kernel
theorem dX12_free_3 : decode cX12_free 3 = .ok (.bipush 40, 2) := by decide +kernel
theorem dX12_free_5 : decode cX12_free 5 = .ok (.if_icmp .ge 22, 3) := by decide +kernel
theorem dX12_free_8 : decode cX12_free 8 = .ok (.aload_n 0, 1) := by decide +kernel
theorem dX12_free_9 : decode cX12_free 9 = .ok (.getfield 7, 3) := by decide +kernel
theorem dX12_free_12 : decode cX12_free 12 = .ok (.iconst 0, 1) := by decide +kernel
theorem dX12_free_13 : decode cX12_free 13 = .ok (.iload_n 1, 1) := by decide +kernel
theorem dX12_free_14 : decode cX12_free 14 = .ok (.iadd, 1) := by decide +kernel
theorem dX12_free_15 : decode cX12_free 15 = .ok (.iaload, 1) := by decide +kernel
theorem dX12_free_16 : decode cX12_free 16 = .ok (.ifCond .ne 5, 3) := by decide +kernel
theorem dX12_free_19 : decode cX12_free 19 = .ok (.iload_n 1, 1) := by decide +kernel
theorem dX12_free_20 : decode cX12_free 20 = .ok (.ireturn, 1) := by decide +kernel
theorem dX12_free_21 : decode cX12_free 21 = .ok (.iinc 1 1, 3) := by decide +kernel
theorem dX12_free_24 : decode cX12_free 24 = .ok (.goto (-22), 3) := by decide +kernel
theorem dX12_free_27 : decode cX12_free 27 = .ok (.iconst (-1), 1) := by decide +kernel
theorem dX12_free_28 : decode cX12_free 28 = .ok (.ireturn, 1) := by decide +kernel
theorem dX12_lay_0 : decode cX12_lay 0 = .ok (.aload_n 0, 1) := by decide +kernel
theorem dX12_lay_1 : decode cX12_lay 1 = .ok (.getfield 7, 3) := by decide +kernel
theorem dX12_lay_4 : decode cX12_lay 4 = .ok (.iconst 0, 1) := by decide +kernel
theorem dX12_lay_5 : decode cX12_lay 5 = .ok (.iload_n 1, 1) := by decide +kernel
theorem dX12_lay_6 : decode cX12_lay 6 = .ok (.iadd, 1) := by decide +kernel
theorem dX12_lay_7 : decode cX12_lay 7 = .ok (.iconst 1, 1) := by decide +kernel
theorem dX12_lay_8 : decode cX12_lay 8 = .ok (.iastore, 1) := by decide +kernel
theorem dX12_lay_9 : decode cX12_lay 9 = .ok (.aload_n 0, 1) := by decide +kernel
theorem dX12_lay_10 : decode cX12_lay 10 = .ok (.getfield 7, 3) := by decide +kernel
theorem dX12_lay_13 : decode cX12_lay 13 = .ok (.bipush 40, 2) := by decide +kernel
theorem dX12_lay_15 : decode cX12_lay 15 = .ok (.iload_n 1, 1) := by decide +kernel
theorem dX12_lay_16 : decode cX12_lay 16 = .ok (.iadd, 1) := by decide +kernel
theorem dX12_lay_17 : decode cX12_lay 17 = .ok (.iload_n 2, 1) := by decide +kernel
theorem dX12_lay_18 : decode cX12_lay 18 = .ok (.iastore, 1) := by decide +kernel
theorem dX12_lay_19 : decode cX12_lay 19 = .ok (.aload_n 0, 1) := by decide +kernel
theorem dX12_lay_20 : decode cX12_lay 20 = .ok (.getfield 7, 3) := by decide +kernel
theorem dX12_lay_23 : decode cX12_lay 23 = .ok (.bipush 80, 2) := by decide +kernel
theorem dX12_lay_25 : decode cX12_lay 25 = .ok (.iload_n 1, 1) := by decide +kernel
theorem dX12_lay_26 : decode cX12_lay 26 = .ok (.iadd, 1) := by decide +kernel
theorem dX12_lay_27 : decode cX12_lay 27 = .ok (.iload_n 3, 1) := by decide +kernel
theorem dX12_lay_28 : decode cX12_lay 28 = .ok (.iastore, 1) := by decide +kernel
theorem dX12_lay_29 : decode cX12_lay 29 = .ok (.aload_n 0, 1) := by decide +kernel
theorem dX12_lay_30 : decode cX12_lay 30 = .ok (.getfield 7, 3) := by decide +kernel
theorem dX12_lay_33 : decode cX12_lay 33 = .ok (.bipush 120, 2) := by decide +kernel
theorem dX12_lay_35 : decode cX12_lay 35 = .ok (.iload_n 1, 1) := by decide +kernel
theorem dX12_lay_36 : decode cX12_lay 36 = .ok (.iadd, 1) := by decide +kernel
theorem dX12_lay_37 : decode cX12_lay 37 = .ok (.iload 4, 2) := by decide +kernel
theorem dX12_lay_39 : decode cX12_lay 39 = .ok (.iastore, 1) := by decide +kernel
theorem dX12_lay_40 : decode cX12_lay 40 = .ok (.return_, 1) := by decide +kernel
theorem dX12_put_0 : decode cX12_put 0 = .ok (.aload_n 0, 1) := by decide +kernel
theorem dX12_put_1 : decode cX12_put 1 = .ok (.invokevirtual 80, 3) := by decide +kernel
theorem dX12_put_4 : decode cX12_put 4 = .ok (.istore 4, 2) := by decide +kernel
theorem dX12_put_6 : decode cX12_put 6 = .ok (.iload_n 1, 1) := by decide +kernel
theorem dX12_put_7 : decode cX12_put 7 = .ok (.iload_n 2, 1) := by decide +kernel
theorem dX12_put_8 : decode cX12_put 8 = .ok (.invokestatic 84, 3) := by decide +kernel
theorem dX12_put_11 : decode cX12_put 11 = .ok (.ifCond .eq 16, 3) := by decide +kernel
theorem dX12_put_14 : decode cX12_put 14 = .ok (.iload_n 3, 1) := by decide +kernel
theorem dX12_put_15 : decode cX12_put 15 = .ok (.invokestatic 88, 3) := by decide +kernel
theorem dX12_put_18 : decode cX12_put 18 = .ok (.ifCond .eq 9, 3) := by decide +kernel
theorem dX12_put_21 : decode cX12_put 21 = .ok (.iload 4, 2) := by decide +kernel
theorem dX12_put_23 : decode cX12_put 23 = .ok (.iconst (-1), 1) := by decide +kernel
theorem dX12_put_24 : decode cX12_put 24 = .ok (.if_icmp .ne 5, 3) := by decide +kernel
theorem dX12_put_27 : decode cX12_put 27 = .ok (.iconst (-1), 1) := by decide +kernel
theorem dX12_put_28 : decode cX12_put 28 = .ok (.ireturn, 1) := by decide +kernel
theorem dX12_put_29 : decode cX12_put 29 = .ok (.aload_n 0, 1) := by decide +kernel
theorem dX12_put_30 : decode cX12_put 30 = .ok (.invokevirtual 92, 3) := by decide +kernel
theorem dX12_put_33 : decode cX12_put 33 = .ok (.aload_n 0, 1) := by decide +kernel
theorem dX12_put_34 : decode cX12_put 34 = .ok (.iload 4, 2) := by decide +kernel
theorem dX12_put_36 : decode cX12_put 36 = .ok (.iload_n 1, 1) := by decide +kernel
theorem dX12_put_37 : decode cX12_put 37 = .ok (.iload_n 2, 1) := by decide +kernel
theorem dX12_put_38 : decode cX12_put 38 = .ok (.iload_n 3, 1) := by decide +kernel
theorem dX12_put_39 : decode cX12_put 39 = .ok (.invokevirtual 95, 3) := by decide +kernel
theorem dX12_put_42 : decode cX12_put 42 = .ok (.iload 4, 2) := by decide +kernel
theorem dX12_put_44 : decode cX12_put 44 = .ok (.ireturn, 1) := by decide +kernel
theorem dX12_gone_0 : decode cX12_gone 0 = .ok (.aload_n 0, 1) := by decide +kernel
theorem dX12_gone_1 : decode cX12_gone 1 = .ok (.iload_n 1, 1) := by decide +kernel
theorem dX12_gone_2 : decode cX12_gone 2 = .ok (.invokevirtual 99, 3) := by decide +kernel
theorem dX12_gone_5 : decode cX12_gone 5 = .ok (.ifCond .ne 5, 3) := by decide +kernel
theorem dX12_gone_8 : decode cX12_gone 8 = .ok (.iconst 0, 1) := by decide +kernel
theorem dX12_gone_9 : decode cX12_gone 9 = .ok (.ireturn, 1) := by decide +kernel
theorem dX12_gone_10 : decode cX12_gone 10 = .ok (.aload_n 0, 1) := by decide +kernel
theorem dX12_gone_11 : decode cX12_gone 11 = .ok (.invokevirtual 92, 3) := by decide +kernel
theorem dX12_gone_14 : decode cX12_gone 14 = .ok (.aload_n 0, 1) := by decide +kernel
theorem dX12_gone_15 : decode cX12_gone 15 = .ok (.getfield 7, 3) := by decide +kernel
theorem dX12_gone_18 : decode cX12_gone 18 = .ok (.iconst 0, 1) := by decide +kernel
theorem dX12_gone_19 : decode cX12_gone 19 = .ok (.iload_n 1, 1) := by decide +kernel
theorem dX12_gone_20 : decode cX12_gone 20 = .ok (.iadd, 1) := by decide +kernel
theorem dX12_gone_21 : decode cX12_gone 21 = .ok (.iconst 0, 1) := by decide +kernel
theorem dX12_gone_22 : decode cX12_gone 22 = .ok (.iastore, 1) := by decide +kernel
theorem dX12_gone_23 : decode cX12_gone 23 = .ok (.iconst 1, 1) := by decide +kernel
theorem dX12_gone_24 : decode cX12_gone 24 = .ok (.ireturn, 1) := by decide +kernel
theorem dX12_moved_0 : decode cX12_moved 0 = .ok (.aload_n 0, 1) := by decide +kernel
theorem dX12_moved_1 : decode cX12_moved 1 = .ok (.iload_n 1, 1) := by decide +kernel
theorem dX12_moved_2 : decode cX12_moved 2 = .ok (.invokevirtual 99, 3) := by decide +kernel
theorem dX12_moved_5 : decode cX12_moved 5 = .ok (.ifCond .eq 11, 3) := by decide +kernel
theorem dX12_moved_8 : decode cX12_moved 8 = .ok (.iload_n 2, 1) := by decide +kernel
theorem dX12_moved_9 : decode cX12_moved 9 = .ok (.iload_n 3, 1) := by decide +kernel
theorem dX12_moved_10 : decode cX12_moved 10 = .ok (.invokestatic 84, 3) := by decide +kernel
theorem dX12_moved_13 : decode cX12_moved 13 = .ok (.ifCond .ne 5, 3) := by decide +kernel
theorem dX12_moved_16 : decode cX12_moved 16 = .ok (.iconst 0, 1) := by decide +kernel
theorem dX12_moved_17 : decode cX12_moved 17 = .ok (.ireturn, 1) := by decide +kernel
theorem dX12_moved_18 : decode cX12_moved 18 = .ok (.aload_n 0, 1) := by decide +kernel
theorem dX12_moved_19 : decode cX12_moved 19 = .ok (.invokevirtual 92, 3) := by decide +kernel
theorem dX12_moved_22 : decode cX12_moved 22 = .ok (.aload_n 0, 1) := by decide +kernel
theorem dX12_moved_23 : decode cX12_moved 23 = .ok (.iload_n 1, 1) := by decide +kernel
theorem dX12_moved_24 : decode cX12_moved 24 = .ok (.iload_n 2, 1) := by decide +kernel
theorem dX12_moved_25 : decode cX12_moved 25 = .ok (.iload_n 3, 1) := by decide +kernel
theorem dX12_moved_26 : decode cX12_moved 26 = .ok (.aload_n 0, 1) := by decide +kernel
theorem dX12_moved_27 : decode cX12_moved 27 = .ok (.getfield 7, 3) := by decide +kernel
theorem dX12_moved_30 : decode cX12_moved 30 = .ok (.bipush 120, 2) := by decide +kernel
theorem dX12_moved_32 : decode cX12_moved 32 = .ok (.iload_n 1, 1) := by decide +kernel
theorem dX12_moved_33 : decode cX12_moved 33 = .ok (.iadd, 1) := by decide +kernel
theorem dX12_moved_34 : decode cX12_moved 34 = .ok (.iaload, 1) := by decide +kernel
theorem dX12_moved_35 : decode cX12_moved 35 = .ok (.invokevirtual 95, 3) := by decide +kernel
theorem dX12_moved_38 : decode cX12_moved 38 = .ok (.iconst 1, 1) := by decide +kernel
theorem dX12_moved_39 : decode cX12_moved 39 = .ok (.ireturn, 1) := by decide +kernel
theorem dX12_isPace_0 : decode cX12_isPace 0 = .ok (.iload_n 0, 1) := by decide +kernel
theorem dX12_isPace_1 : decode cX12_isPace 1 = .ok (.bipush (-3), 2) := by decide +kernel
theorem dX12_isPace_3 : decode cX12_isPace 3 = .ok (.iconst 3, 1) := by decide +kernel
theorem dX12_isPace_4 : decode cX12_isPace 4 = .ok (.invokestatic 76, 3) := by decide +kernel
theorem dX12_isPace_7 : decode cX12_isPace 7 = .ok (.ireturn, 1) := by decide +kernel
theorem dX12_layPace_0 : decode cX12_layPace 0 = .ok (.aload_n 0, 1) := by decide +kernel
theorem dX12_layPace_1 : decode cX12_layPace 1 = .ok (.getfield 7, 3) := by decide +kernel
theorem dX12_layPace_4 : decode cX12_layPace 4 = .ok (.sipush 160, 3) := by decide +kernel
theorem dX12_layPace_7 : decode cX12_layPace 7 = .ok (.iconst 2, 1) := by decide +kernel
theorem dX12_layPace_8 : decode cX12_layPace 8 = .ok (.iload_n 1, 1) := by decide +kernel
theorem dX12_layPace_9 : decode cX12_layPace 9 = .ok (.imul, 1) := by decide +kernel
theorem dX12_layPace_10 : decode cX12_layPace 10 = .ok (.iadd, 1) := by decide +kernel
theorem dX12_layPace_11 : decode cX12_layPace 11 = .ok (.iload_n 2, 1) := by decide +kernel
theorem dX12_layPace_12 : decode cX12_layPace 12 = .ok (.iastore, 1) := by decide +kernel
theorem dX12_layPace_13 : decode cX12_layPace 13 = .ok (.aload_n 0, 1) := by decide +kernel
theorem dX12_layPace_14 : decode cX12_layPace 14 = .ok (.getfield 7, 3) := by decide +kernel
theorem dX12_layPace_17 : decode cX12_layPace 17 = .ok (.sipush 160, 3) := by decide +kernel
theorem dX12_layPace_20 : decode cX12_layPace 20 = .ok (.iconst 2, 1) := by decide +kernel
theorem dX12_layPace_21 : decode cX12_layPace 21 = .ok (.iload_n 1, 1) := by decide +kernel
theorem dX12_layPace_22 : decode cX12_layPace 22 = .ok (.imul, 1) := by decide +kernel
theorem dX12_layPace_23 : decode cX12_layPace 23 = .ok (.iadd, 1) := by decide +kernel
theorem dX12_layPace_24 : decode cX12_layPace 24 = .ok (.iconst 1, 1) := by decide +kernel
theorem dX12_layPace_25 : decode cX12_layPace 25 = .ok (.iadd, 1) := by decide +kernel
theorem dX12_layPace_26 : decode cX12_layPace 26 = .ok (.iload_n 3, 1) := by decide +kernel
theorem dX12_layPace_27 : decode cX12_layPace 27 = .ok (.iastore, 1) := by decide +kernel
theorem dX12_layPace_28 : decode cX12_layPace 28 = .ok (.return_, 1) := by decide +kernel
theorem dX12_pace_0 : decode cX12_pace 0 = .ok (.iload_n 1, 1) := by decide +kernel
theorem dX12_pace_1 : decode cX12_pace 1 = .ok (.invokestatic 88, 3) := by decide +kernel
theorem dX12_pace_4 : decode cX12_pace 4 = .ok (.ifCond .eq 17, 3) := by decide +kernel
theorem dX12_pace_7 : decode cX12_pace 7 = .ok (.iload_n 2, 1) := by decide +kernel
theorem dX12_pace_8 : decode cX12_pace 8 = .ok (.invokestatic 102, 3) := by decide +kernel
theorem dX12_pace_11 : decode cX12_pace 11 = .ok (.ifCond .eq 10, 3) := by decide +kernel
theorem dX12_pace_14 : decode cX12_pace 14 = .ok (.iload_n 3, 1) := by decide +kernel
theorem dX12_pace_15 : decode cX12_pace 15 = .ok (.invokestatic 102, 3) := by decide +kernel
theorem dX12_pace_18 : decode cX12_pace 18 = .ok (.ifCond .ne 5, 3) := by decide +kernel
theorem dX12_pace_21 : decode cX12_pace 21 = .ok (.iconst 0, 1) := by decide +kernel
theorem dX12_pace_22 : decode cX12_pace 22 = .ok (.ireturn, 1) := by decide +kernel
theorem dX12_pace_23 : decode cX12_pace 23 = .ok (.aload_n 0, 1) := by decide +kernel
theorem dX12_pace_24 : decode cX12_pace 24 = .ok (.invokevirtual 92, 3) := by decide +kernel
theorem dX12_pace_27 : decode cX12_pace 27 = .ok (.aload_n 0, 1) := by decide +kernel
theorem dX12_pace_28 : decode cX12_pace 28 = .ok (.iload_n 1, 1) := by decide +kernel
theorem dX12_pace_29 : decode cX12_pace 29 = .ok (.iload_n 2, 1) := by decide +kernel
theorem dX12_pace_30 : decode cX12_pace 30 = .ok (.iload_n 3, 1) := by decide +kernel
theorem dX12_pace_31 : decode cX12_pace 31 = .ok (.invokevirtual 105, 3) := by decide +kernel
theorem dX12_pace_34 : decode cX12_pace 34 = .ok (.iconst 1, 1) := by decide +kernel
theorem dX12_pace_35 : decode cX12_pace 35 = .ok (.ireturn, 1) := by decide +kernel
theorem dX12_tick_0 : decode cX12_tick 0 = .ok (.iload_n 1, 1) := by decide +kernel
theorem dX12_tick_1 : decode cX12_tick 1 = .ok (.iconst 0, 1) := by decide +kernel
theorem dX12_tick_2 : decode cX12_tick 2 = .ok (.bipush 20, 2) := by decide +kernel
theorem dX12_tick_4 : decode cX12_tick 4 = .ok (.invokestatic 76, 3) := by decide +kernel
theorem dX12_tick_7 : decode cX12_tick 7 = .ok (.ifCond .ne 5, 3) := by decide +kernel
theorem dX12_tick_10 : decode cX12_tick 10 = .ok (.iconst (-1), 1) := by decide +kernel
theorem dX12_tick_11 : decode cX12_tick 11 = .ok (.ireturn, 1) := by decide +kernel
theorem dX12_tick_12 : decode cX12_tick 12 = .ok (.aload_n 0, 1) := by decide +kernel
theorem dX12_tick_13 : decode cX12_tick 13 = .ok (.getfield 7, 3) := by decide +kernel
theorem dX12_tick_16 : decode cX12_tick 16 = .ok (.sipush 168, 3) := by decide +kernel
theorem dX12_tick_19 : decode cX12_tick 19 = .ok (.iaload, 1) := by decide +kernel
theorem dX12_tick_20 : decode cX12_tick 20 = .ok (.istore_n 2, 1) := by decide +kernel
theorem dX12_tick_21 : decode cX12_tick 21 = .ok (.aload_n 0, 1) := by decide +kernel
theorem dX12_tick_22 : decode cX12_tick 22 = .ok (.invokevirtual 92, 3) := by decide +kernel
theorem dX12_tick_25 : decode cX12_tick 25 = .ok (.aload_n 0, 1) := by decide +kernel
theorem dX12_tick_26 : decode cX12_tick 26 = .ok (.getfield 7, 3) := by decide +kernel
theorem dX12_tick_29 : decode cX12_tick 29 = .ok (.sipush 168, 3) := by decide +kernel
theorem dX12_tick_32 : decode cX12_tick 32 = .ok (.iload_n 1, 1) := by decide +kernel
theorem dX12_tick_33 : decode cX12_tick 33 = .ok (.iastore, 1) := by decide +kernel
theorem dX12_tick_34 : decode cX12_tick 34 = .ok (.iload_n 2, 1) := by decide +kernel
theorem dX12_tick_35 : decode cX12_tick 35 = .ok (.ireturn, 1) := by decide +kernel
theorem dX12_countPoints_0 : decode cX12_countPoints 0 = .ok (.iconst 0, 1) := by decide +kernel
theorem dX12_countPoints_1 : decode cX12_countPoints 1 = .ok (.istore_n 2, 1) := by decide +kernel
theorem dX12_countPoints_2 : decode cX12_countPoints 2 = .ok (.iconst 0, 1) := by decide +kernel
theorem dX12_countPoints_3 : decode cX12_countPoints 3 = .ok (.istore_n 3, 1) := by decide +kernel
theorem dX12_countPoints_4 : decode cX12_countPoints 4 = .ok (.iload_n 3, 1) := by decide +kernel
theorem dX12_countPoints_5 : decode cX12_countPoints 5 = .ok (.bipush 40, 2) := by decide +kernel
theorem dX12_countPoints_7 : decode cX12_countPoints 7 = .ok (.if_icmp .ge 47, 3) := by decide +kernel
theorem dX12_countPoints_10 : decode cX12_countPoints 10 = .ok (.iload_n 2, 1) := by decide +kernel
theorem dX12_countPoints_11 : decode cX12_countPoints 11 = .ok (.aload_n 0, 1) := by decide +kernel
theorem dX12_countPoints_12 : decode cX12_countPoints 12 = .ok (.getfield 7, 3) := by decide +kernel
theorem dX12_countPoints_15 : decode cX12_countPoints 15 = .ok (.iconst 0, 1) := by decide +kernel
theorem dX12_countPoints_16 : decode cX12_countPoints 16 = .ok (.iload_n 3, 1) := by decide +kernel
theorem dX12_countPoints_17 : decode cX12_countPoints 17 = .ok (.iadd, 1) := by decide +kernel
theorem dX12_countPoints_18 : decode cX12_countPoints 18 = .ok (.iaload, 1) := by decide +kernel
theorem dX12_countPoints_19 : decode cX12_countPoints 19 = .ok (.iconst 1, 1) := by decide +kernel
theorem dX12_countPoints_20 : decode cX12_countPoints 20 = .ok (.if_icmp .ne 25, 3) := by decide +kernel
theorem dX12_countPoints_23 : decode cX12_countPoints 23 = .ok (.iload_n 1, 1) := by decide +kernel
theorem dX12_countPoints_24 : decode cX12_countPoints 24 = .ok (.iconst (-1), 1) := by decide +kernel
theorem dX12_countPoints_25 : decode cX12_countPoints 25 = .ok (.if_icmp .eq 16, 3) := by decide +kernel
theorem dX12_countPoints_28 : decode cX12_countPoints 28 = .ok (.aload_n 0, 1) := by decide +kernel
theorem dX12_countPoints_29 : decode cX12_countPoints 29 = .ok (.getfield 7, 3) := by decide +kernel
theorem dX12_countPoints_32 : decode cX12_countPoints 32 = .ok (.bipush 120, 2) := by decide +kernel
theorem dX12_countPoints_34 : decode cX12_countPoints 34 = .ok (.iload_n 3, 1) := by decide +kernel
theorem dX12_countPoints_35 : decode cX12_countPoints 35 = .ok (.iadd, 1) := by decide +kernel
theorem dX12_countPoints_36 : decode cX12_countPoints 36 = .ok (.iaload, 1) := by decide +kernel
theorem dX12_countPoints_37 : decode cX12_countPoints 37 = .ok (.iload_n 1, 1) := by decide +kernel
theorem dX12_countPoints_38 : decode cX12_countPoints 38 = .ok (.if_icmp .ne 7, 3) := by decide +kernel
theorem dX12_countPoints_41 : decode cX12_countPoints 41 = .ok (.iconst 1, 1) := by decide +kernel
theorem dX12_countPoints_42 : decode cX12_countPoints 42 = .ok (.goto 4, 3) := by decide +kernel
theorem dX12_countPoints_45 : decode cX12_countPoints 45 = .ok (.iconst 0, 1) := by decide +kernel
theorem dX12_countPoints_46 : decode cX12_countPoints 46 = .ok (.iadd, 1) := by decide +kernel
theorem dX12_countPoints_47 : decode cX12_countPoints 47 = .ok (.istore_n 2, 1) := by decide +kernel
theorem dX12_countPoints_48 : decode cX12_countPoints 48 = .ok (.iinc 3 1, 3) := by decide +kernel
theorem dX12_countPoints_51 : decode cX12_countPoints 51 = .ok (.goto (-47), 3) := by decide +kernel
theorem dX12_countPoints_54 : decode cX12_countPoints 54 = .ok (.iload_n 2, 1) := by decide +kernel
theorem dX12_countPoints_55 : decode cX12_countPoints 55 = .ok (.ireturn, 1) := by decide +kernel
theorem dX12_is_0 : decode cX12_is 0 = .ok (.iload_n 1, 1) := by decide +kernel
theorem dX12_is_1 : decode cX12_is 1 = .ok (.tableswitch 80 0 7 #[47, 53, 62, 67, 72, 72, 72, 72], 47) := by decide +kernel
theorem dX12_is_48 : decode cX12_is 48 = .ok (.aload_n 0, 1) := by decide +kernel
theorem dX12_is_49 : decode cX12_is 49 = .ok (.iconst (-1), 1) := by decide +kernel
theorem dX12_is_50 : decode cX12_is 50 = .ok (.invokevirtual 109, 3) := by decide +kernel
theorem dX12_is_53 : decode cX12_is 53 = .ok (.ireturn, 1) := by decide +kernel
theorem dX12_is_54 : decode cX12_is 54 = .ok (.aload_n 0, 1) := by decide +kernel
theorem dX12_is_55 : decode cX12_is 55 = .ok (.getfield 7, 3) := by decide +kernel
theorem dX12_is_58 : decode cX12_is 58 = .ok (.sipush 168, 3) := by decide +kernel
theorem dX12_is_61 : decode cX12_is 61 = .ok (.iaload, 1) := by decide +kernel
theorem dX12_is_62 : decode cX12_is 62 = .ok (.ireturn, 1) := by decide +kernel
theorem dX12_is_63 : decode cX12_is 63 = .ok (.aload_n 0, 1) := by decide +kernel
theorem dX12_is_64 : decode cX12_is 64 = .ok (.getfield 73, 3) := by decide +kernel
theorem dX12_is_67 : decode cX12_is 67 = .ok (.ireturn, 1) := by decide +kernel
theorem dX12_is_68 : decode cX12_is 68 = .ok (.aload_n 0, 1) := by decide +kernel
theorem dX12_is_69 : decode cX12_is 69 = .ok (.getfield 113, 3) := by decide +kernel
theorem dX12_is_72 : decode cX12_is 72 = .ok (.ireturn, 1) := by decide +kernel
theorem dX12_is_73 : decode cX12_is 73 = .ok (.aload_n 0, 1) := by decide +kernel
theorem dX12_is_74 : decode cX12_is 74 = .ok (.iload_n 1, 1) := by decide +kernel
theorem dX12_is_75 : decode cX12_is 75 = .ok (.iconst 4, 1) := by decide +kernel
theorem dX12_is_76 : decode cX12_is 76 = .ok (.isub, 1) := by decide +kernel
theorem dX12_is_77 : decode cX12_is 77 = .ok (.invokevirtual 109, 3) := by decide +kernel
theorem dX12_is_80 : decode cX12_is 80 = .ok (.ireturn, 1) := by decide +kernel
theorem dX12_is_81 : decode cX12_is 81 = .ok (.iconst (-1), 1) := by decide +kernel
theorem dX12_is_82 : decode cX12_is 82 = .ok (.ireturn, 1) := by decide +kernel
theorem dX12_standsX_0 : decode cX12_standsX 0 = .ok (.aload_n 0, 1) := by decide +kernel
theorem dX12_standsX_1 : decode cX12_standsX 1 = .ok (.getfield 7, 3) := by decide +kernel
theorem dX12_standsX_4 : decode cX12_standsX 4 = .ok (.bipush 40, 2) := by decide +kernel
theorem dX12_standsX_6 : decode cX12_standsX 6 = .ok (.iload_n 1, 1) := by decide +kernel
theorem dX12_standsX_7 : decode cX12_standsX 7 = .ok (.iadd, 1) := by decide +kernel
theorem dX12_standsX_8 : decode cX12_standsX 8 = .ok (.iaload, 1) := by decide +kernel
theorem dX12_standsX_9 : decode cX12_standsX 9 = .ok (.aload_n 0, 1) := by decide +kernel
theorem dX12_standsX_10 : decode cX12_standsX 10 = .ok (.getfield 7, 3) := by decide +kernel
theorem dX12_standsX_13 : decode cX12_standsX 13 = .ok (.sipush 160, 3) := by decide +kernel
theorem dX12_standsX_16 : decode cX12_standsX 16 = .ok (.iconst 2, 1) := by decide +kernel
theorem dX12_standsX_17 : decode cX12_standsX 17 = .ok (.aload_n 0, 1) := by decide +kernel
theorem dX12_standsX_18 : decode cX12_standsX 18 = .ok (.getfield 7, 3) := by decide +kernel
theorem dX12_standsX_21 : decode cX12_standsX 21 = .ok (.bipush 120, 2) := by decide +kernel
theorem dX12_standsX_23 : decode cX12_standsX 23 = .ok (.iload_n 1, 1) := by decide +kernel
theorem dX12_standsX_24 : decode cX12_standsX 24 = .ok (.iadd, 1) := by decide +kernel
theorem dX12_standsX_25 : decode cX12_standsX 25 = .ok (.iaload, 1) := by decide +kernel
theorem dX12_standsX_26 : decode cX12_standsX 26 = .ok (.imul, 1) := by decide +kernel
theorem dX12_standsX_27 : decode cX12_standsX 27 = .ok (.iadd, 1) := by decide +kernel
theorem dX12_standsX_28 : decode cX12_standsX 28 = .ok (.iaload, 1) := by decide +kernel
theorem dX12_standsX_29 : decode cX12_standsX 29 = .ok (.aload_n 0, 1) := by decide +kernel
theorem dX12_standsX_30 : decode cX12_standsX 30 = .ok (.getfield 7, 3) := by decide +kernel
theorem dX12_standsX_33 : decode cX12_standsX 33 = .ok (.sipush 168, 3) := by decide +kernel
theorem dX12_standsX_36 : decode cX12_standsX 36 = .ok (.iaload, 1) := by decide +kernel
theorem dX12_standsX_37 : decode cX12_standsX 37 = .ok (.imul, 1) := by decide +kernel
theorem dX12_standsX_38 : decode cX12_standsX 38 = .ok (.iadd, 1) := by decide +kernel
theorem dX12_standsX_39 : decode cX12_standsX 39 = .ok (.ireturn, 1) := by decide +kernel
theorem dX12_standsY_0 : decode cX12_standsY 0 = .ok (.aload_n 0, 1) := by decide +kernel
theorem dX12_standsY_1 : decode cX12_standsY 1 = .ok (.getfield 7, 3) := by decide +kernel
theorem dX12_standsY_4 : decode cX12_standsY 4 = .ok (.bipush 80, 2) := by decide +kernel
theorem dX12_standsY_6 : decode cX12_standsY 6 = .ok (.iload_n 1, 1) := by decide +kernel
theorem dX12_standsY_7 : decode cX12_standsY 7 = .ok (.iadd, 1) := by decide +kernel
theorem dX12_standsY_8 : decode cX12_standsY 8 = .ok (.iaload, 1) := by decide +kernel
theorem dX12_standsY_9 : decode cX12_standsY 9 = .ok (.aload_n 0, 1) := by decide +kernel
theorem dX12_standsY_10 : decode cX12_standsY 10 = .ok (.getfield 7, 3) := by decide +kernel
theorem dX12_standsY_13 : decode cX12_standsY 13 = .ok (.sipush 160, 3) := by decide +kernel
theorem dX12_standsY_16 : decode cX12_standsY 16 = .ok (.iconst 2, 1) := by decide +kernel
theorem dX12_standsY_17 : decode cX12_standsY 17 = .ok (.aload_n 0, 1) := by decide +kernel
theorem dX12_standsY_18 : decode cX12_standsY 18 = .ok (.getfield 7, 3) := by decide +kernel
theorem dX12_standsY_21 : decode cX12_standsY 21 = .ok (.bipush 120, 2) := by decide +kernel
theorem dX12_standsY_23 : decode cX12_standsY 23 = .ok (.iload_n 1, 1) := by decide +kernel
theorem dX12_standsY_24 : decode cX12_standsY 24 = .ok (.iadd, 1) := by decide +kernel
theorem dX12_standsY_25 : decode cX12_standsY 25 = .ok (.iaload, 1) := by decide +kernel
theorem dX12_standsY_26 : decode cX12_standsY 26 = .ok (.imul, 1) := by decide +kernel
theorem dX12_standsY_27 : decode cX12_standsY 27 = .ok (.iadd, 1) := by decide +kernel
theorem dX12_standsY_28 : decode cX12_standsY 28 = .ok (.iconst 1, 1) := by decide +kernel
theorem dX12_standsY_29 : decode cX12_standsY 29 = .ok (.iadd, 1) := by decide +kernel
theorem dX12_standsY_30 : decode cX12_standsY 30 = .ok (.iaload, 1) := by decide +kernel
theorem dX12_standsY_31 : decode cX12_standsY 31 = .ok (.aload_n 0, 1) := by decide +kernel
theorem dX12_standsY_32 : decode cX12_standsY 32 = .ok (.getfield 7, 3) := by decide +kernel
theorem dX12_standsY_35 : decode cX12_standsY 35 = .ok (.sipush 168, 3) := by decide +kernel
theorem dX12_standsY_38 : decode cX12_standsY 38 = .ok (.iaload, 1) := by decide +kernel
theorem dX12_standsY_39 : decode cX12_standsY 39 = .ok (.imul, 1) := by decide +kernel
theorem dX12_standsY_40 : decode cX12_standsY 40 = .ok (.iadd, 1) := by decide +kernel
theorem dX12_standsY_41 : decode cX12_standsY 41 = .ok (.ireturn, 1) := by decide +kernel
theorem dX12_point_0 : decode cX12_point 0 = .ok (.aload_n 0, 1) := by decide +kernel
theorem dX12_point_1 : decode cX12_point 1 = .ok (.iload_n 1, 1) := by decide +kernel
theorem dX12_point_2 : decode cX12_point 2 = .ok (.invokevirtual 99, 3) := by decide +kernel
theorem dX12_point_5 : decode cX12_point 5 = .ok (.ifCond .ne 7, 3) := by decide +kernel
theorem dX12_point_8 : decode cX12_point 8 = .ok (.sipush (-1000), 3) := by decide +kernel
theorem dX12_point_11 : decode cX12_point 11 = .ok (.ireturn, 1) := by decide +kernel
theorem dX12_point_12 : decode cX12_point 12 = .ok (.iload_n 2, 1) := by decide +kernel
theorem dX12_point_13 : decode cX12_point 13 = .ok (.tableswitch 77 0 4 #[35, 45, 55, 65, 71], 35) := by decide +kernel
theorem dX12_point_48 : decode cX12_point 48 = .ok (.aload_n 0, 1) := by decide +kernel
theorem dX12_point_49 : decode cX12_point 49 = .ok (.getfield 7, 3) := by decide +kernel
theorem dX12_point_52 : decode cX12_point 52 = .ok (.bipush 40, 2) := by decide +kernel
theorem dX12_point_54 : decode cX12_point 54 = .ok (.iload_n 1, 1) := by decide +kernel
theorem dX12_point_55 : decode cX12_point 55 = .ok (.iadd, 1) := by decide +kernel
theorem dX12_point_56 : decode cX12_point 56 = .ok (.iaload, 1) := by decide +kernel
theorem dX12_point_57 : decode cX12_point 57 = .ok (.ireturn, 1) := by decide +kernel
theorem dX12_point_58 : decode cX12_point 58 = .ok (.aload_n 0, 1) := by decide +kernel
theorem dX12_point_59 : decode cX12_point 59 = .ok (.getfield 7, 3) := by decide +kernel
theorem dX12_point_62 : decode cX12_point 62 = .ok (.bipush 80, 2) := by decide +kernel
theorem dX12_point_64 : decode cX12_point 64 = .ok (.iload_n 1, 1) := by decide +kernel
theorem dX12_point_65 : decode cX12_point 65 = .ok (.iadd, 1) := by decide +kernel
theorem dX12_point_66 : decode cX12_point 66 = .ok (.iaload, 1) := by decide +kernel
theorem dX12_point_67 : decode cX12_point 67 = .ok (.ireturn, 1) := by decide +kernel
theorem dX12_point_68 : decode cX12_point 68 = .ok (.aload_n 0, 1) := by decide +kernel
theorem dX12_point_69 : decode cX12_point 69 = .ok (.getfield 7, 3) := by decide +kernel
theorem dX12_point_72 : decode cX12_point 72 = .ok (.bipush 120, 2) := by decide +kernel
theorem dX12_point_74 : decode cX12_point 74 = .ok (.iload_n 1, 1) := by decide +kernel
theorem dX12_point_75 : decode cX12_point 75 = .ok (.iadd, 1) := by decide +kernel
theorem dX12_point_76 : decode cX12_point 76 = .ok (.iaload, 1) := by decide +kernel
theorem dX12_point_77 : decode cX12_point 77 = .ok (.ireturn, 1) := by decide +kernel
theorem dX12_point_78 : decode cX12_point 78 = .ok (.aload_n 0, 1) := by decide +kernel
theorem dX12_point_79 : decode cX12_point 79 = .ok (.iload_n 1, 1) := by decide +kernel
theorem dX12_point_80 : decode cX12_point 80 = .ok (.invokevirtual 116, 3) := by decide +kernel
theorem dX12_point_83 : decode cX12_point 83 = .ok (.ireturn, 1) := by decide +kernel
theorem dX12_point_84 : decode cX12_point 84 = .ok (.aload_n 0, 1) := by decide +kernel
theorem dX12_point_85 : decode cX12_point 85 = .ok (.iload_n 1, 1) := by decide +kernel
theorem dX12_point_86 : decode cX12_point 86 = .ok (.invokevirtual 119, 3) := by decide +kernel
theorem dX12_point_89 : decode cX12_point 89 = .ok (.ireturn, 1) := by decide +kernel
theorem dX12_point_90 : decode cX12_point 90 = .ok (.sipush (-1000), 3) := by decide +kernel
theorem dX12_point_93 : decode cX12_point 93 = .ok (.ireturn, 1) := by decide +kernel
theorem dX12_four_0 : decode cX12_four 0 = .ok (.bipush 24, 2) := by decide +kernel
theorem dX12_four_2 : decode cX12_four 2 = .ok (.istore_n 2, 1) := by decide +kernel
theorem dX12_four_3 : decode cX12_four 3 = .ok (.iload_n 2, 1) := by decide +kernel
theorem dX12_four_4 : decode cX12_four 4 = .ok (.ifCond .lt 32, 3) := by decide +kernel
theorem dX12_four_7 : decode cX12_four 7 = .ok (.aload_n 0, 1) := by decide +kernel
theorem dX12_four_8 : decode cX12_four 8 = .ok (.getfield 16, 3) := by decide +kernel
theorem dX12_four_11 : decode cX12_four 11 = .ok (.aload_n 0, 1) := by decide +kernel
theorem dX12_four_12 : decode cX12_four 12 = .ok (.getfield 113, 3) := by decide +kernel
theorem dX12_four_15 : decode cX12_four 15 = .ok (.iload_n 1, 1) := by decide +kernel
theorem dX12_four_16 : decode cX12_four 16 = .ok (.iload_n 2, 1) := by decide +kernel
theorem dX12_four_17 : decode cX12_four 17 = .ok (.ishr, 1) := by decide +kernel
theorem dX12_four_18 : decode cX12_four 18 = .ok (.i2b, 1) := by decide +kernel
theorem dX12_four_19 : decode cX12_four 19 = .ok (.bastore, 1) := by decide +kernel
theorem dX12_four_20 : decode cX12_four 20 = .ok (.aload_n 0, 1) := by decide +kernel
theorem dX12_four_21 : decode cX12_four 21 = .ok (.dup, 1) := by decide +kernel
theorem dX12_four_22 : decode cX12_four 22 = .ok (.getfield 113, 3) := by decide +kernel
theorem dX12_four_25 : decode cX12_four 25 = .ok (.iconst 1, 1) := by decide +kernel
theorem dX12_four_26 : decode cX12_four 26 = .ok (.iadd, 1) := by decide +kernel
theorem dX12_four_27 : decode cX12_four 27 = .ok (.putfield 113, 3) := by decide +kernel
theorem dX12_four_30 : decode cX12_four 30 = .ok (.iinc 2 (-8), 3) := by decide +kernel
theorem dX12_four_33 : decode cX12_four 33 = .ok (.goto (-30), 3) := by decide +kernel
theorem dX12_four_36 : decode cX12_four 36 = .ok (.return_, 1) := by decide +kernel
theorem dX12_feed_0 : decode cX12_feed 0 = .ok (.aload_n 0, 1) := by decide +kernel
theorem dX12_feed_1 : decode cX12_feed 1 = .ok (.getfield 113, 3) := by decide +kernel
theorem dX12_feed_4 : decode cX12_feed 4 = .ok (.bipush 20, 2) := by decide +kernel
theorem dX12_feed_6 : decode cX12_feed 6 = .ok (.iadd, 1) := by decide +kernel
theorem dX12_feed_7 : decode cX12_feed 7 = .ok (.sipush 400, 3) := by decide +kernel
theorem dX12_feed_10 : decode cX12_feed 10 = .ok (.if_icmp .le 5, 3) := by decide +kernel
theorem dX12_feed_13 : decode cX12_feed 13 = .ok (.iconst (-1), 1) := by decide +kernel
theorem dX12_feed_14 : decode cX12_feed 14 = .ok (.ireturn, 1) := by decide +kernel
theorem dX12_feed_15 : decode cX12_feed 15 = .ok (.aload_n 0, 1) := by decide +kernel
theorem dX12_feed_16 : decode cX12_feed 16 = .ok (.iload_n 1, 1) := by decide +kernel
theorem dX12_feed_17 : decode cX12_feed 17 = .ok (.invokevirtual 122, 3) := by decide +kernel
theorem dX12_feed_20 : decode cX12_feed 20 = .ok (.aload_n 0, 1) := by decide +kernel
theorem dX12_feed_21 : decode cX12_feed 21 = .ok (.iload_n 2, 1) := by decide +kernel
theorem dX12_feed_22 : decode cX12_feed 22 = .ok (.invokevirtual 122, 3) := by decide +kernel
theorem dX12_feed_25 : decode cX12_feed 25 = .ok (.aload_n 0, 1) := by decide +kernel
theorem dX12_feed_26 : decode cX12_feed 26 = .ok (.iload_n 3, 1) := by decide +kernel
theorem dX12_feed_27 : decode cX12_feed 27 = .ok (.invokevirtual 122, 3) := by decide +kernel
theorem dX12_feed_30 : decode cX12_feed 30 = .ok (.aload_n 0, 1) := by decide +kernel
theorem dX12_feed_31 : decode cX12_feed 31 = .ok (.iload 4, 2) := by decide +kernel
theorem dX12_feed_33 : decode cX12_feed 33 = .ok (.invokevirtual 122, 3) := by decide +kernel
theorem dX12_feed_36 : decode cX12_feed 36 = .ok (.aload_n 0, 1) := by decide +kernel
theorem dX12_feed_37 : decode cX12_feed 37 = .ok (.iload 5, 2) := by decide +kernel
theorem dX12_feed_39 : decode cX12_feed 39 = .ok (.invokevirtual 122, 3) := by decide +kernel
theorem dX12_feed_42 : decode cX12_feed 42 = .ok (.aload_n 0, 1) := by decide +kernel
theorem dX12_feed_43 : decode cX12_feed 43 = .ok (.getfield 113, 3) := by decide +kernel
theorem dX12_feed_46 : decode cX12_feed 46 = .ok (.ireturn, 1) := by decide +kernel
theorem dX12_end_0 : decode cX12_end 0 = .ok (.iload_n 1, 1) := by decide +kernel
theorem dX12_end_1 : decode cX12_end 1 = .ok (.iconst 0, 1) := by decide +kernel
theorem dX12_end_2 : decode cX12_end 2 = .ok (.aload_n 0, 1) := by decide +kernel
theorem dX12_end_3 : decode cX12_end 3 = .ok (.getfield 113, 3) := by decide +kernel
theorem dX12_end_6 : decode cX12_end 6 = .ok (.invokestatic 76, 3) := by decide +kernel
theorem dX12_end_9 : decode cX12_end 9 = .ok (.ifCond .ne 5, 3) := by decide +kernel
theorem dX12_end_12 : decode cX12_end 12 = .ok (.iconst (-1), 1) := by decide +kernel
theorem dX12_end_13 : decode cX12_end 13 = .ok (.ireturn, 1) := by decide +kernel
theorem dX12_end_14 : decode cX12_end 14 = .ok (.aload_n 0, 1) := by decide +kernel
theorem dX12_end_15 : decode cX12_end 15 = .ok (.iload_n 1, 1) := by decide +kernel
theorem dX12_end_16 : decode cX12_end 16 = .ok (.putfield 113, 3) := by decide +kernel
theorem dX12_end_19 : decode cX12_end 19 = .ok (.iload_n 1, 1) := by decide +kernel
theorem dX12_end_20 : decode cX12_end 20 = .ok (.ireturn, 1) := by decide +kernel
theorem dX12_here_0 : decode cX12_here 0 = .ok (.aload_n 0, 1) := by decide +kernel
theorem dX12_here_1 : decode cX12_here 1 = .ok (.getfield 126, 3) := by decide +kernel
theorem dX12_here_4 : decode cX12_here 4 = .ok (.aload_n 0, 1) := by decide +kernel
theorem dX12_here_5 : decode cX12_here 5 = .ok (.getfield 113, 3) := by decide +kernel
theorem dX12_here_8 : decode cX12_here 8 = .ok (.if_icmp .ge 19, 3) := by decide +kernel
theorem dX12_here_11 : decode cX12_here 11 = .ok (.aload_n 0, 1) := by decide +kernel
theorem dX12_here_12 : decode cX12_here 12 = .ok (.getfield 16, 3) := by decide +kernel
theorem dX12_here_15 : decode cX12_here 15 = .ok (.aload_n 0, 1) := by decide +kernel
theorem dX12_here_16 : decode cX12_here 16 = .ok (.getfield 126, 3) := by decide +kernel
theorem dX12_here_19 : decode cX12_here 19 = .ok (.baload, 1) := by decide +kernel
theorem dX12_here_20 : decode cX12_here 20 = .ok (.sipush 255, 3) := by decide +kernel
theorem dX12_here_23 : decode cX12_here 23 = .ok (.iand, 1) := by decide +kernel
theorem dX12_here_24 : decode cX12_here 24 = .ok (.goto 4, 3) := by decide +kernel
theorem dX12_here_27 : decode cX12_here 27 = .ok (.iconst (-1), 1) := by decide +kernel
theorem dX12_here_28 : decode cX12_here 28 = .ok (.ireturn, 1) := by decide +kernel
theorem dX12_isFigure_0 : decode cX12_isFigure 0 = .ok (.iload_n 0, 1) := by decide +kernel
theorem dX12_isFigure_1 : decode cX12_isFigure 1 = .ok (.bipush 48, 2) := by decide +kernel
theorem dX12_isFigure_3 : decode cX12_isFigure 3 = .ok (.if_icmp .lt 13, 3) := by decide +kernel
theorem dX12_isFigure_6 : decode cX12_isFigure 6 = .ok (.iload_n 0, 1) := by decide +kernel
theorem dX12_isFigure_7 : decode cX12_isFigure 7 = .ok (.bipush 57, 2) := by decide +kernel
theorem dX12_isFigure_9 : decode cX12_isFigure 9 = .ok (.if_icmp .gt 7, 3) := by decide +kernel
theorem dX12_isFigure_12 : decode cX12_isFigure 12 = .ok (.iconst 1, 1) := by decide +kernel
theorem dX12_isFigure_13 : decode cX12_isFigure 13 = .ok (.goto 4, 3) := by decide +kernel
theorem dX12_isFigure_16 : decode cX12_isFigure 16 = .ok (.iconst 0, 1) := by decide +kernel
theorem dX12_isFigure_17 : decode cX12_isFigure 17 = .ok (.ireturn, 1) := by decide +kernel
theorem dX12_fails_0 : decode cX12_fails 0 = .ok (.aload_n 0, 1) := by decide +kernel
theorem dX12_fails_1 : decode cX12_fails 1 = .ok (.iload_n 1, 1) := by decide +kernel
theorem dX12_fails_2 : decode cX12_fails 2 = .ok (.putfield 20, 3) := by decide +kernel
theorem dX12_fails_5 : decode cX12_fails 5 = .ok (.iconst 0, 1) := by decide +kernel
theorem dX12_fails_6 : decode cX12_fails 6 = .ok (.ireturn, 1) := by decide +kernel
theorem dX12_takes_0 : decode cX12_takes 0 = .ok (.aload_n 0, 1) := by decide +kernel
theorem dX12_takes_1 : decode cX12_takes 1 = .ok (.invokevirtual 129, 3) := by decide +kernel
theorem dX12_takes_4 : decode cX12_takes 4 = .ok (.iload_n 1, 1) := by decide +kernel
theorem dX12_takes_5 : decode cX12_takes 5 = .ok (.if_icmp .eq 12, 3) := by decide +kernel
theorem dX12_takes_8 : decode cX12_takes 8 = .ok (.aload_n 0, 1) := by decide +kernel
theorem dX12_takes_9 : decode cX12_takes 9 = .ok (.aload_n 0, 1) := by decide +kernel
theorem dX12_takes_10 : decode cX12_takes 10 = .ok (.getfield 126, 3) := by decide +kernel
theorem dX12_takes_13 : decode cX12_takes 13 = .ok (.invokevirtual 132, 3) := by decide +kernel
theorem dX12_takes_16 : decode cX12_takes 16 = .ok (.ireturn, 1) := by decide +kernel
theorem dX12_takes_17 : decode cX12_takes 17 = .ok (.aload_n 0, 1) := by decide +kernel
theorem dX12_takes_18 : decode cX12_takes 18 = .ok (.dup, 1) := by decide +kernel
theorem dX12_takes_19 : decode cX12_takes 19 = .ok (.getfield 126, 3) := by decide +kernel
theorem dX12_takes_22 : decode cX12_takes 22 = .ok (.iconst 1, 1) := by decide +kernel
theorem dX12_takes_23 : decode cX12_takes 23 = .ok (.iadd, 1) := by decide +kernel
theorem dX12_takes_24 : decode cX12_takes 24 = .ok (.putfield 126, 3) := by decide +kernel
theorem dX12_takes_27 : decode cX12_takes 27 = .ok (.iconst 1, 1) := by decide +kernel
theorem dX12_takes_28 : decode cX12_takes 28 = .ok (.ireturn, 1) := by decide +kernel
theorem dX12_readNumber_0 : decode cX12_readNumber 0 = .ok (.aload_n 0, 1) := by decide +kernel
theorem dX12_readNumber_1 : decode cX12_readNumber 1 = .ok (.getfield 126, 3) := by decide +kernel
theorem dX12_readNumber_4 : decode cX12_readNumber 4 = .ok (.istore_n 2, 1) := by decide +kernel
theorem dX12_readNumber_5 : decode cX12_readNumber 5 = .ok (.aload_n 0, 1) := by decide +kernel
theorem dX12_readNumber_6 : decode cX12_readNumber 6 = .ok (.invokevirtual 129, 3) := by decide +kernel
theorem dX12_readNumber_9 : decode cX12_readNumber 9 = .ok (.bipush 45, 2) := by decide +kernel
theorem dX12_readNumber_11 : decode cX12_readNumber 11 = .ok (.if_icmp .ne 7, 3) := by decide +kernel
theorem dX12_readNumber_14 : decode cX12_readNumber 14 = .ok (.iconst 1, 1) := by decide +kernel
theorem dX12_readNumber_15 : decode cX12_readNumber 15 = .ok (.goto 4, 3) := by decide +kernel
theorem dX12_readNumber_18 : decode cX12_readNumber 18 = .ok (.iconst 0, 1) := by decide +kernel
theorem dX12_readNumber_19 : decode cX12_readNumber 19 = .ok (.istore_n 3, 1) := by decide +kernel
theorem dX12_readNumber_20 : decode cX12_readNumber 20 = .ok (.iload_n 3, 1) := by decide +kernel
theorem dX12_readNumber_21 : decode cX12_readNumber 21 = .ok (.ifCond .eq 13, 3) := by decide +kernel
theorem dX12_readNumber_24 : decode cX12_readNumber 24 = .ok (.aload_n 0, 1) := by decide +kernel
theorem dX12_readNumber_25 : decode cX12_readNumber 25 = .ok (.dup, 1) := by decide +kernel
theorem dX12_readNumber_26 : decode cX12_readNumber 26 = .ok (.getfield 126, 3) := by decide +kernel
theorem dX12_readNumber_29 : decode cX12_readNumber 29 = .ok (.iconst 1, 1) := by decide +kernel
theorem dX12_readNumber_30 : decode cX12_readNumber 30 = .ok (.iadd, 1) := by decide +kernel
theorem dX12_readNumber_31 : decode cX12_readNumber 31 = .ok (.putfield 126, 3) := by decide +kernel
theorem dX12_readNumber_34 : decode cX12_readNumber 34 = .ok (.aload_n 0, 1) := by decide +kernel
theorem dX12_readNumber_35 : decode cX12_readNumber 35 = .ok (.invokevirtual 129, 3) := by decide +kernel
theorem dX12_readNumber_38 : decode cX12_readNumber 38 = .ok (.invokestatic 135, 3) := by decide +kernel
theorem dX12_readNumber_41 : decode cX12_readNumber 41 = .ok (.ifCond .ne 12, 3) := by decide +kernel
theorem dX12_readNumber_44 : decode cX12_readNumber 44 = .ok (.aload_n 0, 1) := by decide +kernel
theorem dX12_readNumber_45 : decode cX12_readNumber 45 = .ok (.aload_n 0, 1) := by decide +kernel
theorem dX12_readNumber_46 : decode cX12_readNumber 46 = .ok (.getfield 126, 3) := by decide +kernel
theorem dX12_readNumber_49 : decode cX12_readNumber 49 = .ok (.invokevirtual 132, 3) := by decide +kernel
theorem dX12_readNumber_52 : decode cX12_readNumber 52 = .ok (.ireturn, 1) := by decide +kernel
theorem dX12_readNumber_53 : decode cX12_readNumber 53 = .ok (.aload_n 0, 1) := by decide +kernel
theorem dX12_readNumber_54 : decode cX12_readNumber 54 = .ok (.getfield 126, 3) := by decide +kernel
theorem dX12_readNumber_57 : decode cX12_readNumber 57 = .ok (.istore 4, 2) := by decide +kernel
theorem dX12_readNumber_59 : decode cX12_readNumber 59 = .ok (.aload_n 0, 1) := by decide +kernel
theorem dX12_readNumber_60 : decode cX12_readNumber 60 = .ok (.iconst 0, 1) := by decide +kernel
theorem dX12_readNumber_61 : decode cX12_readNumber 61 = .ok (.putfield 138, 3) := by decide +kernel
theorem dX12_readNumber_64 : decode cX12_readNumber 64 = .ok (.aload_n 0, 1) := by decide +kernel
theorem dX12_readNumber_65 : decode cX12_readNumber 65 = .ok (.invokevirtual 129, 3) := by decide +kernel
theorem dX12_readNumber_68 : decode cX12_readNumber 68 = .ok (.invokestatic 135, 3) := by decide +kernel
theorem dX12_readNumber_71 : decode cX12_readNumber 71 = .ok (.ifCond .eq 46, 3) := by decide +kernel
theorem dX12_readNumber_74 : decode cX12_readNumber 74 = .ok (.aload_n 0, 1) := by decide +kernel
theorem dX12_readNumber_75 : decode cX12_readNumber 75 = .ok (.getfield 126, 3) := by decide +kernel
theorem dX12_readNumber_78 : decode cX12_readNumber 78 = .ok (.iload 4, 2) := by decide +kernel
theorem dX12_readNumber_80 : decode cX12_readNumber 80 = .ok (.isub, 1) := by decide +kernel
theorem dX12_readNumber_81 : decode cX12_readNumber 81 = .ok (.iconst 3, 1) := by decide +kernel
theorem dX12_readNumber_82 : decode cX12_readNumber 82 = .ok (.if_icmp .ge 35, 3) := by decide +kernel
theorem dX12_readNumber_85 : decode cX12_readNumber 85 = .ok (.aload_n 0, 1) := by decide +kernel
theorem dX12_readNumber_86 : decode cX12_readNumber 86 = .ok (.bipush 10, 2) := by decide +kernel
theorem dX12_readNumber_88 : decode cX12_readNumber 88 = .ok (.aload_n 0, 1) := by decide +kernel
theorem dX12_readNumber_89 : decode cX12_readNumber 89 = .ok (.getfield 138, 3) := by decide +kernel
theorem dX12_readNumber_92 : decode cX12_readNumber 92 = .ok (.imul, 1) := by decide +kernel
theorem dX12_readNumber_93 : decode cX12_readNumber 93 = .ok (.aload_n 0, 1) := by decide +kernel
theorem dX12_readNumber_94 : decode cX12_readNumber 94 = .ok (.invokevirtual 129, 3) := by decide +kernel
theorem dX12_readNumber_97 : decode cX12_readNumber 97 = .ok (.iadd, 1) := by decide +kernel
theorem dX12_readNumber_98 : decode cX12_readNumber 98 = .ok (.bipush 48, 2) := by decide +kernel
theorem dX12_readNumber_100 : decode cX12_readNumber 100 = .ok (.isub, 1) := by decide +kernel
theorem dX12_readNumber_101 : decode cX12_readNumber 101 = .ok (.putfield 138, 3) := by decide +kernel
theorem dX12_readNumber_104 : decode cX12_readNumber 104 = .ok (.aload_n 0, 1) := by decide +kernel
theorem dX12_readNumber_105 : decode cX12_readNumber 105 = .ok (.dup, 1) := by decide +kernel
theorem dX12_readNumber_106 : decode cX12_readNumber 106 = .ok (.getfield 126, 3) := by decide +kernel
theorem dX12_readNumber_109 : decode cX12_readNumber 109 = .ok (.iconst 1, 1) := by decide +kernel
theorem dX12_readNumber_110 : decode cX12_readNumber 110 = .ok (.iadd, 1) := by decide +kernel
theorem dX12_readNumber_111 : decode cX12_readNumber 111 = .ok (.putfield 126, 3) := by decide +kernel
theorem dX12_readNumber_114 : decode cX12_readNumber 114 = .ok (.goto (-50), 3) := by decide +kernel
theorem dX12_readNumber_117 : decode cX12_readNumber 117 = .ok (.aload_n 0, 1) := by decide +kernel
theorem dX12_readNumber_118 : decode cX12_readNumber 118 = .ok (.invokevirtual 129, 3) := by decide +kernel
theorem dX12_readNumber_121 : decode cX12_readNumber 121 = .ok (.invokestatic 135, 3) := by decide +kernel
theorem dX12_readNumber_124 : decode cX12_readNumber 124 = .ok (.ifCond .eq 12, 3) := by decide +kernel
theorem dX12_readNumber_127 : decode cX12_readNumber 127 = .ok (.aload_n 0, 1) := by decide +kernel
theorem dX12_readNumber_128 : decode cX12_readNumber 128 = .ok (.aload_n 0, 1) := by decide +kernel
theorem dX12_readNumber_129 : decode cX12_readNumber 129 = .ok (.getfield 126, 3) := by decide +kernel
theorem dX12_readNumber_132 : decode cX12_readNumber 132 = .ok (.invokevirtual 132, 3) := by decide +kernel
theorem dX12_readNumber_135 : decode cX12_readNumber 135 = .ok (.ireturn, 1) := by decide +kernel
theorem dX12_readNumber_136 : decode cX12_readNumber 136 = .ok (.aload_n 0, 1) := by decide +kernel
theorem dX12_readNumber_137 : decode cX12_readNumber 137 = .ok (.getfield 138, 3) := by decide +kernel
theorem dX12_readNumber_140 : decode cX12_readNumber 140 = .ok (.iload_n 1, 1) := by decide +kernel
theorem dX12_readNumber_141 : decode cX12_readNumber 141 = .ok (.if_icmp .le 9, 3) := by decide +kernel
theorem dX12_readNumber_144 : decode cX12_readNumber 144 = .ok (.aload_n 0, 1) := by decide +kernel
theorem dX12_readNumber_145 : decode cX12_readNumber 145 = .ok (.iload_n 2, 1) := by decide +kernel
theorem dX12_readNumber_146 : decode cX12_readNumber 146 = .ok (.invokevirtual 132, 3) := by decide +kernel
theorem dX12_readNumber_149 : decode cX12_readNumber 149 = .ok (.ireturn, 1) := by decide +kernel
theorem dX12_readNumber_150 : decode cX12_readNumber 150 = .ok (.aload_n 0, 1) := by decide +kernel
theorem dX12_readNumber_151 : decode cX12_readNumber 151 = .ok (.iload_n 3, 1) := by decide +kernel
theorem dX12_readNumber_152 : decode cX12_readNumber 152 = .ok (.ifCond .eq 11, 3) := by decide +kernel
theorem dX12_readNumber_155 : decode cX12_readNumber 155 = .ok (.aload_n 0, 1) := by decide +kernel
theorem dX12_readNumber_156 : decode cX12_readNumber 156 = .ok (.getfield 138, 3) := by decide +kernel
theorem dX12_readNumber_159 : decode cX12_readNumber 159 = .ok (.ineg, 1) := by decide +kernel
theorem dX12_readNumber_160 : decode cX12_readNumber 160 = .ok (.goto 7, 3) := by decide +kernel
theorem dX12_readNumber_163 : decode cX12_readNumber 163 = .ok (.aload_n 0, 1) := by decide +kernel
theorem dX12_readNumber_164 : decode cX12_readNumber 164 = .ok (.getfield 138, 3) := by decide +kernel
theorem dX12_readNumber_167 : decode cX12_readNumber 167 = .ok (.putfield 138, 3) := by decide +kernel
theorem dX12_readNumber_170 : decode cX12_readNumber 170 = .ok (.iconst 1, 1) := by decide +kernel
theorem dX12_readNumber_171 : decode cX12_readNumber 171 = .ok (.ireturn, 1) := by decide +kernel
theorem dX12_readItem_0 : decode cX12_readItem 0 = .ok (.aload_n 0, 1) := by decide +kernel
theorem dX12_readItem_1 : decode cX12_readItem 1 = .ok (.invokevirtual 129, 3) := by decide +kernel
theorem dX12_readItem_4 : decode cX12_readItem 4 = .ok (.bipush 112, 2) := by decide +kernel
theorem dX12_readItem_6 : decode cX12_readItem 6 = .ok (.if_icmp .ne 7, 3) := by decide +kernel
theorem dX12_readItem_9 : decode cX12_readItem 9 = .ok (.iconst 1, 1) := by decide +kernel
theorem dX12_readItem_10 : decode cX12_readItem 10 = .ok (.goto 4, 3) := by decide +kernel
theorem dX12_readItem_13 : decode cX12_readItem 13 = .ok (.iconst 0, 1) := by decide +kernel
theorem dX12_readItem_14 : decode cX12_readItem 14 = .ok (.istore_n 2, 1) := by decide +kernel
theorem dX12_readItem_15 : decode cX12_readItem 15 = .ok (.aload_n 0, 1) := by decide +kernel
theorem dX12_readItem_16 : decode cX12_readItem 16 = .ok (.getfield 126, 3) := by decide +kernel
theorem dX12_readItem_19 : decode cX12_readItem 19 = .ok (.istore_n 3, 1) := by decide +kernel
theorem dX12_readItem_20 : decode cX12_readItem 20 = .ok (.iload_n 2, 1) := by decide +kernel
theorem dX12_readItem_21 : decode cX12_readItem 21 = .ok (.ifCond .eq 13, 3) := by decide +kernel
theorem dX12_readItem_24 : decode cX12_readItem 24 = .ok (.aload_n 0, 1) := by decide +kernel
theorem dX12_readItem_25 : decode cX12_readItem 25 = .ok (.dup, 1) := by decide +kernel
theorem dX12_readItem_26 : decode cX12_readItem 26 = .ok (.getfield 126, 3) := by decide +kernel
theorem dX12_readItem_29 : decode cX12_readItem 29 = .ok (.iconst 1, 1) := by decide +kernel
theorem dX12_readItem_30 : decode cX12_readItem 30 = .ok (.iadd, 1) := by decide +kernel
theorem dX12_readItem_31 : decode cX12_readItem 31 = .ok (.putfield 126, 3) := by decide +kernel
theorem dX12_readItem_34 : decode cX12_readItem 34 = .ok (.aload_n 0, 1) := by decide +kernel
theorem dX12_readItem_35 : decode cX12_readItem 35 = .ok (.invokevirtual 129, 3) := by decide +kernel
theorem dX12_readItem_38 : decode cX12_readItem 38 = .ok (.bipush 97, 2) := by decide +kernel
theorem dX12_readItem_40 : decode cX12_readItem 40 = .ok (.isub, 1) := by decide +kernel
theorem dX12_readItem_41 : decode cX12_readItem 41 = .ok (.istore 4, 2) := by decide +kernel
theorem dX12_readItem_43 : decode cX12_readItem 43 = .ok (.iload 4, 2) := by decide +kernel
theorem dX12_readItem_45 : decode cX12_readItem 45 = .ok (.invokestatic 88, 3) := by decide +kernel
theorem dX12_readItem_48 : decode cX12_readItem 48 = .ok (.ifCond .ne 12, 3) := by decide +kernel
theorem dX12_readItem_51 : decode cX12_readItem 51 = .ok (.aload_n 0, 1) := by decide +kernel
theorem dX12_readItem_52 : decode cX12_readItem 52 = .ok (.aload_n 0, 1) := by decide +kernel
theorem dX12_readItem_53 : decode cX12_readItem 53 = .ok (.getfield 126, 3) := by decide +kernel
theorem dX12_readItem_56 : decode cX12_readItem 56 = .ok (.invokevirtual 132, 3) := by decide +kernel
theorem dX12_readItem_59 : decode cX12_readItem 59 = .ok (.ireturn, 1) := by decide +kernel
theorem dX12_readItem_60 : decode cX12_readItem 60 = .ok (.iload_n 2, 1) := by decide +kernel
theorem dX12_readItem_61 : decode cX12_readItem 61 = .ok (.ifCond .ne 13, 3) := by decide +kernel
theorem dX12_readItem_64 : decode cX12_readItem 64 = .ok (.iload_n 1, 1) := by decide +kernel
theorem dX12_readItem_65 : decode cX12_readItem 65 = .ok (.ifCond .ne 9, 3) := by decide +kernel
theorem dX12_readItem_68 : decode cX12_readItem 68 = .ok (.aload_n 0, 1) := by decide +kernel
theorem dX12_readItem_69 : decode cX12_readItem 69 = .ok (.iload_n 3, 1) := by decide +kernel
theorem dX12_readItem_70 : decode cX12_readItem 70 = .ok (.invokevirtual 132, 3) := by decide +kernel
theorem dX12_readItem_73 : decode cX12_readItem 73 = .ok (.ireturn, 1) := by decide +kernel
theorem dX12_readItem_74 : decode cX12_readItem 74 = .ok (.aload_n 0, 1) := by decide +kernel
theorem dX12_readItem_75 : decode cX12_readItem 75 = .ok (.dup, 1) := by decide +kernel
theorem dX12_readItem_76 : decode cX12_readItem 76 = .ok (.getfield 126, 3) := by decide +kernel
theorem dX12_readItem_79 : decode cX12_readItem 79 = .ok (.iconst 1, 1) := by decide +kernel
theorem dX12_readItem_80 : decode cX12_readItem 80 = .ok (.iadd, 1) := by decide +kernel
theorem dX12_readItem_81 : decode cX12_readItem 81 = .ok (.putfield 126, 3) := by decide +kernel
theorem dX12_readItem_84 : decode cX12_readItem 84 = .ok (.iload_n 2, 1) := by decide +kernel
theorem dX12_readItem_85 : decode cX12_readItem 85 = .ok (.ifCond .eq 7, 3) := by decide +kernel
theorem dX12_readItem_88 : decode cX12_readItem 88 = .ok (.iconst 3, 1) := by decide +kernel
theorem dX12_readItem_89 : decode cX12_readItem 89 = .ok (.goto 5, 3) := by decide +kernel
theorem dX12_readItem_92 : decode cX12_readItem 92 = .ok (.bipush 100, 2) := by decide +kernel
theorem dX12_readItem_94 : decode cX12_readItem 94 = .ok (.istore 5, 2) := by decide +kernel
theorem dX12_readItem_96 : decode cX12_readItem 96 = .ok (.aload_n 0, 1) := by decide +kernel
theorem dX12_readItem_97 : decode cX12_readItem 97 = .ok (.iload 5, 2) := by decide +kernel
theorem dX12_readItem_99 : decode cX12_readItem 99 = .ok (.invokevirtual 141, 3) := by decide +kernel
theorem dX12_readItem_102 : decode cX12_readItem 102 = .ok (.ifCond .ne 5, 3) := by decide +kernel
theorem dX12_readItem_105 : decode cX12_readItem 105 = .ok (.iconst 0, 1) := by decide +kernel
theorem dX12_readItem_106 : decode cX12_readItem 106 = .ok (.ireturn, 1) := by decide +kernel
theorem dX12_readItem_107 : decode cX12_readItem 107 = .ok (.aload_n 0, 1) := by decide +kernel
theorem dX12_readItem_108 : decode cX12_readItem 108 = .ok (.getfield 27, 3) := by decide +kernel
theorem dX12_readItem_111 : decode cX12_readItem 111 = .ok (.aload_n 0, 1) := by decide +kernel
theorem dX12_readItem_112 : decode cX12_readItem 112 = .ok (.getfield 144, 3) := by decide +kernel
theorem dX12_readItem_115 : decode cX12_readItem 115 = .ok (.aload_n 0, 1) := by decide +kernel
theorem dX12_readItem_116 : decode cX12_readItem 116 = .ok (.getfield 138, 3) := by decide +kernel
theorem dX12_readItem_119 : decode cX12_readItem 119 = .ok (.iastore, 1) := by decide +kernel
theorem dX12_readItem_120 : decode cX12_readItem 120 = .ok (.aload_n 0, 1) := by decide +kernel
theorem dX12_readItem_121 : decode cX12_readItem 121 = .ok (.bipush 44, 2) := by decide +kernel
theorem dX12_readItem_123 : decode cX12_readItem 123 = .ok (.invokevirtual 147, 3) := by decide +kernel
theorem dX12_readItem_126 : decode cX12_readItem 126 = .ok (.ifCond .eq 12, 3) := by decide +kernel
theorem dX12_readItem_129 : decode cX12_readItem 129 = .ok (.aload_n 0, 1) := by decide +kernel
theorem dX12_readItem_130 : decode cX12_readItem 130 = .ok (.iload 5, 2) := by decide +kernel
theorem dX12_readItem_132 : decode cX12_readItem 132 = .ok (.invokevirtual 141, 3) := by decide +kernel
theorem dX12_readItem_135 : decode cX12_readItem 135 = .ok (.ifCond .ne 5, 3) := by decide +kernel
theorem dX12_readItem_138 : decode cX12_readItem 138 = .ok (.iconst 0, 1) := by decide +kernel
theorem dX12_readItem_139 : decode cX12_readItem 139 = .ok (.ireturn, 1) := by decide +kernel
theorem dX12_readItem_140 : decode cX12_readItem 140 = .ok (.aload_n 0, 1) := by decide +kernel
theorem dX12_readItem_141 : decode cX12_readItem 141 = .ok (.getfield 30, 3) := by decide +kernel
theorem dX12_readItem_144 : decode cX12_readItem 144 = .ok (.aload_n 0, 1) := by decide +kernel
theorem dX12_readItem_145 : decode cX12_readItem 145 = .ok (.getfield 144, 3) := by decide +kernel
theorem dX12_readItem_148 : decode cX12_readItem 148 = .ok (.aload_n 0, 1) := by decide +kernel
theorem dX12_readItem_149 : decode cX12_readItem 149 = .ok (.getfield 138, 3) := by decide +kernel
theorem dX12_readItem_152 : decode cX12_readItem 152 = .ok (.iastore, 1) := by decide +kernel
theorem dX12_readItem_153 : decode cX12_readItem 153 = .ok (.aload_n 0, 1) := by decide +kernel
theorem dX12_readItem_154 : decode cX12_readItem 154 = .ok (.getfield 24, 3) := by decide +kernel
theorem dX12_readItem_157 : decode cX12_readItem 157 = .ok (.aload_n 0, 1) := by decide +kernel
theorem dX12_readItem_158 : decode cX12_readItem 158 = .ok (.getfield 144, 3) := by decide +kernel
theorem dX12_readItem_161 : decode cX12_readItem 161 = .ok (.iload_n 2, 1) := by decide +kernel
theorem dX12_readItem_162 : decode cX12_readItem 162 = .ok (.ifCond .eq 10, 3) := by decide +kernel
theorem dX12_readItem_165 : decode cX12_readItem 165 = .ok (.iconst 4, 1) := by decide +kernel
theorem dX12_readItem_166 : decode cX12_readItem 166 = .ok (.iload 4, 2) := by decide +kernel
theorem dX12_readItem_168 : decode cX12_readItem 168 = .ok (.iadd, 1) := by decide +kernel
theorem dX12_readItem_169 : decode cX12_readItem 169 = .ok (.goto 5, 3) := by decide +kernel
theorem dX12_readItem_172 : decode cX12_readItem 172 = .ok (.iload 4, 2) := by decide +kernel
theorem dX12_readItem_174 : decode cX12_readItem 174 = .ok (.iastore, 1) := by decide +kernel
theorem dX12_readItem_175 : decode cX12_readItem 175 = .ok (.aload_n 0, 1) := by decide +kernel
theorem dX12_readItem_176 : decode cX12_readItem 176 = .ok (.dup, 1) := by decide +kernel
theorem dX12_readItem_177 : decode cX12_readItem 177 = .ok (.getfield 144, 3) := by decide +kernel
theorem dX12_readItem_180 : decode cX12_readItem 180 = .ok (.iconst 1, 1) := by decide +kernel
theorem dX12_readItem_181 : decode cX12_readItem 181 = .ok (.iadd, 1) := by decide +kernel
theorem dX12_readItem_182 : decode cX12_readItem 182 = .ok (.putfield 144, 3) := by decide +kernel
theorem dX12_readItem_185 : decode cX12_readItem 185 = .ok (.aload_n 0, 1) := by decide +kernel
theorem dX12_readItem_186 : decode cX12_readItem 186 = .ok (.bipush 59, 2) := by decide +kernel
theorem dX12_readItem_188 : decode cX12_readItem 188 = .ok (.invokevirtual 147, 3) := by decide +kernel
theorem dX12_readItem_191 : decode cX12_readItem 191 = .ok (.ireturn, 1) := by decide +kernel
theorem dX12_readText_0 : decode cX12_readText 0 = .ok (.aload_n 0, 1) := by decide +kernel
theorem dX12_readText_1 : decode cX12_readText 1 = .ok (.iconst 0, 1) := by decide +kernel
theorem dX12_readText_2 : decode cX12_readText 2 = .ok (.putfield 126, 3) := by decide +kernel
theorem dX12_readText_5 : decode cX12_readText 5 = .ok (.aload_n 0, 1) := by decide +kernel
theorem dX12_readText_6 : decode cX12_readText 6 = .ok (.iconst (-1), 1) := by decide +kernel
theorem dX12_readText_7 : decode cX12_readText 7 = .ok (.putfield 20, 3) := by decide +kernel
theorem dX12_readText_10 : decode cX12_readText 10 = .ok (.aload_n 0, 1) := by decide +kernel
theorem dX12_readText_11 : decode cX12_readText 11 = .ok (.iconst 0, 1) := by decide +kernel
theorem dX12_readText_12 : decode cX12_readText 12 = .ok (.putfield 144, 3) := by decide +kernel
theorem dX12_readText_15 : decode cX12_readText 15 = .ok (.bipush 40, 2) := by decide +kernel
theorem dX12_readText_17 : decode cX12_readText 17 = .ok (.aload_n 0, 1) := by decide +kernel
theorem dX12_readText_18 : decode cX12_readText 18 = .ok (.iconst (-1), 1) := by decide +kernel
theorem dX12_readText_19 : decode cX12_readText 19 = .ok (.invokevirtual 109, 3) := by decide +kernel
theorem dX12_readText_22 : decode cX12_readText 22 = .ok (.isub, 1) := by decide +kernel
theorem dX12_readText_23 : decode cX12_readText 23 = .ok (.istore_n 1, 1) := by decide +kernel
theorem dX12_readText_24 : decode cX12_readText 24 = .ok (.aload_n 0, 1) := by decide +kernel
theorem dX12_readText_25 : decode cX12_readText 25 = .ok (.getfield 126, 3) := by decide +kernel
theorem dX12_readText_28 : decode cX12_readText 28 = .ok (.aload_n 0, 1) := by decide +kernel
theorem dX12_readText_29 : decode cX12_readText 29 = .ok (.getfield 113, 3) := by decide +kernel
theorem dX12_readText_32 : decode cX12_readText 32 = .ok (.if_icmp .ge 39, 3) := by decide +kernel
theorem dX12_readText_35 : decode cX12_readText 35 = .ok (.aload_n 0, 1) := by decide +kernel
theorem dX12_readText_36 : decode cX12_readText 36 = .ok (.getfield 144, 3) := by decide +kernel
theorem dX12_readText_39 : decode cX12_readText 39 = .ok (.istore_n 2, 1) := by decide +kernel
theorem dX12_readText_40 : decode cX12_readText 40 = .ok (.aload_n 0, 1) := by decide +kernel
theorem dX12_readText_41 : decode cX12_readText 41 = .ok (.iload_n 1, 1) := by decide +kernel
theorem dX12_readText_42 : decode cX12_readText 42 = .ok (.invokevirtual 150, 3) := by decide +kernel
theorem dX12_readText_45 : decode cX12_readText 45 = .ok (.ifCond .ne 5, 3) := by decide +kernel
theorem dX12_readText_48 : decode cX12_readText 48 = .ok (.iconst 0, 1) := by decide +kernel
theorem dX12_readText_49 : decode cX12_readText 49 = .ok (.ireturn, 1) := by decide +kernel
theorem dX12_readText_50 : decode cX12_readText 50 = .ok (.iload_n 1, 1) := by decide +kernel
theorem dX12_readText_51 : decode cX12_readText 51 = .ok (.aload_n 0, 1) := by decide +kernel
theorem dX12_readText_52 : decode cX12_readText 52 = .ok (.getfield 24, 3) := by decide +kernel
theorem dX12_readText_55 : decode cX12_readText 55 = .ok (.iload_n 2, 1) := by decide +kernel
theorem dX12_readText_56 : decode cX12_readText 56 = .ok (.iaload, 1) := by decide +kernel
theorem dX12_readText_57 : decode cX12_readText 57 = .ok (.iconst 4, 1) := by decide +kernel
theorem dX12_readText_58 : decode cX12_readText 58 = .ok (.if_icmp .ge 7, 3) := by decide +kernel
theorem dX12_readText_61 : decode cX12_readText 61 = .ok (.iconst 1, 1) := by decide +kernel
theorem dX12_readText_62 : decode cX12_readText 62 = .ok (.goto 4, 3) := by decide +kernel
theorem dX12_readText_65 : decode cX12_readText 65 = .ok (.iconst 0, 1) := by decide +kernel
theorem dX12_readText_66 : decode cX12_readText 66 = .ok (.isub, 1) := by decide +kernel
theorem dX12_readText_67 : decode cX12_readText 67 = .ok (.istore_n 1, 1) := by decide +kernel
theorem dX12_readText_68 : decode cX12_readText 68 = .ok (.goto (-44), 3) := by decide +kernel
theorem dX12_readText_71 : decode cX12_readText 71 = .ok (.iconst 1, 1) := by decide +kernel
theorem dX12_readText_72 : decode cX12_readText 72 = .ok (.ireturn, 1) := by decide +kernel
theorem dX12_text_0 : decode cX12_text 0 = .ok (.aload_n 0, 1) := by decide +kernel
theorem dX12_text_1 : decode cX12_text 1 = .ok (.invokevirtual 153, 3) := by decide +kernel
theorem dX12_text_4 : decode cX12_text 4 = .ok (.istore_n 1, 1) := by decide +kernel
theorem dX12_text_5 : decode cX12_text 5 = .ok (.aload_n 0, 1) := by decide +kernel
theorem dX12_text_6 : decode cX12_text 6 = .ok (.iconst 0, 1) := by decide +kernel
theorem dX12_text_7 : decode cX12_text 7 = .ok (.putfield 113, 3) := by decide +kernel
theorem dX12_text_10 : decode cX12_text 10 = .ok (.iload_n 1, 1) := by decide +kernel
theorem dX12_text_11 : decode cX12_text 11 = .ok (.ifCond .ne 5, 3) := by decide +kernel
theorem dX12_text_14 : decode cX12_text 14 = .ok (.iconst (-1), 1) := by decide +kernel
theorem dX12_text_15 : decode cX12_text 15 = .ok (.ireturn, 1) := by decide +kernel
theorem dX12_text_16 : decode cX12_text 16 = .ok (.aload_n 0, 1) := by decide +kernel
theorem dX12_text_17 : decode cX12_text 17 = .ok (.invokevirtual 92, 3) := by decide +kernel
theorem dX12_text_20 : decode cX12_text 20 = .ok (.iconst 0, 1) := by decide +kernel
theorem dX12_text_21 : decode cX12_text 21 = .ok (.istore_n 2, 1) := by decide +kernel
theorem dX12_text_22 : decode cX12_text 22 = .ok (.iload_n 2, 1) := by decide +kernel
theorem dX12_text_23 : decode cX12_text 23 = .ok (.aload_n 0, 1) := by decide +kernel
theorem dX12_text_24 : decode cX12_text 24 = .ok (.getfield 144, 3) := by decide +kernel
theorem dX12_text_27 : decode cX12_text 27 = .ok (.if_icmp .ge 72, 3) := by decide +kernel
theorem dX12_text_30 : decode cX12_text 30 = .ok (.aload_n 0, 1) := by decide +kernel
theorem dX12_text_31 : decode cX12_text 31 = .ok (.getfield 24, 3) := by decide +kernel
theorem dX12_text_34 : decode cX12_text 34 = .ok (.iload_n 2, 1) := by decide +kernel
theorem dX12_text_35 : decode cX12_text 35 = .ok (.iaload, 1) := by decide +kernel
theorem dX12_text_36 : decode cX12_text 36 = .ok (.iconst 4, 1) := by decide +kernel
theorem dX12_text_37 : decode cX12_text 37 = .ok (.if_icmp .ge 32, 3) := by decide +kernel
theorem dX12_text_40 : decode cX12_text 40 = .ok (.aload_n 0, 1) := by decide +kernel
theorem dX12_text_41 : decode cX12_text 41 = .ok (.aload_n 0, 1) := by decide +kernel
theorem dX12_text_42 : decode cX12_text 42 = .ok (.invokevirtual 80, 3) := by decide +kernel
theorem dX12_text_45 : decode cX12_text 45 = .ok (.aload_n 0, 1) := by decide +kernel
theorem dX12_text_46 : decode cX12_text 46 = .ok (.getfield 27, 3) := by decide +kernel
theorem dX12_text_49 : decode cX12_text 49 = .ok (.iload_n 2, 1) := by decide +kernel
theorem dX12_text_50 : decode cX12_text 50 = .ok (.iaload, 1) := by decide +kernel
theorem dX12_text_51 : decode cX12_text 51 = .ok (.aload_n 0, 1) := by decide +kernel
theorem dX12_text_52 : decode cX12_text 52 = .ok (.getfield 30, 3) := by decide +kernel
theorem dX12_text_55 : decode cX12_text 55 = .ok (.iload_n 2, 1) := by decide +kernel
theorem dX12_text_56 : decode cX12_text 56 = .ok (.iaload, 1) := by decide +kernel
theorem dX12_text_57 : decode cX12_text 57 = .ok (.aload_n 0, 1) := by decide +kernel
theorem dX12_text_58 : decode cX12_text 58 = .ok (.getfield 24, 3) := by decide +kernel
theorem dX12_text_61 : decode cX12_text 61 = .ok (.iload_n 2, 1) := by decide +kernel
theorem dX12_text_62 : decode cX12_text 62 = .ok (.iaload, 1) := by decide +kernel
theorem dX12_text_63 : decode cX12_text 63 = .ok (.invokevirtual 95, 3) := by decide +kernel
theorem dX12_text_66 : decode cX12_text 66 = .ok (.goto 27, 3) := by decide +kernel
theorem dX12_text_69 : decode cX12_text 69 = .ok (.aload_n 0, 1) := by decide +kernel
theorem dX12_text_70 : decode cX12_text 70 = .ok (.aload_n 0, 1) := by decide +kernel
theorem dX12_text_71 : decode cX12_text 71 = .ok (.getfield 24, 3) := by decide +kernel
theorem dX12_text_74 : decode cX12_text 74 = .ok (.iload_n 2, 1) := by decide +kernel
theorem dX12_text_75 : decode cX12_text 75 = .ok (.iaload, 1) := by decide +kernel
theorem dX12_text_76 : decode cX12_text 76 = .ok (.iconst 4, 1) := by decide +kernel
theorem dX12_text_77 : decode cX12_text 77 = .ok (.isub, 1) := by decide +kernel
theorem dX12_text_78 : decode cX12_text 78 = .ok (.aload_n 0, 1) := by decide +kernel
theorem dX12_text_79 : decode cX12_text 79 = .ok (.getfield 27, 3) := by decide +kernel
theorem dX12_text_82 : decode cX12_text 82 = .ok (.iload_n 2, 1) := by decide +kernel
theorem dX12_text_83 : decode cX12_text 83 = .ok (.iaload, 1) := by decide +kernel
theorem dX12_text_84 : decode cX12_text 84 = .ok (.aload_n 0, 1) := by decide +kernel
theorem dX12_text_85 : decode cX12_text 85 = .ok (.getfield 30, 3) := by decide +kernel
theorem dX12_text_88 : decode cX12_text 88 = .ok (.iload_n 2, 1) := by decide +kernel
theorem dX12_text_89 : decode cX12_text 89 = .ok (.iaload, 1) := by decide +kernel
theorem dX12_text_90 : decode cX12_text 90 = .ok (.invokevirtual 105, 3) := by decide +kernel
theorem dX12_text_93 : decode cX12_text 93 = .ok (.iinc 2 1, 3) := by decide +kernel
theorem dX12_text_96 : decode cX12_text 96 = .ok (.goto (-74), 3) := by decide +kernel
theorem dX12_text_99 : decode cX12_text 99 = .ok (.aload_n 0, 1) := by decide +kernel
theorem dX12_text_100 : decode cX12_text 100 = .ok (.getfield 144, 3) := by decide +kernel
theorem dX12_text_103 : decode cX12_text 103 = .ok (.ireturn, 1) := by decide +kernel
theorem dX12_fault_0 : decode cX12_fault 0 = .ok (.aload_n 0, 1) := by decide +kernel
theorem dX12_fault_1 : decode cX12_fault 1 = .ok (.getfield 20, 3) := by decide +kernel
theorem dX12_fault_4 : decode cX12_fault 4 = .ok (.ireturn, 1) := by decide +kernel
theorem dX12_isOf_0 : decode cX12_isOf 0 = .ok (.aload_n 0, 1) := by decide +kernel
theorem dX12_isOf_1 : decode cX12_isOf 1 = .ok (.getfield 7, 3) := by decide +kernel
theorem dX12_isOf_4 : decode cX12_isOf 4 = .ok (.iconst 0, 1) := by decide +kernel
theorem dX12_isOf_5 : decode cX12_isOf 5 = .ok (.iload_n 2, 1) := by decide +kernel
theorem dX12_isOf_6 : decode cX12_isOf 6 = .ok (.iadd, 1) := by decide +kernel
theorem dX12_isOf_7 : decode cX12_isOf 7 = .ok (.iaload, 1) := by decide +kernel
theorem dX12_isOf_8 : decode cX12_isOf 8 = .ok (.iconst 1, 1) := by decide +kernel
theorem dX12_isOf_9 : decode cX12_isOf 9 = .ok (.if_icmp .ne 24, 3) := by decide +kernel
theorem dX12_isOf_12 : decode cX12_isOf 12 = .ok (.iload_n 1, 1) := by decide +kernel
theorem dX12_isOf_13 : decode cX12_isOf 13 = .ok (.aload_n 0, 1) := by decide +kernel
theorem dX12_isOf_14 : decode cX12_isOf 14 = .ok (.getfield 7, 3) := by decide +kernel
theorem dX12_isOf_17 : decode cX12_isOf 17 = .ok (.bipush 120, 2) := by decide +kernel
theorem dX12_isOf_19 : decode cX12_isOf 19 = .ok (.iload_n 2, 1) := by decide +kernel
theorem dX12_isOf_20 : decode cX12_isOf 20 = .ok (.iadd, 1) := by decide +kernel
theorem dX12_isOf_21 : decode cX12_isOf 21 = .ok (.iaload, 1) := by decide +kernel
theorem dX12_isOf_22 : decode cX12_isOf 22 = .ok (.ishr, 1) := by decide +kernel
theorem dX12_isOf_23 : decode cX12_isOf 23 = .ok (.iconst 1, 1) := by decide +kernel
theorem dX12_isOf_24 : decode cX12_isOf 24 = .ok (.iand, 1) := by decide +kernel
theorem dX12_isOf_25 : decode cX12_isOf 25 = .ok (.iconst 1, 1) := by decide +kernel
theorem dX12_isOf_26 : decode cX12_isOf 26 = .ok (.if_icmp .ne 7, 3) := by decide +kernel
theorem dX12_isOf_29 : decode cX12_isOf 29 = .ok (.iconst 1, 1) := by decide +kernel
theorem dX12_isOf_30 : decode cX12_isOf 30 = .ok (.goto 4, 3) := by decide +kernel
theorem dX12_isOf_33 : decode cX12_isOf 33 = .ok (.iconst 0, 1) := by decide +kernel
theorem dX12_isOf_34 : decode cX12_isOf 34 = .ok (.ireturn, 1) := by decide +kernel
theorem dX12_isSet_0 : decode cX12_isSet 0 = .ok (.iload_n 0, 1) := by decide +kernel
theorem dX12_isSet_1 : decode cX12_isSet 1 = .ok (.iconst 1, 1) := by decide +kernel
theorem dX12_isSet_2 : decode cX12_isSet 2 = .ok (.bipush 15, 2) := by decide +kernel
theorem dX12_isSet_4 : decode cX12_isSet 4 = .ok (.invokestatic 76, 3) := by decide +kernel
theorem dX12_isSet_7 : decode cX12_isSet 7 = .ok (.ireturn, 1) := by decide +kernel
theorem dX12_addSpot_0 : decode cX12_addSpot 0 = .ok (.iconst 0, 1) := by decide +kernel
theorem dX12_addSpot_1 : decode cX12_addSpot 1 = .ok (.istore 4, 2) := by decide +kernel
theorem dX12_addSpot_3 : decode cX12_addSpot 3 = .ok (.iload 4, 2) := by decide +kernel
theorem dX12_addSpot_5 : decode cX12_addSpot 5 = .ok (.aload_n 0, 1) := by decide +kernel
theorem dX12_addSpot_6 : decode cX12_addSpot 6 = .ok (.getfield 157, 3) := by decide +kernel
theorem dX12_addSpot_9 : decode cX12_addSpot 9 = .ok (.if_icmp .ge 42, 3) := by decide +kernel
theorem dX12_addSpot_12 : decode cX12_addSpot 12 = .ok (.aload_n 0, 1) := by decide +kernel
theorem dX12_addSpot_13 : decode cX12_addSpot 13 = .ok (.getfield 33, 3) := by decide +kernel
theorem dX12_addSpot_16 : decode cX12_addSpot 16 = .ok (.iload 4, 2) := by decide +kernel
theorem dX12_addSpot_18 : decode cX12_addSpot 18 = .ok (.iaload, 1) := by decide +kernel
theorem dX12_addSpot_19 : decode cX12_addSpot 19 = .ok (.iload_n 1, 1) := by decide +kernel
theorem dX12_addSpot_20 : decode cX12_addSpot 20 = .ok (.if_icmp .lt 25, 3) := by decide +kernel
theorem dX12_addSpot_23 : decode cX12_addSpot 23 = .ok (.aload_n 0, 1) := by decide +kernel
theorem dX12_addSpot_24 : decode cX12_addSpot 24 = .ok (.getfield 33, 3) := by decide +kernel
theorem dX12_addSpot_27 : decode cX12_addSpot 27 = .ok (.iload 4, 2) := by decide +kernel
theorem dX12_addSpot_29 : decode cX12_addSpot 29 = .ok (.iaload, 1) := by decide +kernel
theorem dX12_addSpot_30 : decode cX12_addSpot 30 = .ok (.iload_n 1, 1) := by decide +kernel
theorem dX12_addSpot_31 : decode cX12_addSpot 31 = .ok (.if_icmp .ne 20, 3) := by decide +kernel
theorem dX12_addSpot_34 : decode cX12_addSpot 34 = .ok (.aload_n 0, 1) := by decide +kernel
theorem dX12_addSpot_35 : decode cX12_addSpot 35 = .ok (.getfield 36, 3) := by decide +kernel
theorem dX12_addSpot_38 : decode cX12_addSpot 38 = .ok (.iload 4, 2) := by decide +kernel
theorem dX12_addSpot_40 : decode cX12_addSpot 40 = .ok (.iaload, 1) := by decide +kernel
theorem dX12_addSpot_41 : decode cX12_addSpot 41 = .ok (.iload_n 2, 1) := by decide +kernel
theorem dX12_addSpot_42 : decode cX12_addSpot 42 = .ok (.if_icmp .ge 9, 3) := by decide +kernel
theorem dX12_addSpot_45 : decode cX12_addSpot 45 = .ok (.iinc 4 1, 3) := by decide +kernel
theorem dX12_addSpot_48 : decode cX12_addSpot 48 = .ok (.goto (-45), 3) := by decide +kernel
theorem dX12_addSpot_51 : decode cX12_addSpot 51 = .ok (.iload 4, 2) := by decide +kernel
theorem dX12_addSpot_53 : decode cX12_addSpot 53 = .ok (.aload_n 0, 1) := by decide +kernel
theorem dX12_addSpot_54 : decode cX12_addSpot 54 = .ok (.getfield 157, 3) := by decide +kernel
theorem dX12_addSpot_57 : decode cX12_addSpot 57 = .ok (.if_icmp .ge 26, 3) := by decide +kernel
theorem dX12_addSpot_60 : decode cX12_addSpot 60 = .ok (.aload_n 0, 1) := by decide +kernel
theorem dX12_addSpot_61 : decode cX12_addSpot 61 = .ok (.getfield 33, 3) := by decide +kernel
theorem dX12_addSpot_64 : decode cX12_addSpot 64 = .ok (.iload 4, 2) := by decide +kernel
theorem dX12_addSpot_66 : decode cX12_addSpot 66 = .ok (.iaload, 1) := by decide +kernel
theorem dX12_addSpot_67 : decode cX12_addSpot 67 = .ok (.iload_n 1, 1) := by decide +kernel
theorem dX12_addSpot_68 : decode cX12_addSpot 68 = .ok (.if_icmp .ne 15, 3) := by decide +kernel
theorem dX12_addSpot_71 : decode cX12_addSpot 71 = .ok (.aload_n 0, 1) := by decide +kernel
theorem dX12_addSpot_72 : decode cX12_addSpot 72 = .ok (.getfield 36, 3) := by decide +kernel
theorem dX12_addSpot_75 : decode cX12_addSpot 75 = .ok (.iload 4, 2) := by decide +kernel
theorem dX12_addSpot_77 : decode cX12_addSpot 77 = .ok (.iaload, 1) := by decide +kernel
theorem dX12_addSpot_78 : decode cX12_addSpot 78 = .ok (.iload_n 2, 1) := by decide +kernel
theorem dX12_addSpot_79 : decode cX12_addSpot 79 = .ok (.if_icmp .ne 4, 3) := by decide +kernel
theorem dX12_addSpot_82 : decode cX12_addSpot 82 = .ok (.return_, 1) := by decide +kernel
theorem dX12_addSpot_83 : decode cX12_addSpot 83 = .ok (.aload_n 0, 1) := by decide +kernel
theorem dX12_addSpot_84 : decode cX12_addSpot 84 = .ok (.getfield 157, 3) := by decide +kernel
theorem dX12_addSpot_87 : decode cX12_addSpot 87 = .ok (.istore 5, 2) := by decide +kernel
theorem dX12_addSpot_89 : decode cX12_addSpot 89 = .ok (.iload 5, 2) := by decide +kernel
theorem dX12_addSpot_91 : decode cX12_addSpot 91 = .ok (.iload 4, 2) := by decide +kernel
theorem dX12_addSpot_93 : decode cX12_addSpot 93 = .ok (.if_icmp .le 57, 3) := by decide +kernel
theorem dX12_addSpot_96 : decode cX12_addSpot 96 = .ok (.aload_n 0, 1) := by decide +kernel
theorem dX12_addSpot_97 : decode cX12_addSpot 97 = .ok (.getfield 33, 3) := by decide +kernel
theorem dX12_addSpot_100 : decode cX12_addSpot 100 = .ok (.iload 5, 2) := by decide +kernel
theorem dX12_addSpot_102 : decode cX12_addSpot 102 = .ok (.aload_n 0, 1) := by decide +kernel
theorem dX12_addSpot_103 : decode cX12_addSpot 103 = .ok (.getfield 33, 3) := by decide +kernel
theorem dX12_addSpot_106 : decode cX12_addSpot 106 = .ok (.iload 5, 2) := by decide +kernel
theorem dX12_addSpot_108 : decode cX12_addSpot 108 = .ok (.iconst 1, 1) := by decide +kernel
theorem dX12_addSpot_109 : decode cX12_addSpot 109 = .ok (.isub, 1) := by decide +kernel
theorem dX12_addSpot_110 : decode cX12_addSpot 110 = .ok (.iaload, 1) := by decide +kernel
theorem dX12_addSpot_111 : decode cX12_addSpot 111 = .ok (.iastore, 1) := by decide +kernel
theorem dX12_addSpot_112 : decode cX12_addSpot 112 = .ok (.aload_n 0, 1) := by decide +kernel
theorem dX12_addSpot_113 : decode cX12_addSpot 113 = .ok (.getfield 36, 3) := by decide +kernel
theorem dX12_addSpot_116 : decode cX12_addSpot 116 = .ok (.iload 5, 2) := by decide +kernel
theorem dX12_addSpot_118 : decode cX12_addSpot 118 = .ok (.aload_n 0, 1) := by decide +kernel
theorem dX12_addSpot_119 : decode cX12_addSpot 119 = .ok (.getfield 36, 3) := by decide +kernel
theorem dX12_addSpot_122 : decode cX12_addSpot 122 = .ok (.iload 5, 2) := by decide +kernel
theorem dX12_addSpot_124 : decode cX12_addSpot 124 = .ok (.iconst 1, 1) := by decide +kernel
theorem dX12_addSpot_125 : decode cX12_addSpot 125 = .ok (.isub, 1) := by decide +kernel
theorem dX12_addSpot_126 : decode cX12_addSpot 126 = .ok (.iaload, 1) := by decide +kernel
theorem dX12_addSpot_127 : decode cX12_addSpot 127 = .ok (.iastore, 1) := by decide +kernel
theorem dX12_addSpot_128 : decode cX12_addSpot 128 = .ok (.aload_n 0, 1) := by decide +kernel
theorem dX12_addSpot_129 : decode cX12_addSpot 129 = .ok (.getfield 39, 3) := by decide +kernel
theorem dX12_addSpot_132 : decode cX12_addSpot 132 = .ok (.iload 5, 2) := by decide +kernel
theorem dX12_addSpot_134 : decode cX12_addSpot 134 = .ok (.aload_n 0, 1) := by decide +kernel
theorem dX12_addSpot_135 : decode cX12_addSpot 135 = .ok (.getfield 39, 3) := by decide +kernel
theorem dX12_addSpot_138 : decode cX12_addSpot 138 = .ok (.iload 5, 2) := by decide +kernel
theorem dX12_addSpot_140 : decode cX12_addSpot 140 = .ok (.iconst 1, 1) := by decide +kernel
theorem dX12_addSpot_141 : decode cX12_addSpot 141 = .ok (.isub, 1) := by decide +kernel
theorem dX12_addSpot_142 : decode cX12_addSpot 142 = .ok (.iaload, 1) := by decide +kernel
theorem dX12_addSpot_143 : decode cX12_addSpot 143 = .ok (.iastore, 1) := by decide +kernel
theorem dX12_addSpot_144 : decode cX12_addSpot 144 = .ok (.iinc 5 (-1), 3) := by decide +kernel
theorem dX12_addSpot_147 : decode cX12_addSpot 147 = .ok (.goto (-58), 3) := by decide +kernel
theorem dX12_addSpot_150 : decode cX12_addSpot 150 = .ok (.aload_n 0, 1) := by decide +kernel
theorem dX12_addSpot_151 : decode cX12_addSpot 151 = .ok (.getfield 33, 3) := by decide +kernel
theorem dX12_addSpot_154 : decode cX12_addSpot 154 = .ok (.iload 4, 2) := by decide +kernel
theorem dX12_addSpot_156 : decode cX12_addSpot 156 = .ok (.iload_n 1, 1) := by decide +kernel
theorem dX12_addSpot_157 : decode cX12_addSpot 157 = .ok (.iastore, 1) := by decide +kernel
theorem dX12_addSpot_158 : decode cX12_addSpot 158 = .ok (.aload_n 0, 1) := by decide +kernel
theorem dX12_addSpot_159 : decode cX12_addSpot 159 = .ok (.getfield 36, 3) := by decide +kernel
theorem dX12_addSpot_162 : decode cX12_addSpot 162 = .ok (.iload 4, 2) := by decide +kernel
theorem dX12_addSpot_164 : decode cX12_addSpot 164 = .ok (.iload_n 2, 1) := by decide +kernel
theorem dX12_addSpot_165 : decode cX12_addSpot 165 = .ok (.iastore, 1) := by decide +kernel
theorem dX12_addSpot_166 : decode cX12_addSpot 166 = .ok (.aload_n 0, 1) := by decide +kernel
theorem dX12_addSpot_167 : decode cX12_addSpot 167 = .ok (.getfield 39, 3) := by decide +kernel
theorem dX12_addSpot_170 : decode cX12_addSpot 170 = .ok (.iload 4, 2) := by decide +kernel
theorem dX12_addSpot_172 : decode cX12_addSpot 172 = .ok (.iload_n 3, 1) := by decide +kernel
theorem dX12_addSpot_173 : decode cX12_addSpot 173 = .ok (.iastore, 1) := by decide +kernel
theorem dX12_addSpot_174 : decode cX12_addSpot 174 = .ok (.aload_n 0, 1) := by decide +kernel
theorem dX12_addSpot_175 : decode cX12_addSpot 175 = .ok (.dup, 1) := by decide +kernel
theorem dX12_addSpot_176 : decode cX12_addSpot 176 = .ok (.getfield 157, 3) := by decide +kernel
theorem dX12_addSpot_179 : decode cX12_addSpot 179 = .ok (.iconst 1, 1) := by decide +kernel
theorem dX12_addSpot_180 : decode cX12_addSpot 180 = .ok (.iadd, 1) := by decide +kernel
theorem dX12_addSpot_181 : decode cX12_addSpot 181 = .ok (.putfield 157, 3) := by decide +kernel
theorem dX12_addSpot_184 : decode cX12_addSpot 184 = .ok (.return_, 1) := by decide +kernel
theorem dX12_layBut_0 : decode cX12_layBut 0 = .ok (.aload_n 0, 1) := by decide +kernel
theorem dX12_layBut_1 : decode cX12_layBut 1 = .ok (.iconst 0, 1) := by decide +kernel
theorem dX12_layBut_2 : decode cX12_layBut 2 = .ok (.putfield 157, 3) := by decide +kernel
theorem dX12_layBut_5 : decode cX12_layBut 5 = .ok (.iconst 0, 1) := by decide +kernel
theorem dX12_layBut_6 : decode cX12_layBut 6 = .ok (.istore_n 3, 1) := by decide +kernel
theorem dX12_layBut_7 : decode cX12_layBut 7 = .ok (.iload_n 3, 1) := by decide +kernel
theorem dX12_layBut_8 : decode cX12_layBut 8 = .ok (.bipush 40, 2) := by decide +kernel
theorem dX12_layBut_10 : decode cX12_layBut 10 = .ok (.if_icmp .ge 38, 3) := by decide +kernel
theorem dX12_layBut_13 : decode cX12_layBut 13 = .ok (.iload_n 3, 1) := by decide +kernel
theorem dX12_layBut_14 : decode cX12_layBut 14 = .ok (.iload_n 2, 1) := by decide +kernel
theorem dX12_layBut_15 : decode cX12_layBut 15 = .ok (.if_icmp .eq 27, 3) := by decide +kernel
theorem dX12_layBut_18 : decode cX12_layBut 18 = .ok (.aload_n 0, 1) := by decide +kernel
theorem dX12_layBut_19 : decode cX12_layBut 19 = .ok (.iload_n 1, 1) := by decide +kernel
theorem dX12_layBut_20 : decode cX12_layBut 20 = .ok (.iload_n 3, 1) := by decide +kernel
theorem dX12_layBut_21 : decode cX12_layBut 21 = .ok (.invokevirtual 160, 3) := by decide +kernel
theorem dX12_layBut_24 : decode cX12_layBut 24 = .ok (.ifCond .eq 18, 3) := by decide +kernel
theorem dX12_layBut_27 : decode cX12_layBut 27 = .ok (.aload_n 0, 1) := by decide +kernel
theorem dX12_layBut_28 : decode cX12_layBut 28 = .ok (.aload_n 0, 1) := by decide +kernel
theorem dX12_layBut_29 : decode cX12_layBut 29 = .ok (.iload_n 3, 1) := by decide +kernel
theorem dX12_layBut_30 : decode cX12_layBut 30 = .ok (.invokevirtual 116, 3) := by decide +kernel
theorem dX12_layBut_33 : decode cX12_layBut 33 = .ok (.aload_n 0, 1) := by decide +kernel
theorem dX12_layBut_34 : decode cX12_layBut 34 = .ok (.iload_n 3, 1) := by decide +kernel
theorem dX12_layBut_35 : decode cX12_layBut 35 = .ok (.invokevirtual 119, 3) := by decide +kernel
theorem dX12_layBut_38 : decode cX12_layBut 38 = .ok (.iload_n 3, 1) := by decide +kernel
theorem dX12_layBut_39 : decode cX12_layBut 39 = .ok (.invokevirtual 163, 3) := by decide +kernel
theorem dX12_layBut_42 : decode cX12_layBut 42 = .ok (.iinc 3 1, 3) := by decide +kernel
theorem dX12_layBut_45 : decode cX12_layBut 45 = .ok (.goto (-38), 3) := by decide +kernel
theorem dX12_layBut_48 : decode cX12_layBut 48 = .ok (.aload_n 0, 1) := by decide +kernel
theorem dX12_layBut_49 : decode cX12_layBut 49 = .ok (.getfield 157, 3) := by decide +kernel
theorem dX12_layBut_52 : decode cX12_layBut 52 = .ok (.ireturn, 1) := by decide +kernel
theorem dX12_isLaid_0 : decode cX12_isLaid 0 = .ok (.iload_n 1, 1) := by decide +kernel
theorem dX12_isLaid_1 : decode cX12_isLaid 1 = .ok (.invokestatic 166, 3) := by decide +kernel
theorem dX12_isLaid_4 : decode cX12_isLaid 4 = .ok (.ifCond .eq 16, 3) := by decide +kernel
theorem dX12_isLaid_7 : decode cX12_isLaid 7 = .ok (.aload_n 0, 1) := by decide +kernel
theorem dX12_isLaid_8 : decode cX12_isLaid 8 = .ok (.iload_n 1, 1) := by decide +kernel
theorem dX12_isLaid_9 : decode cX12_isLaid 9 = .ok (.iconst (-1), 1) := by decide +kernel
theorem dX12_isLaid_10 : decode cX12_isLaid 10 = .ok (.invokevirtual 169, 3) := by decide +kernel
theorem dX12_isLaid_13 : decode cX12_isLaid 13 = .ok (.ifCond .le 7, 3) := by decide +kernel
theorem dX12_isLaid_16 : decode cX12_isLaid 16 = .ok (.iconst 1, 1) := by decide +kernel
theorem dX12_isLaid_17 : decode cX12_isLaid 17 = .ok (.goto 4, 3) := by decide +kernel
theorem dX12_isLaid_20 : decode cX12_isLaid 20 = .ok (.iconst 0, 1) := by decide +kernel
theorem dX12_isLaid_21 : decode cX12_isLaid 21 = .ok (.ireturn, 1) := by decide +kernel
theorem dX12_spots_0 : decode cX12_spots 0 = .ok (.iload_n 1, 1) := by decide +kernel
theorem dX12_spots_1 : decode cX12_spots 1 = .ok (.invokestatic 166, 3) := by decide +kernel
theorem dX12_spots_4 : decode cX12_spots 4 = .ok (.ifCond .eq 12, 3) := by decide +kernel
theorem dX12_spots_7 : decode cX12_spots 7 = .ok (.aload_n 0, 1) := by decide +kernel
theorem dX12_spots_8 : decode cX12_spots 8 = .ok (.iload_n 1, 1) := by decide +kernel
theorem dX12_spots_9 : decode cX12_spots 9 = .ok (.iconst (-1), 1) := by decide +kernel
theorem dX12_spots_10 : decode cX12_spots 10 = .ok (.invokevirtual 169, 3) := by decide +kernel
theorem dX12_spots_13 : decode cX12_spots 13 = .ok (.goto 4, 3) := by decide +kernel
theorem dX12_spots_16 : decode cX12_spots 16 = .ok (.iconst (-1), 1) := by decide +kernel
theorem dX12_spots_17 : decode cX12_spots 17 = .ok (.ireturn, 1) := by decide +kernel
theorem dX12_spot_0 : decode cX12_spot 0 = .ok (.aload_n 0, 1) := by decide +kernel
theorem dX12_spot_1 : decode cX12_spot 1 = .ok (.iload_n 1, 1) := by decide +kernel
theorem dX12_spot_2 : decode cX12_spot 2 = .ok (.invokevirtual 173, 3) := by decide +kernel
theorem dX12_spot_5 : decode cX12_spot 5 = .ok (.ifCond .eq 26, 3) := by decide +kernel
theorem dX12_spot_8 : decode cX12_spot 8 = .ok (.iload_n 2, 1) := by decide +kernel
theorem dX12_spot_9 : decode cX12_spot 9 = .ok (.iconst 0, 1) := by decide +kernel
theorem dX12_spot_10 : decode cX12_spot 10 = .ok (.aload_n 0, 1) := by decide +kernel
theorem dX12_spot_11 : decode cX12_spot 11 = .ok (.getfield 157, 3) := by decide +kernel
theorem dX12_spot_14 : decode cX12_spot 14 = .ok (.iconst 1, 1) := by decide +kernel
theorem dX12_spot_15 : decode cX12_spot 15 = .ok (.isub, 1) := by decide +kernel
theorem dX12_spot_16 : decode cX12_spot 16 = .ok (.invokestatic 76, 3) := by decide +kernel
theorem dX12_spot_19 : decode cX12_spot 19 = .ok (.ifCond .eq 12, 3) := by decide +kernel
theorem dX12_spot_22 : decode cX12_spot 22 = .ok (.iload_n 3, 1) := by decide +kernel
theorem dX12_spot_23 : decode cX12_spot 23 = .ok (.iconst 0, 1) := by decide +kernel
theorem dX12_spot_24 : decode cX12_spot 24 = .ok (.iconst 2, 1) := by decide +kernel
theorem dX12_spot_25 : decode cX12_spot 25 = .ok (.invokestatic 76, 3) := by decide +kernel
theorem dX12_spot_28 : decode cX12_spot 28 = .ok (.ifCond .ne 7, 3) := by decide +kernel
theorem dX12_spot_31 : decode cX12_spot 31 = .ok (.sipush (-1000), 3) := by decide +kernel
theorem dX12_spot_34 : decode cX12_spot 34 = .ok (.ireturn, 1) := by decide +kernel
theorem dX12_spot_35 : decode cX12_spot 35 = .ok (.iload_n 3, 1) := by decide +kernel
theorem dX12_spot_36 : decode cX12_spot 36 = .ok (.ifCond .ne 12, 3) := by decide +kernel
theorem dX12_spot_39 : decode cX12_spot 39 = .ok (.aload_n 0, 1) := by decide +kernel
theorem dX12_spot_40 : decode cX12_spot 40 = .ok (.getfield 33, 3) := by decide +kernel
theorem dX12_spot_43 : decode cX12_spot 43 = .ok (.iload_n 2, 1) := by decide +kernel
theorem dX12_spot_44 : decode cX12_spot 44 = .ok (.iaload, 1) := by decide +kernel
theorem dX12_spot_45 : decode cX12_spot 45 = .ok (.goto 23, 3) := by decide +kernel
theorem dX12_spot_48 : decode cX12_spot 48 = .ok (.iload_n 3, 1) := by decide +kernel
theorem dX12_spot_49 : decode cX12_spot 49 = .ok (.iconst 1, 1) := by decide +kernel
theorem dX12_spot_50 : decode cX12_spot 50 = .ok (.if_icmp .ne 12, 3) := by decide +kernel
theorem dX12_spot_53 : decode cX12_spot 53 = .ok (.aload_n 0, 1) := by decide +kernel
theorem dX12_spot_54 : decode cX12_spot 54 = .ok (.getfield 36, 3) := by decide +kernel
theorem dX12_spot_57 : decode cX12_spot 57 = .ok (.iload_n 2, 1) := by decide +kernel
theorem dX12_spot_58 : decode cX12_spot 58 = .ok (.iaload, 1) := by decide +kernel
theorem dX12_spot_59 : decode cX12_spot 59 = .ok (.goto 9, 3) := by decide +kernel
theorem dX12_spot_62 : decode cX12_spot 62 = .ok (.aload_n 0, 1) := by decide +kernel
theorem dX12_spot_63 : decode cX12_spot 63 = .ok (.getfield 39, 3) := by decide +kernel
theorem dX12_spot_66 : decode cX12_spot 66 = .ok (.iload_n 2, 1) := by decide +kernel
theorem dX12_spot_67 : decode cX12_spot 67 = .ok (.iaload, 1) := by decide +kernel
theorem dX12_spot_68 : decode cX12_spot 68 = .ok (.ireturn, 1) := by decide +kernel
theorem dX12_spotAt_0 : decode cX12_spotAt 0 = .ok (.iconst 0, 1) := by decide +kernel
theorem dX12_spotAt_1 : decode cX12_spotAt 1 = .ok (.istore_n 3, 1) := by decide +kernel
theorem dX12_spotAt_2 : decode cX12_spotAt 2 = .ok (.iload_n 3, 1) := by decide +kernel
theorem dX12_spotAt_3 : decode cX12_spotAt 3 = .ok (.aload_n 0, 1) := by decide +kernel
theorem dX12_spotAt_4 : decode cX12_spotAt 4 = .ok (.getfield 157, 3) := by decide +kernel
theorem dX12_spotAt_7 : decode cX12_spotAt 7 = .ok (.if_icmp .ge 31, 3) := by decide +kernel
theorem dX12_spotAt_10 : decode cX12_spotAt 10 = .ok (.aload_n 0, 1) := by decide +kernel
theorem dX12_spotAt_11 : decode cX12_spotAt 11 = .ok (.getfield 33, 3) := by decide +kernel
theorem dX12_spotAt_14 : decode cX12_spotAt 14 = .ok (.iload_n 3, 1) := by decide +kernel
theorem dX12_spotAt_15 : decode cX12_spotAt 15 = .ok (.iaload, 1) := by decide +kernel
theorem dX12_spotAt_16 : decode cX12_spotAt 16 = .ok (.iload_n 1, 1) := by decide +kernel
theorem dX12_spotAt_17 : decode cX12_spotAt 17 = .ok (.if_icmp .ne 15, 3) := by decide +kernel
theorem dX12_spotAt_20 : decode cX12_spotAt 20 = .ok (.aload_n 0, 1) := by decide +kernel
theorem dX12_spotAt_21 : decode cX12_spotAt 21 = .ok (.getfield 36, 3) := by decide +kernel
theorem dX12_spotAt_24 : decode cX12_spotAt 24 = .ok (.iload_n 3, 1) := by decide +kernel
theorem dX12_spotAt_25 : decode cX12_spotAt 25 = .ok (.iaload, 1) := by decide +kernel
theorem dX12_spotAt_26 : decode cX12_spotAt 26 = .ok (.iload_n 2, 1) := by decide +kernel
theorem dX12_spotAt_27 : decode cX12_spotAt 27 = .ok (.if_icmp .ne 5, 3) := by decide +kernel
theorem dX12_spotAt_30 : decode cX12_spotAt 30 = .ok (.iload_n 3, 1) := by decide +kernel
theorem dX12_spotAt_31 : decode cX12_spotAt 31 = .ok (.ireturn, 1) := by decide +kernel
theorem dX12_spotAt_32 : decode cX12_spotAt 32 = .ok (.iinc 3 1, 3) := by decide +kernel
theorem dX12_spotAt_35 : decode cX12_spotAt 35 = .ok (.goto (-33), 3) := by decide +kernel
theorem dX12_spotAt_38 : decode cX12_spotAt 38 = .ok (.iconst (-1), 1) := by decide +kernel
theorem dX12_spotAt_39 : decode cX12_spotAt 39 = .ok (.ireturn, 1) := by decide +kernel
theorem dX12_common_0 : decode cX12_common 0 = .ok (.lload_n 0, 1) := by decide +kernel
theorem dX12_common_1 : decode cX12_common 1 = .ok (.lconst 0, 1) := by decide +kernel
theorem dX12_common_2 : decode cX12_common 2 = .ok (.lcmp, 1) := by decide +kernel
theorem dX12_common_3 : decode cX12_common 3 = .ok (.ifCond .ge 8, 3) := by decide +kernel
theorem dX12_common_6 : decode cX12_common 6 = .ok (.lload_n 0, 1) := by decide +kernel
theorem dX12_common_7 : decode cX12_common 7 = .ok (.lneg, 1) := by decide +kernel
theorem dX12_common_8 : decode cX12_common 8 = .ok (.goto 4, 3) := by decide +kernel
theorem dX12_common_11 : decode cX12_common 11 = .ok (.lload_n 0, 1) := by decide +kernel
theorem dX12_common_12 : decode cX12_common 12 = .ok (.lstore 4, 2) := by decide +kernel
theorem dX12_common_14 : decode cX12_common 14 = .ok (.lload_n 2, 1) := by decide +kernel
theorem dX12_common_15 : decode cX12_common 15 = .ok (.lconst 0, 1) := by decide +kernel
theorem dX12_common_16 : decode cX12_common 16 = .ok (.lcmp, 1) := by decide +kernel
theorem dX12_common_17 : decode cX12_common 17 = .ok (.ifCond .ge 8, 3) := by decide +kernel
theorem dX12_common_20 : decode cX12_common 20 = .ok (.lload_n 2, 1) := by decide +kernel
theorem dX12_common_21 : decode cX12_common 21 = .ok (.lneg, 1) := by decide +kernel
theorem dX12_common_22 : decode cX12_common 22 = .ok (.goto 4, 3) := by decide +kernel
theorem dX12_common_25 : decode cX12_common 25 = .ok (.lload_n 2, 1) := by decide +kernel
theorem dX12_common_26 : decode cX12_common 26 = .ok (.lstore 6, 2) := by decide +kernel
theorem dX12_common_28 : decode cX12_common 28 = .ok (.lload 6, 2) := by decide +kernel
theorem dX12_common_30 : decode cX12_common 30 = .ok (.lconst 0, 1) := by decide +kernel
theorem dX12_common_31 : decode cX12_common 31 = .ok (.lcmp, 1) := by decide +kernel
theorem dX12_common_32 : decode cX12_common 32 = .ok (.ifCond .eq 21, 3) := by decide +kernel
theorem dX12_common_35 : decode cX12_common 35 = .ok (.lload 4, 2) := by decide +kernel
theorem dX12_common_37 : decode cX12_common 37 = .ok (.lload 6, 2) := by decide +kernel
theorem dX12_common_39 : decode cX12_common 39 = .ok (.lrem, 1) := by decide +kernel
theorem dX12_common_40 : decode cX12_common 40 = .ok (.lstore 8, 2) := by decide +kernel
theorem dX12_common_42 : decode cX12_common 42 = .ok (.lload 6, 2) := by decide +kernel
theorem dX12_common_44 : decode cX12_common 44 = .ok (.lstore 4, 2) := by decide +kernel
theorem dX12_common_46 : decode cX12_common 46 = .ok (.lload 8, 2) := by decide +kernel
theorem dX12_common_48 : decode cX12_common 48 = .ok (.lstore 6, 2) := by decide +kernel
theorem dX12_common_50 : decode cX12_common 50 = .ok (.goto (-22), 3) := by decide +kernel
theorem dX12_common_53 : decode cX12_common 53 = .ok (.lload 4, 2) := by decide +kernel
theorem dX12_common_55 : decode cX12_common 55 = .ok (.lconst 0, 1) := by decide +kernel
theorem dX12_common_56 : decode cX12_common 56 = .ok (.lcmp, 1) := by decide +kernel
theorem dX12_common_57 : decode cX12_common 57 = .ok (.ifCond .ne 7, 3) := by decide +kernel
theorem dX12_common_60 : decode cX12_common 60 = .ok (.lconst 1, 1) := by decide +kernel
theorem dX12_common_61 : decode cX12_common 61 = .ok (.goto 5, 3) := by decide +kernel
theorem dX12_common_64 : decode cX12_common 64 = .ok (.lload 4, 2) := by decide +kernel
theorem dX12_common_66 : decode cX12_common 66 = .ok (.lreturn, 1) := by decide +kernel
theorem dX12_above_0 : decode cX12_above 0 = .ok (.lload_n 2, 1) := by decide +kernel
theorem dX12_above_1 : decode cX12_above 1 = .ok (.lconst 0, 1) := by decide +kernel
theorem dX12_above_2 : decode cX12_above 2 = .ok (.lcmp, 1) := by decide +kernel
theorem dX12_above_3 : decode cX12_above 3 = .ok (.ifCond .ge 8, 3) := by decide +kernel
theorem dX12_above_6 : decode cX12_above 6 = .ok (.lload_n 0, 1) := by decide +kernel
theorem dX12_above_7 : decode cX12_above 7 = .ok (.lneg, 1) := by decide +kernel
theorem dX12_above_8 : decode cX12_above 8 = .ok (.goto 4, 3) := by decide +kernel
theorem dX12_above_11 : decode cX12_above 11 = .ok (.lload_n 0, 1) := by decide +kernel
theorem dX12_above_12 : decode cX12_above 12 = .ok (.lload_n 0, 1) := by decide +kernel
theorem dX12_above_13 : decode cX12_above 13 = .ok (.lload_n 2, 1) := by decide +kernel
theorem dX12_above_14 : decode cX12_above 14 = .ok (.invokestatic 176, 3) := by decide +kernel
theorem dX12_above_17 : decode cX12_above 17 = .ok (.ldiv, 1) := by decide +kernel
theorem dX12_above_18 : decode cX12_above 18 = .ok (.lreturn, 1) := by decide +kernel
theorem dX12_below_0 : decode cX12_below 0 = .ok (.lload_n 2, 1) := by decide +kernel
theorem dX12_below_1 : decode cX12_below 1 = .ok (.lconst 0, 1) := by decide +kernel
theorem dX12_below_2 : decode cX12_below 2 = .ok (.lcmp, 1) := by decide +kernel
theorem dX12_below_3 : decode cX12_below 3 = .ok (.ifCond .ge 8, 3) := by decide +kernel
theorem dX12_below_6 : decode cX12_below 6 = .ok (.lload_n 2, 1) := by decide +kernel
theorem dX12_below_7 : decode cX12_below 7 = .ok (.lneg, 1) := by decide +kernel
theorem dX12_below_8 : decode cX12_below 8 = .ok (.goto 4, 3) := by decide +kernel
theorem dX12_below_11 : decode cX12_below 11 = .ok (.lload_n 2, 1) := by decide +kernel
theorem dX12_below_12 : decode cX12_below 12 = .ok (.lload_n 0, 1) := by decide +kernel
theorem dX12_below_13 : decode cX12_below 13 = .ok (.lload_n 2, 1) := by decide +kernel
theorem dX12_below_14 : decode cX12_below 14 = .ok (.invokestatic 176, 3) := by decide +kernel
theorem dX12_below_17 : decode cX12_below 17 = .ok (.ldiv, 1) := by decide +kernel
theorem dX12_below_18 : decode cX12_below 18 = .ok (.lreturn, 1) := by decide +kernel
theorem dX12_against_0 : decode cX12_against 0 = .ok (.lload_n 0, 1) := by decide +kernel
theorem dX12_against_1 : decode cX12_against 1 = .ok (.lstore 8, 2) := by decide +kernel
theorem dX12_against_3 : decode cX12_against 3 = .ok (.lload_n 2, 1) := by decide +kernel
theorem dX12_against_4 : decode cX12_against 4 = .ok (.lstore 10, 2) := by decide +kernel
theorem dX12_against_6 : decode cX12_against 6 = .ok (.lload 4, 2) := by decide +kernel
theorem dX12_against_8 : decode cX12_against 8 = .ok (.lstore 12, 2) := by decide +kernel
theorem dX12_against_10 : decode cX12_against 10 = .ok (.lload 6, 2) := by decide +kernel
theorem dX12_against_12 : decode cX12_against 12 = .ok (.lstore 14, 2) := by decide +kernel
theorem dX12_against_14 : decode cX12_against 14 = .ok (.iconst 1, 1) := by decide +kernel
theorem dX12_against_15 : decode cX12_against 15 = .ok (.istore 16, 2) := by decide +kernel
theorem dX12_against_17 : decode cX12_against 17 = .ok (.lload 8, 2) := by decide +kernel
theorem dX12_against_19 : decode cX12_against 19 = .ok (.lload 10, 2) := by decide +kernel
theorem dX12_against_21 : decode cX12_against 21 = .ok (.ldiv, 1) := by decide +kernel
theorem dX12_against_22 : decode cX12_against 22 = .ok (.lstore 17, 2) := by decide +kernel
theorem dX12_against_24 : decode cX12_against 24 = .ok (.lload 12, 2) := by decide +kernel
theorem dX12_against_26 : decode cX12_against 26 = .ok (.lload 14, 2) := by decide +kernel
theorem dX12_against_28 : decode cX12_against 28 = .ok (.ldiv, 1) := by decide +kernel
theorem dX12_against_29 : decode cX12_against 29 = .ok (.lstore 19, 2) := by decide +kernel
theorem dX12_against_31 : decode cX12_against 31 = .ok (.lload 17, 2) := by decide +kernel
theorem dX12_against_33 : decode cX12_against 33 = .ok (.lload 19, 2) := by decide +kernel
theorem dX12_against_35 : decode cX12_against 35 = .ok (.lcmp, 1) := by decide +kernel
theorem dX12_against_36 : decode cX12_against 36 = .ok (.ifCond .eq 20, 3) := by decide +kernel
theorem dX12_against_39 : decode cX12_against 39 = .ok (.lload 17, 2) := by decide +kernel
theorem dX12_against_41 : decode cX12_against 41 = .ok (.lload 19, 2) := by decide +kernel
theorem dX12_against_43 : decode cX12_against 43 = .ok (.lcmp, 1) := by decide +kernel
theorem dX12_against_44 : decode cX12_against 44 = .ok (.ifCond .ge 9, 3) := by decide +kernel
theorem dX12_against_47 : decode cX12_against 47 = .ok (.iload 16, 2) := by decide +kernel
theorem dX12_against_49 : decode cX12_against 49 = .ok (.ineg, 1) := by decide +kernel
theorem dX12_against_50 : decode cX12_against 50 = .ok (.goto 5, 3) := by decide +kernel
theorem dX12_against_53 : decode cX12_against 53 = .ok (.iload 16, 2) := by decide +kernel
theorem dX12_against_55 : decode cX12_against 55 = .ok (.ireturn, 1) := by decide +kernel
theorem dX12_against_56 : decode cX12_against 56 = .ok (.lload 8, 2) := by decide +kernel
theorem dX12_against_58 : decode cX12_against 58 = .ok (.lload 17, 2) := by decide +kernel
theorem dX12_against_60 : decode cX12_against 60 = .ok (.lload 10, 2) := by decide +kernel
theorem dX12_against_62 : decode cX12_against 62 = .ok (.lmul, 1) := by decide +kernel
theorem dX12_against_63 : decode cX12_against 63 = .ok (.lsub, 1) := by decide +kernel
theorem dX12_against_64 : decode cX12_against 64 = .ok (.lstore 8, 2) := by decide +kernel
theorem dX12_against_66 : decode cX12_against 66 = .ok (.lload 12, 2) := by decide +kernel
theorem dX12_against_68 : decode cX12_against 68 = .ok (.lload 19, 2) := by decide +kernel
theorem dX12_against_70 : decode cX12_against 70 = .ok (.lload 14, 2) := by decide +kernel
theorem dX12_against_72 : decode cX12_against 72 = .ok (.lmul, 1) := by decide +kernel
theorem dX12_against_73 : decode cX12_against 73 = .ok (.lsub, 1) := by decide +kernel
theorem dX12_against_74 : decode cX12_against 74 = .ok (.lstore 12, 2) := by decide +kernel
theorem dX12_against_76 : decode cX12_against 76 = .ok (.lload 8, 2) := by decide +kernel
theorem dX12_against_78 : decode cX12_against 78 = .ok (.lconst 0, 1) := by decide +kernel
theorem dX12_against_79 : decode cX12_against 79 = .ok (.lcmp, 1) := by decide +kernel
theorem dX12_against_80 : decode cX12_against 80 = .ok (.ifCond .eq 10, 3) := by decide +kernel
theorem dX12_against_83 : decode cX12_against 83 = .ok (.lload 12, 2) := by decide +kernel
theorem dX12_against_85 : decode cX12_against 85 = .ok (.lconst 0, 1) := by decide +kernel
theorem dX12_against_86 : decode cX12_against 86 = .ok (.lcmp, 1) := by decide +kernel
theorem dX12_against_87 : decode cX12_against 87 = .ok (.ifCond .ne 31, 3) := by decide +kernel
theorem dX12_against_90 : decode cX12_against 90 = .ok (.lload 8, 2) := by decide +kernel
theorem dX12_against_92 : decode cX12_against 92 = .ok (.lload 12, 2) := by decide +kernel
theorem dX12_against_94 : decode cX12_against 94 = .ok (.lcmp, 1) := by decide +kernel
theorem dX12_against_95 : decode cX12_against 95 = .ok (.ifCond .ne 7, 3) := by decide +kernel
theorem dX12_against_98 : decode cX12_against 98 = .ok (.iconst 0, 1) := by decide +kernel
theorem dX12_against_99 : decode cX12_against 99 = .ok (.goto 18, 3) := by decide +kernel
theorem dX12_against_102 : decode cX12_against 102 = .ok (.lload 8, 2) := by decide +kernel
theorem dX12_against_104 : decode cX12_against 104 = .ok (.lconst 0, 1) := by decide +kernel
theorem dX12_against_105 : decode cX12_against 105 = .ok (.lcmp, 1) := by decide +kernel
theorem dX12_against_106 : decode cX12_against 106 = .ok (.ifCond .ne 9, 3) := by decide +kernel
theorem dX12_against_109 : decode cX12_against 109 = .ok (.iload 16, 2) := by decide +kernel
theorem dX12_against_111 : decode cX12_against 111 = .ok (.ineg, 1) := by decide +kernel
theorem dX12_against_112 : decode cX12_against 112 = .ok (.goto 5, 3) := by decide +kernel
theorem dX12_against_115 : decode cX12_against 115 = .ok (.iload 16, 2) := by decide +kernel
theorem dX12_against_117 : decode cX12_against 117 = .ok (.ireturn, 1) := by decide +kernel
theorem dX12_against_118 : decode cX12_against 118 = .ok (.lload 8, 2) := by decide +kernel
theorem dX12_against_120 : decode cX12_against 120 = .ok (.lstore 21, 2) := by decide +kernel
theorem dX12_against_122 : decode cX12_against 122 = .ok (.lload 10, 2) := by decide +kernel
theorem dX12_against_124 : decode cX12_against 124 = .ok (.lstore 8, 2) := by decide +kernel
theorem dX12_against_126 : decode cX12_against 126 = .ok (.lload 21, 2) := by decide +kernel
theorem dX12_against_128 : decode cX12_against 128 = .ok (.lstore 10, 2) := by decide +kernel
theorem dX12_against_130 : decode cX12_against 130 = .ok (.lload 12, 2) := by decide +kernel
theorem dX12_against_132 : decode cX12_against 132 = .ok (.lstore 21, 2) := by decide +kernel
theorem dX12_against_134 : decode cX12_against 134 = .ok (.lload 14, 2) := by decide +kernel
theorem dX12_against_136 : decode cX12_against 136 = .ok (.lstore 12, 2) := by decide +kernel
theorem dX12_against_138 : decode cX12_against 138 = .ok (.lload 21, 2) := by decide +kernel
theorem dX12_against_140 : decode cX12_against 140 = .ok (.lstore 14, 2) := by decide +kernel
theorem dX12_against_142 : decode cX12_against 142 = .ok (.iload 16, 2) := by decide +kernel
theorem dX12_against_144 : decode cX12_against 144 = .ok (.ineg, 1) := by decide +kernel
theorem dX12_against_145 : decode cX12_against 145 = .ok (.istore 16, 2) := by decide +kernel
theorem dX12_against_147 : decode cX12_against 147 = .ok (.goto (-130), 3) := by decide +kernel
theorem dX12_apart_0 : decode cX12_apart 0 = .ok (.aload_n 0, 1) := by decide +kernel
theorem dX12_apart_1 : decode cX12_apart 1 = .ok (.getfield 33, 3) := by decide +kernel
theorem dX12_apart_4 : decode cX12_apart 4 = .ok (.iload_n 1, 1) := by decide +kernel
theorem dX12_apart_5 : decode cX12_apart 5 = .ok (.iaload, 1) := by decide +kernel
theorem dX12_apart_6 : decode cX12_apart 6 = .ok (.aload_n 0, 1) := by decide +kernel
theorem dX12_apart_7 : decode cX12_apart 7 = .ok (.getfield 33, 3) := by decide +kernel
theorem dX12_apart_10 : decode cX12_apart 10 = .ok (.iload_n 2, 1) := by decide +kernel
theorem dX12_apart_11 : decode cX12_apart 11 = .ok (.iaload, 1) := by decide +kernel
theorem dX12_apart_12 : decode cX12_apart 12 = .ok (.isub, 1) := by decide +kernel
theorem dX12_apart_13 : decode cX12_apart 13 = .ok (.i2l, 1) := by decide +kernel
theorem dX12_apart_14 : decode cX12_apart 14 = .ok (.aload_n 0, 1) := by decide +kernel
theorem dX12_apart_15 : decode cX12_apart 15 = .ok (.getfield 33, 3) := by decide +kernel
theorem dX12_apart_18 : decode cX12_apart 18 = .ok (.iload_n 1, 1) := by decide +kernel
theorem dX12_apart_19 : decode cX12_apart 19 = .ok (.iaload, 1) := by decide +kernel
theorem dX12_apart_20 : decode cX12_apart 20 = .ok (.aload_n 0, 1) := by decide +kernel
theorem dX12_apart_21 : decode cX12_apart 21 = .ok (.getfield 33, 3) := by decide +kernel
theorem dX12_apart_24 : decode cX12_apart 24 = .ok (.iload_n 2, 1) := by decide +kernel
theorem dX12_apart_25 : decode cX12_apart 25 = .ok (.iaload, 1) := by decide +kernel
theorem dX12_apart_26 : decode cX12_apart 26 = .ok (.isub, 1) := by decide +kernel
theorem dX12_apart_27 : decode cX12_apart 27 = .ok (.i2l, 1) := by decide +kernel
theorem dX12_apart_28 : decode cX12_apart 28 = .ok (.lmul, 1) := by decide +kernel
theorem dX12_apart_29 : decode cX12_apart 29 = .ok (.aload_n 0, 1) := by decide +kernel
theorem dX12_apart_30 : decode cX12_apart 30 = .ok (.getfield 36, 3) := by decide +kernel
theorem dX12_apart_33 : decode cX12_apart 33 = .ok (.iload_n 1, 1) := by decide +kernel
theorem dX12_apart_34 : decode cX12_apart 34 = .ok (.iaload, 1) := by decide +kernel
theorem dX12_apart_35 : decode cX12_apart 35 = .ok (.aload_n 0, 1) := by decide +kernel
theorem dX12_apart_36 : decode cX12_apart 36 = .ok (.getfield 36, 3) := by decide +kernel
theorem dX12_apart_39 : decode cX12_apart 39 = .ok (.iload_n 2, 1) := by decide +kernel
theorem dX12_apart_40 : decode cX12_apart 40 = .ok (.iaload, 1) := by decide +kernel
theorem dX12_apart_41 : decode cX12_apart 41 = .ok (.isub, 1) := by decide +kernel
theorem dX12_apart_42 : decode cX12_apart 42 = .ok (.i2l, 1) := by decide +kernel
theorem dX12_apart_43 : decode cX12_apart 43 = .ok (.aload_n 0, 1) := by decide +kernel
theorem dX12_apart_44 : decode cX12_apart 44 = .ok (.getfield 36, 3) := by decide +kernel
theorem dX12_apart_47 : decode cX12_apart 47 = .ok (.iload_n 1, 1) := by decide +kernel
theorem dX12_apart_48 : decode cX12_apart 48 = .ok (.iaload, 1) := by decide +kernel
theorem dX12_apart_49 : decode cX12_apart 49 = .ok (.aload_n 0, 1) := by decide +kernel
theorem dX12_apart_50 : decode cX12_apart 50 = .ok (.getfield 36, 3) := by decide +kernel
theorem dX12_apart_53 : decode cX12_apart 53 = .ok (.iload_n 2, 1) := by decide +kernel
theorem dX12_apart_54 : decode cX12_apart 54 = .ok (.iaload, 1) := by decide +kernel
theorem dX12_apart_55 : decode cX12_apart 55 = .ok (.isub, 1) := by decide +kernel
theorem dX12_apart_56 : decode cX12_apart 56 = .ok (.i2l, 1) := by decide +kernel
theorem dX12_apart_57 : decode cX12_apart 57 = .ok (.lmul, 1) := by decide +kernel
theorem dX12_apart_58 : decode cX12_apart 58 = .ok (.ladd, 1) := by decide +kernel
theorem dX12_apart_59 : decode cX12_apart 59 = .ok (.lreturn, 1) := by decide +kernel
theorem dX12_one_0 : decode cX12_one 0 = .ok (.aload_n 0, 1) := by decide +kernel
theorem dX12_one_1 : decode cX12_one 1 = .ok (.aload_n 0, 1) := by decide +kernel
theorem dX12_one_2 : decode cX12_one 2 = .ok (.getfield 33, 3) := by decide +kernel
theorem dX12_one_5 : decode cX12_one 5 = .ok (.iload_n 1, 1) := by decide +kernel
theorem dX12_one_6 : decode cX12_one 6 = .ok (.iaload, 1) := by decide +kernel
theorem dX12_one_7 : decode cX12_one 7 = .ok (.i2l, 1) := by decide +kernel
theorem dX12_one_8 : decode cX12_one 8 = .ok (.putfield 180, 3) := by decide +kernel
theorem dX12_one_11 : decode cX12_one 11 = .ok (.aload_n 0, 1) := by decide +kernel
theorem dX12_one_12 : decode cX12_one 12 = .ok (.aload_n 0, 1) := by decide +kernel
theorem dX12_one_13 : decode cX12_one 13 = .ok (.getfield 36, 3) := by decide +kernel
theorem dX12_one_16 : decode cX12_one 16 = .ok (.iload_n 1, 1) := by decide +kernel
theorem dX12_one_17 : decode cX12_one 17 = .ok (.iaload, 1) := by decide +kernel
theorem dX12_one_18 : decode cX12_one 18 = .ok (.i2l, 1) := by decide +kernel
theorem dX12_one_19 : decode cX12_one 19 = .ok (.putfield 184, 3) := by decide +kernel
theorem dX12_one_22 : decode cX12_one 22 = .ok (.aload_n 0, 1) := by decide +kernel
theorem dX12_one_23 : decode cX12_one 23 = .ok (.lconst 0, 1) := by decide +kernel
theorem dX12_one_24 : decode cX12_one 24 = .ok (.putfield 187, 3) := by decide +kernel
theorem dX12_one_27 : decode cX12_one 27 = .ok (.aload_n 0, 1) := by decide +kernel
theorem dX12_one_28 : decode cX12_one 28 = .ok (.lconst 0, 1) := by decide +kernel
theorem dX12_one_29 : decode cX12_one 29 = .ok (.putfield 190, 3) := by decide +kernel
theorem dX12_one_32 : decode cX12_one 32 = .ok (.aload_n 0, 1) := by decide +kernel
theorem dX12_one_33 : decode cX12_one 33 = .ok (.lconst 1, 1) := by decide +kernel
theorem dX12_one_34 : decode cX12_one 34 = .ok (.putfield 193, 3) := by decide +kernel
theorem dX12_one_37 : decode cX12_one 37 = .ok (.aload_n 0, 1) := by decide +kernel
theorem dX12_one_38 : decode cX12_one 38 = .ok (.lconst 0, 1) := by decide +kernel
theorem dX12_one_39 : decode cX12_one 39 = .ok (.putfield 196, 3) := by decide +kernel
theorem dX12_one_42 : decode cX12_one 42 = .ok (.aload_n 0, 1) := by decide +kernel
theorem dX12_one_43 : decode cX12_one 43 = .ok (.lconst 1, 1) := by decide +kernel
theorem dX12_one_44 : decode cX12_one 44 = .ok (.putfield 199, 3) := by decide +kernel
theorem dX12_one_47 : decode cX12_one 47 = .ok (.return_, 1) := by decide +kernel
theorem dX12_pair_0 : decode cX12_pair 0 = .ok (.aload_n 0, 1) := by decide +kernel
theorem dX12_pair_1 : decode cX12_pair 1 = .ok (.aload_n 0, 1) := by decide +kernel
theorem dX12_pair_2 : decode cX12_pair 2 = .ok (.getfield 33, 3) := by decide +kernel
theorem dX12_pair_5 : decode cX12_pair 5 = .ok (.iload_n 1, 1) := by decide +kernel
theorem dX12_pair_6 : decode cX12_pair 6 = .ok (.iaload, 1) := by decide +kernel
theorem dX12_pair_7 : decode cX12_pair 7 = .ok (.i2l, 1) := by decide +kernel
theorem dX12_pair_8 : decode cX12_pair 8 = .ok (.putfield 180, 3) := by decide +kernel
theorem dX12_pair_11 : decode cX12_pair 11 = .ok (.aload_n 0, 1) := by decide +kernel
theorem dX12_pair_12 : decode cX12_pair 12 = .ok (.aload_n 0, 1) := by decide +kernel
theorem dX12_pair_13 : decode cX12_pair 13 = .ok (.getfield 36, 3) := by decide +kernel
theorem dX12_pair_16 : decode cX12_pair 16 = .ok (.iload_n 1, 1) := by decide +kernel
theorem dX12_pair_17 : decode cX12_pair 17 = .ok (.iaload, 1) := by decide +kernel
theorem dX12_pair_18 : decode cX12_pair 18 = .ok (.i2l, 1) := by decide +kernel
theorem dX12_pair_19 : decode cX12_pair 19 = .ok (.putfield 184, 3) := by decide +kernel
theorem dX12_pair_22 : decode cX12_pair 22 = .ok (.aload_n 0, 1) := by decide +kernel
theorem dX12_pair_23 : decode cX12_pair 23 = .ok (.aload_n 0, 1) := by decide +kernel
theorem dX12_pair_24 : decode cX12_pair 24 = .ok (.getfield 33, 3) := by decide +kernel
theorem dX12_pair_27 : decode cX12_pair 27 = .ok (.iload_n 2, 1) := by decide +kernel
theorem dX12_pair_28 : decode cX12_pair 28 = .ok (.iaload, 1) := by decide +kernel
theorem dX12_pair_29 : decode cX12_pair 29 = .ok (.aload_n 0, 1) := by decide +kernel
theorem dX12_pair_30 : decode cX12_pair 30 = .ok (.getfield 33, 3) := by decide +kernel
theorem dX12_pair_33 : decode cX12_pair 33 = .ok (.iload_n 1, 1) := by decide +kernel
theorem dX12_pair_34 : decode cX12_pair 34 = .ok (.iaload, 1) := by decide +kernel
theorem dX12_pair_35 : decode cX12_pair 35 = .ok (.isub, 1) := by decide +kernel
theorem dX12_pair_36 : decode cX12_pair 36 = .ok (.i2l, 1) := by decide +kernel
theorem dX12_pair_37 : decode cX12_pair 37 = .ok (.putfield 187, 3) := by decide +kernel
theorem dX12_pair_40 : decode cX12_pair 40 = .ok (.aload_n 0, 1) := by decide +kernel
theorem dX12_pair_41 : decode cX12_pair 41 = .ok (.aload_n 0, 1) := by decide +kernel
theorem dX12_pair_42 : decode cX12_pair 42 = .ok (.getfield 36, 3) := by decide +kernel
theorem dX12_pair_45 : decode cX12_pair 45 = .ok (.iload_n 2, 1) := by decide +kernel
theorem dX12_pair_46 : decode cX12_pair 46 = .ok (.iaload, 1) := by decide +kernel
theorem dX12_pair_47 : decode cX12_pair 47 = .ok (.aload_n 0, 1) := by decide +kernel
theorem dX12_pair_48 : decode cX12_pair 48 = .ok (.getfield 36, 3) := by decide +kernel
theorem dX12_pair_51 : decode cX12_pair 51 = .ok (.iload_n 1, 1) := by decide +kernel
theorem dX12_pair_52 : decode cX12_pair 52 = .ok (.iaload, 1) := by decide +kernel
theorem dX12_pair_53 : decode cX12_pair 53 = .ok (.isub, 1) := by decide +kernel
theorem dX12_pair_54 : decode cX12_pair 54 = .ok (.i2l, 1) := by decide +kernel
theorem dX12_pair_55 : decode cX12_pair 55 = .ok (.putfield 190, 3) := by decide +kernel
theorem dX12_pair_58 : decode cX12_pair 58 = .ok (.aload_n 0, 1) := by decide +kernel
theorem dX12_pair_59 : decode cX12_pair 59 = .ok (.ldc2_w 202, 3) := by decide +kernel
theorem dX12_pair_62 : decode cX12_pair 62 = .ok (.putfield 193, 3) := by decide +kernel
theorem dX12_pair_65 : decode cX12_pair 65 = .ok (.aload_n 0, 1) := by decide +kernel
theorem dX12_pair_66 : decode cX12_pair 66 = .ok (.iload_n 1, 1) := by decide +kernel
theorem dX12_pair_67 : decode cX12_pair 67 = .ok (.iload_n 2, 1) := by decide +kernel
theorem dX12_pair_68 : decode cX12_pair 68 = .ok (.invokevirtual 204, 3) := by decide +kernel
theorem dX12_pair_71 : decode cX12_pair 71 = .ok (.lstore_n 3, 1) := by decide +kernel
theorem dX12_pair_72 : decode cX12_pair 72 = .ok (.aload_n 0, 1) := by decide +kernel
theorem dX12_pair_73 : decode cX12_pair 73 = .ok (.lload_n 3, 1) := by decide +kernel
theorem dX12_pair_74 : decode cX12_pair 74 = .ok (.ldc2_w 208, 3) := by decide +kernel
theorem dX12_pair_77 : decode cX12_pair 77 = .ok (.invokestatic 210, 3) := by decide +kernel
theorem dX12_pair_80 : decode cX12_pair 80 = .ok (.putfield 196, 3) := by decide +kernel
theorem dX12_pair_83 : decode cX12_pair 83 = .ok (.aload_n 0, 1) := by decide +kernel
theorem dX12_pair_84 : decode cX12_pair 84 = .ok (.lload_n 3, 1) := by decide +kernel
theorem dX12_pair_85 : decode cX12_pair 85 = .ok (.ldc2_w 208, 3) := by decide +kernel
theorem dX12_pair_88 : decode cX12_pair 88 = .ok (.invokestatic 213, 3) := by decide +kernel
theorem dX12_pair_91 : decode cX12_pair 91 = .ok (.putfield 199, 3) := by decide +kernel
theorem dX12_pair_94 : decode cX12_pair 94 = .ok (.return_, 1) := by decide +kernel
theorem dX12_turn_0 : decode cX12_turn 0 = .ok (.aload_n 0, 1) := by decide +kernel
theorem dX12_turn_1 : decode cX12_turn 1 = .ok (.getfield 33, 3) := by decide +kernel
theorem dX12_turn_4 : decode cX12_turn 4 = .ok (.iload_n 2, 1) := by decide +kernel
theorem dX12_turn_5 : decode cX12_turn 5 = .ok (.iaload, 1) := by decide +kernel
theorem dX12_turn_6 : decode cX12_turn 6 = .ok (.aload_n 0, 1) := by decide +kernel
theorem dX12_turn_7 : decode cX12_turn 7 = .ok (.getfield 33, 3) := by decide +kernel
theorem dX12_turn_10 : decode cX12_turn 10 = .ok (.iload_n 1, 1) := by decide +kernel
theorem dX12_turn_11 : decode cX12_turn 11 = .ok (.iaload, 1) := by decide +kernel
theorem dX12_turn_12 : decode cX12_turn 12 = .ok (.isub, 1) := by decide +kernel
theorem dX12_turn_13 : decode cX12_turn 13 = .ok (.i2l, 1) := by decide +kernel
theorem dX12_turn_14 : decode cX12_turn 14 = .ok (.aload_n 0, 1) := by decide +kernel
theorem dX12_turn_15 : decode cX12_turn 15 = .ok (.getfield 36, 3) := by decide +kernel
theorem dX12_turn_18 : decode cX12_turn 18 = .ok (.iload_n 3, 1) := by decide +kernel
theorem dX12_turn_19 : decode cX12_turn 19 = .ok (.iaload, 1) := by decide +kernel
theorem dX12_turn_20 : decode cX12_turn 20 = .ok (.aload_n 0, 1) := by decide +kernel
theorem dX12_turn_21 : decode cX12_turn 21 = .ok (.getfield 36, 3) := by decide +kernel
theorem dX12_turn_24 : decode cX12_turn 24 = .ok (.iload_n 1, 1) := by decide +kernel
theorem dX12_turn_25 : decode cX12_turn 25 = .ok (.iaload, 1) := by decide +kernel
theorem dX12_turn_26 : decode cX12_turn 26 = .ok (.isub, 1) := by decide +kernel
theorem dX12_turn_27 : decode cX12_turn 27 = .ok (.i2l, 1) := by decide +kernel
theorem dX12_turn_28 : decode cX12_turn 28 = .ok (.lmul, 1) := by decide +kernel
theorem dX12_turn_29 : decode cX12_turn 29 = .ok (.aload_n 0, 1) := by decide +kernel
theorem dX12_turn_30 : decode cX12_turn 30 = .ok (.getfield 36, 3) := by decide +kernel
theorem dX12_turn_33 : decode cX12_turn 33 = .ok (.iload_n 2, 1) := by decide +kernel
theorem dX12_turn_34 : decode cX12_turn 34 = .ok (.iaload, 1) := by decide +kernel
theorem dX12_turn_35 : decode cX12_turn 35 = .ok (.aload_n 0, 1) := by decide +kernel
theorem dX12_turn_36 : decode cX12_turn 36 = .ok (.getfield 36, 3) := by decide +kernel
theorem dX12_turn_39 : decode cX12_turn 39 = .ok (.iload_n 1, 1) := by decide +kernel
theorem dX12_turn_40 : decode cX12_turn 40 = .ok (.iaload, 1) := by decide +kernel
theorem dX12_turn_41 : decode cX12_turn 41 = .ok (.isub, 1) := by decide +kernel
theorem dX12_turn_42 : decode cX12_turn 42 = .ok (.i2l, 1) := by decide +kernel
theorem dX12_turn_43 : decode cX12_turn 43 = .ok (.aload_n 0, 1) := by decide +kernel
theorem dX12_turn_44 : decode cX12_turn 44 = .ok (.getfield 33, 3) := by decide +kernel
theorem dX12_turn_47 : decode cX12_turn 47 = .ok (.iload_n 3, 1) := by decide +kernel
theorem dX12_turn_48 : decode cX12_turn 48 = .ok (.iaload, 1) := by decide +kernel
theorem dX12_turn_49 : decode cX12_turn 49 = .ok (.aload_n 0, 1) := by decide +kernel
theorem dX12_turn_50 : decode cX12_turn 50 = .ok (.getfield 33, 3) := by decide +kernel
theorem dX12_turn_53 : decode cX12_turn 53 = .ok (.iload_n 1, 1) := by decide +kernel
theorem dX12_turn_54 : decode cX12_turn 54 = .ok (.iaload, 1) := by decide +kernel
theorem dX12_turn_55 : decode cX12_turn 55 = .ok (.isub, 1) := by decide +kernel
theorem dX12_turn_56 : decode cX12_turn 56 = .ok (.i2l, 1) := by decide +kernel
theorem dX12_turn_57 : decode cX12_turn 57 = .ok (.lmul, 1) := by decide +kernel
theorem dX12_turn_58 : decode cX12_turn 58 = .ok (.lsub, 1) := by decide +kernel
theorem dX12_turn_59 : decode cX12_turn 59 = .ok (.lreturn, 1) := by decide +kernel
theorem dX12_isTriple_0 : decode cX12_isTriple 0 = .ok (.aload_n 0, 1) := by decide +kernel
theorem dX12_isTriple_1 : decode cX12_isTriple 1 = .ok (.iload_n 1, 1) := by decide +kernel
theorem dX12_isTriple_2 : decode cX12_isTriple 2 = .ok (.iload_n 2, 1) := by decide +kernel
theorem dX12_isTriple_3 : decode cX12_isTriple 3 = .ok (.iload_n 3, 1) := by decide +kernel
theorem dX12_isTriple_4 : decode cX12_isTriple 4 = .ok (.invokevirtual 216, 3) := by decide +kernel
theorem dX12_isTriple_7 : decode cX12_isTriple 7 = .ok (.lstore 4, 2) := by decide +kernel
theorem dX12_isTriple_9 : decode cX12_isTriple 9 = .ok (.lload 4, 2) := by decide +kernel
theorem dX12_isTriple_11 : decode cX12_isTriple 11 = .ok (.lconst 0, 1) := by decide +kernel
theorem dX12_isTriple_12 : decode cX12_isTriple 12 = .ok (.lcmp, 1) := by decide +kernel
theorem dX12_isTriple_13 : decode cX12_isTriple 13 = .ok (.ifCond .ne 5, 3) := by decide +kernel
theorem dX12_isTriple_16 : decode cX12_isTriple 16 = .ok (.iconst 0, 1) := by decide +kernel
theorem dX12_isTriple_17 : decode cX12_isTriple 17 = .ok (.ireturn, 1) := by decide +kernel
theorem dX12_isTriple_18 : decode cX12_isTriple 18 = .ok (.aload_n 0, 1) := by decide +kernel
theorem dX12_isTriple_19 : decode cX12_isTriple 19 = .ok (.getfield 33, 3) := by decide +kernel
theorem dX12_isTriple_22 : decode cX12_isTriple 22 = .ok (.iload_n 2, 1) := by decide +kernel
theorem dX12_isTriple_23 : decode cX12_isTriple 23 = .ok (.iaload, 1) := by decide +kernel
theorem dX12_isTriple_24 : decode cX12_isTriple 24 = .ok (.aload_n 0, 1) := by decide +kernel
theorem dX12_isTriple_25 : decode cX12_isTriple 25 = .ok (.getfield 33, 3) := by decide +kernel
theorem dX12_isTriple_28 : decode cX12_isTriple 28 = .ok (.iload_n 1, 1) := by decide +kernel
theorem dX12_isTriple_29 : decode cX12_isTriple 29 = .ok (.iaload, 1) := by decide +kernel
theorem dX12_isTriple_30 : decode cX12_isTriple 30 = .ok (.isub, 1) := by decide +kernel
theorem dX12_isTriple_31 : decode cX12_isTriple 31 = .ok (.i2l, 1) := by decide +kernel
theorem dX12_isTriple_32 : decode cX12_isTriple 32 = .ok (.lstore 6, 2) := by decide +kernel
theorem dX12_isTriple_34 : decode cX12_isTriple 34 = .ok (.aload_n 0, 1) := by decide +kernel
theorem dX12_isTriple_35 : decode cX12_isTriple 35 = .ok (.getfield 36, 3) := by decide +kernel
theorem dX12_isTriple_38 : decode cX12_isTriple 38 = .ok (.iload_n 2, 1) := by decide +kernel
theorem dX12_isTriple_39 : decode cX12_isTriple 39 = .ok (.iaload, 1) := by decide +kernel
theorem dX12_isTriple_40 : decode cX12_isTriple 40 = .ok (.aload_n 0, 1) := by decide +kernel
theorem dX12_isTriple_41 : decode cX12_isTriple 41 = .ok (.getfield 36, 3) := by decide +kernel
theorem dX12_isTriple_44 : decode cX12_isTriple 44 = .ok (.iload_n 1, 1) := by decide +kernel
theorem dX12_isTriple_45 : decode cX12_isTriple 45 = .ok (.iaload, 1) := by decide +kernel
theorem dX12_isTriple_46 : decode cX12_isTriple 46 = .ok (.isub, 1) := by decide +kernel
theorem dX12_isTriple_47 : decode cX12_isTriple 47 = .ok (.i2l, 1) := by decide +kernel
theorem dX12_isTriple_48 : decode cX12_isTriple 48 = .ok (.lstore 8, 2) := by decide +kernel
theorem dX12_isTriple_50 : decode cX12_isTriple 50 = .ok (.aload_n 0, 1) := by decide +kernel
theorem dX12_isTriple_51 : decode cX12_isTriple 51 = .ok (.getfield 33, 3) := by decide +kernel
theorem dX12_isTriple_54 : decode cX12_isTriple 54 = .ok (.iload_n 3, 1) := by decide +kernel
theorem dX12_isTriple_55 : decode cX12_isTriple 55 = .ok (.iaload, 1) := by decide +kernel
theorem dX12_isTriple_56 : decode cX12_isTriple 56 = .ok (.aload_n 0, 1) := by decide +kernel
theorem dX12_isTriple_57 : decode cX12_isTriple 57 = .ok (.getfield 33, 3) := by decide +kernel
theorem dX12_isTriple_60 : decode cX12_isTriple 60 = .ok (.iload_n 1, 1) := by decide +kernel
theorem dX12_isTriple_61 : decode cX12_isTriple 61 = .ok (.iaload, 1) := by decide +kernel
theorem dX12_isTriple_62 : decode cX12_isTriple 62 = .ok (.isub, 1) := by decide +kernel
theorem dX12_isTriple_63 : decode cX12_isTriple 63 = .ok (.i2l, 1) := by decide +kernel
theorem dX12_isTriple_64 : decode cX12_isTriple 64 = .ok (.lstore 10, 2) := by decide +kernel
theorem dX12_isTriple_66 : decode cX12_isTriple 66 = .ok (.aload_n 0, 1) := by decide +kernel
theorem dX12_isTriple_67 : decode cX12_isTriple 67 = .ok (.getfield 36, 3) := by decide +kernel
theorem dX12_isTriple_70 : decode cX12_isTriple 70 = .ok (.iload_n 3, 1) := by decide +kernel
theorem dX12_isTriple_71 : decode cX12_isTriple 71 = .ok (.iaload, 1) := by decide +kernel
theorem dX12_isTriple_72 : decode cX12_isTriple 72 = .ok (.aload_n 0, 1) := by decide +kernel
theorem dX12_isTriple_73 : decode cX12_isTriple 73 = .ok (.getfield 36, 3) := by decide +kernel
theorem dX12_isTriple_76 : decode cX12_isTriple 76 = .ok (.iload_n 1, 1) := by decide +kernel
theorem dX12_isTriple_77 : decode cX12_isTriple 77 = .ok (.iaload, 1) := by decide +kernel
theorem dX12_isTriple_78 : decode cX12_isTriple 78 = .ok (.isub, 1) := by decide +kernel
theorem dX12_isTriple_79 : decode cX12_isTriple 79 = .ok (.i2l, 1) := by decide +kernel
theorem dX12_isTriple_80 : decode cX12_isTriple 80 = .ok (.lstore 12, 2) := by decide +kernel
theorem dX12_isTriple_82 : decode cX12_isTriple 82 = .ok (.lload 6, 2) := by decide +kernel
theorem dX12_isTriple_84 : decode cX12_isTriple 84 = .ok (.lload 6, 2) := by decide +kernel
theorem dX12_isTriple_86 : decode cX12_isTriple 86 = .ok (.lmul, 1) := by decide +kernel
theorem dX12_isTriple_87 : decode cX12_isTriple 87 = .ok (.lload 8, 2) := by decide +kernel
theorem dX12_isTriple_89 : decode cX12_isTriple 89 = .ok (.lload 8, 2) := by decide +kernel
theorem dX12_isTriple_91 : decode cX12_isTriple 91 = .ok (.lmul, 1) := by decide +kernel
theorem dX12_isTriple_92 : decode cX12_isTriple 92 = .ok (.ladd, 1) := by decide +kernel
theorem dX12_isTriple_93 : decode cX12_isTriple 93 = .ok (.lstore 14, 2) := by decide +kernel
theorem dX12_isTriple_95 : decode cX12_isTriple 95 = .ok (.lload 10, 2) := by decide +kernel
theorem dX12_isTriple_97 : decode cX12_isTriple 97 = .ok (.lload 10, 2) := by decide +kernel
theorem dX12_isTriple_99 : decode cX12_isTriple 99 = .ok (.lmul, 1) := by decide +kernel
theorem dX12_isTriple_100 : decode cX12_isTriple 100 = .ok (.lload 12, 2) := by decide +kernel
theorem dX12_isTriple_102 : decode cX12_isTriple 102 = .ok (.lload 12, 2) := by decide +kernel
theorem dX12_isTriple_104 : decode cX12_isTriple 104 = .ok (.lmul, 1) := by decide +kernel
theorem dX12_isTriple_105 : decode cX12_isTriple 105 = .ok (.ladd, 1) := by decide +kernel
theorem dX12_isTriple_106 : decode cX12_isTriple 106 = .ok (.lstore 16, 2) := by decide +kernel
theorem dX12_isTriple_108 : decode cX12_isTriple 108 = .ok (.lload 4, 2) := by decide +kernel
theorem dX12_isTriple_110 : decode cX12_isTriple 110 = .ok (.lconst 0, 1) := by decide +kernel
theorem dX12_isTriple_111 : decode cX12_isTriple 111 = .ok (.lcmp, 1) := by decide +kernel
theorem dX12_isTriple_112 : decode cX12_isTriple 112 = .ok (.ifCond .ge 9, 3) := by decide +kernel
theorem dX12_isTriple_115 : decode cX12_isTriple 115 = .ok (.ldc2_w 220, 3) := by decide +kernel
theorem dX12_isTriple_118 : decode cX12_isTriple 118 = .ok (.goto 4, 3) := by decide +kernel
theorem dX12_isTriple_121 : decode cX12_isTriple 121 = .ok (.lconst 1, 1) := by decide +kernel
theorem dX12_isTriple_122 : decode cX12_isTriple 122 = .ok (.lstore 18, 2) := by decide +kernel
theorem dX12_isTriple_124 : decode cX12_isTriple 124 = .ok (.aload_n 0, 1) := by decide +kernel
theorem dX12_isTriple_125 : decode cX12_isTriple 125 = .ok (.aload_n 0, 1) := by decide +kernel
theorem dX12_isTriple_126 : decode cX12_isTriple 126 = .ok (.getfield 33, 3) := by decide +kernel
theorem dX12_isTriple_129 : decode cX12_isTriple 129 = .ok (.iload_n 1, 1) := by decide +kernel
theorem dX12_isTriple_130 : decode cX12_isTriple 130 = .ok (.iaload, 1) := by decide +kernel
theorem dX12_isTriple_131 : decode cX12_isTriple 131 = .ok (.i2l, 1) := by decide +kernel
theorem dX12_isTriple_132 : decode cX12_isTriple 132 = .ok (.putfield 180, 3) := by decide +kernel
theorem dX12_isTriple_135 : decode cX12_isTriple 135 = .ok (.aload_n 0, 1) := by decide +kernel
theorem dX12_isTriple_136 : decode cX12_isTriple 136 = .ok (.aload_n 0, 1) := by decide +kernel
theorem dX12_isTriple_137 : decode cX12_isTriple 137 = .ok (.getfield 36, 3) := by decide +kernel
theorem dX12_isTriple_140 : decode cX12_isTriple 140 = .ok (.iload_n 1, 1) := by decide +kernel
theorem dX12_isTriple_141 : decode cX12_isTriple 141 = .ok (.iaload, 1) := by decide +kernel
theorem dX12_isTriple_142 : decode cX12_isTriple 142 = .ok (.i2l, 1) := by decide +kernel
theorem dX12_isTriple_143 : decode cX12_isTriple 143 = .ok (.putfield 184, 3) := by decide +kernel
theorem dX12_isTriple_146 : decode cX12_isTriple 146 = .ok (.aload_n 0, 1) := by decide +kernel
theorem dX12_isTriple_147 : decode cX12_isTriple 147 = .ok (.lload 18, 2) := by decide +kernel
theorem dX12_isTriple_149 : decode cX12_isTriple 149 = .ok (.lload 12, 2) := by decide +kernel
theorem dX12_isTriple_151 : decode cX12_isTriple 151 = .ok (.lload 14, 2) := by decide +kernel
theorem dX12_isTriple_153 : decode cX12_isTriple 153 = .ok (.lmul, 1) := by decide +kernel
theorem dX12_isTriple_154 : decode cX12_isTriple 154 = .ok (.lload 8, 2) := by decide +kernel
theorem dX12_isTriple_156 : decode cX12_isTriple 156 = .ok (.lload 16, 2) := by decide +kernel
theorem dX12_isTriple_158 : decode cX12_isTriple 158 = .ok (.lmul, 1) := by decide +kernel
theorem dX12_isTriple_159 : decode cX12_isTriple 159 = .ok (.lsub, 1) := by decide +kernel
theorem dX12_isTriple_160 : decode cX12_isTriple 160 = .ok (.lmul, 1) := by decide +kernel
theorem dX12_isTriple_161 : decode cX12_isTriple 161 = .ok (.putfield 187, 3) := by decide +kernel
theorem dX12_isTriple_164 : decode cX12_isTriple 164 = .ok (.aload_n 0, 1) := by decide +kernel
theorem dX12_isTriple_165 : decode cX12_isTriple 165 = .ok (.lload 18, 2) := by decide +kernel
theorem dX12_isTriple_167 : decode cX12_isTriple 167 = .ok (.lload 6, 2) := by decide +kernel
theorem dX12_isTriple_169 : decode cX12_isTriple 169 = .ok (.lload 16, 2) := by decide +kernel
theorem dX12_isTriple_171 : decode cX12_isTriple 171 = .ok (.lmul, 1) := by decide +kernel
theorem dX12_isTriple_172 : decode cX12_isTriple 172 = .ok (.lload 10, 2) := by decide +kernel
theorem dX12_isTriple_174 : decode cX12_isTriple 174 = .ok (.lload 14, 2) := by decide +kernel
theorem dX12_isTriple_176 : decode cX12_isTriple 176 = .ok (.lmul, 1) := by decide +kernel
theorem dX12_isTriple_177 : decode cX12_isTriple 177 = .ok (.lsub, 1) := by decide +kernel
theorem dX12_isTriple_178 : decode cX12_isTriple 178 = .ok (.lmul, 1) := by decide +kernel
theorem dX12_isTriple_179 : decode cX12_isTriple 179 = .ok (.putfield 190, 3) := by decide +kernel
theorem dX12_isTriple_182 : decode cX12_isTriple 182 = .ok (.aload_n 0, 1) := by decide +kernel
theorem dX12_isTriple_183 : decode cX12_isTriple 183 = .ok (.lload 18, 2) := by decide +kernel
theorem dX12_isTriple_185 : decode cX12_isTriple 185 = .ok (.ldc2_w 202, 3) := by decide +kernel
theorem dX12_isTriple_188 : decode cX12_isTriple 188 = .ok (.lmul, 1) := by decide +kernel
theorem dX12_isTriple_189 : decode cX12_isTriple 189 = .ok (.lload 4, 2) := by decide +kernel
theorem dX12_isTriple_191 : decode cX12_isTriple 191 = .ok (.lmul, 1) := by decide +kernel
theorem dX12_isTriple_192 : decode cX12_isTriple 192 = .ok (.putfield 193, 3) := by decide +kernel
theorem dX12_isTriple_195 : decode cX12_isTriple 195 = .ok (.lload 14, 2) := by decide +kernel
theorem dX12_isTriple_197 : decode cX12_isTriple 197 = .ok (.lload 16, 2) := by decide +kernel
theorem dX12_isTriple_199 : decode cX12_isTriple 199 = .ok (.lmul, 1) := by decide +kernel
theorem dX12_isTriple_200 : decode cX12_isTriple 200 = .ok (.aload_n 0, 1) := by decide +kernel
theorem dX12_isTriple_201 : decode cX12_isTriple 201 = .ok (.iload_n 2, 1) := by decide +kernel
theorem dX12_isTriple_202 : decode cX12_isTriple 202 = .ok (.iload_n 3, 1) := by decide +kernel
theorem dX12_isTriple_203 : decode cX12_isTriple 203 = .ok (.invokevirtual 204, 3) := by decide +kernel
theorem dX12_isTriple_206 : decode cX12_isTriple 206 = .ok (.lmul, 1) := by decide +kernel
theorem dX12_isTriple_207 : decode cX12_isTriple 207 = .ok (.lstore 20, 2) := by decide +kernel
theorem dX12_isTriple_209 : decode cX12_isTriple 209 = .ok (.ldc2_w 208, 3) := by decide +kernel
theorem dX12_isTriple_212 : decode cX12_isTriple 212 = .ok (.lload 4, 2) := by decide +kernel
theorem dX12_isTriple_214 : decode cX12_isTriple 214 = .ok (.lmul, 1) := by decide +kernel
theorem dX12_isTriple_215 : decode cX12_isTriple 215 = .ok (.lload 4, 2) := by decide +kernel
theorem dX12_isTriple_217 : decode cX12_isTriple 217 = .ok (.lmul, 1) := by decide +kernel
theorem dX12_isTriple_218 : decode cX12_isTriple 218 = .ok (.lstore 22, 2) := by decide +kernel
theorem dX12_isTriple_220 : decode cX12_isTriple 220 = .ok (.aload_n 0, 1) := by decide +kernel
theorem dX12_isTriple_221 : decode cX12_isTriple 221 = .ok (.lload 20, 2) := by decide +kernel
theorem dX12_isTriple_223 : decode cX12_isTriple 223 = .ok (.lload 22, 2) := by decide +kernel
theorem dX12_isTriple_225 : decode cX12_isTriple 225 = .ok (.invokestatic 210, 3) := by decide +kernel
theorem dX12_isTriple_228 : decode cX12_isTriple 228 = .ok (.putfield 196, 3) := by decide +kernel
theorem dX12_isTriple_231 : decode cX12_isTriple 231 = .ok (.aload_n 0, 1) := by decide +kernel
theorem dX12_isTriple_232 : decode cX12_isTriple 232 = .ok (.lload 20, 2) := by decide +kernel
theorem dX12_isTriple_234 : decode cX12_isTriple 234 = .ok (.lload 22, 2) := by decide +kernel
theorem dX12_isTriple_236 : decode cX12_isTriple 236 = .ok (.invokestatic 213, 3) := by decide +kernel
theorem dX12_isTriple_239 : decode cX12_isTriple 239 = .ok (.putfield 199, 3) := by decide +kernel
theorem dX12_isTriple_242 : decode cX12_isTriple 242 = .ok (.iconst 1, 1) := by decide +kernel
theorem dX12_isTriple_243 : decode cX12_isTriple 243 = .ok (.ireturn, 1) := by decide +kernel
theorem dX12_lies_0 : decode cX12_lies 0 = .ok (.lload_n 1, 1) := by decide +kernel
theorem dX12_lies_1 : decode cX12_lies 1 = .ok (.aload_n 0, 1) := by decide +kernel
theorem dX12_lies_2 : decode cX12_lies 2 = .ok (.getfield 180, 3) := by decide +kernel
theorem dX12_lies_5 : decode cX12_lies 5 = .ok (.lsub, 1) := by decide +kernel
theorem dX12_lies_6 : decode cX12_lies 6 = .ok (.lstore 5, 2) := by decide +kernel
theorem dX12_lies_8 : decode cX12_lies 8 = .ok (.lload_n 3, 1) := by decide +kernel
theorem dX12_lies_9 : decode cX12_lies 9 = .ok (.aload_n 0, 1) := by decide +kernel
theorem dX12_lies_10 : decode cX12_lies 10 = .ok (.getfield 184, 3) := by decide +kernel
theorem dX12_lies_13 : decode cX12_lies 13 = .ok (.lsub, 1) := by decide +kernel
theorem dX12_lies_14 : decode cX12_lies 14 = .ok (.lstore 7, 2) := by decide +kernel
theorem dX12_lies_16 : decode cX12_lies 16 = .ok (.lload 5, 2) := by decide +kernel
theorem dX12_lies_18 : decode cX12_lies 18 = .ok (.lload 5, 2) := by decide +kernel
theorem dX12_lies_20 : decode cX12_lies 20 = .ok (.lmul, 1) := by decide +kernel
theorem dX12_lies_21 : decode cX12_lies 21 = .ok (.lload 7, 2) := by decide +kernel
theorem dX12_lies_23 : decode cX12_lies 23 = .ok (.lload 7, 2) := by decide +kernel
theorem dX12_lies_25 : decode cX12_lies 25 = .ok (.lmul, 1) := by decide +kernel
theorem dX12_lies_26 : decode cX12_lies 26 = .ok (.ladd, 1) := by decide +kernel
theorem dX12_lies_27 : decode cX12_lies 27 = .ok (.aload_n 0, 1) := by decide +kernel
theorem dX12_lies_28 : decode cX12_lies 28 = .ok (.getfield 193, 3) := by decide +kernel
theorem dX12_lies_31 : decode cX12_lies 31 = .ok (.lmul, 1) := by decide +kernel
theorem dX12_lies_32 : decode cX12_lies 32 = .ok (.ldc2_w 202, 3) := by decide +kernel
theorem dX12_lies_35 : decode cX12_lies 35 = .ok (.lload 5, 2) := by decide +kernel
theorem dX12_lies_37 : decode cX12_lies 37 = .ok (.aload_n 0, 1) := by decide +kernel
theorem dX12_lies_38 : decode cX12_lies 38 = .ok (.getfield 187, 3) := by decide +kernel
theorem dX12_lies_41 : decode cX12_lies 41 = .ok (.lmul, 1) := by decide +kernel
theorem dX12_lies_42 : decode cX12_lies 42 = .ok (.lload 7, 2) := by decide +kernel
theorem dX12_lies_44 : decode cX12_lies 44 = .ok (.aload_n 0, 1) := by decide +kernel
theorem dX12_lies_45 : decode cX12_lies 45 = .ok (.getfield 190, 3) := by decide +kernel
theorem dX12_lies_48 : decode cX12_lies 48 = .ok (.lmul, 1) := by decide +kernel
theorem dX12_lies_49 : decode cX12_lies 49 = .ok (.ladd, 1) := by decide +kernel
theorem dX12_lies_50 : decode cX12_lies 50 = .ok (.lmul, 1) := by decide +kernel
theorem dX12_lies_51 : decode cX12_lies 51 = .ok (.lsub, 1) := by decide +kernel
theorem dX12_lies_52 : decode cX12_lies 52 = .ok (.lreturn, 1) := by decide +kernel
theorem dX12_holds_0 : decode cX12_holds 0 = .ok (.aload_n 0, 1) := by decide +kernel
theorem dX12_holds_1 : decode cX12_holds 1 = .ok (.aload_n 0, 1) := by decide +kernel
theorem dX12_holds_2 : decode cX12_holds 2 = .ok (.getfield 33, 3) := by decide +kernel
theorem dX12_holds_5 : decode cX12_holds 5 = .ok (.iload_n 1, 1) := by decide +kernel
theorem dX12_holds_6 : decode cX12_holds 6 = .ok (.iaload, 1) := by decide +kernel
theorem dX12_holds_7 : decode cX12_holds 7 = .ok (.i2l, 1) := by decide +kernel
theorem dX12_holds_8 : decode cX12_holds 8 = .ok (.aload_n 0, 1) := by decide +kernel
theorem dX12_holds_9 : decode cX12_holds 9 = .ok (.getfield 36, 3) := by decide +kernel
theorem dX12_holds_12 : decode cX12_holds 12 = .ok (.iload_n 1, 1) := by decide +kernel
theorem dX12_holds_13 : decode cX12_holds 13 = .ok (.iaload, 1) := by decide +kernel
theorem dX12_holds_14 : decode cX12_holds 14 = .ok (.i2l, 1) := by decide +kernel
theorem dX12_holds_15 : decode cX12_holds 15 = .ok (.invokevirtual 222, 3) := by decide +kernel
theorem dX12_holds_18 : decode cX12_holds 18 = .ok (.lconst 0, 1) := by decide +kernel
theorem dX12_holds_19 : decode cX12_holds 19 = .ok (.lcmp, 1) := by decide +kernel
theorem dX12_holds_20 : decode cX12_holds 20 = .ok (.ifCond .gt 7, 3) := by decide +kernel
theorem dX12_holds_23 : decode cX12_holds 23 = .ok (.iconst 1, 1) := by decide +kernel
theorem dX12_holds_24 : decode cX12_holds 24 = .ok (.goto 4, 3) := by decide +kernel
theorem dX12_holds_27 : decode cX12_holds 27 = .ok (.iconst 0, 1) := by decide +kernel
theorem dX12_holds_28 : decode cX12_holds 28 = .ok (.ireturn, 1) := by decide +kernel
theorem dX12_has_0 : decode cX12_has 0 = .ok (.lload_n 0, 1) := by decide +kernel
theorem dX12_has_1 : decode cX12_has 1 = .ok (.iload_n 2, 1) := by decide +kernel
theorem dX12_has_2 : decode cX12_has 2 = .ok (.lshr, 1) := by decide +kernel
theorem dX12_has_3 : decode cX12_has 3 = .ok (.lconst 1, 1) := by decide +kernel
theorem dX12_has_4 : decode cX12_has 4 = .ok (.land, 1) := by decide +kernel
theorem dX12_has_5 : decode cX12_has 5 = .ok (.lconst 1, 1) := by decide +kernel
theorem dX12_has_6 : decode cX12_has 6 = .ok (.lcmp, 1) := by decide +kernel
theorem dX12_has_7 : decode cX12_has 7 = .ok (.ifCond .ne 7, 3) := by decide +kernel
theorem dX12_has_10 : decode cX12_has 10 = .ok (.iconst 1, 1) := by decide +kernel
theorem dX12_has_11 : decode cX12_has 11 = .ok (.goto 4, 3) := by decide +kernel
theorem dX12_has_14 : decode cX12_has 14 = .ok (.iconst 0, 1) := by decide +kernel
theorem dX12_has_15 : decode cX12_has 15 = .ok (.ireturn, 1) := by decide +kernel
theorem dX12_holdsAll_0 : decode cX12_holdsAll 0 = .ok (.iconst 0, 1) := by decide +kernel
theorem dX12_holdsAll_1 : decode cX12_holdsAll 1 = .ok (.istore_n 3, 1) := by decide +kernel
theorem dX12_holdsAll_2 : decode cX12_holdsAll 2 = .ok (.iload_n 3, 1) := by decide +kernel
theorem dX12_holdsAll_3 : decode cX12_holdsAll 3 = .ok (.aload_n 0, 1) := by decide +kernel
theorem dX12_holdsAll_4 : decode cX12_holdsAll 4 = .ok (.getfield 157, 3) := by decide +kernel
theorem dX12_holdsAll_7 : decode cX12_holdsAll 7 = .ok (.if_icmp .ge 27, 3) := by decide +kernel
theorem dX12_holdsAll_10 : decode cX12_holdsAll 10 = .ok (.lload_n 1, 1) := by decide +kernel
theorem dX12_holdsAll_11 : decode cX12_holdsAll 11 = .ok (.iload_n 3, 1) := by decide +kernel
theorem dX12_holdsAll_12 : decode cX12_holdsAll 12 = .ok (.invokestatic 225, 3) := by decide +kernel
theorem dX12_holdsAll_15 : decode cX12_holdsAll 15 = .ok (.ifCond .eq 13, 3) := by decide +kernel
theorem dX12_holdsAll_18 : decode cX12_holdsAll 18 = .ok (.aload_n 0, 1) := by decide +kernel
theorem dX12_holdsAll_19 : decode cX12_holdsAll 19 = .ok (.iload_n 3, 1) := by decide +kernel
theorem dX12_holdsAll_20 : decode cX12_holdsAll 20 = .ok (.invokevirtual 229, 3) := by decide +kernel
theorem dX12_holdsAll_23 : decode cX12_holdsAll 23 = .ok (.ifCond .ne 5, 3) := by decide +kernel
theorem dX12_holdsAll_26 : decode cX12_holdsAll 26 = .ok (.iconst 0, 1) := by decide +kernel
theorem dX12_holdsAll_27 : decode cX12_holdsAll 27 = .ok (.ireturn, 1) := by decide +kernel
theorem dX12_holdsAll_28 : decode cX12_holdsAll 28 = .ok (.iinc 3 1, 3) := by decide +kernel
theorem dX12_holdsAll_31 : decode cX12_holdsAll 31 = .ok (.goto (-29), 3) := by decide +kernel
theorem dX12_holdsAll_34 : decode cX12_holdsAll 34 = .ok (.iconst 1, 1) := by decide +kernel
theorem dX12_holdsAll_35 : decode cX12_holdsAll 35 = .ok (.ireturn, 1) := by decide +kernel
theorem dX12_keepBest_0 : decode cX12_keepBest 0 = .ok (.aload_n 0, 1) := by decide +kernel
theorem dX12_keepBest_1 : decode cX12_keepBest 1 = .ok (.aload_n 0, 1) := by decide +kernel
theorem dX12_keepBest_2 : decode cX12_keepBest 2 = .ok (.getfield 180, 3) := by decide +kernel
theorem dX12_keepBest_5 : decode cX12_keepBest 5 = .ok (.putfield 232, 3) := by decide +kernel
theorem dX12_keepBest_8 : decode cX12_keepBest 8 = .ok (.aload_n 0, 1) := by decide +kernel
theorem dX12_keepBest_9 : decode cX12_keepBest 9 = .ok (.aload_n 0, 1) := by decide +kernel
theorem dX12_keepBest_10 : decode cX12_keepBest 10 = .ok (.getfield 184, 3) := by decide +kernel
theorem dX12_keepBest_13 : decode cX12_keepBest 13 = .ok (.putfield 235, 3) := by decide +kernel
theorem dX12_keepBest_16 : decode cX12_keepBest 16 = .ok (.aload_n 0, 1) := by decide +kernel
theorem dX12_keepBest_17 : decode cX12_keepBest 17 = .ok (.aload_n 0, 1) := by decide +kernel
theorem dX12_keepBest_18 : decode cX12_keepBest 18 = .ok (.getfield 187, 3) := by decide +kernel
theorem dX12_keepBest_21 : decode cX12_keepBest 21 = .ok (.putfield 238, 3) := by decide +kernel
theorem dX12_keepBest_24 : decode cX12_keepBest 24 = .ok (.aload_n 0, 1) := by decide +kernel
theorem dX12_keepBest_25 : decode cX12_keepBest 25 = .ok (.aload_n 0, 1) := by decide +kernel
theorem dX12_keepBest_26 : decode cX12_keepBest 26 = .ok (.getfield 190, 3) := by decide +kernel
theorem dX12_keepBest_29 : decode cX12_keepBest 29 = .ok (.putfield 241, 3) := by decide +kernel
theorem dX12_keepBest_32 : decode cX12_keepBest 32 = .ok (.aload_n 0, 1) := by decide +kernel
theorem dX12_keepBest_33 : decode cX12_keepBest 33 = .ok (.aload_n 0, 1) := by decide +kernel
theorem dX12_keepBest_34 : decode cX12_keepBest 34 = .ok (.getfield 193, 3) := by decide +kernel
theorem dX12_keepBest_37 : decode cX12_keepBest 37 = .ok (.putfield 244, 3) := by decide +kernel
theorem dX12_keepBest_40 : decode cX12_keepBest 40 = .ok (.aload_n 0, 1) := by decide +kernel
theorem dX12_keepBest_41 : decode cX12_keepBest 41 = .ok (.aload_n 0, 1) := by decide +kernel
theorem dX12_keepBest_42 : decode cX12_keepBest 42 = .ok (.getfield 196, 3) := by decide +kernel
theorem dX12_keepBest_45 : decode cX12_keepBest 45 = .ok (.putfield 247, 3) := by decide +kernel
theorem dX12_keepBest_48 : decode cX12_keepBest 48 = .ok (.aload_n 0, 1) := by decide +kernel
theorem dX12_keepBest_49 : decode cX12_keepBest 49 = .ok (.aload_n 0, 1) := by decide +kernel
theorem dX12_keepBest_50 : decode cX12_keepBest 50 = .ok (.getfield 199, 3) := by decide +kernel
theorem dX12_keepBest_53 : decode cX12_keepBest 53 = .ok (.putfield 250, 3) := by decide +kernel
theorem dX12_keepBest_56 : decode cX12_keepBest 56 = .ok (.return_, 1) := by decide +kernel
theorem dX12_takeBest_0 : decode cX12_takeBest 0 = .ok (.aload_n 0, 1) := by decide +kernel
theorem dX12_takeBest_1 : decode cX12_takeBest 1 = .ok (.aload_n 0, 1) := by decide +kernel
theorem dX12_takeBest_2 : decode cX12_takeBest 2 = .ok (.getfield 232, 3) := by decide +kernel
theorem dX12_takeBest_5 : decode cX12_takeBest 5 = .ok (.putfield 180, 3) := by decide +kernel
theorem dX12_takeBest_8 : decode cX12_takeBest 8 = .ok (.aload_n 0, 1) := by decide +kernel
theorem dX12_takeBest_9 : decode cX12_takeBest 9 = .ok (.aload_n 0, 1) := by decide +kernel
theorem dX12_takeBest_10 : decode cX12_takeBest 10 = .ok (.getfield 235, 3) := by decide +kernel
theorem dX12_takeBest_13 : decode cX12_takeBest 13 = .ok (.putfield 184, 3) := by decide +kernel
theorem dX12_takeBest_16 : decode cX12_takeBest 16 = .ok (.aload_n 0, 1) := by decide +kernel
theorem dX12_takeBest_17 : decode cX12_takeBest 17 = .ok (.aload_n 0, 1) := by decide +kernel
theorem dX12_takeBest_18 : decode cX12_takeBest 18 = .ok (.getfield 238, 3) := by decide +kernel
theorem dX12_takeBest_21 : decode cX12_takeBest 21 = .ok (.putfield 187, 3) := by decide +kernel
theorem dX12_takeBest_24 : decode cX12_takeBest 24 = .ok (.aload_n 0, 1) := by decide +kernel
theorem dX12_takeBest_25 : decode cX12_takeBest 25 = .ok (.aload_n 0, 1) := by decide +kernel
theorem dX12_takeBest_26 : decode cX12_takeBest 26 = .ok (.getfield 241, 3) := by decide +kernel
theorem dX12_takeBest_29 : decode cX12_takeBest 29 = .ok (.putfield 190, 3) := by decide +kernel
theorem dX12_takeBest_32 : decode cX12_takeBest 32 = .ok (.aload_n 0, 1) := by decide +kernel
theorem dX12_takeBest_33 : decode cX12_takeBest 33 = .ok (.aload_n 0, 1) := by decide +kernel
theorem dX12_takeBest_34 : decode cX12_takeBest 34 = .ok (.getfield 244, 3) := by decide +kernel
theorem dX12_takeBest_37 : decode cX12_takeBest 37 = .ok (.putfield 193, 3) := by decide +kernel
theorem dX12_takeBest_40 : decode cX12_takeBest 40 = .ok (.aload_n 0, 1) := by decide +kernel
theorem dX12_takeBest_41 : decode cX12_takeBest 41 = .ok (.aload_n 0, 1) := by decide +kernel
theorem dX12_takeBest_42 : decode cX12_takeBest 42 = .ok (.getfield 247, 3) := by decide +kernel
theorem dX12_takeBest_45 : decode cX12_takeBest 45 = .ok (.putfield 196, 3) := by decide +kernel
theorem dX12_takeBest_48 : decode cX12_takeBest 48 = .ok (.aload_n 0, 1) := by decide +kernel
theorem dX12_takeBest_49 : decode cX12_takeBest 49 = .ok (.aload_n 0, 1) := by decide +kernel
theorem dX12_takeBest_50 : decode cX12_takeBest 50 = .ok (.getfield 250, 3) := by decide +kernel
theorem dX12_takeBest_53 : decode cX12_takeBest 53 = .ok (.putfield 199, 3) := by decide +kernel
theorem dX12_takeBest_56 : decode cX12_takeBest 56 = .ok (.return_, 1) := by decide +kernel
theorem dX12_layCircle_0 : decode cX12_layCircle 0 = .ok (.iconst (-1), 1) := by decide +kernel
theorem dX12_layCircle_1 : decode cX12_layCircle 1 = .ok (.istore_n 3, 1) := by decide +kernel
theorem dX12_layCircle_2 : decode cX12_layCircle 2 = .ok (.iconst (-1), 1) := by decide +kernel
theorem dX12_layCircle_3 : decode cX12_layCircle 3 = .ok (.istore 4, 2) := by decide +kernel
theorem dX12_layCircle_5 : decode cX12_layCircle 5 = .ok (.ldc2_w 220, 3) := by decide +kernel
theorem dX12_layCircle_8 : decode cX12_layCircle 8 = .ok (.lstore 5, 2) := by decide +kernel
theorem dX12_layCircle_10 : decode cX12_layCircle 10 = .ok (.iconst 0, 1) := by decide +kernel
theorem dX12_layCircle_11 : decode cX12_layCircle 11 = .ok (.istore 7, 2) := by decide +kernel
theorem dX12_layCircle_13 : decode cX12_layCircle 13 = .ok (.iload 7, 2) := by decide +kernel
theorem dX12_layCircle_15 : decode cX12_layCircle 15 = .ok (.aload_n 0, 1) := by decide +kernel
theorem dX12_layCircle_16 : decode cX12_layCircle 16 = .ok (.getfield 157, 3) := by decide +kernel
theorem dX12_layCircle_19 : decode cX12_layCircle 19 = .ok (.if_icmp .ge 80, 3) := by decide +kernel
theorem dX12_layCircle_22 : decode cX12_layCircle 22 = .ok (.lload_n 1, 1) := by decide +kernel
theorem dX12_layCircle_23 : decode cX12_layCircle 23 = .ok (.iload 7, 2) := by decide +kernel
theorem dX12_layCircle_25 : decode cX12_layCircle 25 = .ok (.invokestatic 225, 3) := by decide +kernel
theorem dX12_layCircle_28 : decode cX12_layCircle 28 = .ok (.ifCond .ne 6, 3) := by decide +kernel
theorem dX12_layCircle_31 : decode cX12_layCircle 31 = .ok (.goto 62, 3) := by decide +kernel
theorem dX12_layCircle_34 : decode cX12_layCircle 34 = .ok (.iconst 0, 1) := by decide +kernel
theorem dX12_layCircle_35 : decode cX12_layCircle 35 = .ok (.istore 8, 2) := by decide +kernel
theorem dX12_layCircle_37 : decode cX12_layCircle 37 = .ok (.iload 8, 2) := by decide +kernel
theorem dX12_layCircle_39 : decode cX12_layCircle 39 = .ok (.iload 7, 2) := by decide +kernel
theorem dX12_layCircle_41 : decode cX12_layCircle 41 = .ok (.if_icmp .gt 52, 3) := by decide +kernel
theorem dX12_layCircle_44 : decode cX12_layCircle 44 = .ok (.lload_n 1, 1) := by decide +kernel
theorem dX12_layCircle_45 : decode cX12_layCircle 45 = .ok (.iload 8, 2) := by decide +kernel
theorem dX12_layCircle_47 : decode cX12_layCircle 47 = .ok (.invokestatic 225, 3) := by decide +kernel
theorem dX12_layCircle_50 : decode cX12_layCircle 50 = .ok (.ifCond .eq 37, 3) := by decide +kernel
theorem dX12_layCircle_53 : decode cX12_layCircle 53 = .ok (.aload_n 0, 1) := by decide +kernel
theorem dX12_layCircle_54 : decode cX12_layCircle 54 = .ok (.iload 7, 2) := by decide +kernel
theorem dX12_layCircle_56 : decode cX12_layCircle 56 = .ok (.iload 8, 2) := by decide +kernel
theorem dX12_layCircle_58 : decode cX12_layCircle 58 = .ok (.invokevirtual 204, 3) := by decide +kernel
theorem dX12_layCircle_61 : decode cX12_layCircle 61 = .ok (.lload 5, 2) := by decide +kernel
theorem dX12_layCircle_63 : decode cX12_layCircle 63 = .ok (.lcmp, 1) := by decide +kernel
theorem dX12_layCircle_64 : decode cX12_layCircle 64 = .ok (.ifCond .gt 6, 3) := by decide +kernel
theorem dX12_layCircle_67 : decode cX12_layCircle 67 = .ok (.goto 20, 3) := by decide +kernel
theorem dX12_layCircle_70 : decode cX12_layCircle 70 = .ok (.aload_n 0, 1) := by decide +kernel
theorem dX12_layCircle_71 : decode cX12_layCircle 71 = .ok (.iload 7, 2) := by decide +kernel
theorem dX12_layCircle_73 : decode cX12_layCircle 73 = .ok (.iload 8, 2) := by decide +kernel
theorem dX12_layCircle_75 : decode cX12_layCircle 75 = .ok (.invokevirtual 204, 3) := by decide +kernel
theorem dX12_layCircle_78 : decode cX12_layCircle 78 = .ok (.lstore 5, 2) := by decide +kernel
theorem dX12_layCircle_80 : decode cX12_layCircle 80 = .ok (.iload 7, 2) := by decide +kernel
theorem dX12_layCircle_82 : decode cX12_layCircle 82 = .ok (.istore_n 3, 1) := by decide +kernel
theorem dX12_layCircle_83 : decode cX12_layCircle 83 = .ok (.iload 8, 2) := by decide +kernel
theorem dX12_layCircle_85 : decode cX12_layCircle 85 = .ok (.istore 4, 2) := by decide +kernel
theorem dX12_layCircle_87 : decode cX12_layCircle 87 = .ok (.iinc 8 1, 3) := by decide +kernel
theorem dX12_layCircle_90 : decode cX12_layCircle 90 = .ok (.goto (-53), 3) := by decide +kernel
theorem dX12_layCircle_93 : decode cX12_layCircle 93 = .ok (.iinc 7 1, 3) := by decide +kernel
theorem dX12_layCircle_96 : decode cX12_layCircle 96 = .ok (.goto (-83), 3) := by decide +kernel
theorem dX12_layCircle_99 : decode cX12_layCircle 99 = .ok (.iload_n 3, 1) := by decide +kernel
theorem dX12_layCircle_100 : decode cX12_layCircle 100 = .ok (.iload 4, 2) := by decide +kernel
theorem dX12_layCircle_102 : decode cX12_layCircle 102 = .ok (.if_icmp .ne 9, 3) := by decide +kernel
theorem dX12_layCircle_105 : decode cX12_layCircle 105 = .ok (.aload_n 0, 1) := by decide +kernel
theorem dX12_layCircle_106 : decode cX12_layCircle 106 = .ok (.iload_n 3, 1) := by decide +kernel
theorem dX12_layCircle_107 : decode cX12_layCircle 107 = .ok (.invokevirtual 253, 3) := by decide +kernel
theorem dX12_layCircle_110 : decode cX12_layCircle 110 = .ok (.return_, 1) := by decide +kernel
theorem dX12_layCircle_111 : decode cX12_layCircle 111 = .ok (.aload_n 0, 1) := by decide +kernel
theorem dX12_layCircle_112 : decode cX12_layCircle 112 = .ok (.iload_n 3, 1) := by decide +kernel
theorem dX12_layCircle_113 : decode cX12_layCircle 113 = .ok (.iload 4, 2) := by decide +kernel
theorem dX12_layCircle_115 : decode cX12_layCircle 115 = .ok (.invokevirtual 256, 3) := by decide +kernel
theorem dX12_layCircle_118 : decode cX12_layCircle 118 = .ok (.aload_n 0, 1) := by decide +kernel
theorem dX12_layCircle_119 : decode cX12_layCircle 119 = .ok (.lload_n 1, 1) := by decide +kernel
theorem dX12_layCircle_120 : decode cX12_layCircle 120 = .ok (.invokevirtual 260, 3) := by decide +kernel
theorem dX12_layCircle_123 : decode cX12_layCircle 123 = .ok (.ifCond .ne 8, 3) := by decide +kernel
theorem dX12_layCircle_126 : decode cX12_layCircle 126 = .ok (.aload_n 0, 1) := by decide +kernel
theorem dX12_layCircle_127 : decode cX12_layCircle 127 = .ok (.lload_n 1, 1) := by decide +kernel
theorem dX12_layCircle_128 : decode cX12_layCircle 128 = .ok (.invokevirtual 264, 3) := by decide +kernel
theorem dX12_layCircle_131 : decode cX12_layCircle 131 = .ok (.return_, 1) := by decide +kernel
theorem dX12_layTriples_0 : decode cX12_layTriples 0 = .ok (.iconst 0, 1) := by decide +kernel
theorem dX12_layTriples_1 : decode cX12_layTriples 1 = .ok (.istore_n 3, 1) := by decide +kernel
theorem dX12_layTriples_2 : decode cX12_layTriples 2 = .ok (.iconst 0, 1) := by decide +kernel
theorem dX12_layTriples_3 : decode cX12_layTriples 3 = .ok (.istore 4, 2) := by decide +kernel
theorem dX12_layTriples_5 : decode cX12_layTriples 5 = .ok (.iload 4, 2) := by decide +kernel
theorem dX12_layTriples_7 : decode cX12_layTriples 7 = .ok (.aload_n 0, 1) := by decide +kernel
theorem dX12_layTriples_8 : decode cX12_layTriples 8 = .ok (.getfield 157, 3) := by decide +kernel
theorem dX12_layTriples_11 : decode cX12_layTriples 11 = .ok (.if_icmp .ge 124, 3) := by decide +kernel
theorem dX12_layTriples_14 : decode cX12_layTriples 14 = .ok (.iconst 0, 1) := by decide +kernel
theorem dX12_layTriples_15 : decode cX12_layTriples 15 = .ok (.istore 5, 2) := by decide +kernel
theorem dX12_layTriples_17 : decode cX12_layTriples 17 = .ok (.iload 5, 2) := by decide +kernel
theorem dX12_layTriples_19 : decode cX12_layTriples 19 = .ok (.iload 4, 2) := by decide +kernel
theorem dX12_layTriples_21 : decode cX12_layTriples 21 = .ok (.if_icmp .ge 108, 3) := by decide +kernel
theorem dX12_layTriples_24 : decode cX12_layTriples 24 = .ok (.lload_n 1, 1) := by decide +kernel
theorem dX12_layTriples_25 : decode cX12_layTriples 25 = .ok (.iload 4, 2) := by decide +kernel
theorem dX12_layTriples_27 : decode cX12_layTriples 27 = .ok (.invokestatic 225, 3) := by decide +kernel
theorem dX12_layTriples_30 : decode cX12_layTriples 30 = .ok (.ifCond .eq 99, 3) := by decide +kernel
theorem dX12_layTriples_33 : decode cX12_layTriples 33 = .ok (.iconst 0, 1) := by decide +kernel
theorem dX12_layTriples_34 : decode cX12_layTriples 34 = .ok (.istore 6, 2) := by decide +kernel
theorem dX12_layTriples_36 : decode cX12_layTriples 36 = .ok (.iload 6, 2) := by decide +kernel
theorem dX12_layTriples_38 : decode cX12_layTriples 38 = .ok (.iload 5, 2) := by decide +kernel
theorem dX12_layTriples_40 : decode cX12_layTriples 40 = .ok (.if_icmp .ge 83, 3) := by decide +kernel
theorem dX12_layTriples_43 : decode cX12_layTriples 43 = .ok (.lload_n 1, 1) := by decide +kernel
theorem dX12_layTriples_44 : decode cX12_layTriples 44 = .ok (.iload 5, 2) := by decide +kernel
theorem dX12_layTriples_46 : decode cX12_layTriples 46 = .ok (.invokestatic 225, 3) := by decide +kernel
theorem dX12_layTriples_49 : decode cX12_layTriples 49 = .ok (.ifCond .eq 74, 3) := by decide +kernel
theorem dX12_layTriples_52 : decode cX12_layTriples 52 = .ok (.lload_n 1, 1) := by decide +kernel
theorem dX12_layTriples_53 : decode cX12_layTriples 53 = .ok (.iload 6, 2) := by decide +kernel
theorem dX12_layTriples_55 : decode cX12_layTriples 55 = .ok (.invokestatic 225, 3) := by decide +kernel
theorem dX12_layTriples_58 : decode cX12_layTriples 58 = .ok (.ifCond .eq 59, 3) := by decide +kernel
theorem dX12_layTriples_61 : decode cX12_layTriples 61 = .ok (.aload_n 0, 1) := by decide +kernel
theorem dX12_layTriples_62 : decode cX12_layTriples 62 = .ok (.iload 4, 2) := by decide +kernel
theorem dX12_layTriples_64 : decode cX12_layTriples 64 = .ok (.iload 5, 2) := by decide +kernel
theorem dX12_layTriples_66 : decode cX12_layTriples 66 = .ok (.iload 6, 2) := by decide +kernel
theorem dX12_layTriples_68 : decode cX12_layTriples 68 = .ok (.invokevirtual 268, 3) := by decide +kernel
theorem dX12_layTriples_71 : decode cX12_layTriples 71 = .ok (.ifCond .eq 46, 3) := by decide +kernel
theorem dX12_layTriples_74 : decode cX12_layTriples 74 = .ok (.iload_n 3, 1) := by decide +kernel
theorem dX12_layTriples_75 : decode cX12_layTriples 75 = .ok (.ifCond .eq 25, 3) := by decide +kernel
theorem dX12_layTriples_78 : decode cX12_layTriples 78 = .ok (.aload_n 0, 1) := by decide +kernel
theorem dX12_layTriples_79 : decode cX12_layTriples 79 = .ok (.getfield 196, 3) := by decide +kernel
theorem dX12_layTriples_82 : decode cX12_layTriples 82 = .ok (.aload_n 0, 1) := by decide +kernel
theorem dX12_layTriples_83 : decode cX12_layTriples 83 = .ok (.getfield 199, 3) := by decide +kernel
theorem dX12_layTriples_86 : decode cX12_layTriples 86 = .ok (.aload_n 0, 1) := by decide +kernel
theorem dX12_layTriples_87 : decode cX12_layTriples 87 = .ok (.getfield 247, 3) := by decide +kernel
theorem dX12_layTriples_90 : decode cX12_layTriples 90 = .ok (.aload_n 0, 1) := by decide +kernel
theorem dX12_layTriples_91 : decode cX12_layTriples 91 = .ok (.getfield 250, 3) := by decide +kernel
theorem dX12_layTriples_94 : decode cX12_layTriples 94 = .ok (.invokestatic 271, 3) := by decide +kernel
theorem dX12_layTriples_97 : decode cX12_layTriples 97 = .ok (.ifCond .ge 20, 3) := by decide +kernel
theorem dX12_layTriples_100 : decode cX12_layTriples 100 = .ok (.aload_n 0, 1) := by decide +kernel
theorem dX12_layTriples_101 : decode cX12_layTriples 101 = .ok (.lload_n 1, 1) := by decide +kernel
theorem dX12_layTriples_102 : decode cX12_layTriples 102 = .ok (.invokevirtual 260, 3) := by decide +kernel
theorem dX12_layTriples_105 : decode cX12_layTriples 105 = .ok (.ifCond .ne 6, 3) := by decide +kernel
theorem dX12_layTriples_108 : decode cX12_layTriples 108 = .ok (.goto 9, 3) := by decide +kernel
theorem dX12_layTriples_111 : decode cX12_layTriples 111 = .ok (.iconst 1, 1) := by decide +kernel
theorem dX12_layTriples_112 : decode cX12_layTriples 112 = .ok (.istore_n 3, 1) := by decide +kernel
theorem dX12_layTriples_113 : decode cX12_layTriples 113 = .ok (.aload_n 0, 1) := by decide +kernel
theorem dX12_layTriples_114 : decode cX12_layTriples 114 = .ok (.invokevirtual 275, 3) := by decide +kernel
theorem dX12_layTriples_117 : decode cX12_layTriples 117 = .ok (.iinc 6 1, 3) := by decide +kernel
theorem dX12_layTriples_120 : decode cX12_layTriples 120 = .ok (.goto (-84), 3) := by decide +kernel
theorem dX12_layTriples_123 : decode cX12_layTriples 123 = .ok (.iinc 5 1, 3) := by decide +kernel
theorem dX12_layTriples_126 : decode cX12_layTriples 126 = .ok (.goto (-109), 3) := by decide +kernel
theorem dX12_layTriples_129 : decode cX12_layTriples 129 = .ok (.iinc 4 1, 3) := by decide +kernel
theorem dX12_layTriples_132 : decode cX12_layTriples 132 = .ok (.goto (-127), 3) := by decide +kernel
theorem dX12_layTriples_135 : decode cX12_layTriples 135 = .ok (.aload_n 0, 1) := by decide +kernel
theorem dX12_layTriples_136 : decode cX12_layTriples 136 = .ok (.invokevirtual 278, 3) := by decide +kernel
theorem dX12_layTriples_139 : decode cX12_layTriples 139 = .ok (.return_, 1) := by decide +kernel
theorem dX12_allSpots_0 : decode cX12_allSpots 0 = .ok (.lconst 1, 1) := by decide +kernel
theorem dX12_allSpots_1 : decode cX12_allSpots 1 = .ok (.aload_n 0, 1) := by decide +kernel
theorem dX12_allSpots_2 : decode cX12_allSpots 2 = .ok (.getfield 157, 3) := by decide +kernel
theorem dX12_allSpots_5 : decode cX12_allSpots 5 = .ok (.lshl, 1) := by decide +kernel
theorem dX12_allSpots_6 : decode cX12_allSpots 6 = .ok (.lconst 1, 1) := by decide +kernel
theorem dX12_allSpots_7 : decode cX12_allSpots 7 = .ok (.lsub, 1) := by decide +kernel
theorem dX12_allSpots_8 : decode cX12_allSpots 8 = .ok (.lreturn, 1) := by decide +kernel
theorem dX12_hasCircle_0 : decode cX12_hasCircle 0 = .ok (.aload_n 0, 1) := by decide +kernel
theorem dX12_hasCircle_1 : decode cX12_hasCircle 1 = .ok (.iload_n 1, 1) := by decide +kernel
theorem dX12_hasCircle_2 : decode cX12_hasCircle 2 = .ok (.invokevirtual 173, 3) := by decide +kernel
theorem dX12_hasCircle_5 : decode cX12_hasCircle 5 = .ok (.ifCond .ne 5, 3) := by decide +kernel
theorem dX12_hasCircle_8 : decode cX12_hasCircle 8 = .ok (.iconst 0, 1) := by decide +kernel
theorem dX12_hasCircle_9 : decode cX12_hasCircle 9 = .ok (.ireturn, 1) := by decide +kernel
theorem dX12_hasCircle_10 : decode cX12_hasCircle 10 = .ok (.aload_n 0, 1) := by decide +kernel
theorem dX12_hasCircle_11 : decode cX12_hasCircle 11 = .ok (.aload_n 0, 1) := by decide +kernel
theorem dX12_hasCircle_12 : decode cX12_hasCircle 12 = .ok (.invokevirtual 281, 3) := by decide +kernel
theorem dX12_hasCircle_15 : decode cX12_hasCircle 15 = .ok (.invokevirtual 285, 3) := by decide +kernel
theorem dX12_hasCircle_18 : decode cX12_hasCircle 18 = .ok (.iconst 1, 1) := by decide +kernel
theorem dX12_hasCircle_19 : decode cX12_hasCircle 19 = .ok (.ireturn, 1) := by decide +kernel
theorem dX12_circle_0 : decode cX12_circle 0 = .ok (.aload_n 0, 1) := by decide +kernel
theorem dX12_circle_1 : decode cX12_circle 1 = .ok (.iload_n 1, 1) := by decide +kernel
theorem dX12_circle_2 : decode cX12_circle 2 = .ok (.invokevirtual 288, 3) := by decide +kernel
theorem dX12_circle_5 : decode cX12_circle 5 = .ok (.ifCond .ne 7, 3) := by decide +kernel
theorem dX12_circle_8 : decode cX12_circle 8 = .ok (.ldc2_w 291, 3) := by decide +kernel
theorem dX12_circle_11 : decode cX12_circle 11 = .ok (.lreturn, 1) := by decide +kernel
theorem dX12_circle_12 : decode cX12_circle 12 = .ok (.iload_n 2, 1) := by decide +kernel
theorem dX12_circle_13 : decode cX12_circle 13 = .ok (.tableswitch 137 0 5 #[39, 44, 49, 71, 93, 115], 39) := by decide +kernel
theorem dX12_circle_52 : decode cX12_circle 52 = .ok (.aload_n 0, 1) := by decide +kernel
theorem dX12_circle_53 : decode cX12_circle 53 = .ok (.getfield 196, 3) := by decide +kernel
theorem dX12_circle_56 : decode cX12_circle 56 = .ok (.lreturn, 1) := by decide +kernel
theorem dX12_circle_57 : decode cX12_circle 57 = .ok (.aload_n 0, 1) := by decide +kernel
theorem dX12_circle_58 : decode cX12_circle 58 = .ok (.getfield 199, 3) := by decide +kernel
theorem dX12_circle_61 : decode cX12_circle 61 = .ok (.lreturn, 1) := by decide +kernel
theorem dX12_circle_62 : decode cX12_circle 62 = .ok (.aload_n 0, 1) := by decide +kernel
theorem dX12_circle_63 : decode cX12_circle 63 = .ok (.getfield 180, 3) := by decide +kernel
theorem dX12_circle_66 : decode cX12_circle 66 = .ok (.aload_n 0, 1) := by decide +kernel
theorem dX12_circle_67 : decode cX12_circle 67 = .ok (.getfield 193, 3) := by decide +kernel
theorem dX12_circle_70 : decode cX12_circle 70 = .ok (.lmul, 1) := by decide +kernel
theorem dX12_circle_71 : decode cX12_circle 71 = .ok (.aload_n 0, 1) := by decide +kernel
theorem dX12_circle_72 : decode cX12_circle 72 = .ok (.getfield 187, 3) := by decide +kernel
theorem dX12_circle_75 : decode cX12_circle 75 = .ok (.ladd, 1) := by decide +kernel
theorem dX12_circle_76 : decode cX12_circle 76 = .ok (.aload_n 0, 1) := by decide +kernel
theorem dX12_circle_77 : decode cX12_circle 77 = .ok (.getfield 193, 3) := by decide +kernel
theorem dX12_circle_80 : decode cX12_circle 80 = .ok (.invokestatic 210, 3) := by decide +kernel
theorem dX12_circle_83 : decode cX12_circle 83 = .ok (.lreturn, 1) := by decide +kernel
theorem dX12_circle_84 : decode cX12_circle 84 = .ok (.aload_n 0, 1) := by decide +kernel
theorem dX12_circle_85 : decode cX12_circle 85 = .ok (.getfield 180, 3) := by decide +kernel
theorem dX12_circle_88 : decode cX12_circle 88 = .ok (.aload_n 0, 1) := by decide +kernel
theorem dX12_circle_89 : decode cX12_circle 89 = .ok (.getfield 193, 3) := by decide +kernel
theorem dX12_circle_92 : decode cX12_circle 92 = .ok (.lmul, 1) := by decide +kernel
theorem dX12_circle_93 : decode cX12_circle 93 = .ok (.aload_n 0, 1) := by decide +kernel
theorem dX12_circle_94 : decode cX12_circle 94 = .ok (.getfield 187, 3) := by decide +kernel
theorem dX12_circle_97 : decode cX12_circle 97 = .ok (.ladd, 1) := by decide +kernel
theorem dX12_circle_98 : decode cX12_circle 98 = .ok (.aload_n 0, 1) := by decide +kernel
theorem dX12_circle_99 : decode cX12_circle 99 = .ok (.getfield 193, 3) := by decide +kernel
theorem dX12_circle_102 : decode cX12_circle 102 = .ok (.invokestatic 213, 3) := by decide +kernel
theorem dX12_circle_105 : decode cX12_circle 105 = .ok (.lreturn, 1) := by decide +kernel
theorem dX12_circle_106 : decode cX12_circle 106 = .ok (.aload_n 0, 1) := by decide +kernel
theorem dX12_circle_107 : decode cX12_circle 107 = .ok (.getfield 184, 3) := by decide +kernel
theorem dX12_circle_110 : decode cX12_circle 110 = .ok (.aload_n 0, 1) := by decide +kernel
theorem dX12_circle_111 : decode cX12_circle 111 = .ok (.getfield 193, 3) := by decide +kernel
theorem dX12_circle_114 : decode cX12_circle 114 = .ok (.lmul, 1) := by decide +kernel
theorem dX12_circle_115 : decode cX12_circle 115 = .ok (.aload_n 0, 1) := by decide +kernel
theorem dX12_circle_116 : decode cX12_circle 116 = .ok (.getfield 190, 3) := by decide +kernel
theorem dX12_circle_119 : decode cX12_circle 119 = .ok (.ladd, 1) := by decide +kernel
theorem dX12_circle_120 : decode cX12_circle 120 = .ok (.aload_n 0, 1) := by decide +kernel
theorem dX12_circle_121 : decode cX12_circle 121 = .ok (.getfield 193, 3) := by decide +kernel
theorem dX12_circle_124 : decode cX12_circle 124 = .ok (.invokestatic 210, 3) := by decide +kernel
theorem dX12_circle_127 : decode cX12_circle 127 = .ok (.lreturn, 1) := by decide +kernel
theorem dX12_circle_128 : decode cX12_circle 128 = .ok (.aload_n 0, 1) := by decide +kernel
theorem dX12_circle_129 : decode cX12_circle 129 = .ok (.getfield 184, 3) := by decide +kernel
theorem dX12_circle_132 : decode cX12_circle 132 = .ok (.aload_n 0, 1) := by decide +kernel
theorem dX12_circle_133 : decode cX12_circle 133 = .ok (.getfield 193, 3) := by decide +kernel
theorem dX12_circle_136 : decode cX12_circle 136 = .ok (.lmul, 1) := by decide +kernel
theorem dX12_circle_137 : decode cX12_circle 137 = .ok (.aload_n 0, 1) := by decide +kernel
theorem dX12_circle_138 : decode cX12_circle 138 = .ok (.getfield 190, 3) := by decide +kernel
theorem dX12_circle_141 : decode cX12_circle 141 = .ok (.ladd, 1) := by decide +kernel
theorem dX12_circle_142 : decode cX12_circle 142 = .ok (.aload_n 0, 1) := by decide +kernel
theorem dX12_circle_143 : decode cX12_circle 143 = .ok (.getfield 193, 3) := by decide +kernel
theorem dX12_circle_146 : decode cX12_circle 146 = .ok (.invokestatic 213, 3) := by decide +kernel
theorem dX12_circle_149 : decode cX12_circle 149 = .ok (.lreturn, 1) := by decide +kernel
theorem dX12_circle_150 : decode cX12_circle 150 = .ok (.ldc2_w 291, 3) := by decide +kernel
theorem dX12_circle_153 : decode cX12_circle 153 = .ok (.lreturn, 1) := by decide +kernel
theorem dX12_rim_0 : decode cX12_rim 0 = .ok (.aload_n 0, 1) := by decide +kernel
theorem dX12_rim_1 : decode cX12_rim 1 = .ok (.iload_n 1, 1) := by decide +kernel
theorem dX12_rim_2 : decode cX12_rim 2 = .ok (.invokevirtual 288, 3) := by decide +kernel
theorem dX12_rim_5 : decode cX12_rim 5 = .ok (.ifCond .ne 5, 3) := by decide +kernel
theorem dX12_rim_8 : decode cX12_rim 8 = .ok (.iconst (-1), 1) := by decide +kernel
theorem dX12_rim_9 : decode cX12_rim 9 = .ok (.ireturn, 1) := by decide +kernel
theorem dX12_rim_10 : decode cX12_rim 10 = .ok (.iconst 0, 1) := by decide +kernel
theorem dX12_rim_11 : decode cX12_rim 11 = .ok (.istore_n 2, 1) := by decide +kernel
theorem dX12_rim_12 : decode cX12_rim 12 = .ok (.iconst 0, 1) := by decide +kernel
theorem dX12_rim_13 : decode cX12_rim 13 = .ok (.istore_n 3, 1) := by decide +kernel
theorem dX12_rim_14 : decode cX12_rim 14 = .ok (.iload_n 3, 1) := by decide +kernel
theorem dX12_rim_15 : decode cX12_rim 15 = .ok (.aload_n 0, 1) := by decide +kernel
theorem dX12_rim_16 : decode cX12_rim 16 = .ok (.getfield 157, 3) := by decide +kernel
theorem dX12_rim_19 : decode cX12_rim 19 = .ok (.if_icmp .ge 40, 3) := by decide +kernel
theorem dX12_rim_22 : decode cX12_rim 22 = .ok (.iload_n 2, 1) := by decide +kernel
theorem dX12_rim_23 : decode cX12_rim 23 = .ok (.aload_n 0, 1) := by decide +kernel
theorem dX12_rim_24 : decode cX12_rim 24 = .ok (.aload_n 0, 1) := by decide +kernel
theorem dX12_rim_25 : decode cX12_rim 25 = .ok (.getfield 33, 3) := by decide +kernel
theorem dX12_rim_28 : decode cX12_rim 28 = .ok (.iload_n 3, 1) := by decide +kernel
theorem dX12_rim_29 : decode cX12_rim 29 = .ok (.iaload, 1) := by decide +kernel
theorem dX12_rim_30 : decode cX12_rim 30 = .ok (.i2l, 1) := by decide +kernel
theorem dX12_rim_31 : decode cX12_rim 31 = .ok (.aload_n 0, 1) := by decide +kernel
theorem dX12_rim_32 : decode cX12_rim 32 = .ok (.getfield 36, 3) := by decide +kernel
theorem dX12_rim_35 : decode cX12_rim 35 = .ok (.iload_n 3, 1) := by decide +kernel
theorem dX12_rim_36 : decode cX12_rim 36 = .ok (.iaload, 1) := by decide +kernel
theorem dX12_rim_37 : decode cX12_rim 37 = .ok (.i2l, 1) := by decide +kernel
theorem dX12_rim_38 : decode cX12_rim 38 = .ok (.invokevirtual 222, 3) := by decide +kernel
theorem dX12_rim_41 : decode cX12_rim 41 = .ok (.lconst 0, 1) := by decide +kernel
theorem dX12_rim_42 : decode cX12_rim 42 = .ok (.lcmp, 1) := by decide +kernel
theorem dX12_rim_43 : decode cX12_rim 43 = .ok (.ifCond .ne 7, 3) := by decide +kernel
theorem dX12_rim_46 : decode cX12_rim 46 = .ok (.iconst 1, 1) := by decide +kernel
theorem dX12_rim_47 : decode cX12_rim 47 = .ok (.goto 4, 3) := by decide +kernel
theorem dX12_rim_50 : decode cX12_rim 50 = .ok (.iconst 0, 1) := by decide +kernel
theorem dX12_rim_51 : decode cX12_rim 51 = .ok (.iadd, 1) := by decide +kernel
theorem dX12_rim_52 : decode cX12_rim 52 = .ok (.istore_n 2, 1) := by decide +kernel
theorem dX12_rim_53 : decode cX12_rim 53 = .ok (.iinc 3 1, 3) := by decide +kernel
theorem dX12_rim_56 : decode cX12_rim 56 = .ok (.goto (-42), 3) := by decide +kernel
theorem dX12_rim_59 : decode cX12_rim 59 = .ok (.iload_n 2, 1) := by decide +kernel
theorem dX12_rim_60 : decode cX12_rim 60 = .ok (.ireturn, 1) := by decide +kernel
theorem dX12_isFar_0 : decode cX12_isFar 0 = .ok (.iload_n 0, 1) := by decide +kernel
theorem dX12_isFar_1 : decode cX12_isFar 1 = .ok (.iload_n 1, 1) := by decide +kernel
theorem dX12_isFar_2 : decode cX12_isFar 2 = .ok (.ineg, 1) := by decide +kernel
theorem dX12_isFar_3 : decode cX12_isFar 3 = .ok (.iload_n 1, 1) := by decide +kernel
theorem dX12_isFar_4 : decode cX12_isFar 4 = .ok (.invokestatic 76, 3) := by decide +kernel
theorem dX12_isFar_7 : decode cX12_isFar 7 = .ok (.ireturn, 1) := by decide +kernel
theorem dX12_inside_0 : decode cX12_inside 0 = .ok (.iload_n 2, 1) := by decide +kernel
theorem dX12_inside_1 : decode cX12_inside 1 = .ok (.sipush 300, 3) := by decide +kernel
theorem dX12_inside_4 : decode cX12_inside 4 = .ok (.invokestatic 293, 3) := by decide +kernel
theorem dX12_inside_7 : decode cX12_inside 7 = .ok (.ifCond .eq 21, 3) := by decide +kernel
theorem dX12_inside_10 : decode cX12_inside 10 = .ok (.iload_n 3, 1) := by decide +kernel
theorem dX12_inside_11 : decode cX12_inside 11 = .ok (.sipush 300, 3) := by decide +kernel
theorem dX12_inside_14 : decode cX12_inside 14 = .ok (.invokestatic 293, 3) := by decide +kernel
theorem dX12_inside_17 : decode cX12_inside 17 = .ok (.ifCond .eq 11, 3) := by decide +kernel
theorem dX12_inside_20 : decode cX12_inside 20 = .ok (.aload_n 0, 1) := by decide +kernel
theorem dX12_inside_21 : decode cX12_inside 21 = .ok (.iload_n 1, 1) := by decide +kernel
theorem dX12_inside_22 : decode cX12_inside 22 = .ok (.invokevirtual 288, 3) := by decide +kernel
theorem dX12_inside_25 : decode cX12_inside 25 = .ok (.ifCond .ne 5, 3) := by decide +kernel
theorem dX12_inside_28 : decode cX12_inside 28 = .ok (.iconst (-1), 1) := by decide +kernel
theorem dX12_inside_29 : decode cX12_inside 29 = .ok (.ireturn, 1) := by decide +kernel
theorem dX12_inside_30 : decode cX12_inside 30 = .ok (.aload_n 0, 1) := by decide +kernel
theorem dX12_inside_31 : decode cX12_inside 31 = .ok (.iload_n 2, 1) := by decide +kernel
theorem dX12_inside_32 : decode cX12_inside 32 = .ok (.i2l, 1) := by decide +kernel
theorem dX12_inside_33 : decode cX12_inside 33 = .ok (.iload_n 3, 1) := by decide +kernel
theorem dX12_inside_34 : decode cX12_inside 34 = .ok (.i2l, 1) := by decide +kernel
theorem dX12_inside_35 : decode cX12_inside 35 = .ok (.invokevirtual 222, 3) := by decide +kernel
theorem dX12_inside_38 : decode cX12_inside 38 = .ok (.lstore 4, 2) := by decide +kernel
theorem dX12_inside_40 : decode cX12_inside 40 = .ok (.lload 4, 2) := by decide +kernel
theorem dX12_inside_42 : decode cX12_inside 42 = .ok (.lconst 0, 1) := by decide +kernel
theorem dX12_inside_43 : decode cX12_inside 43 = .ok (.lcmp, 1) := by decide +kernel
theorem dX12_inside_44 : decode cX12_inside 44 = .ok (.ifCond .ge 7, 3) := by decide +kernel
theorem dX12_inside_47 : decode cX12_inside 47 = .ok (.iconst 2, 1) := by decide +kernel
theorem dX12_inside_48 : decode cX12_inside 48 = .ok (.goto 15, 3) := by decide +kernel
theorem dX12_inside_51 : decode cX12_inside 51 = .ok (.lload 4, 2) := by decide +kernel
theorem dX12_inside_53 : decode cX12_inside 53 = .ok (.lconst 0, 1) := by decide +kernel
theorem dX12_inside_54 : decode cX12_inside 54 = .ok (.lcmp, 1) := by decide +kernel
theorem dX12_inside_55 : decode cX12_inside 55 = .ok (.ifCond .ne 7, 3) := by decide +kernel
theorem dX12_inside_58 : decode cX12_inside 58 = .ok (.iconst 1, 1) := by decide +kernel
theorem dX12_inside_59 : decode cX12_inside 59 = .ok (.goto 4, 3) := by decide +kernel
theorem dX12_inside_62 : decode cX12_inside 62 = .ok (.iconst 0, 1) := by decide +kernel
theorem dX12_inside_63 : decode cX12_inside 63 = .ok (.ireturn, 1) := by decide +kernel
theorem dX12_layOrder_0 : decode cX12_layOrder 0 = .ok (.iconst 0, 1) := by decide +kernel
theorem dX12_layOrder_1 : decode cX12_layOrder 1 = .ok (.istore_n 1, 1) := by decide +kernel
theorem dX12_layOrder_2 : decode cX12_layOrder 2 = .ok (.iload_n 1, 1) := by decide +kernel
theorem dX12_layOrder_3 : decode cX12_layOrder 3 = .ok (.aload_n 0, 1) := by decide +kernel
theorem dX12_layOrder_4 : decode cX12_layOrder 4 = .ok (.getfield 157, 3) := by decide +kernel
theorem dX12_layOrder_7 : decode cX12_layOrder 7 = .ok (.if_icmp .ge 64, 3) := by decide +kernel
theorem dX12_layOrder_10 : decode cX12_layOrder 10 = .ok (.iload_n 1, 1) := by decide +kernel
theorem dX12_layOrder_11 : decode cX12_layOrder 11 = .ok (.istore_n 2, 1) := by decide +kernel
theorem dX12_layOrder_12 : decode cX12_layOrder 12 = .ok (.iload_n 2, 1) := by decide +kernel
theorem dX12_layOrder_13 : decode cX12_layOrder 13 = .ok (.ifCond .le 45, 3) := by decide +kernel
theorem dX12_layOrder_16 : decode cX12_layOrder 16 = .ok (.aload_n 0, 1) := by decide +kernel
theorem dX12_layOrder_17 : decode cX12_layOrder 17 = .ok (.getfield 39, 3) := by decide +kernel
theorem dX12_layOrder_20 : decode cX12_layOrder 20 = .ok (.aload_n 0, 1) := by decide +kernel
theorem dX12_layOrder_21 : decode cX12_layOrder 21 = .ok (.getfield 42, 3) := by decide +kernel
theorem dX12_layOrder_24 : decode cX12_layOrder 24 = .ok (.iload_n 2, 1) := by decide +kernel
theorem dX12_layOrder_25 : decode cX12_layOrder 25 = .ok (.iconst 1, 1) := by decide +kernel
theorem dX12_layOrder_26 : decode cX12_layOrder 26 = .ok (.isub, 1) := by decide +kernel
theorem dX12_layOrder_27 : decode cX12_layOrder 27 = .ok (.iaload, 1) := by decide +kernel
theorem dX12_layOrder_28 : decode cX12_layOrder 28 = .ok (.iaload, 1) := by decide +kernel
theorem dX12_layOrder_29 : decode cX12_layOrder 29 = .ok (.aload_n 0, 1) := by decide +kernel
theorem dX12_layOrder_30 : decode cX12_layOrder 30 = .ok (.getfield 39, 3) := by decide +kernel
theorem dX12_layOrder_33 : decode cX12_layOrder 33 = .ok (.iload_n 1, 1) := by decide +kernel
theorem dX12_layOrder_34 : decode cX12_layOrder 34 = .ok (.iaload, 1) := by decide +kernel
theorem dX12_layOrder_35 : decode cX12_layOrder 35 = .ok (.if_icmp .le 23, 3) := by decide +kernel
theorem dX12_layOrder_38 : decode cX12_layOrder 38 = .ok (.aload_n 0, 1) := by decide +kernel
theorem dX12_layOrder_39 : decode cX12_layOrder 39 = .ok (.getfield 42, 3) := by decide +kernel
theorem dX12_layOrder_42 : decode cX12_layOrder 42 = .ok (.iload_n 2, 1) := by decide +kernel
theorem dX12_layOrder_43 : decode cX12_layOrder 43 = .ok (.aload_n 0, 1) := by decide +kernel
theorem dX12_layOrder_44 : decode cX12_layOrder 44 = .ok (.getfield 42, 3) := by decide +kernel
theorem dX12_layOrder_47 : decode cX12_layOrder 47 = .ok (.iload_n 2, 1) := by decide +kernel
theorem dX12_layOrder_48 : decode cX12_layOrder 48 = .ok (.iconst 1, 1) := by decide +kernel
theorem dX12_layOrder_49 : decode cX12_layOrder 49 = .ok (.isub, 1) := by decide +kernel
theorem dX12_layOrder_50 : decode cX12_layOrder 50 = .ok (.iaload, 1) := by decide +kernel
theorem dX12_layOrder_51 : decode cX12_layOrder 51 = .ok (.iastore, 1) := by decide +kernel
theorem dX12_layOrder_52 : decode cX12_layOrder 52 = .ok (.iinc 2 (-1), 3) := by decide +kernel
theorem dX12_layOrder_55 : decode cX12_layOrder 55 = .ok (.goto (-43), 3) := by decide +kernel
theorem dX12_layOrder_58 : decode cX12_layOrder 58 = .ok (.aload_n 0, 1) := by decide +kernel
theorem dX12_layOrder_59 : decode cX12_layOrder 59 = .ok (.getfield 42, 3) := by decide +kernel
theorem dX12_layOrder_62 : decode cX12_layOrder 62 = .ok (.iload_n 2, 1) := by decide +kernel
theorem dX12_layOrder_63 : decode cX12_layOrder 63 = .ok (.iload_n 1, 1) := by decide +kernel
theorem dX12_layOrder_64 : decode cX12_layOrder 64 = .ok (.iastore, 1) := by decide +kernel
theorem dX12_layOrder_65 : decode cX12_layOrder 65 = .ok (.iinc 1 1, 3) := by decide +kernel
theorem dX12_layOrder_68 : decode cX12_layOrder 68 = .ok (.goto (-66), 3) := by decide +kernel
theorem dX12_layOrder_71 : decode cX12_layOrder 71 = .ok (.return_, 1) := by decide +kernel
theorem dX12_isTightPair_0 : decode cX12_isTightPair 0 = .ok (.aload_n 0, 1) := by decide +kernel
theorem dX12_isTightPair_1 : decode cX12_isTightPair 1 = .ok (.iload_n 1, 1) := by decide +kernel
theorem dX12_isTightPair_2 : decode cX12_isTightPair 2 = .ok (.iload_n 2, 1) := by decide +kernel
theorem dX12_isTightPair_3 : decode cX12_isTightPair 3 = .ok (.invokevirtual 204, 3) := by decide +kernel
theorem dX12_isTightPair_6 : decode cX12_isTightPair 6 = .ok (.lstore_n 3, 1) := by decide +kernel
theorem dX12_isTightPair_7 : decode cX12_isTightPair 7 = .ok (.lload_n 3, 1) := by decide +kernel
theorem dX12_isTightPair_8 : decode cX12_isTightPair 8 = .ok (.ldc2_w 208, 3) := by decide +kernel
theorem dX12_isTightPair_11 : decode cX12_isTightPair 11 = .ok (.invokestatic 210, 3) := by decide +kernel
theorem dX12_isTightPair_14 : decode cX12_isTightPair 14 = .ok (.aload_n 0, 1) := by decide +kernel
theorem dX12_isTightPair_15 : decode cX12_isTightPair 15 = .ok (.getfield 196, 3) := by decide +kernel
theorem dX12_isTightPair_18 : decode cX12_isTightPair 18 = .ok (.lcmp, 1) := by decide +kernel
theorem dX12_isTightPair_19 : decode cX12_isTightPair 19 = .ok (.ifCond .ne 22, 3) := by decide +kernel
theorem dX12_isTightPair_22 : decode cX12_isTightPair 22 = .ok (.lload_n 3, 1) := by decide +kernel
theorem dX12_isTightPair_23 : decode cX12_isTightPair 23 = .ok (.ldc2_w 208, 3) := by decide +kernel
theorem dX12_isTightPair_26 : decode cX12_isTightPair 26 = .ok (.invokestatic 213, 3) := by decide +kernel
theorem dX12_isTightPair_29 : decode cX12_isTightPair 29 = .ok (.aload_n 0, 1) := by decide +kernel
theorem dX12_isTightPair_30 : decode cX12_isTightPair 30 = .ok (.getfield 199, 3) := by decide +kernel
theorem dX12_isTightPair_33 : decode cX12_isTightPair 33 = .ok (.lcmp, 1) := by decide +kernel
theorem dX12_isTightPair_34 : decode cX12_isTightPair 34 = .ok (.ifCond .ne 7, 3) := by decide +kernel
theorem dX12_isTightPair_37 : decode cX12_isTightPair 37 = .ok (.iconst 1, 1) := by decide +kernel
theorem dX12_isTightPair_38 : decode cX12_isTightPair 38 = .ok (.goto 4, 3) := by decide +kernel
theorem dX12_isTightPair_41 : decode cX12_isTightPair 41 = .ok (.iconst 0, 1) := by decide +kernel
theorem dX12_isTightPair_42 : decode cX12_isTightPair 42 = .ok (.ireturn, 1) := by decide +kernel
theorem dX12_isTightTriple_0 : decode cX12_isTightTriple 0 = .ok (.aload_n 0, 1) := by decide +kernel
theorem dX12_isTightTriple_1 : decode cX12_isTightTriple 1 = .ok (.aload_n 0, 1) := by decide +kernel
theorem dX12_isTightTriple_2 : decode cX12_isTightTriple 2 = .ok (.getfield 33, 3) := by decide +kernel
theorem dX12_isTightTriple_5 : decode cX12_isTightTriple 5 = .ok (.iload_n 1, 1) := by decide +kernel
theorem dX12_isTightTriple_6 : decode cX12_isTightTriple 6 = .ok (.iaload, 1) := by decide +kernel
theorem dX12_isTightTriple_7 : decode cX12_isTightTriple 7 = .ok (.i2l, 1) := by decide +kernel
theorem dX12_isTightTriple_8 : decode cX12_isTightTriple 8 = .ok (.aload_n 0, 1) := by decide +kernel
theorem dX12_isTightTriple_9 : decode cX12_isTightTriple 9 = .ok (.getfield 36, 3) := by decide +kernel
theorem dX12_isTightTriple_12 : decode cX12_isTightTriple 12 = .ok (.iload_n 1, 1) := by decide +kernel
theorem dX12_isTightTriple_13 : decode cX12_isTightTriple 13 = .ok (.iaload, 1) := by decide +kernel
theorem dX12_isTightTriple_14 : decode cX12_isTightTriple 14 = .ok (.i2l, 1) := by decide +kernel
theorem dX12_isTightTriple_15 : decode cX12_isTightTriple 15 = .ok (.invokevirtual 222, 3) := by decide +kernel
theorem dX12_isTightTriple_18 : decode cX12_isTightTriple 18 = .ok (.lconst 0, 1) := by decide +kernel
theorem dX12_isTightTriple_19 : decode cX12_isTightTriple 19 = .ok (.lcmp, 1) := by decide +kernel
theorem dX12_isTightTriple_20 : decode cX12_isTightTriple 20 = .ok (.ifCond .ne 49, 3) := by decide +kernel
theorem dX12_isTightTriple_23 : decode cX12_isTightTriple 23 = .ok (.aload_n 0, 1) := by decide +kernel
theorem dX12_isTightTriple_24 : decode cX12_isTightTriple 24 = .ok (.aload_n 0, 1) := by decide +kernel
theorem dX12_isTightTriple_25 : decode cX12_isTightTriple 25 = .ok (.getfield 33, 3) := by decide +kernel
theorem dX12_isTightTriple_28 : decode cX12_isTightTriple 28 = .ok (.iload_n 2, 1) := by decide +kernel
theorem dX12_isTightTriple_29 : decode cX12_isTightTriple 29 = .ok (.iaload, 1) := by decide +kernel
theorem dX12_isTightTriple_30 : decode cX12_isTightTriple 30 = .ok (.i2l, 1) := by decide +kernel
theorem dX12_isTightTriple_31 : decode cX12_isTightTriple 31 = .ok (.aload_n 0, 1) := by decide +kernel
theorem dX12_isTightTriple_32 : decode cX12_isTightTriple 32 = .ok (.getfield 36, 3) := by decide +kernel
theorem dX12_isTightTriple_35 : decode cX12_isTightTriple 35 = .ok (.iload_n 2, 1) := by decide +kernel
theorem dX12_isTightTriple_36 : decode cX12_isTightTriple 36 = .ok (.iaload, 1) := by decide +kernel
theorem dX12_isTightTriple_37 : decode cX12_isTightTriple 37 = .ok (.i2l, 1) := by decide +kernel
theorem dX12_isTightTriple_38 : decode cX12_isTightTriple 38 = .ok (.invokevirtual 222, 3) := by decide +kernel
theorem dX12_isTightTriple_41 : decode cX12_isTightTriple 41 = .ok (.lconst 0, 1) := by decide +kernel
theorem dX12_isTightTriple_42 : decode cX12_isTightTriple 42 = .ok (.lcmp, 1) := by decide +kernel
theorem dX12_isTightTriple_43 : decode cX12_isTightTriple 43 = .ok (.ifCond .ne 26, 3) := by decide +kernel
theorem dX12_isTightTriple_46 : decode cX12_isTightTriple 46 = .ok (.aload_n 0, 1) := by decide +kernel
theorem dX12_isTightTriple_47 : decode cX12_isTightTriple 47 = .ok (.aload_n 0, 1) := by decide +kernel
theorem dX12_isTightTriple_48 : decode cX12_isTightTriple 48 = .ok (.getfield 33, 3) := by decide +kernel
theorem dX12_isTightTriple_51 : decode cX12_isTightTriple 51 = .ok (.iload_n 3, 1) := by decide +kernel
theorem dX12_isTightTriple_52 : decode cX12_isTightTriple 52 = .ok (.iaload, 1) := by decide +kernel
theorem dX12_isTightTriple_53 : decode cX12_isTightTriple 53 = .ok (.i2l, 1) := by decide +kernel
theorem dX12_isTightTriple_54 : decode cX12_isTightTriple 54 = .ok (.aload_n 0, 1) := by decide +kernel
theorem dX12_isTightTriple_55 : decode cX12_isTightTriple 55 = .ok (.getfield 36, 3) := by decide +kernel
theorem dX12_isTightTriple_58 : decode cX12_isTightTriple 58 = .ok (.iload_n 3, 1) := by decide +kernel
theorem dX12_isTightTriple_59 : decode cX12_isTightTriple 59 = .ok (.iaload, 1) := by decide +kernel
theorem dX12_isTightTriple_60 : decode cX12_isTightTriple 60 = .ok (.i2l, 1) := by decide +kernel
theorem dX12_isTightTriple_61 : decode cX12_isTightTriple 61 = .ok (.invokevirtual 222, 3) := by decide +kernel
theorem dX12_isTightTriple_64 : decode cX12_isTightTriple 64 = .ok (.lconst 0, 1) := by decide +kernel
theorem dX12_isTightTriple_65 : decode cX12_isTightTriple 65 = .ok (.lcmp, 1) := by decide +kernel
theorem dX12_isTightTriple_66 : decode cX12_isTightTriple 66 = .ok (.ifCond .eq 5, 3) := by decide +kernel
theorem dX12_isTightTriple_69 : decode cX12_isTightTriple 69 = .ok (.iconst 0, 1) := by decide +kernel
theorem dX12_isTightTriple_70 : decode cX12_isTightTriple 70 = .ok (.ireturn, 1) := by decide +kernel
theorem dX12_isTightTriple_71 : decode cX12_isTightTriple 71 = .ok (.aload_n 0, 1) := by decide +kernel
theorem dX12_isTightTriple_72 : decode cX12_isTightTriple 72 = .ok (.iload_n 1, 1) := by decide +kernel
theorem dX12_isTightTriple_73 : decode cX12_isTightTriple 73 = .ok (.iload_n 2, 1) := by decide +kernel
theorem dX12_isTightTriple_74 : decode cX12_isTightTriple 74 = .ok (.invokevirtual 204, 3) := by decide +kernel
theorem dX12_isTightTriple_77 : decode cX12_isTightTriple 77 = .ok (.lstore 4, 2) := by decide +kernel
theorem dX12_isTightTriple_79 : decode cX12_isTightTriple 79 = .ok (.aload_n 0, 1) := by decide +kernel
theorem dX12_isTightTriple_80 : decode cX12_isTightTriple 80 = .ok (.iload_n 2, 1) := by decide +kernel
theorem dX12_isTightTriple_81 : decode cX12_isTightTriple 81 = .ok (.iload_n 3, 1) := by decide +kernel
theorem dX12_isTightTriple_82 : decode cX12_isTightTriple 82 = .ok (.invokevirtual 204, 3) := by decide +kernel
theorem dX12_isTightTriple_85 : decode cX12_isTightTriple 85 = .ok (.lstore 6, 2) := by decide +kernel
theorem dX12_isTightTriple_87 : decode cX12_isTightTriple 87 = .ok (.aload_n 0, 1) := by decide +kernel
theorem dX12_isTightTriple_88 : decode cX12_isTightTriple 88 = .ok (.iload_n 3, 1) := by decide +kernel
theorem dX12_isTightTriple_89 : decode cX12_isTightTriple 89 = .ok (.iload_n 1, 1) := by decide +kernel
theorem dX12_isTightTriple_90 : decode cX12_isTightTriple 90 = .ok (.invokevirtual 204, 3) := by decide +kernel
theorem dX12_isTightTriple_93 : decode cX12_isTightTriple 93 = .ok (.lstore 8, 2) := by decide +kernel
theorem dX12_isTightTriple_95 : decode cX12_isTightTriple 95 = .ok (.lload 4, 2) := by decide +kernel
theorem dX12_isTightTriple_97 : decode cX12_isTightTriple 97 = .ok (.lload 6, 2) := by decide +kernel
theorem dX12_isTightTriple_99 : decode cX12_isTightTriple 99 = .ok (.lload 8, 2) := by decide +kernel
theorem dX12_isTightTriple_101 : decode cX12_isTightTriple 101 = .ok (.ladd, 1) := by decide +kernel
theorem dX12_isTightTriple_102 : decode cX12_isTightTriple 102 = .ok (.lcmp, 1) := by decide +kernel
theorem dX12_isTightTriple_103 : decode cX12_isTightTriple 103 = .ok (.ifCond .ge 29, 3) := by decide +kernel
theorem dX12_isTightTriple_106 : decode cX12_isTightTriple 106 = .ok (.lload 6, 2) := by decide +kernel
theorem dX12_isTightTriple_108 : decode cX12_isTightTriple 108 = .ok (.lload 4, 2) := by decide +kernel
theorem dX12_isTightTriple_110 : decode cX12_isTightTriple 110 = .ok (.lload 8, 2) := by decide +kernel
theorem dX12_isTightTriple_112 : decode cX12_isTightTriple 112 = .ok (.ladd, 1) := by decide +kernel
theorem dX12_isTightTriple_113 : decode cX12_isTightTriple 113 = .ok (.lcmp, 1) := by decide +kernel
theorem dX12_isTightTriple_114 : decode cX12_isTightTriple 114 = .ok (.ifCond .ge 18, 3) := by decide +kernel
theorem dX12_isTightTriple_117 : decode cX12_isTightTriple 117 = .ok (.lload 8, 2) := by decide +kernel
theorem dX12_isTightTriple_119 : decode cX12_isTightTriple 119 = .ok (.lload 4, 2) := by decide +kernel
theorem dX12_isTightTriple_121 : decode cX12_isTightTriple 121 = .ok (.lload 6, 2) := by decide +kernel
theorem dX12_isTightTriple_123 : decode cX12_isTightTriple 123 = .ok (.ladd, 1) := by decide +kernel
theorem dX12_isTightTriple_124 : decode cX12_isTightTriple 124 = .ok (.lcmp, 1) := by decide +kernel
theorem dX12_isTightTriple_125 : decode cX12_isTightTriple 125 = .ok (.ifCond .ge 7, 3) := by decide +kernel
theorem dX12_isTightTriple_128 : decode cX12_isTightTriple 128 = .ok (.iconst 1, 1) := by decide +kernel
theorem dX12_isTightTriple_129 : decode cX12_isTightTriple 129 = .ok (.goto 4, 3) := by decide +kernel
theorem dX12_isTightTriple_132 : decode cX12_isTightTriple 132 = .ok (.iconst 0, 1) := by decide +kernel
theorem dX12_isTightTriple_133 : decode cX12_isTightTriple 133 = .ok (.ireturn, 1) := by decide +kernel
theorem dX12_layTight_0 : decode cX12_layTight 0 = .ok (.aload_n 0, 1) := by decide +kernel
theorem dX12_layTight_1 : decode cX12_layTight 1 = .ok (.invokevirtual 296, 3) := by decide +kernel
theorem dX12_layTight_4 : decode cX12_layTight 4 = .ok (.aload_n 0, 1) := by decide +kernel
theorem dX12_layTight_5 : decode cX12_layTight 5 = .ok (.iconst 1, 1) := by decide +kernel
theorem dX12_layTight_6 : decode cX12_layTight 6 = .ok (.putfield 299, 3) := by decide +kernel
theorem dX12_layTight_9 : decode cX12_layTight 9 = .ok (.aload_n 0, 1) := by decide +kernel
theorem dX12_layTight_10 : decode cX12_layTight 10 = .ok (.getfield 45, 3) := by decide +kernel
theorem dX12_layTight_13 : decode cX12_layTight 13 = .ok (.iconst 0, 1) := by decide +kernel
theorem dX12_layTight_14 : decode cX12_layTight 14 = .ok (.aload_n 0, 1) := by decide +kernel
theorem dX12_layTight_15 : decode cX12_layTight 15 = .ok (.getfield 42, 3) := by decide +kernel
theorem dX12_layTight_18 : decode cX12_layTight 18 = .ok (.iconst 0, 1) := by decide +kernel
theorem dX12_layTight_19 : decode cX12_layTight 19 = .ok (.iaload, 1) := by decide +kernel
theorem dX12_layTight_20 : decode cX12_layTight 20 = .ok (.iastore, 1) := by decide +kernel
theorem dX12_layTight_21 : decode cX12_layTight 21 = .ok (.aload_n 0, 1) := by decide +kernel
theorem dX12_layTight_22 : decode cX12_layTight 22 = .ok (.getfield 157, 3) := by decide +kernel
theorem dX12_layTight_25 : decode cX12_layTight 25 = .ok (.iconst 1, 1) := by decide +kernel
theorem dX12_layTight_26 : decode cX12_layTight 26 = .ok (.if_icmp .ne 4, 3) := by decide +kernel
theorem dX12_layTight_29 : decode cX12_layTight 29 = .ok (.return_, 1) := by decide +kernel
theorem dX12_layTight_30 : decode cX12_layTight 30 = .ok (.aload_n 0, 1) := by decide +kernel
theorem dX12_layTight_31 : decode cX12_layTight 31 = .ok (.iconst 2, 1) := by decide +kernel
theorem dX12_layTight_32 : decode cX12_layTight 32 = .ok (.putfield 299, 3) := by decide +kernel
theorem dX12_layTight_35 : decode cX12_layTight 35 = .ok (.iconst 0, 1) := by decide +kernel
theorem dX12_layTight_36 : decode cX12_layTight 36 = .ok (.istore_n 1, 1) := by decide +kernel
theorem dX12_layTight_37 : decode cX12_layTight 37 = .ok (.iload_n 1, 1) := by decide +kernel
theorem dX12_layTight_38 : decode cX12_layTight 38 = .ok (.aload_n 0, 1) := by decide +kernel
theorem dX12_layTight_39 : decode cX12_layTight 39 = .ok (.getfield 157, 3) := by decide +kernel
theorem dX12_layTight_42 : decode cX12_layTight 42 = .ok (.if_icmp .ge 74, 3) := by decide +kernel
theorem dX12_layTight_45 : decode cX12_layTight 45 = .ok (.iload_n 1, 1) := by decide +kernel
theorem dX12_layTight_46 : decode cX12_layTight 46 = .ok (.iconst 1, 1) := by decide +kernel
theorem dX12_layTight_47 : decode cX12_layTight 47 = .ok (.iadd, 1) := by decide +kernel
theorem dX12_layTight_48 : decode cX12_layTight 48 = .ok (.istore_n 2, 1) := by decide +kernel
theorem dX12_layTight_49 : decode cX12_layTight 49 = .ok (.iload_n 2, 1) := by decide +kernel
theorem dX12_layTight_50 : decode cX12_layTight 50 = .ok (.aload_n 0, 1) := by decide +kernel
theorem dX12_layTight_51 : decode cX12_layTight 51 = .ok (.getfield 157, 3) := by decide +kernel
theorem dX12_layTight_54 : decode cX12_layTight 54 = .ok (.if_icmp .ge 56, 3) := by decide +kernel
theorem dX12_layTight_57 : decode cX12_layTight 57 = .ok (.aload_n 0, 1) := by decide +kernel
theorem dX12_layTight_58 : decode cX12_layTight 58 = .ok (.aload_n 0, 1) := by decide +kernel
theorem dX12_layTight_59 : decode cX12_layTight 59 = .ok (.getfield 42, 3) := by decide +kernel
theorem dX12_layTight_62 : decode cX12_layTight 62 = .ok (.iload_n 1, 1) := by decide +kernel
theorem dX12_layTight_63 : decode cX12_layTight 63 = .ok (.iaload, 1) := by decide +kernel
theorem dX12_layTight_64 : decode cX12_layTight 64 = .ok (.aload_n 0, 1) := by decide +kernel
theorem dX12_layTight_65 : decode cX12_layTight 65 = .ok (.getfield 42, 3) := by decide +kernel
theorem dX12_layTight_68 : decode cX12_layTight 68 = .ok (.iload_n 2, 1) := by decide +kernel
theorem dX12_layTight_69 : decode cX12_layTight 69 = .ok (.iaload, 1) := by decide +kernel
theorem dX12_layTight_70 : decode cX12_layTight 70 = .ok (.invokevirtual 302, 3) := by decide +kernel
theorem dX12_layTight_73 : decode cX12_layTight 73 = .ok (.ifCond .ne 6, 3) := by decide +kernel
theorem dX12_layTight_76 : decode cX12_layTight 76 = .ok (.goto 28, 3) := by decide +kernel
theorem dX12_layTight_79 : decode cX12_layTight 79 = .ok (.aload_n 0, 1) := by decide +kernel
theorem dX12_layTight_80 : decode cX12_layTight 80 = .ok (.getfield 45, 3) := by decide +kernel
theorem dX12_layTight_83 : decode cX12_layTight 83 = .ok (.iconst 0, 1) := by decide +kernel
theorem dX12_layTight_84 : decode cX12_layTight 84 = .ok (.aload_n 0, 1) := by decide +kernel
theorem dX12_layTight_85 : decode cX12_layTight 85 = .ok (.getfield 42, 3) := by decide +kernel
theorem dX12_layTight_88 : decode cX12_layTight 88 = .ok (.iload_n 1, 1) := by decide +kernel
theorem dX12_layTight_89 : decode cX12_layTight 89 = .ok (.iaload, 1) := by decide +kernel
theorem dX12_layTight_90 : decode cX12_layTight 90 = .ok (.iastore, 1) := by decide +kernel
theorem dX12_layTight_91 : decode cX12_layTight 91 = .ok (.aload_n 0, 1) := by decide +kernel
theorem dX12_layTight_92 : decode cX12_layTight 92 = .ok (.getfield 45, 3) := by decide +kernel
theorem dX12_layTight_95 : decode cX12_layTight 95 = .ok (.iconst 1, 1) := by decide +kernel
theorem dX12_layTight_96 : decode cX12_layTight 96 = .ok (.aload_n 0, 1) := by decide +kernel
theorem dX12_layTight_97 : decode cX12_layTight 97 = .ok (.getfield 42, 3) := by decide +kernel
theorem dX12_layTight_100 : decode cX12_layTight 100 = .ok (.iload_n 2, 1) := by decide +kernel
theorem dX12_layTight_101 : decode cX12_layTight 101 = .ok (.iaload, 1) := by decide +kernel
theorem dX12_layTight_102 : decode cX12_layTight 102 = .ok (.iastore, 1) := by decide +kernel
theorem dX12_layTight_103 : decode cX12_layTight 103 = .ok (.return_, 1) := by decide +kernel
theorem dX12_layTight_104 : decode cX12_layTight 104 = .ok (.iinc 2 1, 3) := by decide +kernel
theorem dX12_layTight_107 : decode cX12_layTight 107 = .ok (.goto (-58), 3) := by decide +kernel
theorem dX12_layTight_110 : decode cX12_layTight 110 = .ok (.iinc 1 1, 3) := by decide +kernel
theorem dX12_layTight_113 : decode cX12_layTight 113 = .ok (.goto (-76), 3) := by decide +kernel
theorem dX12_layTight_116 : decode cX12_layTight 116 = .ok (.aload_n 0, 1) := by decide +kernel
theorem dX12_layTight_117 : decode cX12_layTight 117 = .ok (.iconst 3, 1) := by decide +kernel
theorem dX12_layTight_118 : decode cX12_layTight 118 = .ok (.putfield 299, 3) := by decide +kernel
theorem dX12_layTight_121 : decode cX12_layTight 121 = .ok (.iconst 0, 1) := by decide +kernel
theorem dX12_layTight_122 : decode cX12_layTight 122 = .ok (.istore_n 1, 1) := by decide +kernel
theorem dX12_layTight_123 : decode cX12_layTight 123 = .ok (.iload_n 1, 1) := by decide +kernel
theorem dX12_layTight_124 : decode cX12_layTight 124 = .ok (.aload_n 0, 1) := by decide +kernel
theorem dX12_layTight_125 : decode cX12_layTight 125 = .ok (.getfield 157, 3) := by decide +kernel
theorem dX12_layTight_128 : decode cX12_layTight 128 = .ok (.if_icmp .ge 110, 3) := by decide +kernel
theorem dX12_layTight_131 : decode cX12_layTight 131 = .ok (.iload_n 1, 1) := by decide +kernel
theorem dX12_layTight_132 : decode cX12_layTight 132 = .ok (.iconst 1, 1) := by decide +kernel
theorem dX12_layTight_133 : decode cX12_layTight 133 = .ok (.iadd, 1) := by decide +kernel
theorem dX12_layTight_134 : decode cX12_layTight 134 = .ok (.istore_n 2, 1) := by decide +kernel
theorem dX12_layTight_135 : decode cX12_layTight 135 = .ok (.iload_n 2, 1) := by decide +kernel
theorem dX12_layTight_136 : decode cX12_layTight 136 = .ok (.aload_n 0, 1) := by decide +kernel
theorem dX12_layTight_137 : decode cX12_layTight 137 = .ok (.getfield 157, 3) := by decide +kernel
theorem dX12_layTight_140 : decode cX12_layTight 140 = .ok (.if_icmp .ge 92, 3) := by decide +kernel
theorem dX12_layTight_143 : decode cX12_layTight 143 = .ok (.iload_n 2, 1) := by decide +kernel
theorem dX12_layTight_144 : decode cX12_layTight 144 = .ok (.iconst 1, 1) := by decide +kernel
theorem dX12_layTight_145 : decode cX12_layTight 145 = .ok (.iadd, 1) := by decide +kernel
theorem dX12_layTight_146 : decode cX12_layTight 146 = .ok (.istore_n 3, 1) := by decide +kernel
theorem dX12_layTight_147 : decode cX12_layTight 147 = .ok (.iload_n 3, 1) := by decide +kernel
theorem dX12_layTight_148 : decode cX12_layTight 148 = .ok (.aload_n 0, 1) := by decide +kernel
theorem dX12_layTight_149 : decode cX12_layTight 149 = .ok (.getfield 157, 3) := by decide +kernel
theorem dX12_layTight_152 : decode cX12_layTight 152 = .ok (.if_icmp .ge 74, 3) := by decide +kernel
theorem dX12_layTight_155 : decode cX12_layTight 155 = .ok (.aload_n 0, 1) := by decide +kernel
theorem dX12_layTight_156 : decode cX12_layTight 156 = .ok (.aload_n 0, 1) := by decide +kernel
theorem dX12_layTight_157 : decode cX12_layTight 157 = .ok (.getfield 42, 3) := by decide +kernel
theorem dX12_layTight_160 : decode cX12_layTight 160 = .ok (.iload_n 1, 1) := by decide +kernel
theorem dX12_layTight_161 : decode cX12_layTight 161 = .ok (.iaload, 1) := by decide +kernel
theorem dX12_layTight_162 : decode cX12_layTight 162 = .ok (.aload_n 0, 1) := by decide +kernel
theorem dX12_layTight_163 : decode cX12_layTight 163 = .ok (.getfield 42, 3) := by decide +kernel
theorem dX12_layTight_166 : decode cX12_layTight 166 = .ok (.iload_n 2, 1) := by decide +kernel
theorem dX12_layTight_167 : decode cX12_layTight 167 = .ok (.iaload, 1) := by decide +kernel
theorem dX12_layTight_168 : decode cX12_layTight 168 = .ok (.aload_n 0, 1) := by decide +kernel
theorem dX12_layTight_169 : decode cX12_layTight 169 = .ok (.getfield 42, 3) := by decide +kernel
theorem dX12_layTight_172 : decode cX12_layTight 172 = .ok (.iload_n 3, 1) := by decide +kernel
theorem dX12_layTight_173 : decode cX12_layTight 173 = .ok (.iaload, 1) := by decide +kernel
theorem dX12_layTight_174 : decode cX12_layTight 174 = .ok (.invokevirtual 305, 3) := by decide +kernel
theorem dX12_layTight_177 : decode cX12_layTight 177 = .ok (.ifCond .ne 6, 3) := by decide +kernel
theorem dX12_layTight_180 : decode cX12_layTight 180 = .ok (.goto 40, 3) := by decide +kernel
theorem dX12_layTight_183 : decode cX12_layTight 183 = .ok (.aload_n 0, 1) := by decide +kernel
theorem dX12_layTight_184 : decode cX12_layTight 184 = .ok (.getfield 45, 3) := by decide +kernel
theorem dX12_layTight_187 : decode cX12_layTight 187 = .ok (.iconst 0, 1) := by decide +kernel
theorem dX12_layTight_188 : decode cX12_layTight 188 = .ok (.aload_n 0, 1) := by decide +kernel
theorem dX12_layTight_189 : decode cX12_layTight 189 = .ok (.getfield 42, 3) := by decide +kernel
theorem dX12_layTight_192 : decode cX12_layTight 192 = .ok (.iload_n 1, 1) := by decide +kernel
theorem dX12_layTight_193 : decode cX12_layTight 193 = .ok (.iaload, 1) := by decide +kernel
theorem dX12_layTight_194 : decode cX12_layTight 194 = .ok (.iastore, 1) := by decide +kernel
theorem dX12_layTight_195 : decode cX12_layTight 195 = .ok (.aload_n 0, 1) := by decide +kernel
theorem dX12_layTight_196 : decode cX12_layTight 196 = .ok (.getfield 45, 3) := by decide +kernel
theorem dX12_layTight_199 : decode cX12_layTight 199 = .ok (.iconst 1, 1) := by decide +kernel
theorem dX12_layTight_200 : decode cX12_layTight 200 = .ok (.aload_n 0, 1) := by decide +kernel
theorem dX12_layTight_201 : decode cX12_layTight 201 = .ok (.getfield 42, 3) := by decide +kernel
theorem dX12_layTight_204 : decode cX12_layTight 204 = .ok (.iload_n 2, 1) := by decide +kernel
theorem dX12_layTight_205 : decode cX12_layTight 205 = .ok (.iaload, 1) := by decide +kernel
theorem dX12_layTight_206 : decode cX12_layTight 206 = .ok (.iastore, 1) := by decide +kernel
theorem dX12_layTight_207 : decode cX12_layTight 207 = .ok (.aload_n 0, 1) := by decide +kernel
theorem dX12_layTight_208 : decode cX12_layTight 208 = .ok (.getfield 45, 3) := by decide +kernel
theorem dX12_layTight_211 : decode cX12_layTight 211 = .ok (.iconst 2, 1) := by decide +kernel
theorem dX12_layTight_212 : decode cX12_layTight 212 = .ok (.aload_n 0, 1) := by decide +kernel
theorem dX12_layTight_213 : decode cX12_layTight 213 = .ok (.getfield 42, 3) := by decide +kernel
theorem dX12_layTight_216 : decode cX12_layTight 216 = .ok (.iload_n 3, 1) := by decide +kernel
theorem dX12_layTight_217 : decode cX12_layTight 217 = .ok (.iaload, 1) := by decide +kernel
theorem dX12_layTight_218 : decode cX12_layTight 218 = .ok (.iastore, 1) := by decide +kernel
theorem dX12_layTight_219 : decode cX12_layTight 219 = .ok (.return_, 1) := by decide +kernel
theorem dX12_layTight_220 : decode cX12_layTight 220 = .ok (.iinc 3 1, 3) := by decide +kernel
theorem dX12_layTight_223 : decode cX12_layTight 223 = .ok (.goto (-76), 3) := by decide +kernel
theorem dX12_layTight_226 : decode cX12_layTight 226 = .ok (.iinc 2 1, 3) := by decide +kernel
theorem dX12_layTight_229 : decode cX12_layTight 229 = .ok (.goto (-94), 3) := by decide +kernel
theorem dX12_layTight_232 : decode cX12_layTight 232 = .ok (.iinc 1 1, 3) := by decide +kernel
theorem dX12_layTight_235 : decode cX12_layTight 235 = .ok (.goto (-112), 3) := by decide +kernel
theorem dX12_layTight_238 : decode cX12_layTight 238 = .ok (.return_, 1) := by decide +kernel
theorem dX12_tight_0 : decode cX12_tight 0 = .ok (.iload_n 2, 1) := by decide +kernel
theorem dX12_tight_1 : decode cX12_tight 1 = .ok (.iconst (-1), 1) := by decide +kernel
theorem dX12_tight_2 : decode cX12_tight 2 = .ok (.if_icmp .lt 11, 3) := by decide +kernel
theorem dX12_tight_5 : decode cX12_tight 5 = .ok (.aload_n 0, 1) := by decide +kernel
theorem dX12_tight_6 : decode cX12_tight 6 = .ok (.iload_n 1, 1) := by decide +kernel
theorem dX12_tight_7 : decode cX12_tight 7 = .ok (.invokevirtual 288, 3) := by decide +kernel
theorem dX12_tight_10 : decode cX12_tight 10 = .ok (.ifCond .ne 5, 3) := by decide +kernel
theorem dX12_tight_13 : decode cX12_tight 13 = .ok (.iconst (-1), 1) := by decide +kernel
theorem dX12_tight_14 : decode cX12_tight 14 = .ok (.ireturn, 1) := by decide +kernel
theorem dX12_tight_15 : decode cX12_tight 15 = .ok (.aload_n 0, 1) := by decide +kernel
theorem dX12_tight_16 : decode cX12_tight 16 = .ok (.invokevirtual 308, 3) := by decide +kernel
theorem dX12_tight_19 : decode cX12_tight 19 = .ok (.iload_n 2, 1) := by decide +kernel
theorem dX12_tight_20 : decode cX12_tight 20 = .ok (.iconst (-1), 1) := by decide +kernel
theorem dX12_tight_21 : decode cX12_tight 21 = .ok (.if_icmp .ne 10, 3) := by decide +kernel
theorem dX12_tight_24 : decode cX12_tight 24 = .ok (.aload_n 0, 1) := by decide +kernel
theorem dX12_tight_25 : decode cX12_tight 25 = .ok (.getfield 299, 3) := by decide +kernel
theorem dX12_tight_28 : decode cX12_tight 28 = .ok (.goto 26, 3) := by decide +kernel
theorem dX12_tight_31 : decode cX12_tight 31 = .ok (.iload_n 2, 1) := by decide +kernel
theorem dX12_tight_32 : decode cX12_tight 32 = .ok (.aload_n 0, 1) := by decide +kernel
theorem dX12_tight_33 : decode cX12_tight 33 = .ok (.getfield 299, 3) := by decide +kernel
theorem dX12_tight_36 : decode cX12_tight 36 = .ok (.if_icmp .ge 17, 3) := by decide +kernel
theorem dX12_tight_39 : decode cX12_tight 39 = .ok (.aload_n 0, 1) := by decide +kernel
theorem dX12_tight_40 : decode cX12_tight 40 = .ok (.getfield 39, 3) := by decide +kernel
theorem dX12_tight_43 : decode cX12_tight 43 = .ok (.aload_n 0, 1) := by decide +kernel
theorem dX12_tight_44 : decode cX12_tight 44 = .ok (.getfield 45, 3) := by decide +kernel
theorem dX12_tight_47 : decode cX12_tight 47 = .ok (.iload_n 2, 1) := by decide +kernel
theorem dX12_tight_48 : decode cX12_tight 48 = .ok (.iaload, 1) := by decide +kernel
theorem dX12_tight_49 : decode cX12_tight 49 = .ok (.iaload, 1) := by decide +kernel
theorem dX12_tight_50 : decode cX12_tight 50 = .ok (.goto 4, 3) := by decide +kernel
theorem dX12_tight_53 : decode cX12_tight 53 = .ok (.iconst (-1), 1) := by decide +kernel
theorem dX12_tight_54 : decode cX12_tight 54 = .ok (.ireturn, 1) := by decide +kernel
theorem dX12_isOfSet_0 : decode cX12_isOfSet 0 = .ok (.iload_n 1, 1) := by decide +kernel
theorem dX12_isOfSet_1 : decode cX12_isOfSet 1 = .ok (.invokestatic 166, 3) := by decide +kernel
theorem dX12_isOfSet_4 : decode cX12_isOfSet 4 = .ok (.ifCond .eq 24, 3) := by decide +kernel
theorem dX12_isOfSet_7 : decode cX12_isOfSet 7 = .ok (.aload_n 0, 1) := by decide +kernel
theorem dX12_isOfSet_8 : decode cX12_isOfSet 8 = .ok (.iload_n 2, 1) := by decide +kernel
theorem dX12_isOfSet_9 : decode cX12_isOfSet 9 = .ok (.invokevirtual 99, 3) := by decide +kernel
theorem dX12_isOfSet_12 : decode cX12_isOfSet 12 = .ok (.ifCond .eq 16, 3) := by decide +kernel
theorem dX12_isOfSet_15 : decode cX12_isOfSet 15 = .ok (.aload_n 0, 1) := by decide +kernel
theorem dX12_isOfSet_16 : decode cX12_isOfSet 16 = .ok (.iload_n 1, 1) := by decide +kernel
theorem dX12_isOfSet_17 : decode cX12_isOfSet 17 = .ok (.iload_n 2, 1) := by decide +kernel
theorem dX12_isOfSet_18 : decode cX12_isOfSet 18 = .ok (.invokevirtual 160, 3) := by decide +kernel
theorem dX12_isOfSet_21 : decode cX12_isOfSet 21 = .ok (.ifCond .eq 7, 3) := by decide +kernel
theorem dX12_isOfSet_24 : decode cX12_isOfSet 24 = .ok (.iconst 1, 1) := by decide +kernel
theorem dX12_isOfSet_25 : decode cX12_isOfSet 25 = .ok (.goto 4, 3) := by decide +kernel
theorem dX12_isOfSet_28 : decode cX12_isOfSet 28 = .ok (.iconst 0, 1) := by decide +kernel
theorem dX12_isOfSet_29 : decode cX12_isOfSet 29 = .ok (.ireturn, 1) := by decide +kernel
theorem dX12_needed_0 : decode cX12_needed 0 = .ok (.aload_n 0, 1) := by decide +kernel
theorem dX12_needed_1 : decode cX12_needed 1 = .ok (.iload_n 1, 1) := by decide +kernel
theorem dX12_needed_2 : decode cX12_needed 2 = .ok (.iload_n 2, 1) := by decide +kernel
theorem dX12_needed_3 : decode cX12_needed 3 = .ok (.invokevirtual 311, 3) := by decide +kernel
theorem dX12_needed_6 : decode cX12_needed 6 = .ok (.ifCond .eq 11, 3) := by decide +kernel
theorem dX12_needed_9 : decode cX12_needed 9 = .ok (.aload_n 0, 1) := by decide +kernel
theorem dX12_needed_10 : decode cX12_needed 10 = .ok (.iload_n 1, 1) := by decide +kernel
theorem dX12_needed_11 : decode cX12_needed 11 = .ok (.invokevirtual 288, 3) := by decide +kernel
theorem dX12_needed_14 : decode cX12_needed 14 = .ok (.ifCond .ne 5, 3) := by decide +kernel
theorem dX12_needed_17 : decode cX12_needed 17 = .ok (.iconst (-1), 1) := by decide +kernel
theorem dX12_needed_18 : decode cX12_needed 18 = .ok (.ireturn, 1) := by decide +kernel
theorem dX12_needed_19 : decode cX12_needed 19 = .ok (.aload_n 0, 1) := by decide +kernel
theorem dX12_needed_20 : decode cX12_needed 20 = .ok (.getfield 196, 3) := by decide +kernel
theorem dX12_needed_23 : decode cX12_needed 23 = .ok (.lstore_n 3, 1) := by decide +kernel
theorem dX12_needed_24 : decode cX12_needed 24 = .ok (.aload_n 0, 1) := by decide +kernel
theorem dX12_needed_25 : decode cX12_needed 25 = .ok (.getfield 199, 3) := by decide +kernel
theorem dX12_needed_28 : decode cX12_needed 28 = .ok (.lstore 5, 2) := by decide +kernel
theorem dX12_needed_30 : decode cX12_needed 30 = .ok (.aload_n 0, 1) := by decide +kernel
theorem dX12_needed_31 : decode cX12_needed 31 = .ok (.iload_n 1, 1) := by decide +kernel
theorem dX12_needed_32 : decode cX12_needed 32 = .ok (.iload_n 2, 1) := by decide +kernel
theorem dX12_needed_33 : decode cX12_needed 33 = .ok (.invokevirtual 169, 3) := by decide +kernel
theorem dX12_needed_36 : decode cX12_needed 36 = .ok (.ifCond .ne 5, 3) := by decide +kernel
theorem dX12_needed_39 : decode cX12_needed 39 = .ok (.iconst 1, 1) := by decide +kernel
theorem dX12_needed_40 : decode cX12_needed 40 = .ok (.ireturn, 1) := by decide +kernel
theorem dX12_needed_41 : decode cX12_needed 41 = .ok (.aload_n 0, 1) := by decide +kernel
theorem dX12_needed_42 : decode cX12_needed 42 = .ok (.aload_n 0, 1) := by decide +kernel
theorem dX12_needed_43 : decode cX12_needed 43 = .ok (.invokevirtual 281, 3) := by decide +kernel
theorem dX12_needed_46 : decode cX12_needed 46 = .ok (.invokevirtual 285, 3) := by decide +kernel
theorem dX12_needed_49 : decode cX12_needed 49 = .ok (.aload_n 0, 1) := by decide +kernel
theorem dX12_needed_50 : decode cX12_needed 50 = .ok (.getfield 196, 3) := by decide +kernel
theorem dX12_needed_53 : decode cX12_needed 53 = .ok (.aload_n 0, 1) := by decide +kernel
theorem dX12_needed_54 : decode cX12_needed 54 = .ok (.getfield 199, 3) := by decide +kernel
theorem dX12_needed_57 : decode cX12_needed 57 = .ok (.lload_n 3, 1) := by decide +kernel
theorem dX12_needed_58 : decode cX12_needed 58 = .ok (.lload 5, 2) := by decide +kernel
theorem dX12_needed_60 : decode cX12_needed 60 = .ok (.invokestatic 271, 3) := by decide +kernel
theorem dX12_needed_63 : decode cX12_needed 63 = .ok (.ifCond .ge 7, 3) := by decide +kernel
theorem dX12_needed_66 : decode cX12_needed 66 = .ok (.iconst 1, 1) := by decide +kernel
theorem dX12_needed_67 : decode cX12_needed 67 = .ok (.goto 4, 3) := by decide +kernel
theorem dX12_needed_70 : decode cX12_needed 70 = .ok (.iconst 0, 1) := by decide +kernel
theorem dX12_needed_71 : decode cX12_needed 71 = .ok (.ireturn, 1) := by decide +kernel
theorem dX12_proof_0 : decode cX12_proof 0 = .ok (.lload_n 2, 1) := by decide +kernel
theorem dX12_proof_1 : decode cX12_proof 1 = .ok (.lconst 0, 1) := by decide +kernel
theorem dX12_proof_2 : decode cX12_proof 2 = .ok (.lcmp, 1) := by decide +kernel
theorem dX12_proof_3 : decode cX12_proof 3 = .ok (.ifCond .eq 12, 3) := by decide +kernel
theorem dX12_proof_6 : decode cX12_proof 6 = .ok (.lload_n 2, 1) := by decide +kernel
theorem dX12_proof_7 : decode cX12_proof 7 = .ok (.bipush 40, 2) := by decide +kernel
theorem dX12_proof_9 : decode cX12_proof 9 = .ok (.lshr, 1) := by decide +kernel
theorem dX12_proof_10 : decode cX12_proof 10 = .ok (.lconst 0, 1) := by decide +kernel
theorem dX12_proof_11 : decode cX12_proof 11 = .ok (.lcmp, 1) := by decide +kernel
theorem dX12_proof_12 : decode cX12_proof 12 = .ok (.ifCond .eq 5, 3) := by decide +kernel
theorem dX12_proof_15 : decode cX12_proof 15 = .ok (.iconst (-1), 1) := by decide +kernel
theorem dX12_proof_16 : decode cX12_proof 16 = .ok (.ireturn, 1) := by decide +kernel
theorem dX12_proof_17 : decode cX12_proof 17 = .ok (.iconst 0, 1) := by decide +kernel
theorem dX12_proof_18 : decode cX12_proof 18 = .ok (.istore 4, 2) := by decide +kernel
theorem dX12_proof_20 : decode cX12_proof 20 = .ok (.iload 4, 2) := by decide +kernel
theorem dX12_proof_22 : decode cX12_proof 22 = .ok (.bipush 40, 2) := by decide +kernel
theorem dX12_proof_24 : decode cX12_proof 24 = .ok (.if_icmp .ge 30, 3) := by decide +kernel
theorem dX12_proof_27 : decode cX12_proof 27 = .ok (.lload_n 2, 1) := by decide +kernel
theorem dX12_proof_28 : decode cX12_proof 28 = .ok (.iload 4, 2) := by decide +kernel
theorem dX12_proof_30 : decode cX12_proof 30 = .ok (.invokestatic 225, 3) := by decide +kernel
theorem dX12_proof_33 : decode cX12_proof 33 = .ok (.ifCond .eq 15, 3) := by decide +kernel
theorem dX12_proof_36 : decode cX12_proof 36 = .ok (.aload_n 0, 1) := by decide +kernel
theorem dX12_proof_37 : decode cX12_proof 37 = .ok (.iload_n 1, 1) := by decide +kernel
theorem dX12_proof_38 : decode cX12_proof 38 = .ok (.iload 4, 2) := by decide +kernel
theorem dX12_proof_40 : decode cX12_proof 40 = .ok (.invokevirtual 311, 3) := by decide +kernel
theorem dX12_proof_43 : decode cX12_proof 43 = .ok (.ifCond .ne 5, 3) := by decide +kernel
theorem dX12_proof_46 : decode cX12_proof 46 = .ok (.iconst (-1), 1) := by decide +kernel
theorem dX12_proof_47 : decode cX12_proof 47 = .ok (.ireturn, 1) := by decide +kernel
theorem dX12_proof_48 : decode cX12_proof 48 = .ok (.iinc 4 1, 3) := by decide +kernel
theorem dX12_proof_51 : decode cX12_proof 51 = .ok (.goto (-31), 3) := by decide +kernel
theorem dX12_proof_54 : decode cX12_proof 54 = .ok (.aload_n 0, 1) := by decide +kernel
theorem dX12_proof_55 : decode cX12_proof 55 = .ok (.iload_n 1, 1) := by decide +kernel
theorem dX12_proof_56 : decode cX12_proof 56 = .ok (.invokevirtual 288, 3) := by decide +kernel
theorem dX12_proof_59 : decode cX12_proof 59 = .ok (.ifCond .ne 5, 3) := by decide +kernel
theorem dX12_proof_62 : decode cX12_proof 62 = .ok (.iconst (-1), 1) := by decide +kernel
theorem dX12_proof_63 : decode cX12_proof 63 = .ok (.ireturn, 1) := by decide +kernel
theorem dX12_proof_64 : decode cX12_proof 64 = .ok (.aload_n 0, 1) := by decide +kernel
theorem dX12_proof_65 : decode cX12_proof 65 = .ok (.getfield 196, 3) := by decide +kernel
theorem dX12_proof_68 : decode cX12_proof 68 = .ok (.lstore 4, 2) := by decide +kernel
theorem dX12_proof_70 : decode cX12_proof 70 = .ok (.aload_n 0, 1) := by decide +kernel
theorem dX12_proof_71 : decode cX12_proof 71 = .ok (.getfield 199, 3) := by decide +kernel
theorem dX12_proof_74 : decode cX12_proof 74 = .ok (.lstore 6, 2) := by decide +kernel
theorem dX12_proof_76 : decode cX12_proof 76 = .ok (.lconst 0, 1) := by decide +kernel
theorem dX12_proof_77 : decode cX12_proof 77 = .ok (.lstore 8, 2) := by decide +kernel
theorem dX12_proof_79 : decode cX12_proof 79 = .ok (.iconst 0, 1) := by decide +kernel
theorem dX12_proof_80 : decode cX12_proof 80 = .ok (.istore 10, 2) := by decide +kernel
theorem dX12_proof_82 : decode cX12_proof 82 = .ok (.iload 10, 2) := by decide +kernel
theorem dX12_proof_84 : decode cX12_proof 84 = .ok (.bipush 40, 2) := by decide +kernel
theorem dX12_proof_86 : decode cX12_proof 86 = .ok (.if_icmp .ge 41, 3) := by decide +kernel
theorem dX12_proof_89 : decode cX12_proof 89 = .ok (.lload_n 2, 1) := by decide +kernel
theorem dX12_proof_90 : decode cX12_proof 90 = .ok (.iload 10, 2) := by decide +kernel
theorem dX12_proof_92 : decode cX12_proof 92 = .ok (.invokestatic 225, 3) := by decide +kernel
theorem dX12_proof_95 : decode cX12_proof 95 = .ok (.ifCond .eq 26, 3) := by decide +kernel
theorem dX12_proof_98 : decode cX12_proof 98 = .ok (.lload 8, 2) := by decide +kernel
theorem dX12_proof_100 : decode cX12_proof 100 = .ok (.lconst 1, 1) := by decide +kernel
theorem dX12_proof_101 : decode cX12_proof 101 = .ok (.aload_n 0, 1) := by decide +kernel
theorem dX12_proof_102 : decode cX12_proof 102 = .ok (.aload_n 0, 1) := by decide +kernel
theorem dX12_proof_103 : decode cX12_proof 103 = .ok (.iload 10, 2) := by decide +kernel
theorem dX12_proof_105 : decode cX12_proof 105 = .ok (.invokevirtual 116, 3) := by decide +kernel
theorem dX12_proof_108 : decode cX12_proof 108 = .ok (.aload_n 0, 1) := by decide +kernel
theorem dX12_proof_109 : decode cX12_proof 109 = .ok (.iload 10, 2) := by decide +kernel
theorem dX12_proof_111 : decode cX12_proof 111 = .ok (.invokevirtual 119, 3) := by decide +kernel
theorem dX12_proof_114 : decode cX12_proof 114 = .ok (.invokevirtual 314, 3) := by decide +kernel
theorem dX12_proof_117 : decode cX12_proof 117 = .ok (.lshl, 1) := by decide +kernel
theorem dX12_proof_118 : decode cX12_proof 118 = .ok (.lor, 1) := by decide +kernel
theorem dX12_proof_119 : decode cX12_proof 119 = .ok (.lstore 8, 2) := by decide +kernel
theorem dX12_proof_121 : decode cX12_proof 121 = .ok (.iinc 10 1, 3) := by decide +kernel
theorem dX12_proof_124 : decode cX12_proof 124 = .ok (.goto (-42), 3) := by decide +kernel
theorem dX12_proof_127 : decode cX12_proof 127 = .ok (.aload_n 0, 1) := by decide +kernel
theorem dX12_proof_128 : decode cX12_proof 128 = .ok (.lload 8, 2) := by decide +kernel
theorem dX12_proof_130 : decode cX12_proof 130 = .ok (.invokevirtual 285, 3) := by decide +kernel
theorem dX12_proof_133 : decode cX12_proof 133 = .ok (.aload_n 0, 1) := by decide +kernel
theorem dX12_proof_134 : decode cX12_proof 134 = .ok (.getfield 196, 3) := by decide +kernel
theorem dX12_proof_137 : decode cX12_proof 137 = .ok (.lload 4, 2) := by decide +kernel
theorem dX12_proof_139 : decode cX12_proof 139 = .ok (.lcmp, 1) := by decide +kernel
theorem dX12_proof_140 : decode cX12_proof 140 = .ok (.ifCond .ne 17, 3) := by decide +kernel
theorem dX12_proof_143 : decode cX12_proof 143 = .ok (.aload_n 0, 1) := by decide +kernel
theorem dX12_proof_144 : decode cX12_proof 144 = .ok (.getfield 199, 3) := by decide +kernel
theorem dX12_proof_147 : decode cX12_proof 147 = .ok (.lload 6, 2) := by decide +kernel
theorem dX12_proof_149 : decode cX12_proof 149 = .ok (.lcmp, 1) := by decide +kernel
theorem dX12_proof_150 : decode cX12_proof 150 = .ok (.ifCond .ne 7, 3) := by decide +kernel
theorem dX12_proof_153 : decode cX12_proof 153 = .ok (.iconst 1, 1) := by decide +kernel
theorem dX12_proof_154 : decode cX12_proof 154 = .ok (.goto 4, 3) := by decide +kernel
theorem dX12_proof_157 : decode cX12_proof 157 = .ok (.iconst 0, 1) := by decide +kernel
theorem dX12_proof_158 : decode cX12_proof 158 = .ok (.ireturn, 1) := by decide +kernel
theorem dX12_when_0 : decode cX12_when 0 = .ok (.iload_n 2, 1) := by decide +kernel
theorem dX12_when_1 : decode cX12_when 1 = .ok (.ifCond .lt 11, 3) := by decide +kernel
theorem dX12_when_4 : decode cX12_when 4 = .ok (.aload_n 0, 1) := by decide +kernel
theorem dX12_when_5 : decode cX12_when 5 = .ok (.iload_n 1, 1) := by decide +kernel
theorem dX12_when_6 : decode cX12_when 6 = .ok (.invokevirtual 173, 3) := by decide +kernel
theorem dX12_when_9 : decode cX12_when 9 = .ok (.ifCond .ne 5, 3) := by decide +kernel
theorem dX12_when_12 : decode cX12_when 12 = .ok (.iconst (-1), 1) := by decide +kernel
theorem dX12_when_13 : decode cX12_when 13 = .ok (.ireturn, 1) := by decide +kernel
theorem dX12_when_14 : decode cX12_when 14 = .ok (.aload_n 0, 1) := by decide +kernel
theorem dX12_when_15 : decode cX12_when 15 = .ok (.getfield 7, 3) := by decide +kernel
theorem dX12_when_18 : decode cX12_when 18 = .ok (.sipush 168, 3) := by decide +kernel
theorem dX12_when_21 : decode cX12_when 21 = .ok (.iaload, 1) := by decide +kernel
theorem dX12_when_22 : decode cX12_when 22 = .ok (.istore_n 3, 1) := by decide +kernel
theorem dX12_when_23 : decode cX12_when 23 = .ok (.iconst (-1), 1) := by decide +kernel
theorem dX12_when_24 : decode cX12_when 24 = .ok (.istore 4, 2) := by decide +kernel
theorem dX12_when_26 : decode cX12_when 26 = .ok (.iconst 0, 1) := by decide +kernel
theorem dX12_when_27 : decode cX12_when 27 = .ok (.istore 5, 2) := by decide +kernel
theorem dX12_when_29 : decode cX12_when 29 = .ok (.iload 5, 2) := by decide +kernel
theorem dX12_when_31 : decode cX12_when 31 = .ok (.bipush 20, 2) := by decide +kernel
theorem dX12_when_33 : decode cX12_when 33 = .ok (.if_icmp .gt 54, 3) := by decide +kernel
theorem dX12_when_36 : decode cX12_when 36 = .ok (.iload 4, 2) := by decide +kernel
theorem dX12_when_38 : decode cX12_when 38 = .ok (.iconst (-1), 1) := by decide +kernel
theorem dX12_when_39 : decode cX12_when 39 = .ok (.if_icmp .ne 48, 3) := by decide +kernel
theorem dX12_when_42 : decode cX12_when 42 = .ok (.aload_n 0, 1) := by decide +kernel
theorem dX12_when_43 : decode cX12_when 43 = .ok (.getfield 7, 3) := by decide +kernel
theorem dX12_when_46 : decode cX12_when 46 = .ok (.sipush 168, 3) := by decide +kernel
theorem dX12_when_49 : decode cX12_when 49 = .ok (.iload 5, 2) := by decide +kernel
theorem dX12_when_51 : decode cX12_when 51 = .ok (.iastore, 1) := by decide +kernel
theorem dX12_when_52 : decode cX12_when 52 = .ok (.aload_n 0, 1) := by decide +kernel
theorem dX12_when_53 : decode cX12_when 53 = .ok (.iload_n 1, 1) := by decide +kernel
theorem dX12_when_54 : decode cX12_when 54 = .ok (.invokevirtual 288, 3) := by decide +kernel
theorem dX12_when_57 : decode cX12_when 57 = .ok (.ifCond .eq 24, 3) := by decide +kernel
theorem dX12_when_60 : decode cX12_when 60 = .ok (.aload_n 0, 1) := by decide +kernel
theorem dX12_when_61 : decode cX12_when 61 = .ok (.getfield 196, 3) := by decide +kernel
theorem dX12_when_64 : decode cX12_when 64 = .ok (.aload_n 0, 1) := by decide +kernel
theorem dX12_when_65 : decode cX12_when 65 = .ok (.getfield 199, 3) := by decide +kernel
theorem dX12_when_68 : decode cX12_when 68 = .ok (.iload_n 2, 1) := by decide +kernel
theorem dX12_when_69 : decode cX12_when 69 = .ok (.i2l, 1) := by decide +kernel
theorem dX12_when_70 : decode cX12_when 70 = .ok (.lconst 1, 1) := by decide +kernel
theorem dX12_when_71 : decode cX12_when 71 = .ok (.invokestatic 271, 3) := by decide +kernel
theorem dX12_when_74 : decode cX12_when 74 = .ok (.ifCond .le 7, 3) := by decide +kernel
theorem dX12_when_77 : decode cX12_when 77 = .ok (.iload 5, 2) := by decide +kernel
theorem dX12_when_79 : decode cX12_when 79 = .ok (.istore 4, 2) := by decide +kernel
theorem dX12_when_81 : decode cX12_when 81 = .ok (.iinc 5 1, 3) := by decide +kernel
theorem dX12_when_84 : decode cX12_when 84 = .ok (.goto (-55), 3) := by decide +kernel
theorem dX12_when_87 : decode cX12_when 87 = .ok (.aload_n 0, 1) := by decide +kernel
theorem dX12_when_88 : decode cX12_when 88 = .ok (.getfield 7, 3) := by decide +kernel
theorem dX12_when_91 : decode cX12_when 91 = .ok (.sipush 168, 3) := by decide +kernel
theorem dX12_when_94 : decode cX12_when 94 = .ok (.iload_n 3, 1) := by decide +kernel
theorem dX12_when_95 : decode cX12_when 95 = .ok (.iastore, 1) := by decide +kernel
theorem dX12_when_96 : decode cX12_when 96 = .ok (.iload 4, 2) := by decide +kernel
theorem dX12_when_98 : decode cX12_when 98 = .ok (.ireturn, 1) := by decide +kernel
theorem dX12_calm_0 : decode cX12_calm 0 = .ok (.iload_n 2, 1) := by decide +kernel
theorem dX12_calm_1 : decode cX12_calm 1 = .ok (.iconst 0, 1) := by decide +kernel
theorem dX12_calm_2 : decode cX12_calm 2 = .ok (.iconst 2, 1) := by decide +kernel
theorem dX12_calm_3 : decode cX12_calm 3 = .ok (.invokestatic 76, 3) := by decide +kernel
theorem dX12_calm_6 : decode cX12_calm 6 = .ok (.ifCond .eq 11, 3) := by decide +kernel
theorem dX12_calm_9 : decode cX12_calm 9 = .ok (.aload_n 0, 1) := by decide +kernel
theorem dX12_calm_10 : decode cX12_calm 10 = .ok (.iload_n 1, 1) := by decide +kernel
theorem dX12_calm_11 : decode cX12_calm 11 = .ok (.invokevirtual 173, 3) := by decide +kernel
theorem dX12_calm_14 : decode cX12_calm 14 = .ok (.ifCond .ne 7, 3) := by decide +kernel
theorem dX12_calm_17 : decode cX12_calm 17 = .ok (.ldc2_w 220, 3) := by decide +kernel
theorem dX12_calm_20 : decode cX12_calm 20 = .ok (.lreturn, 1) := by decide +kernel
theorem dX12_calm_21 : decode cX12_calm 21 = .ok (.aload_n 0, 1) := by decide +kernel
theorem dX12_calm_22 : decode cX12_calm 22 = .ok (.getfield 7, 3) := by decide +kernel
theorem dX12_calm_25 : decode cX12_calm 25 = .ok (.sipush 168, 3) := by decide +kernel
theorem dX12_calm_28 : decode cX12_calm 28 = .ok (.iaload, 1) := by decide +kernel
theorem dX12_calm_29 : decode cX12_calm 29 = .ok (.istore_n 3, 1) := by decide +kernel
theorem dX12_calm_30 : decode cX12_calm 30 = .ok (.iconst (-1), 1) := by decide +kernel
theorem dX12_calm_31 : decode cX12_calm 31 = .ok (.istore 4, 2) := by decide +kernel
theorem dX12_calm_33 : decode cX12_calm 33 = .ok (.lconst 0, 1) := by decide +kernel
theorem dX12_calm_34 : decode cX12_calm 34 = .ok (.lstore 5, 2) := by decide +kernel
theorem dX12_calm_36 : decode cX12_calm 36 = .ok (.lconst 1, 1) := by decide +kernel
theorem dX12_calm_37 : decode cX12_calm 37 = .ok (.lstore 7, 2) := by decide +kernel
theorem dX12_calm_39 : decode cX12_calm 39 = .ok (.iconst 0, 1) := by decide +kernel
theorem dX12_calm_40 : decode cX12_calm 40 = .ok (.istore 9, 2) := by decide +kernel
theorem dX12_calm_42 : decode cX12_calm 42 = .ok (.iload 9, 2) := by decide +kernel
theorem dX12_calm_44 : decode cX12_calm 44 = .ok (.bipush 20, 2) := by decide +kernel
theorem dX12_calm_46 : decode cX12_calm 46 = .ok (.if_icmp .gt 69, 3) := by decide +kernel
theorem dX12_calm_49 : decode cX12_calm 49 = .ok (.aload_n 0, 1) := by decide +kernel
theorem dX12_calm_50 : decode cX12_calm 50 = .ok (.getfield 7, 3) := by decide +kernel
theorem dX12_calm_53 : decode cX12_calm 53 = .ok (.sipush 168, 3) := by decide +kernel
theorem dX12_calm_56 : decode cX12_calm 56 = .ok (.iload 9, 2) := by decide +kernel
theorem dX12_calm_58 : decode cX12_calm 58 = .ok (.iastore, 1) := by decide +kernel
theorem dX12_calm_59 : decode cX12_calm 59 = .ok (.aload_n 0, 1) := by decide +kernel
theorem dX12_calm_60 : decode cX12_calm 60 = .ok (.iload_n 1, 1) := by decide +kernel
theorem dX12_calm_61 : decode cX12_calm 61 = .ok (.invokevirtual 288, 3) := by decide +kernel
theorem dX12_calm_64 : decode cX12_calm 64 = .ok (.istore 10, 2) := by decide +kernel
theorem dX12_calm_66 : decode cX12_calm 66 = .ok (.iload 4, 2) := by decide +kernel
theorem dX12_calm_68 : decode cX12_calm 68 = .ok (.iconst (-1), 1) := by decide +kernel
theorem dX12_calm_69 : decode cX12_calm 69 = .ok (.if_icmp .eq 24, 3) := by decide +kernel
theorem dX12_calm_72 : decode cX12_calm 72 = .ok (.aload_n 0, 1) := by decide +kernel
theorem dX12_calm_73 : decode cX12_calm 73 = .ok (.getfield 196, 3) := by decide +kernel
theorem dX12_calm_76 : decode cX12_calm 76 = .ok (.aload_n 0, 1) := by decide +kernel
theorem dX12_calm_77 : decode cX12_calm 77 = .ok (.getfield 199, 3) := by decide +kernel
theorem dX12_calm_80 : decode cX12_calm 80 = .ok (.lload 5, 2) := by decide +kernel
theorem dX12_calm_82 : decode cX12_calm 82 = .ok (.lload 7, 2) := by decide +kernel
theorem dX12_calm_84 : decode cX12_calm 84 = .ok (.invokestatic 271, 3) := by decide +kernel
theorem dX12_calm_87 : decode cX12_calm 87 = .ok (.ifCond .lt 6, 3) := by decide +kernel
theorem dX12_calm_90 : decode cX12_calm 90 = .ok (.goto 19, 3) := by decide +kernel
theorem dX12_calm_93 : decode cX12_calm 93 = .ok (.iload 9, 2) := by decide +kernel
theorem dX12_calm_95 : decode cX12_calm 95 = .ok (.istore 4, 2) := by decide +kernel
theorem dX12_calm_97 : decode cX12_calm 97 = .ok (.aload_n 0, 1) := by decide +kernel
theorem dX12_calm_98 : decode cX12_calm 98 = .ok (.getfield 196, 3) := by decide +kernel
theorem dX12_calm_101 : decode cX12_calm 101 = .ok (.lstore 5, 2) := by decide +kernel
theorem dX12_calm_103 : decode cX12_calm 103 = .ok (.aload_n 0, 1) := by decide +kernel
theorem dX12_calm_104 : decode cX12_calm 104 = .ok (.getfield 199, 3) := by decide +kernel
theorem dX12_calm_107 : decode cX12_calm 107 = .ok (.lstore 7, 2) := by decide +kernel
theorem dX12_calm_109 : decode cX12_calm 109 = .ok (.iinc 9 1, 3) := by decide +kernel
theorem dX12_calm_112 : decode cX12_calm 112 = .ok (.goto (-70), 3) := by decide +kernel
theorem dX12_calm_115 : decode cX12_calm 115 = .ok (.aload_n 0, 1) := by decide +kernel
theorem dX12_calm_116 : decode cX12_calm 116 = .ok (.getfield 7, 3) := by decide +kernel
theorem dX12_calm_119 : decode cX12_calm 119 = .ok (.sipush 168, 3) := by decide +kernel
theorem dX12_calm_122 : decode cX12_calm 122 = .ok (.iload_n 3, 1) := by decide +kernel
theorem dX12_calm_123 : decode cX12_calm 123 = .ok (.iastore, 1) := by decide +kernel
theorem dX12_calm_124 : decode cX12_calm 124 = .ok (.iload_n 2, 1) := by decide +kernel
theorem dX12_calm_125 : decode cX12_calm 125 = .ok (.ifCond .ne 9, 3) := by decide +kernel
theorem dX12_calm_128 : decode cX12_calm 128 = .ok (.iload 4, 2) := by decide +kernel
theorem dX12_calm_130 : decode cX12_calm 130 = .ok (.i2l, 1) := by decide +kernel
theorem dX12_calm_131 : decode cX12_calm 131 = .ok (.goto 15, 3) := by decide +kernel
theorem dX12_calm_134 : decode cX12_calm 134 = .ok (.iload_n 2, 1) := by decide +kernel
theorem dX12_calm_135 : decode cX12_calm 135 = .ok (.iconst 1, 1) := by decide +kernel
theorem dX12_calm_136 : decode cX12_calm 136 = .ok (.if_icmp .ne 8, 3) := by decide +kernel
theorem dX12_calm_139 : decode cX12_calm 139 = .ok (.lload 5, 2) := by decide +kernel
theorem dX12_calm_141 : decode cX12_calm 141 = .ok (.goto 5, 3) := by decide +kernel
theorem dX12_calm_144 : decode cX12_calm 144 = .ok (.lload 7, 2) := by decide +kernel
theorem dX12_calm_146 : decode cX12_calm 146 = .ok (.lreturn, 1) := by decide +kernel
theorem dX12_worse_0 : decode cX12_worse 0 = .ok (.iload_n 2, 1) := by decide +kernel
theorem dX12_worse_1 : decode cX12_worse 1 = .ok (.sipush 150, 3) := by decide +kernel
theorem dX12_worse_4 : decode cX12_worse 4 = .ok (.invokestatic 293, 3) := by decide +kernel
theorem dX12_worse_7 : decode cX12_worse 7 = .ok (.ifCond .eq 31, 3) := by decide +kernel
theorem dX12_worse_10 : decode cX12_worse 10 = .ok (.iload_n 3, 1) := by decide +kernel
theorem dX12_worse_11 : decode cX12_worse 11 = .ok (.sipush 150, 3) := by decide +kernel
theorem dX12_worse_14 : decode cX12_worse 14 = .ok (.invokestatic 293, 3) := by decide +kernel
theorem dX12_worse_17 : decode cX12_worse 17 = .ok (.ifCond .eq 21, 3) := by decide +kernel
theorem dX12_worse_20 : decode cX12_worse 20 = .ok (.iload 4, 2) := by decide +kernel
theorem dX12_worse_22 : decode cX12_worse 22 = .ok (.iconst 0, 1) := by decide +kernel
theorem dX12_worse_23 : decode cX12_worse 23 = .ok (.iconst 2, 1) := by decide +kernel
theorem dX12_worse_24 : decode cX12_worse 24 = .ok (.invokestatic 76, 3) := by decide +kernel
theorem dX12_worse_27 : decode cX12_worse 27 = .ok (.ifCond .eq 11, 3) := by decide +kernel
theorem dX12_worse_30 : decode cX12_worse 30 = .ok (.aload_n 0, 1) := by decide +kernel
theorem dX12_worse_31 : decode cX12_worse 31 = .ok (.iload_n 1, 1) := by decide +kernel
theorem dX12_worse_32 : decode cX12_worse 32 = .ok (.invokevirtual 288, 3) := by decide +kernel
theorem dX12_worse_35 : decode cX12_worse 35 = .ok (.ifCond .ne 7, 3) := by decide +kernel
theorem dX12_worse_38 : decode cX12_worse 38 = .ok (.ldc2_w 220, 3) := by decide +kernel
theorem dX12_worse_41 : decode cX12_worse 41 = .ok (.lreturn, 1) := by decide +kernel
theorem dX12_worse_42 : decode cX12_worse 42 = .ok (.aload_n 0, 1) := by decide +kernel
theorem dX12_worse_43 : decode cX12_worse 43 = .ok (.invokevirtual 308, 3) := by decide +kernel
theorem dX12_worse_46 : decode cX12_worse 46 = .ok (.aload_n 0, 1) := by decide +kernel
theorem dX12_worse_47 : decode cX12_worse 47 = .ok (.getfield 299, 3) := by decide +kernel
theorem dX12_worse_50 : decode cX12_worse 50 = .ok (.istore 5, 2) := by decide +kernel
theorem dX12_worse_52 : decode cX12_worse 52 = .ok (.iconst 0, 1) := by decide +kernel
theorem dX12_worse_53 : decode cX12_worse 53 = .ok (.istore 6, 2) := by decide +kernel
theorem dX12_worse_55 : decode cX12_worse 55 = .ok (.iload 6, 2) := by decide +kernel
theorem dX12_worse_57 : decode cX12_worse 57 = .ok (.iload 5, 2) := by decide +kernel
theorem dX12_worse_59 : decode cX12_worse 59 = .ok (.if_icmp .ge 47, 3) := by decide +kernel
theorem dX12_worse_62 : decode cX12_worse 62 = .ok (.aload_n 0, 1) := by decide +kernel
theorem dX12_worse_63 : decode cX12_worse 63 = .ok (.getfield 48, 3) := by decide +kernel
theorem dX12_worse_66 : decode cX12_worse 66 = .ok (.iload 6, 2) := by decide +kernel
theorem dX12_worse_68 : decode cX12_worse 68 = .ok (.aload_n 0, 1) := by decide +kernel
theorem dX12_worse_69 : decode cX12_worse 69 = .ok (.getfield 33, 3) := by decide +kernel
theorem dX12_worse_72 : decode cX12_worse 72 = .ok (.aload_n 0, 1) := by decide +kernel
theorem dX12_worse_73 : decode cX12_worse 73 = .ok (.getfield 45, 3) := by decide +kernel
theorem dX12_worse_76 : decode cX12_worse 76 = .ok (.iload 6, 2) := by decide +kernel
theorem dX12_worse_78 : decode cX12_worse 78 = .ok (.iaload, 1) := by decide +kernel
theorem dX12_worse_79 : decode cX12_worse 79 = .ok (.iaload, 1) := by decide +kernel
theorem dX12_worse_80 : decode cX12_worse 80 = .ok (.iastore, 1) := by decide +kernel
theorem dX12_worse_81 : decode cX12_worse 81 = .ok (.aload_n 0, 1) := by decide +kernel
theorem dX12_worse_82 : decode cX12_worse 82 = .ok (.getfield 51, 3) := by decide +kernel
theorem dX12_worse_85 : decode cX12_worse 85 = .ok (.iload 6, 2) := by decide +kernel
theorem dX12_worse_87 : decode cX12_worse 87 = .ok (.aload_n 0, 1) := by decide +kernel
theorem dX12_worse_88 : decode cX12_worse 88 = .ok (.getfield 36, 3) := by decide +kernel
theorem dX12_worse_91 : decode cX12_worse 91 = .ok (.aload_n 0, 1) := by decide +kernel
theorem dX12_worse_92 : decode cX12_worse 92 = .ok (.getfield 45, 3) := by decide +kernel
theorem dX12_worse_95 : decode cX12_worse 95 = .ok (.iload 6, 2) := by decide +kernel
theorem dX12_worse_97 : decode cX12_worse 97 = .ok (.iaload, 1) := by decide +kernel
theorem dX12_worse_98 : decode cX12_worse 98 = .ok (.iaload, 1) := by decide +kernel
theorem dX12_worse_99 : decode cX12_worse 99 = .ok (.iastore, 1) := by decide +kernel
theorem dX12_worse_100 : decode cX12_worse 100 = .ok (.iinc 6 1, 3) := by decide +kernel
theorem dX12_worse_103 : decode cX12_worse 103 = .ok (.goto (-48), 3) := by decide +kernel
theorem dX12_worse_106 : decode cX12_worse 106 = .ok (.aload_n 0, 1) := by decide +kernel
theorem dX12_worse_107 : decode cX12_worse 107 = .ok (.iload_n 2, 1) := by decide +kernel
theorem dX12_worse_108 : decode cX12_worse 108 = .ok (.iload_n 3, 1) := by decide +kernel
theorem dX12_worse_109 : decode cX12_worse 109 = .ok (.bipush 40, 2) := by decide +kernel
theorem dX12_worse_111 : decode cX12_worse 111 = .ok (.invokevirtual 163, 3) := by decide +kernel
theorem dX12_worse_114 : decode cX12_worse 114 = .ok (.aload_n 0, 1) := by decide +kernel
theorem dX12_worse_115 : decode cX12_worse 115 = .ok (.aload_n 0, 1) := by decide +kernel
theorem dX12_worse_116 : decode cX12_worse 116 = .ok (.invokevirtual 281, 3) := by decide +kernel
theorem dX12_worse_119 : decode cX12_worse 119 = .ok (.invokevirtual 285, 3) := by decide +kernel
theorem dX12_worse_122 : decode cX12_worse 122 = .ok (.iload 4, 2) := by decide +kernel
theorem dX12_worse_124 : decode cX12_worse 124 = .ok (.iconst 2, 1) := by decide +kernel
theorem dX12_worse_125 : decode cX12_worse 125 = .ok (.if_icmp .ge 20, 3) := by decide +kernel
theorem dX12_worse_128 : decode cX12_worse 128 = .ok (.iload 4, 2) := by decide +kernel
theorem dX12_worse_130 : decode cX12_worse 130 = .ok (.ifCond .ne 10, 3) := by decide +kernel
theorem dX12_worse_133 : decode cX12_worse 133 = .ok (.aload_n 0, 1) := by decide +kernel
theorem dX12_worse_134 : decode cX12_worse 134 = .ok (.getfield 196, 3) := by decide +kernel
theorem dX12_worse_137 : decode cX12_worse 137 = .ok (.goto 7, 3) := by decide +kernel
theorem dX12_worse_140 : decode cX12_worse 140 = .ok (.aload_n 0, 1) := by decide +kernel
theorem dX12_worse_141 : decode cX12_worse 141 = .ok (.getfield 199, 3) := by decide +kernel
theorem dX12_worse_144 : decode cX12_worse 144 = .ok (.lreturn, 1) := by decide +kernel
theorem dX12_worse_145 : decode cX12_worse 145 = .ok (.iconst 0, 1) := by decide +kernel
theorem dX12_worse_146 : decode cX12_worse 146 = .ok (.istore 6, 2) := by decide +kernel
theorem dX12_worse_148 : decode cX12_worse 148 = .ok (.iconst 0, 1) := by decide +kernel
theorem dX12_worse_149 : decode cX12_worse 149 = .ok (.istore 7, 2) := by decide +kernel
theorem dX12_worse_151 : decode cX12_worse 151 = .ok (.iload 7, 2) := by decide +kernel
theorem dX12_worse_153 : decode cX12_worse 153 = .ok (.iload 5, 2) := by decide +kernel
theorem dX12_worse_155 : decode cX12_worse 155 = .ok (.if_icmp .ge 44, 3) := by decide +kernel
theorem dX12_worse_158 : decode cX12_worse 158 = .ok (.iload 6, 2) := by decide +kernel
theorem dX12_worse_160 : decode cX12_worse 160 = .ok (.aload_n 0, 1) := by decide +kernel
theorem dX12_worse_161 : decode cX12_worse 161 = .ok (.aload_n 0, 1) := by decide +kernel
theorem dX12_worse_162 : decode cX12_worse 162 = .ok (.getfield 48, 3) := by decide +kernel
theorem dX12_worse_165 : decode cX12_worse 165 = .ok (.iload 7, 2) := by decide +kernel
theorem dX12_worse_167 : decode cX12_worse 167 = .ok (.iaload, 1) := by decide +kernel
theorem dX12_worse_168 : decode cX12_worse 168 = .ok (.i2l, 1) := by decide +kernel
theorem dX12_worse_169 : decode cX12_worse 169 = .ok (.aload_n 0, 1) := by decide +kernel
theorem dX12_worse_170 : decode cX12_worse 170 = .ok (.getfield 51, 3) := by decide +kernel
theorem dX12_worse_173 : decode cX12_worse 173 = .ok (.iload 7, 2) := by decide +kernel
