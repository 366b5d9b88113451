theorem dX11_init_0 : decode cX11_init 0 = .ok (.aload_n 0, 1) := by decide +kernel
theorem dX11_init_1 : decode cX11_init 1 = .ok (.invokespecial 1, 3) := by decide +kernel
theorem dX11_init_4 : decode cX11_init 4 = .ok (.aload_n 0, 1) := by decide +kernel
theorem dX11_init_5 : decode cX11_init 5 = .ok (.new 7, 3) := by decide +kernel
theorem dX11_init_8 : decode cX11_init 8 = .ok (.dup, 1) := by decide +kernel
theorem dX11_init_9 : decode cX11_init 9 = .ok (.invokespecial 9, 3) := by decide +kernel
theorem dX11_init_12 : decode cX11_init 12 = .ok (.putfield 10, 3) := by decide +kernel
theorem dX11_init_15 : decode cX11_init 15 = .ok (.aload_n 0, 1) := by decide +kernel
theorem dX11_init_16 : decode cX11_init 16 = .ok (.new 16, 3) := by decide +kernel
theorem dX11_init_19 : decode cX11_init 19 = .ok (.dup, 1) := by decide +kernel
theorem dX11_init_20 : decode cX11_init 20 = .ok (.invokespecial 18, 3) := by decide +kernel
theorem dX11_init_23 : decode cX11_init 23 = .ok (.putfield 19, 3) := by decide +kernel
theorem dX11_init_26 : decode cX11_init 26 = .ok (.aload_n 0, 1) := by decide +kernel
theorem dX11_init_27 : decode cX11_init 27 = .ok (.new 23, 3) := by decide +kernel
theorem dX11_init_30 : decode cX11_init 30 = .ok (.dup, 1) := by decide +kernel
theorem dX11_init_31 : decode cX11_init 31 = .ok (.invokespecial 25, 3) := by decide +kernel
theorem dX11_init_34 : decode cX11_init 34 = .ok (.putfield 26, 3) := by decide +kernel
theorem dX11_init_37 : decode cX11_init 37 = .ok (.aload_n 0, 1) := by decide +kernel
theorem dX11_init_38 : decode cX11_init 38 = .ok (.new 23, 3) := by decide +kernel
theorem dX11_init_41 : decode cX11_init 41 = .ok (.dup, 1) := by decide +kernel
theorem dX11_init_42 : decode cX11_init 42 = .ok (.invokespecial 25, 3) := by decide +kernel
theorem dX11_init_45 : decode cX11_init 45 = .ok (.putfield 30, 3) := by decide +kernel
theorem dX11_init_48 : decode cX11_init 48 = .ok (.aload_n 0, 1) := by decide +kernel
theorem dX11_init_49 : decode cX11_init 49 = .ok (.new 33, 3) := by decide +kernel
theorem dX11_init_52 : decode cX11_init 52 = .ok (.dup, 1) := by decide +kernel
theorem dX11_init_53 : decode cX11_init 53 = .ok (.invokespecial 35, 3) := by decide +kernel
theorem dX11_init_56 : decode cX11_init 56 = .ok (.putfield 36, 3) := by decide +kernel
theorem dX11_init_59 : decode cX11_init 59 = .ok (.aload_n 0, 1) := by decide +kernel
theorem dX11_init_60 : decode cX11_init 60 = .ok (.new 33, 3) := by decide +kernel
theorem dX11_init_63 : decode cX11_init 63 = .ok (.dup, 1) := by decide +kernel
theorem dX11_init_64 : decode cX11_init 64 = .ok (.invokespecial 35, 3) := by decide +kernel
theorem dX11_init_67 : decode cX11_init 67 = .ok (.putfield 40, 3) := by decide +kernel
theorem dX11_init_70 : decode cX11_init 70 = .ok (.aload_n 0, 1) := by decide +kernel
theorem dX11_init_71 : decode cX11_init 71 = .ok (.new 43, 3) := by decide +kernel
theorem dX11_init_74 : decode cX11_init 74 = .ok (.dup, 1) := by decide +kernel
theorem dX11_init_75 : decode cX11_init 75 = .ok (.invokespecial 45, 3) := by decide +kernel
theorem dX11_init_78 : decode cX11_init 78 = .ok (.putfield 46, 3) := by decide +kernel
theorem dX11_init_81 : decode cX11_init 81 = .ok (.aload_n 0, 1) := by decide +kernel
theorem dX11_init_82 : decode cX11_init 82 = .ok (.new 43, 3) := by decide +kernel
theorem dX11_init_85 : decode cX11_init 85 = .ok (.dup, 1) := by decide +kernel
theorem dX11_init_86 : decode cX11_init 86 = .ok (.invokespecial 45, 3) := by decide +kernel
theorem dX11_init_89 : decode cX11_init 89 = .ok (.putfield 50, 3) := by decide +kernel
theorem dX11_init_92 : decode cX11_init 92 = .ok (.aload_n 0, 1) := by decide +kernel
theorem dX11_init_93 : decode cX11_init 93 = .ok (.new 53, 3) := by decide +kernel
theorem dX11_init_96 : decode cX11_init 96 = .ok (.dup, 1) := by decide +kernel
theorem dX11_init_97 : decode cX11_init 97 = .ok (.invokespecial 55, 3) := by decide +kernel
theorem dX11_init_100 : decode cX11_init 100 = .ok (.putfield 56, 3) := by decide +kernel
theorem dX11_init_103 : decode cX11_init 103 = .ok (.aload_n 0, 1) := by decide +kernel
theorem dX11_init_104 : decode cX11_init 104 = .ok (.new 60, 3) := by decide +kernel
theorem dX11_init_107 : decode cX11_init 107 = .ok (.dup, 1) := by decide +kernel
theorem dX11_init_108 : decode cX11_init 108 = .ok (.invokespecial 62, 3) := by decide +kernel
theorem dX11_init_111 : decode cX11_init 111 = .ok (.putfield 63, 3) := by decide +kernel
theorem dX11_init_114 : decode cX11_init 114 = .ok (.aload_n 0, 1) := by decide +kernel
theorem dX11_init_115 : decode cX11_init 115 = .ok (.new 67, 3) := by decide +kernel
theorem dX11_init_118 : decode cX11_init 118 = .ok (.dup, 1) := by decide +kernel
theorem dX11_init_119 : decode cX11_init 119 = .ok (.invokespecial 69, 3) := by decide +kernel
theorem dX11_init_122 : decode cX11_init 122 = .ok (.putfield 70, 3) := by decide +kernel
theorem dX11_init_125 : decode cX11_init 125 = .ok (.aload_n 0, 1) := by decide +kernel
theorem dX11_init_126 : decode cX11_init 126 = .ok (.new 74, 3) := by decide +kernel
theorem dX11_init_129 : decode cX11_init 129 = .ok (.dup, 1) := by decide +kernel
theorem dX11_init_130 : decode cX11_init 130 = .ok (.invokespecial 76, 3) := by decide +kernel
theorem dX11_init_133 : decode cX11_init 133 = .ok (.putfield 77, 3) := by decide +kernel
theorem dX11_init_136 : decode cX11_init 136 = .ok (.aload_n 0, 1) := by decide +kernel
theorem dX11_init_137 : decode cX11_init 137 = .ok (.new 81, 3) := by decide +kernel
theorem dX11_init_140 : decode cX11_init 140 = .ok (.dup, 1) := by decide +kernel
theorem dX11_init_141 : decode cX11_init 141 = .ok (.invokespecial 83, 3) := by decide +kernel
theorem dX11_init_144 : decode cX11_init 144 = .ok (.putfield 84, 3) := by decide +kernel
theorem dX11_init_147 : decode cX11_init 147 = .ok (.aload_n 0, 1) := by decide +kernel
theorem dX11_init_148 : decode cX11_init 148 = .ok (.new 88, 3) := by decide +kernel
theorem dX11_init_151 : decode cX11_init 151 = .ok (.dup, 1) := by decide +kernel
theorem dX11_init_152 : decode cX11_init 152 = .ok (.invokespecial 90, 3) := by decide +kernel
theorem dX11_init_155 : decode cX11_init 155 = .ok (.putfield 91, 3) := by decide +kernel
theorem dX11_init_158 : decode cX11_init 158 = .ok (.aload_n 0, 1) := by decide +kernel
theorem dX11_init_159 : decode cX11_init 159 = .ok (.new 88, 3) := by decide +kernel
theorem dX11_init_162 : decode cX11_init 162 = .ok (.dup, 1) := by decide +kernel
theorem dX11_init_163 : decode cX11_init 163 = .ok (.invokespecial 90, 3) := by decide +kernel
theorem dX11_init_166 : decode cX11_init 166 = .ok (.putfield 95, 3) := by decide +kernel
theorem dX11_init_169 : decode cX11_init 169 = .ok (.aload_n 0, 1) := by decide +kernel
theorem dX11_init_170 : decode cX11_init 170 = .ok (.iconst 3, 1) := by decide +kernel
theorem dX11_init_171 : decode cX11_init 171 = .ok (.newarray .int, 2) := by decide +kernel
theorem dX11_init_173 : decode cX11_init 173 = .ok (.putfield 98, 3) := by decide +kernel
theorem dX11_init_176 : decode cX11_init 176 = .ok (.return_, 1) := by decide +kernel
theorem dX11_feed_0 : decode cX11_feed 0 = .ok (.aload_n 0, 1) := by decide +kernel
theorem dX11_feed_1 : decode cX11_feed 1 = .ok (.getfield 19, 3) := by decide +kernel
theorem dX11_feed_4 : decode cX11_feed 4 = .ok (.bipush 20, 2) := by decide +kernel
theorem dX11_feed_6 : decode cX11_feed 6 = .ok (.invokevirtual 102, 3) := by decide +kernel
theorem dX11_feed_9 : decode cX11_feed 9 = .ok (.ifCond .ne 5, 3) := by decide +kernel
theorem dX11_feed_12 : decode cX11_feed 12 = .ok (.iconst (-1), 1) := by decide +kernel
theorem dX11_feed_13 : decode cX11_feed 13 = .ok (.ireturn, 1) := by decide +kernel
theorem dX11_feed_14 : decode cX11_feed 14 = .ok (.aload_n 0, 1) := by decide +kernel
theorem dX11_feed_15 : decode cX11_feed 15 = .ok (.getfield 19, 3) := by decide +kernel
theorem dX11_feed_18 : decode cX11_feed 18 = .ok (.iload_n 1, 1) := by decide +kernel
theorem dX11_feed_19 : decode cX11_feed 19 = .ok (.invokevirtual 106, 3) := by decide +kernel
theorem dX11_feed_22 : decode cX11_feed 22 = .ok (.aload_n 0, 1) := by decide +kernel
theorem dX11_feed_23 : decode cX11_feed 23 = .ok (.getfield 19, 3) := by decide +kernel
theorem dX11_feed_26 : decode cX11_feed 26 = .ok (.iload_n 2, 1) := by decide +kernel
theorem dX11_feed_27 : decode cX11_feed 27 = .ok (.invokevirtual 106, 3) := by decide +kernel
theorem dX11_feed_30 : decode cX11_feed 30 = .ok (.aload_n 0, 1) := by decide +kernel
theorem dX11_feed_31 : decode cX11_feed 31 = .ok (.getfield 19, 3) := by decide +kernel
theorem dX11_feed_34 : decode cX11_feed 34 = .ok (.iload_n 3, 1) := by decide +kernel
theorem dX11_feed_35 : decode cX11_feed 35 = .ok (.invokevirtual 106, 3) := by decide +kernel
theorem dX11_feed_38 : decode cX11_feed 38 = .ok (.aload_n 0, 1) := by decide +kernel
theorem dX11_feed_39 : decode cX11_feed 39 = .ok (.getfield 19, 3) := by decide +kernel
theorem dX11_feed_42 : decode cX11_feed 42 = .ok (.iload 4, 2) := by decide +kernel
theorem dX11_feed_44 : decode cX11_feed 44 = .ok (.invokevirtual 106, 3) := by decide +kernel
theorem dX11_feed_47 : decode cX11_feed 47 = .ok (.aload_n 0, 1) := by decide +kernel
theorem dX11_feed_48 : decode cX11_feed 48 = .ok (.getfield 19, 3) := by decide +kernel
theorem dX11_feed_51 : decode cX11_feed 51 = .ok (.iload 5, 2) := by decide +kernel
theorem dX11_feed_53 : decode cX11_feed 53 = .ok (.invokevirtual 106, 3) := by decide +kernel
theorem dX11_feed_56 : decode cX11_feed 56 = .ok (.aload_n 0, 1) := by decide +kernel
theorem dX11_feed_57 : decode cX11_feed 57 = .ok (.getfield 19, 3) := by decide +kernel
theorem dX11_feed_60 : decode cX11_feed 60 = .ok (.invokevirtual 110, 3) := by decide +kernel
theorem dX11_feed_63 : decode cX11_feed 63 = .ok (.ireturn, 1) := by decide +kernel
theorem dX11_end_0 : decode cX11_end 0 = .ok (.aload_n 0, 1) := by decide +kernel
theorem dX11_end_1 : decode cX11_end 1 = .ok (.getfield 19, 3) := by decide +kernel
theorem dX11_end_4 : decode cX11_end 4 = .ok (.iload_n 1, 1) := by decide +kernel
theorem dX11_end_5 : decode cX11_end 5 = .ok (.invokevirtual 114, 3) := by decide +kernel
theorem dX11_end_8 : decode cX11_end 8 = .ok (.ifCond .eq 7, 3) := by decide +kernel
theorem dX11_end_11 : decode cX11_end 11 = .ok (.iload_n 1, 1) := by decide +kernel
theorem dX11_end_12 : decode cX11_end 12 = .ok (.goto 4, 3) := by decide +kernel
theorem dX11_end_15 : decode cX11_end 15 = .ok (.iconst (-1), 1) := by decide +kernel
theorem dX11_end_16 : decode cX11_end 16 = .ok (.ireturn, 1) := by decide +kernel
theorem dX11_text_0 : decode cX11_text 0 = .ok (.aload_n 0, 1) := by decide +kernel
theorem dX11_text_1 : decode cX11_text 1 = .ok (.getfield 19, 3) := by decide +kernel
theorem dX11_text_4 : decode cX11_text 4 = .ok (.aload_n 0, 1) := by decide +kernel
theorem dX11_text_5 : decode cX11_text 5 = .ok (.getfield 10, 3) := by decide +kernel
theorem dX11_text_8 : decode cX11_text 8 = .ok (.invokevirtual 117, 3) := by decide +kernel
theorem dX11_text_11 : decode cX11_text 11 = .ok (.ireturn, 1) := by decide +kernel
theorem dX11_fault_0 : decode cX11_fault 0 = .ok (.aload_n 0, 1) := by decide +kernel
theorem dX11_fault_1 : decode cX11_fault 1 = .ok (.getfield 19, 3) := by decide +kernel
theorem dX11_fault_4 : decode cX11_fault 4 = .ok (.invokevirtual 121, 3) := by decide +kernel
theorem dX11_fault_7 : decode cX11_fault 7 = .ok (.ireturn, 1) := by decide +kernel
theorem dX11_put_0 : decode cX11_put 0 = .ok (.aload_n 0, 1) := by decide +kernel
theorem dX11_put_1 : decode cX11_put 1 = .ok (.getfield 10, 3) := by decide +kernel
theorem dX11_put_4 : decode cX11_put 4 = .ok (.invokevirtual 124, 3) := by decide +kernel
theorem dX11_put_7 : decode cX11_put 7 = .ok (.istore 4, 2) := by decide +kernel
theorem dX11_put_9 : decode cX11_put 9 = .ok (.iload 4, 2) := by decide +kernel
theorem dX11_put_11 : decode cX11_put 11 = .ok (.iconst (-1), 1) := by decide +kernel
theorem dX11_put_12 : decode cX11_put 12 = .ok (.if_icmp .eq 20, 3) := by decide +kernel
theorem dX11_put_15 : decode cX11_put 15 = .ok (.iload_n 1, 1) := by decide +kernel
theorem dX11_put_16 : decode cX11_put 16 = .ok (.iload_n 2, 1) := by decide +kernel
theorem dX11_put_17 : decode cX11_put 17 = .ok (.bipush 100, 2) := by decide +kernel
theorem dX11_put_19 : decode cX11_put 19 = .ok (.invokestatic 127, 3) := by decide +kernel
theorem dX11_put_22 : decode cX11_put 22 = .ok (.ifCond .eq 10, 3) := by decide +kernel
theorem dX11_put_25 : decode cX11_put 25 = .ok (.iload_n 3, 1) := by decide +kernel
theorem dX11_put_26 : decode cX11_put 26 = .ok (.invokestatic 131, 3) := by decide +kernel
theorem dX11_put_29 : decode cX11_put 29 = .ok (.ifCond .ne 5, 3) := by decide +kernel
theorem dX11_put_32 : decode cX11_put 32 = .ok (.iconst (-1), 1) := by decide +kernel
theorem dX11_put_33 : decode cX11_put 33 = .ok (.ireturn, 1) := by decide +kernel
theorem dX11_put_34 : decode cX11_put 34 = .ok (.aload_n 0, 1) := by decide +kernel
theorem dX11_put_35 : decode cX11_put 35 = .ok (.getfield 10, 3) := by decide +kernel
theorem dX11_put_38 : decode cX11_put 38 = .ok (.invokevirtual 134, 3) := by decide +kernel
theorem dX11_put_41 : decode cX11_put 41 = .ok (.aload_n 0, 1) := by decide +kernel
theorem dX11_put_42 : decode cX11_put 42 = .ok (.getfield 10, 3) := by decide +kernel
theorem dX11_put_45 : decode cX11_put 45 = .ok (.iload 4, 2) := by decide +kernel
theorem dX11_put_47 : decode cX11_put 47 = .ok (.iload_n 1, 1) := by decide +kernel
theorem dX11_put_48 : decode cX11_put 48 = .ok (.iload_n 2, 1) := by decide +kernel
theorem dX11_put_49 : decode cX11_put 49 = .ok (.iload_n 3, 1) := by decide +kernel
theorem dX11_put_50 : decode cX11_put 50 = .ok (.invokevirtual 137, 3) := by decide +kernel
theorem dX11_put_53 : decode cX11_put 53 = .ok (.aload_n 0, 1) := by decide +kernel
theorem dX11_put_54 : decode cX11_put 54 = .ok (.getfield 10, 3) := by decide +kernel
theorem dX11_put_57 : decode cX11_put 57 = .ok (.invokevirtual 141, 3) := by decide +kernel
theorem dX11_put_60 : decode cX11_put 60 = .ok (.iload 4, 2) := by decide +kernel
theorem dX11_put_62 : decode cX11_put 62 = .ok (.ireturn, 1) := by decide +kernel
theorem dX11_gone_0 : decode cX11_gone 0 = .ok (.aload_n 0, 1) := by decide +kernel
theorem dX11_gone_1 : decode cX11_gone 1 = .ok (.getfield 10, 3) := by decide +kernel
theorem dX11_gone_4 : decode cX11_gone 4 = .ok (.iload_n 1, 1) := by decide +kernel
theorem dX11_gone_5 : decode cX11_gone 5 = .ok (.invokevirtual 144, 3) := by decide +kernel
theorem dX11_gone_8 : decode cX11_gone 8 = .ok (.ifCond .ne 5, 3) := by decide +kernel
theorem dX11_gone_11 : decode cX11_gone 11 = .ok (.iconst 0, 1) := by decide +kernel
theorem dX11_gone_12 : decode cX11_gone 12 = .ok (.ireturn, 1) := by decide +kernel
theorem dX11_gone_13 : decode cX11_gone 13 = .ok (.aload_n 0, 1) := by decide +kernel
theorem dX11_gone_14 : decode cX11_gone 14 = .ok (.getfield 10, 3) := by decide +kernel
theorem dX11_gone_17 : decode cX11_gone 17 = .ok (.invokevirtual 134, 3) := by decide +kernel
theorem dX11_gone_20 : decode cX11_gone 20 = .ok (.aload_n 0, 1) := by decide +kernel
theorem dX11_gone_21 : decode cX11_gone 21 = .ok (.getfield 10, 3) := by decide +kernel
theorem dX11_gone_24 : decode cX11_gone 24 = .ok (.iload_n 1, 1) := by decide +kernel
theorem dX11_gone_25 : decode cX11_gone 25 = .ok (.invokevirtual 147, 3) := by decide +kernel
theorem dX11_gone_28 : decode cX11_gone 28 = .ok (.aload_n 0, 1) := by decide +kernel
theorem dX11_gone_29 : decode cX11_gone 29 = .ok (.getfield 10, 3) := by decide +kernel
theorem dX11_gone_32 : decode cX11_gone 32 = .ok (.invokevirtual 141, 3) := by decide +kernel
theorem dX11_gone_35 : decode cX11_gone 35 = .ok (.iconst 1, 1) := by decide +kernel
theorem dX11_gone_36 : decode cX11_gone 36 = .ok (.ireturn, 1) := by decide +kernel
theorem dX11_moved_0 : decode cX11_moved 0 = .ok (.aload_n 0, 1) := by decide +kernel
theorem dX11_moved_1 : decode cX11_moved 1 = .ok (.getfield 10, 3) := by decide +kernel
theorem dX11_moved_4 : decode cX11_moved 4 = .ok (.iload_n 1, 1) := by decide +kernel
theorem dX11_moved_5 : decode cX11_moved 5 = .ok (.invokevirtual 144, 3) := by decide +kernel
theorem dX11_moved_8 : decode cX11_moved 8 = .ok (.ifCond .eq 13, 3) := by decide +kernel
theorem dX11_moved_11 : decode cX11_moved 11 = .ok (.iload_n 2, 1) := by decide +kernel
theorem dX11_moved_12 : decode cX11_moved 12 = .ok (.iload_n 3, 1) := by decide +kernel
theorem dX11_moved_13 : decode cX11_moved 13 = .ok (.bipush 100, 2) := by decide +kernel
theorem dX11_moved_15 : decode cX11_moved 15 = .ok (.invokestatic 127, 3) := by decide +kernel
theorem dX11_moved_18 : decode cX11_moved 18 = .ok (.ifCond .ne 5, 3) := by decide +kernel
theorem dX11_moved_21 : decode cX11_moved 21 = .ok (.iconst 0, 1) := by decide +kernel
theorem dX11_moved_22 : decode cX11_moved 22 = .ok (.ireturn, 1) := by decide +kernel
theorem dX11_moved_23 : decode cX11_moved 23 = .ok (.aload_n 0, 1) := by decide +kernel
theorem dX11_moved_24 : decode cX11_moved 24 = .ok (.getfield 10, 3) := by decide +kernel
theorem dX11_moved_27 : decode cX11_moved 27 = .ok (.invokevirtual 134, 3) := by decide +kernel
theorem dX11_moved_30 : decode cX11_moved 30 = .ok (.aload_n 0, 1) := by decide +kernel
theorem dX11_moved_31 : decode cX11_moved 31 = .ok (.getfield 10, 3) := by decide +kernel
theorem dX11_moved_34 : decode cX11_moved 34 = .ok (.iload_n 1, 1) := by decide +kernel
theorem dX11_moved_35 : decode cX11_moved 35 = .ok (.iload_n 2, 1) := by decide +kernel
theorem dX11_moved_36 : decode cX11_moved 36 = .ok (.iload_n 3, 1) := by decide +kernel
theorem dX11_moved_37 : decode cX11_moved 37 = .ok (.aload_n 0, 1) := by decide +kernel
theorem dX11_moved_38 : decode cX11_moved 38 = .ok (.getfield 10, 3) := by decide +kernel
theorem dX11_moved_41 : decode cX11_moved 41 = .ok (.iload_n 1, 1) := by decide +kernel
theorem dX11_moved_42 : decode cX11_moved 42 = .ok (.invokevirtual 150, 3) := by decide +kernel
theorem dX11_moved_45 : decode cX11_moved 45 = .ok (.invokevirtual 137, 3) := by decide +kernel
theorem dX11_moved_48 : decode cX11_moved 48 = .ok (.aload_n 0, 1) := by decide +kernel
theorem dX11_moved_49 : decode cX11_moved 49 = .ok (.getfield 10, 3) := by decide +kernel
theorem dX11_moved_52 : decode cX11_moved 52 = .ok (.invokevirtual 141, 3) := by decide +kernel
theorem dX11_moved_55 : decode cX11_moved 55 = .ok (.iconst 1, 1) := by decide +kernel
theorem dX11_moved_56 : decode cX11_moved 56 = .ok (.ireturn, 1) := by decide +kernel
theorem dX11_pace_0 : decode cX11_pace 0 = .ok (.iload_n 1, 1) := by decide +kernel
theorem dX11_pace_1 : decode cX11_pace 1 = .ok (.invokestatic 131, 3) := by decide +kernel
theorem dX11_pace_4 : decode cX11_pace 4 = .ok (.ifCond .eq 12, 3) := by decide +kernel
theorem dX11_pace_7 : decode cX11_pace 7 = .ok (.iload_n 2, 1) := by decide +kernel
theorem dX11_pace_8 : decode cX11_pace 8 = .ok (.iload_n 3, 1) := by decide +kernel
theorem dX11_pace_9 : decode cX11_pace 9 = .ok (.iconst 3, 1) := by decide +kernel
theorem dX11_pace_10 : decode cX11_pace 10 = .ok (.invokestatic 127, 3) := by decide +kernel
theorem dX11_pace_13 : decode cX11_pace 13 = .ok (.ifCond .ne 5, 3) := by decide +kernel
theorem dX11_pace_16 : decode cX11_pace 16 = .ok (.iconst 0, 1) := by decide +kernel
theorem dX11_pace_17 : decode cX11_pace 17 = .ok (.ireturn, 1) := by decide +kernel
theorem dX11_pace_18 : decode cX11_pace 18 = .ok (.aload_n 0, 1) := by decide +kernel
theorem dX11_pace_19 : decode cX11_pace 19 = .ok (.getfield 10, 3) := by decide +kernel
theorem dX11_pace_22 : decode cX11_pace 22 = .ok (.invokevirtual 134, 3) := by decide +kernel
theorem dX11_pace_25 : decode cX11_pace 25 = .ok (.aload_n 0, 1) := by decide +kernel
theorem dX11_pace_26 : decode cX11_pace 26 = .ok (.getfield 10, 3) := by decide +kernel
theorem dX11_pace_29 : decode cX11_pace 29 = .ok (.iload_n 1, 1) := by decide +kernel
theorem dX11_pace_30 : decode cX11_pace 30 = .ok (.iload_n 2, 1) := by decide +kernel
theorem dX11_pace_31 : decode cX11_pace 31 = .ok (.iload_n 3, 1) := by decide +kernel
theorem dX11_pace_32 : decode cX11_pace 32 = .ok (.invokevirtual 154, 3) := by decide +kernel
theorem dX11_pace_35 : decode cX11_pace 35 = .ok (.aload_n 0, 1) := by decide +kernel
theorem dX11_pace_36 : decode cX11_pace 36 = .ok (.getfield 10, 3) := by decide +kernel
theorem dX11_pace_39 : decode cX11_pace 39 = .ok (.invokevirtual 141, 3) := by decide +kernel
theorem dX11_pace_42 : decode cX11_pace 42 = .ok (.iconst 1, 1) := by decide +kernel
theorem dX11_pace_43 : decode cX11_pace 43 = .ok (.ireturn, 1) := by decide +kernel
theorem dX11_tick_0 : decode cX11_tick 0 = .ok (.iload_n 1, 1) := by decide +kernel
theorem dX11_tick_1 : decode cX11_tick 1 = .ok (.ifCond .lt 9, 3) := by decide +kernel
theorem dX11_tick_4 : decode cX11_tick 4 = .ok (.iload_n 1, 1) := by decide +kernel
theorem dX11_tick_5 : decode cX11_tick 5 = .ok (.bipush 20, 2) := by decide +kernel
theorem dX11_tick_7 : decode cX11_tick 7 = .ok (.if_icmp .le 5, 3) := by decide +kernel
theorem dX11_tick_10 : decode cX11_tick 10 = .ok (.iconst (-1), 1) := by decide +kernel
theorem dX11_tick_11 : decode cX11_tick 11 = .ok (.ireturn, 1) := by decide +kernel
theorem dX11_tick_12 : decode cX11_tick 12 = .ok (.aload_n 0, 1) := by decide +kernel
theorem dX11_tick_13 : decode cX11_tick 13 = .ok (.getfield 10, 3) := by decide +kernel
theorem dX11_tick_16 : decode cX11_tick 16 = .ok (.invokevirtual 158, 3) := by decide +kernel
theorem dX11_tick_19 : decode cX11_tick 19 = .ok (.istore_n 2, 1) := by decide +kernel
theorem dX11_tick_20 : decode cX11_tick 20 = .ok (.aload_n 0, 1) := by decide +kernel
theorem dX11_tick_21 : decode cX11_tick 21 = .ok (.getfield 10, 3) := by decide +kernel
theorem dX11_tick_24 : decode cX11_tick 24 = .ok (.invokevirtual 134, 3) := by decide +kernel
theorem dX11_tick_27 : decode cX11_tick 27 = .ok (.aload_n 0, 1) := by decide +kernel
theorem dX11_tick_28 : decode cX11_tick 28 = .ok (.getfield 10, 3) := by decide +kernel
theorem dX11_tick_31 : decode cX11_tick 31 = .ok (.iload_n 1, 1) := by decide +kernel
theorem dX11_tick_32 : decode cX11_tick 32 = .ok (.invokevirtual 161, 3) := by decide +kernel
theorem dX11_tick_35 : decode cX11_tick 35 = .ok (.aload_n 0, 1) := by decide +kernel
theorem dX11_tick_36 : decode cX11_tick 36 = .ok (.getfield 10, 3) := by decide +kernel
theorem dX11_tick_39 : decode cX11_tick 39 = .ok (.invokevirtual 141, 3) := by decide +kernel
theorem dX11_tick_42 : decode cX11_tick 42 = .ok (.iload_n 2, 1) := by decide +kernel
theorem dX11_tick_43 : decode cX11_tick 43 = .ok (.ireturn, 1) := by decide +kernel
theorem dX11_back_0 : decode cX11_back 0 = .ok (.aload_n 0, 1) := by decide +kernel
theorem dX11_back_1 : decode cX11_back 1 = .ok (.getfield 10, 3) := by decide +kernel
theorem dX11_back_4 : decode cX11_back 4 = .ok (.invokevirtual 164, 3) := by decide +kernel
theorem dX11_back_7 : decode cX11_back 7 = .ok (.ireturn, 1) := by decide +kernel
theorem dX11_is_0 : decode cX11_is 0 = .ok (.iload_n 1, 1) := by decide +kernel
theorem dX11_is_1 : decode cX11_is 1 = .ok (.ifCond .ne 16, 3) := by decide +kernel
theorem dX11_is_4 : decode cX11_is 4 = .ok (.aload_n 0, 1) := by decide +kernel
theorem dX11_is_5 : decode cX11_is 5 = .ok (.getfield 10, 3) := by decide +kernel
theorem dX11_is_8 : decode cX11_is 8 = .ok (.bipush 15, 2) := by decide +kernel
theorem dX11_is_10 : decode cX11_is 10 = .ok (.invokevirtual 167, 3) := by decide +kernel
theorem dX11_is_13 : decode cX11_is 13 = .ok (.invokestatic 171, 3) := by decide +kernel
theorem dX11_is_16 : decode cX11_is 16 = .ok (.ireturn, 1) := by decide +kernel
theorem dX11_is_17 : decode cX11_is 17 = .ok (.iload_n 1, 1) := by decide +kernel
theorem dX11_is_18 : decode cX11_is 18 = .ok (.iconst 1, 1) := by decide +kernel
theorem dX11_is_19 : decode cX11_is 19 = .ok (.if_icmp .ne 11, 3) := by decide +kernel
theorem dX11_is_22 : decode cX11_is 22 = .ok (.aload_n 0, 1) := by decide +kernel
theorem dX11_is_23 : decode cX11_is 23 = .ok (.getfield 10, 3) := by decide +kernel
theorem dX11_is_26 : decode cX11_is 26 = .ok (.invokevirtual 158, 3) := by decide +kernel
theorem dX11_is_29 : decode cX11_is 29 = .ok (.ireturn, 1) := by decide +kernel
theorem dX11_is_30 : decode cX11_is 30 = .ok (.iload_n 1, 1) := by decide +kernel
theorem dX11_is_31 : decode cX11_is 31 = .ok (.iconst 2, 1) := by decide +kernel
theorem dX11_is_32 : decode cX11_is 32 = .ok (.if_icmp .ne 11, 3) := by decide +kernel
theorem dX11_is_35 : decode cX11_is 35 = .ok (.aload_n 0, 1) := by decide +kernel
theorem dX11_is_36 : decode cX11_is 36 = .ok (.getfield 10, 3) := by decide +kernel
theorem dX11_is_39 : decode cX11_is 39 = .ok (.invokevirtual 177, 3) := by decide +kernel
theorem dX11_is_42 : decode cX11_is 42 = .ok (.ireturn, 1) := by decide +kernel
theorem dX11_is_43 : decode cX11_is 43 = .ok (.iload_n 1, 1) := by decide +kernel
theorem dX11_is_44 : decode cX11_is 44 = .ok (.iconst 3, 1) := by decide +kernel
theorem dX11_is_45 : decode cX11_is 45 = .ok (.if_icmp .ne 11, 3) := by decide +kernel
theorem dX11_is_48 : decode cX11_is 48 = .ok (.aload_n 0, 1) := by decide +kernel
theorem dX11_is_49 : decode cX11_is 49 = .ok (.getfield 19, 3) := by decide +kernel
theorem dX11_is_52 : decode cX11_is 52 = .ok (.invokevirtual 110, 3) := by decide +kernel
theorem dX11_is_55 : decode cX11_is 55 = .ok (.ireturn, 1) := by decide +kernel
theorem dX11_is_56 : decode cX11_is 56 = .ok (.iload_n 1, 1) := by decide +kernel
theorem dX11_is_57 : decode cX11_is 57 = .ok (.iconst 4, 1) := by decide +kernel
theorem dX11_is_58 : decode cX11_is 58 = .ok (.if_icmp .lt 25, 3) := by decide +kernel
theorem dX11_is_61 : decode cX11_is 61 = .ok (.iload_n 1, 1) := by decide +kernel
theorem dX11_is_62 : decode cX11_is 62 = .ok (.bipush 8, 2) := by decide +kernel
theorem dX11_is_64 : decode cX11_is 64 = .ok (.if_icmp .ge 19, 3) := by decide +kernel
theorem dX11_is_67 : decode cX11_is 67 = .ok (.aload_n 0, 1) := by decide +kernel
theorem dX11_is_68 : decode cX11_is 68 = .ok (.getfield 10, 3) := by decide +kernel
theorem dX11_is_71 : decode cX11_is 71 = .ok (.iconst 1, 1) := by decide +kernel
theorem dX11_is_72 : decode cX11_is 72 = .ok (.iload_n 1, 1) := by decide +kernel
theorem dX11_is_73 : decode cX11_is 73 = .ok (.iconst 4, 1) := by decide +kernel
theorem dX11_is_74 : decode cX11_is 74 = .ok (.isub, 1) := by decide +kernel
theorem dX11_is_75 : decode cX11_is 75 = .ok (.ishl, 1) := by decide +kernel
theorem dX11_is_76 : decode cX11_is 76 = .ok (.invokevirtual 167, 3) := by decide +kernel
theorem dX11_is_79 : decode cX11_is 79 = .ok (.invokestatic 171, 3) := by decide +kernel
theorem dX11_is_82 : decode cX11_is 82 = .ok (.ireturn, 1) := by decide +kernel
theorem dX11_is_83 : decode cX11_is 83 = .ok (.iconst (-1), 1) := by decide +kernel
theorem dX11_is_84 : decode cX11_is 84 = .ok (.ireturn, 1) := by decide +kernel
theorem dX11_point_0 : decode cX11_point 0 = .ok (.aload_n 0, 1) := by decide +kernel
theorem dX11_point_1 : decode cX11_point 1 = .ok (.getfield 10, 3) := by decide +kernel
theorem dX11_point_4 : decode cX11_point 4 = .ok (.iload_n 1, 1) := by decide +kernel
theorem dX11_point_5 : decode cX11_point 5 = .ok (.invokevirtual 144, 3) := by decide +kernel
theorem dX11_point_8 : decode cX11_point 8 = .ok (.ifCond .ne 7, 3) := by decide +kernel
theorem dX11_point_11 : decode cX11_point 11 = .ok (.sipush (-1000), 3) := by decide +kernel
theorem dX11_point_14 : decode cX11_point 14 = .ok (.ireturn, 1) := by decide +kernel
theorem dX11_point_15 : decode cX11_point 15 = .ok (.iload_n 2, 1) := by decide +kernel
theorem dX11_point_16 : decode cX11_point 16 = .ok (.ifCond .ne 12, 3) := by decide +kernel
theorem dX11_point_19 : decode cX11_point 19 = .ok (.aload_n 0, 1) := by decide +kernel
theorem dX11_point_20 : decode cX11_point 20 = .ok (.getfield 10, 3) := by decide +kernel
theorem dX11_point_23 : decode cX11_point 23 = .ok (.iload_n 1, 1) := by decide +kernel
theorem dX11_point_24 : decode cX11_point 24 = .ok (.invokevirtual 180, 3) := by decide +kernel
theorem dX11_point_27 : decode cX11_point 27 = .ok (.ireturn, 1) := by decide +kernel
theorem dX11_point_28 : decode cX11_point 28 = .ok (.iload_n 2, 1) := by decide +kernel
theorem dX11_point_29 : decode cX11_point 29 = .ok (.iconst 1, 1) := by decide +kernel
theorem dX11_point_30 : decode cX11_point 30 = .ok (.if_icmp .ne 12, 3) := by decide +kernel
theorem dX11_point_33 : decode cX11_point 33 = .ok (.aload_n 0, 1) := by decide +kernel
theorem dX11_point_34 : decode cX11_point 34 = .ok (.getfield 10, 3) := by decide +kernel
theorem dX11_point_37 : decode cX11_point 37 = .ok (.iload_n 1, 1) := by decide +kernel
theorem dX11_point_38 : decode cX11_point 38 = .ok (.invokevirtual 183, 3) := by decide +kernel
theorem dX11_point_41 : decode cX11_point 41 = .ok (.ireturn, 1) := by decide +kernel
theorem dX11_point_42 : decode cX11_point 42 = .ok (.iload_n 2, 1) := by decide +kernel
theorem dX11_point_43 : decode cX11_point 43 = .ok (.iconst 2, 1) := by decide +kernel
theorem dX11_point_44 : decode cX11_point 44 = .ok (.if_icmp .ne 12, 3) := by decide +kernel
theorem dX11_point_47 : decode cX11_point 47 = .ok (.aload_n 0, 1) := by decide +kernel
theorem dX11_point_48 : decode cX11_point 48 = .ok (.getfield 10, 3) := by decide +kernel
theorem dX11_point_51 : decode cX11_point 51 = .ok (.iload_n 1, 1) := by decide +kernel
theorem dX11_point_52 : decode cX11_point 52 = .ok (.invokevirtual 150, 3) := by decide +kernel
theorem dX11_point_55 : decode cX11_point 55 = .ok (.ireturn, 1) := by decide +kernel
theorem dX11_point_56 : decode cX11_point 56 = .ok (.iload_n 2, 1) := by decide +kernel
theorem dX11_point_57 : decode cX11_point 57 = .ok (.iconst 3, 1) := by decide +kernel
theorem dX11_point_58 : decode cX11_point 58 = .ok (.if_icmp .ne 19, 3) := by decide +kernel
theorem dX11_point_61 : decode cX11_point 61 = .ok (.aload_n 0, 1) := by decide +kernel
theorem dX11_point_62 : decode cX11_point 62 = .ok (.getfield 10, 3) := by decide +kernel
theorem dX11_point_65 : decode cX11_point 65 = .ok (.iload_n 1, 1) := by decide +kernel
theorem dX11_point_66 : decode cX11_point 66 = .ok (.aload_n 0, 1) := by decide +kernel
theorem dX11_point_67 : decode cX11_point 67 = .ok (.getfield 10, 3) := by decide +kernel
theorem dX11_point_70 : decode cX11_point 70 = .ok (.invokevirtual 158, 3) := by decide +kernel
theorem dX11_point_73 : decode cX11_point 73 = .ok (.invokevirtual 186, 3) := by decide +kernel
theorem dX11_point_76 : decode cX11_point 76 = .ok (.ireturn, 1) := by decide +kernel
theorem dX11_point_77 : decode cX11_point 77 = .ok (.iload_n 2, 1) := by decide +kernel
theorem dX11_point_78 : decode cX11_point 78 = .ok (.iconst 4, 1) := by decide +kernel
theorem dX11_point_79 : decode cX11_point 79 = .ok (.if_icmp .ne 19, 3) := by decide +kernel
theorem dX11_point_82 : decode cX11_point 82 = .ok (.aload_n 0, 1) := by decide +kernel
theorem dX11_point_83 : decode cX11_point 83 = .ok (.getfield 10, 3) := by decide +kernel
theorem dX11_point_86 : decode cX11_point 86 = .ok (.iload_n 1, 1) := by decide +kernel
theorem dX11_point_87 : decode cX11_point 87 = .ok (.aload_n 0, 1) := by decide +kernel
theorem dX11_point_88 : decode cX11_point 88 = .ok (.getfield 10, 3) := by decide +kernel
theorem dX11_point_91 : decode cX11_point 91 = .ok (.invokevirtual 158, 3) := by decide +kernel
theorem dX11_point_94 : decode cX11_point 94 = .ok (.invokevirtual 190, 3) := by decide +kernel
theorem dX11_point_97 : decode cX11_point 97 = .ok (.ireturn, 1) := by decide +kernel
theorem dX11_point_98 : decode cX11_point 98 = .ok (.sipush (-1000), 3) := by decide +kernel
theorem dX11_point_101 : decode cX11_point 101 = .ok (.ireturn, 1) := by decide +kernel
theorem dX11_spots_0 : decode cX11_spots 0 = .ok (.iload_n 1, 1) := by decide +kernel
theorem dX11_spots_1 : decode cX11_spots 1 = .ok (.invokestatic 193, 3) := by decide +kernel
theorem dX11_spots_4 : decode cX11_spots 4 = .ok (.ifCond .ne 5, 3) := by decide +kernel
theorem dX11_spots_7 : decode cX11_spots 7 = .ok (.iconst (-1), 1) := by decide +kernel
theorem dX11_spots_8 : decode cX11_spots 8 = .ok (.ireturn, 1) := by decide +kernel
theorem dX11_spots_9 : decode cX11_spots 9 = .ok (.aload_n 0, 1) := by decide +kernel
theorem dX11_spots_10 : decode cX11_spots 10 = .ok (.iload_n 1, 1) := by decide +kernel
theorem dX11_spots_11 : decode cX11_spots 11 = .ok (.invokevirtual 196, 3) := by decide +kernel
theorem dX11_spots_14 : decode cX11_spots 14 = .ok (.pop, 1) := by decide +kernel
theorem dX11_spots_15 : decode cX11_spots 15 = .ok (.aload_n 0, 1) := by decide +kernel
theorem dX11_spots_16 : decode cX11_spots 16 = .ok (.getfield 26, 3) := by decide +kernel
theorem dX11_spots_19 : decode cX11_spots 19 = .ok (.invokevirtual 199, 3) := by decide +kernel
theorem dX11_spots_22 : decode cX11_spots 22 = .ok (.ireturn, 1) := by decide +kernel
theorem dX11_spot_0 : decode cX11_spot 0 = .ok (.aload_n 0, 1) := by decide +kernel
theorem dX11_spot_1 : decode cX11_spot 1 = .ok (.iload_n 1, 1) := by decide +kernel
theorem dX11_spot_2 : decode cX11_spot 2 = .ok (.invokevirtual 196, 3) := by decide +kernel
theorem dX11_spot_5 : decode cX11_spot 5 = .ok (.ifCond .eq 18, 3) := by decide +kernel
theorem dX11_spot_8 : decode cX11_spot 8 = .ok (.iload_n 2, 1) := by decide +kernel
theorem dX11_spot_9 : decode cX11_spot 9 = .ok (.ifCond .lt 14, 3) := by decide +kernel
theorem dX11_spot_12 : decode cX11_spot 12 = .ok (.iload_n 2, 1) := by decide +kernel
theorem dX11_spot_13 : decode cX11_spot 13 = .ok (.aload_n 0, 1) := by decide +kernel
theorem dX11_spot_14 : decode cX11_spot 14 = .ok (.getfield 26, 3) := by decide +kernel
theorem dX11_spot_17 : decode cX11_spot 17 = .ok (.invokevirtual 199, 3) := by decide +kernel
theorem dX11_spot_20 : decode cX11_spot 20 = .ok (.if_icmp .lt 7, 3) := by decide +kernel
theorem dX11_spot_23 : decode cX11_spot 23 = .ok (.sipush (-1000), 3) := by decide +kernel
theorem dX11_spot_26 : decode cX11_spot 26 = .ok (.ireturn, 1) := by decide +kernel
theorem dX11_spot_27 : decode cX11_spot 27 = .ok (.iload_n 3, 1) := by decide +kernel
theorem dX11_spot_28 : decode cX11_spot 28 = .ok (.ifCond .ne 12, 3) := by decide +kernel
theorem dX11_spot_31 : decode cX11_spot 31 = .ok (.aload_n 0, 1) := by decide +kernel
theorem dX11_spot_32 : decode cX11_spot 32 = .ok (.getfield 26, 3) := by decide +kernel
theorem dX11_spot_35 : decode cX11_spot 35 = .ok (.iload_n 2, 1) := by decide +kernel
theorem dX11_spot_36 : decode cX11_spot 36 = .ok (.invokevirtual 202, 3) := by decide +kernel
theorem dX11_spot_39 : decode cX11_spot 39 = .ok (.ireturn, 1) := by decide +kernel
theorem dX11_spot_40 : decode cX11_spot 40 = .ok (.iload_n 3, 1) := by decide +kernel
theorem dX11_spot_41 : decode cX11_spot 41 = .ok (.iconst 1, 1) := by decide +kernel
theorem dX11_spot_42 : decode cX11_spot 42 = .ok (.if_icmp .ne 12, 3) := by decide +kernel
theorem dX11_spot_45 : decode cX11_spot 45 = .ok (.aload_n 0, 1) := by decide +kernel
theorem dX11_spot_46 : decode cX11_spot 46 = .ok (.getfield 26, 3) := by decide +kernel
theorem dX11_spot_49 : decode cX11_spot 49 = .ok (.iload_n 2, 1) := by decide +kernel
theorem dX11_spot_50 : decode cX11_spot 50 = .ok (.invokevirtual 203, 3) := by decide +kernel
theorem dX11_spot_53 : decode cX11_spot 53 = .ok (.ireturn, 1) := by decide +kernel
theorem dX11_spot_54 : decode cX11_spot 54 = .ok (.iload_n 3, 1) := by decide +kernel
theorem dX11_spot_55 : decode cX11_spot 55 = .ok (.iconst 2, 1) := by decide +kernel
theorem dX11_spot_56 : decode cX11_spot 56 = .ok (.if_icmp .ne 12, 3) := by decide +kernel
theorem dX11_spot_59 : decode cX11_spot 59 = .ok (.aload_n 0, 1) := by decide +kernel
theorem dX11_spot_60 : decode cX11_spot 60 = .ok (.getfield 26, 3) := by decide +kernel
theorem dX11_spot_63 : decode cX11_spot 63 = .ok (.iload_n 2, 1) := by decide +kernel
theorem dX11_spot_64 : decode cX11_spot 64 = .ok (.invokevirtual 204, 3) := by decide +kernel
theorem dX11_spot_67 : decode cX11_spot 67 = .ok (.ireturn, 1) := by decide +kernel
theorem dX11_spot_68 : decode cX11_spot 68 = .ok (.sipush (-1000), 3) := by decide +kernel
theorem dX11_spot_71 : decode cX11_spot 71 = .ok (.ireturn, 1) := by decide +kernel
theorem dX11_circle_0 : decode cX11_circle 0 = .ok (.iload_n 2, 1) := by decide +kernel
theorem dX11_circle_1 : decode cX11_circle 1 = .ok (.ifCond .lt 16, 3) := by decide +kernel
theorem dX11_circle_4 : decode cX11_circle 4 = .ok (.iload_n 2, 1) := by decide +kernel
theorem dX11_circle_5 : decode cX11_circle 5 = .ok (.iconst 5, 1) := by decide +kernel
theorem dX11_circle_6 : decode cX11_circle 6 = .ok (.if_icmp .gt 11, 3) := by decide +kernel
theorem dX11_circle_9 : decode cX11_circle 9 = .ok (.aload_n 0, 1) := by decide +kernel
theorem dX11_circle_10 : decode cX11_circle 10 = .ok (.iload_n 1, 1) := by decide +kernel
theorem dX11_circle_11 : decode cX11_circle 11 = .ok (.invokevirtual 196, 3) := by decide +kernel
theorem dX11_circle_14 : decode cX11_circle 14 = .ok (.ifCond .ne 7, 3) := by decide +kernel
theorem dX11_circle_17 : decode cX11_circle 17 = .ok (.ldc2_w 207, 3) := by decide +kernel
theorem dX11_circle_20 : decode cX11_circle 20 = .ok (.lreturn, 1) := by decide +kernel
theorem dX11_circle_21 : decode cX11_circle 21 = .ok (.aload_n 0, 1) := by decide +kernel
theorem dX11_circle_22 : decode cX11_circle 22 = .ok (.getfield 36, 3) := by decide +kernel
theorem dX11_circle_25 : decode cX11_circle 25 = .ok (.aload_n 0, 1) := by decide +kernel
theorem dX11_circle_26 : decode cX11_circle 26 = .ok (.getfield 26, 3) := by decide +kernel
theorem dX11_circle_29 : decode cX11_circle 29 = .ok (.invokevirtual 209, 3) := by decide +kernel
theorem dX11_circle_32 : decode cX11_circle 32 = .ok (.iload_n 2, 1) := by decide +kernel
theorem dX11_circle_33 : decode cX11_circle 33 = .ok (.iconst 2, 1) := by decide +kernel
theorem dX11_circle_34 : decode cX11_circle 34 = .ok (.if_icmp .ge 17, 3) := by decide +kernel
theorem dX11_circle_37 : decode cX11_circle 37 = .ok (.aload_n 0, 1) := by decide +kernel
theorem dX11_circle_38 : decode cX11_circle 38 = .ok (.getfield 36, 3) := by decide +kernel
theorem dX11_circle_41 : decode cX11_circle 41 = .ok (.aload_n 0, 1) := by decide +kernel
theorem dX11_circle_42 : decode cX11_circle 42 = .ok (.getfield 91, 3) := by decide +kernel
theorem dX11_circle_45 : decode cX11_circle 45 = .ok (.invokevirtual 213, 3) := by decide +kernel
theorem dX11_circle_48 : decode cX11_circle 48 = .ok (.goto 33, 3) := by decide +kernel
theorem dX11_circle_51 : decode cX11_circle 51 = .ok (.iload_n 2, 1) := by decide +kernel
theorem dX11_circle_52 : decode cX11_circle 52 = .ok (.iconst 4, 1) := by decide +kernel
theorem dX11_circle_53 : decode cX11_circle 53 = .ok (.if_icmp .ge 17, 3) := by decide +kernel
theorem dX11_circle_56 : decode cX11_circle 56 = .ok (.aload_n 0, 1) := by decide +kernel
theorem dX11_circle_57 : decode cX11_circle 57 = .ok (.getfield 36, 3) := by decide +kernel
theorem dX11_circle_60 : decode cX11_circle 60 = .ok (.aload_n 0, 1) := by decide +kernel
theorem dX11_circle_61 : decode cX11_circle 61 = .ok (.getfield 91, 3) := by decide +kernel
theorem dX11_circle_64 : decode cX11_circle 64 = .ok (.invokevirtual 217, 3) := by decide +kernel
theorem dX11_circle_67 : decode cX11_circle 67 = .ok (.goto 14, 3) := by decide +kernel
theorem dX11_circle_70 : decode cX11_circle 70 = .ok (.aload_n 0, 1) := by decide +kernel
theorem dX11_circle_71 : decode cX11_circle 71 = .ok (.getfield 36, 3) := by decide +kernel
theorem dX11_circle_74 : decode cX11_circle 74 = .ok (.aload_n 0, 1) := by decide +kernel
theorem dX11_circle_75 : decode cX11_circle 75 = .ok (.getfield 91, 3) := by decide +kernel
theorem dX11_circle_78 : decode cX11_circle 78 = .ok (.invokevirtual 220, 3) := by decide +kernel
theorem dX11_circle_81 : decode cX11_circle 81 = .ok (.aload_n 0, 1) := by decide +kernel
theorem dX11_circle_82 : decode cX11_circle 82 = .ok (.getfield 91, 3) := by decide +kernel
theorem dX11_circle_85 : decode cX11_circle 85 = .ok (.iload_n 2, 1) := by decide +kernel
theorem dX11_circle_86 : decode cX11_circle 86 = .ok (.iconst 2, 1) := by decide +kernel
theorem dX11_circle_87 : decode cX11_circle 87 = .ok (.irem, 1) := by decide +kernel
theorem dX11_circle_88 : decode cX11_circle 88 = .ok (.invokevirtual 223, 3) := by decide +kernel
theorem dX11_circle_91 : decode cX11_circle 91 = .ok (.lreturn, 1) := by decide +kernel
theorem dX11_tight_0 : decode cX11_tight 0 = .ok (.iload_n 2, 1) := by decide +kernel
theorem dX11_tight_1 : decode cX11_tight 1 = .ok (.iconst (-1), 1) := by decide +kernel
theorem dX11_tight_2 : decode cX11_tight 2 = .ok (.if_icmp .lt 11, 3) := by decide +kernel
theorem dX11_tight_5 : decode cX11_tight 5 = .ok (.aload_n 0, 1) := by decide +kernel
theorem dX11_tight_6 : decode cX11_tight 6 = .ok (.iload_n 1, 1) := by decide +kernel
theorem dX11_tight_7 : decode cX11_tight 7 = .ok (.invokevirtual 196, 3) := by decide +kernel
theorem dX11_tight_10 : decode cX11_tight 10 = .ok (.ifCond .ne 5, 3) := by decide +kernel
theorem dX11_tight_13 : decode cX11_tight 13 = .ok (.iconst (-1), 1) := by decide +kernel
theorem dX11_tight_14 : decode cX11_tight 14 = .ok (.ireturn, 1) := by decide +kernel
theorem dX11_tight_15 : decode cX11_tight 15 = .ok (.aload_n 0, 1) := by decide +kernel
theorem dX11_tight_16 : decode cX11_tight 16 = .ok (.getfield 36, 3) := by decide +kernel
theorem dX11_tight_19 : decode cX11_tight 19 = .ok (.aload_n 0, 1) := by decide +kernel
theorem dX11_tight_20 : decode cX11_tight 20 = .ok (.getfield 26, 3) := by decide +kernel
theorem dX11_tight_23 : decode cX11_tight 23 = .ok (.invokevirtual 209, 3) := by decide +kernel
theorem dX11_tight_26 : decode cX11_tight 26 = .ok (.aload_n 0, 1) := by decide +kernel
theorem dX11_tight_27 : decode cX11_tight 27 = .ok (.getfield 36, 3) := by decide +kernel
theorem dX11_tight_30 : decode cX11_tight 30 = .ok (.aload_n 0, 1) := by decide +kernel
theorem dX11_tight_31 : decode cX11_tight 31 = .ok (.getfield 26, 3) := by decide +kernel
theorem dX11_tight_34 : decode cX11_tight 34 = .ok (.invokevirtual 226, 3) := by decide +kernel
theorem dX11_tight_37 : decode cX11_tight 37 = .ok (.iload_n 2, 1) := by decide +kernel
theorem dX11_tight_38 : decode cX11_tight 38 = .ok (.iconst (-1), 1) := by decide +kernel
theorem dX11_tight_39 : decode cX11_tight 39 = .ok (.if_icmp .ne 13, 3) := by decide +kernel
theorem dX11_tight_42 : decode cX11_tight 42 = .ok (.aload_n 0, 1) := by decide +kernel
theorem dX11_tight_43 : decode cX11_tight 43 = .ok (.getfield 36, 3) := by decide +kernel
theorem dX11_tight_46 : decode cX11_tight 46 = .ok (.invokevirtual 229, 3) := by decide +kernel
theorem dX11_tight_49 : decode cX11_tight 49 = .ok (.goto 11, 3) := by decide +kernel
theorem dX11_tight_52 : decode cX11_tight 52 = .ok (.aload_n 0, 1) := by decide +kernel
theorem dX11_tight_53 : decode cX11_tight 53 = .ok (.getfield 36, 3) := by decide +kernel
theorem dX11_tight_56 : decode cX11_tight 56 = .ok (.iload_n 2, 1) := by decide +kernel
theorem dX11_tight_57 : decode cX11_tight 57 = .ok (.invokevirtual 232, 3) := by decide +kernel
theorem dX11_tight_60 : decode cX11_tight 60 = .ok (.ireturn, 1) := by decide +kernel
theorem dX11_rim_0 : decode cX11_rim 0 = .ok (.aload_n 0, 1) := by decide +kernel
theorem dX11_rim_1 : decode cX11_rim 1 = .ok (.iload_n 1, 1) := by decide +kernel
theorem dX11_rim_2 : decode cX11_rim 2 = .ok (.invokevirtual 196, 3) := by decide +kernel
theorem dX11_rim_5 : decode cX11_rim 5 = .ok (.ifCond .ne 5, 3) := by decide +kernel
theorem dX11_rim_8 : decode cX11_rim 8 = .ok (.iconst (-1), 1) := by decide +kernel
theorem dX11_rim_9 : decode cX11_rim 9 = .ok (.ireturn, 1) := by decide +kernel
theorem dX11_rim_10 : decode cX11_rim 10 = .ok (.aload_n 0, 1) := by decide +kernel
theorem dX11_rim_11 : decode cX11_rim 11 = .ok (.getfield 36, 3) := by decide +kernel
theorem dX11_rim_14 : decode cX11_rim 14 = .ok (.aload_n 0, 1) := by decide +kernel
theorem dX11_rim_15 : decode cX11_rim 15 = .ok (.getfield 26, 3) := by decide +kernel
theorem dX11_rim_18 : decode cX11_rim 18 = .ok (.invokevirtual 209, 3) := by decide +kernel
theorem dX11_rim_21 : decode cX11_rim 21 = .ok (.aload_n 0, 1) := by decide +kernel
theorem dX11_rim_22 : decode cX11_rim 22 = .ok (.getfield 36, 3) := by decide +kernel
theorem dX11_rim_25 : decode cX11_rim 25 = .ok (.aload_n 0, 1) := by decide +kernel
theorem dX11_rim_26 : decode cX11_rim 26 = .ok (.getfield 26, 3) := by decide +kernel
theorem dX11_rim_29 : decode cX11_rim 29 = .ok (.invokevirtual 235, 3) := by decide +kernel
theorem dX11_rim_32 : decode cX11_rim 32 = .ok (.ireturn, 1) := by decide +kernel
theorem dX11_inside_0 : decode cX11_inside 0 = .ok (.iload_n 2, 1) := by decide +kernel
theorem dX11_inside_1 : decode cX11_inside 1 = .ok (.iload_n 3, 1) := by decide +kernel
theorem dX11_inside_2 : decode cX11_inside 2 = .ok (.sipush 300, 3) := by decide +kernel
theorem dX11_inside_5 : decode cX11_inside 5 = .ok (.invokestatic 127, 3) := by decide +kernel
theorem dX11_inside_8 : decode cX11_inside 8 = .ok (.ifCond .eq 11, 3) := by decide +kernel
theorem dX11_inside_11 : decode cX11_inside 11 = .ok (.aload_n 0, 1) := by decide +kernel
theorem dX11_inside_12 : decode cX11_inside 12 = .ok (.iload_n 1, 1) := by decide +kernel
theorem dX11_inside_13 : decode cX11_inside 13 = .ok (.invokevirtual 196, 3) := by decide +kernel
theorem dX11_inside_16 : decode cX11_inside 16 = .ok (.ifCond .ne 5, 3) := by decide +kernel
theorem dX11_inside_19 : decode cX11_inside 19 = .ok (.iconst (-1), 1) := by decide +kernel
theorem dX11_inside_20 : decode cX11_inside 20 = .ok (.ireturn, 1) := by decide +kernel
theorem dX11_inside_21 : decode cX11_inside 21 = .ok (.aload_n 0, 1) := by decide +kernel
theorem dX11_inside_22 : decode cX11_inside 22 = .ok (.getfield 36, 3) := by decide +kernel
theorem dX11_inside_25 : decode cX11_inside 25 = .ok (.aload_n 0, 1) := by decide +kernel
theorem dX11_inside_26 : decode cX11_inside 26 = .ok (.getfield 26, 3) := by decide +kernel
theorem dX11_inside_29 : decode cX11_inside 29 = .ok (.invokevirtual 209, 3) := by decide +kernel
theorem dX11_inside_32 : decode cX11_inside 32 = .ok (.iconst 1, 1) := by decide +kernel
theorem dX11_inside_33 : decode cX11_inside 33 = .ok (.aload_n 0, 1) := by decide +kernel
theorem dX11_inside_34 : decode cX11_inside 34 = .ok (.getfield 36, 3) := by decide +kernel
theorem dX11_inside_37 : decode cX11_inside 37 = .ok (.iload_n 2, 1) := by decide +kernel
theorem dX11_inside_38 : decode cX11_inside 38 = .ok (.iload_n 3, 1) := by decide +kernel
theorem dX11_inside_39 : decode cX11_inside 39 = .ok (.invokevirtual 239, 3) := by decide +kernel
theorem dX11_inside_42 : decode cX11_inside 42 = .ok (.isub, 1) := by decide +kernel
theorem dX11_inside_43 : decode cX11_inside 43 = .ok (.ireturn, 1) := by decide +kernel
theorem dX11_needed_0 : decode cX11_needed 0 = .ok (.aload_n 0, 1) := by decide +kernel
theorem dX11_needed_1 : decode cX11_needed 1 = .ok (.iload_n 1, 1) := by decide +kernel
theorem dX11_needed_2 : decode cX11_needed 2 = .ok (.invokevirtual 196, 3) := by decide +kernel
theorem dX11_needed_5 : decode cX11_needed 5 = .ok (.ifCond .eq 14, 3) := by decide +kernel
theorem dX11_needed_8 : decode cX11_needed 8 = .ok (.aload_n 0, 1) := by decide +kernel
theorem dX11_needed_9 : decode cX11_needed 9 = .ok (.getfield 10, 3) := by decide +kernel
theorem dX11_needed_12 : decode cX11_needed 12 = .ok (.iload_n 2, 1) := by decide +kernel
theorem dX11_needed_13 : decode cX11_needed 13 = .ok (.invokevirtual 144, 3) := by decide +kernel
theorem dX11_needed_16 : decode cX11_needed 16 = .ok (.ifCond .ne 5, 3) := by decide +kernel
theorem dX11_needed_19 : decode cX11_needed 19 = .ok (.iconst (-1), 1) := by decide +kernel
theorem dX11_needed_20 : decode cX11_needed 20 = .ok (.ireturn, 1) := by decide +kernel
theorem dX11_needed_21 : decode cX11_needed 21 = .ok (.aload_n 0, 1) := by decide +kernel
theorem dX11_needed_22 : decode cX11_needed 22 = .ok (.getfield 10, 3) := by decide +kernel
theorem dX11_needed_25 : decode cX11_needed 25 = .ok (.iload_n 1, 1) := by decide +kernel
theorem dX11_needed_26 : decode cX11_needed 26 = .ok (.invokevirtual 167, 3) := by decide +kernel
theorem dX11_needed_29 : decode cX11_needed 29 = .ok (.lstore_n 3, 1) := by decide +kernel
theorem dX11_needed_30 : decode cX11_needed 30 = .ok (.lload_n 3, 1) := by decide +kernel
theorem dX11_needed_31 : decode cX11_needed 31 = .ok (.lconst 1, 1) := by decide +kernel
theorem dX11_needed_32 : decode cX11_needed 32 = .ok (.iload_n 2, 1) := by decide +kernel
theorem dX11_needed_33 : decode cX11_needed 33 = .ok (.lshl, 1) := by decide +kernel
theorem dX11_needed_34 : decode cX11_needed 34 = .ok (.land, 1) := by decide +kernel
theorem dX11_needed_35 : decode cX11_needed 35 = .ok (.lconst 0, 1) := by decide +kernel
theorem dX11_needed_36 : decode cX11_needed 36 = .ok (.lcmp, 1) := by decide +kernel
theorem dX11_needed_37 : decode cX11_needed 37 = .ok (.ifCond .ne 5, 3) := by decide +kernel
theorem dX11_needed_40 : decode cX11_needed 40 = .ok (.iconst (-1), 1) := by decide +kernel
theorem dX11_needed_41 : decode cX11_needed 41 = .ok (.ireturn, 1) := by decide +kernel
theorem dX11_needed_42 : decode cX11_needed 42 = .ok (.aload_n 0, 1) := by decide +kernel
theorem dX11_needed_43 : decode cX11_needed 43 = .ok (.getfield 36, 3) := by decide +kernel
theorem dX11_needed_46 : decode cX11_needed 46 = .ok (.aload_n 0, 1) := by decide +kernel
theorem dX11_needed_47 : decode cX11_needed 47 = .ok (.getfield 26, 3) := by decide +kernel
theorem dX11_needed_50 : decode cX11_needed 50 = .ok (.invokevirtual 209, 3) := by decide +kernel
theorem dX11_needed_53 : decode cX11_needed 53 = .ok (.aload_n 0, 1) := by decide +kernel
theorem dX11_needed_54 : decode cX11_needed 54 = .ok (.getfield 30, 3) := by decide +kernel
theorem dX11_needed_57 : decode cX11_needed 57 = .ok (.aload_n 0, 1) := by decide +kernel
theorem dX11_needed_58 : decode cX11_needed 58 = .ok (.getfield 10, 3) := by decide +kernel
theorem dX11_needed_61 : decode cX11_needed 61 = .ok (.lload_n 3, 1) := by decide +kernel
theorem dX11_needed_62 : decode cX11_needed 62 = .ok (.lconst 1, 1) := by decide +kernel
theorem dX11_needed_63 : decode cX11_needed 63 = .ok (.iload_n 2, 1) := by decide +kernel
theorem dX11_needed_64 : decode cX11_needed 64 = .ok (.lshl, 1) := by decide +kernel
theorem dX11_needed_65 : decode cX11_needed 65 = .ok (.ldc2_w 242, 3) := by decide +kernel
theorem dX11_needed_68 : decode cX11_needed 68 = .ok (.lxor, 1) := by decide +kernel
theorem dX11_needed_69 : decode cX11_needed 69 = .ok (.land, 1) := by decide +kernel
theorem dX11_needed_70 : decode cX11_needed 70 = .ok (.aload_n 0, 1) := by decide +kernel
theorem dX11_needed_71 : decode cX11_needed 71 = .ok (.getfield 10, 3) := by decide +kernel
theorem dX11_needed_74 : decode cX11_needed 74 = .ok (.invokevirtual 158, 3) := by decide +kernel
theorem dX11_needed_77 : decode cX11_needed 77 = .ok (.invokevirtual 244, 3) := by decide +kernel
theorem dX11_needed_80 : decode cX11_needed 80 = .ok (.aload_n 0, 1) := by decide +kernel
theorem dX11_needed_81 : decode cX11_needed 81 = .ok (.getfield 30, 3) := by decide +kernel
theorem dX11_needed_84 : decode cX11_needed 84 = .ok (.invokevirtual 199, 3) := by decide +kernel
theorem dX11_needed_87 : decode cX11_needed 87 = .ok (.ifCond .ne 5, 3) := by decide +kernel
theorem dX11_needed_90 : decode cX11_needed 90 = .ok (.iconst 1, 1) := by decide +kernel
theorem dX11_needed_91 : decode cX11_needed 91 = .ok (.ireturn, 1) := by decide +kernel
theorem dX11_needed_92 : decode cX11_needed 92 = .ok (.aload_n 0, 1) := by decide +kernel
theorem dX11_needed_93 : decode cX11_needed 93 = .ok (.getfield 40, 3) := by decide +kernel
theorem dX11_needed_96 : decode cX11_needed 96 = .ok (.aload_n 0, 1) := by decide +kernel
theorem dX11_needed_97 : decode cX11_needed 97 = .ok (.getfield 30, 3) := by decide +kernel
theorem dX11_needed_100 : decode cX11_needed 100 = .ok (.invokevirtual 209, 3) := by decide +kernel
theorem dX11_needed_103 : decode cX11_needed 103 = .ok (.aload_n 0, 1) := by decide +kernel
theorem dX11_needed_104 : decode cX11_needed 104 = .ok (.getfield 40, 3) := by decide +kernel
theorem dX11_needed_107 : decode cX11_needed 107 = .ok (.aload_n 0, 1) := by decide +kernel
theorem dX11_needed_108 : decode cX11_needed 108 = .ok (.getfield 36, 3) := by decide +kernel
theorem dX11_needed_111 : decode cX11_needed 111 = .ok (.invokevirtual 248, 3) := by decide +kernel
theorem dX11_needed_114 : decode cX11_needed 114 = .ok (.ifCond .ge 7, 3) := by decide +kernel
theorem dX11_needed_117 : decode cX11_needed 117 = .ok (.iconst 1, 1) := by decide +kernel
theorem dX11_needed_118 : decode cX11_needed 118 = .ok (.goto 4, 3) := by decide +kernel
theorem dX11_needed_121 : decode cX11_needed 121 = .ok (.iconst 0, 1) := by decide +kernel
theorem dX11_needed_122 : decode cX11_needed 122 = .ok (.ireturn, 1) := by decide +kernel
theorem dX11_proof_0 : decode cX11_proof 0 = .ok (.lload_n 2, 1) := by decide +kernel
theorem dX11_proof_1 : decode cX11_proof 1 = .ok (.lconst 0, 1) := by decide +kernel
theorem dX11_proof_2 : decode cX11_proof 2 = .ok (.lcmp, 1) := by decide +kernel
theorem dX11_proof_3 : decode cX11_proof 3 = .ok (.ifCond .eq 30, 3) := by decide +kernel
theorem dX11_proof_6 : decode cX11_proof 6 = .ok (.aload_n 0, 1) := by decide +kernel
theorem dX11_proof_7 : decode cX11_proof 7 = .ok (.iload_n 1, 1) := by decide +kernel
theorem dX11_proof_8 : decode cX11_proof 8 = .ok (.invokevirtual 196, 3) := by decide +kernel
theorem dX11_proof_11 : decode cX11_proof 11 = .ok (.ifCond .eq 22, 3) := by decide +kernel
theorem dX11_proof_14 : decode cX11_proof 14 = .ok (.lload_n 2, 1) := by decide +kernel
theorem dX11_proof_15 : decode cX11_proof 15 = .ok (.aload_n 0, 1) := by decide +kernel
theorem dX11_proof_16 : decode cX11_proof 16 = .ok (.getfield 10, 3) := by decide +kernel
theorem dX11_proof_19 : decode cX11_proof 19 = .ok (.iload_n 1, 1) := by decide +kernel
theorem dX11_proof_20 : decode cX11_proof 20 = .ok (.invokevirtual 167, 3) := by decide +kernel
theorem dX11_proof_23 : decode cX11_proof 23 = .ok (.ldc2_w 242, 3) := by decide +kernel
theorem dX11_proof_26 : decode cX11_proof 26 = .ok (.lxor, 1) := by decide +kernel
theorem dX11_proof_27 : decode cX11_proof 27 = .ok (.land, 1) := by decide +kernel
theorem dX11_proof_28 : decode cX11_proof 28 = .ok (.lconst 0, 1) := by decide +kernel
theorem dX11_proof_29 : decode cX11_proof 29 = .ok (.lcmp, 1) := by decide +kernel
theorem dX11_proof_30 : decode cX11_proof 30 = .ok (.ifCond .eq 5, 3) := by decide +kernel
theorem dX11_proof_33 : decode cX11_proof 33 = .ok (.iconst (-1), 1) := by decide +kernel
theorem dX11_proof_34 : decode cX11_proof 34 = .ok (.ireturn, 1) := by decide +kernel
theorem dX11_proof_35 : decode cX11_proof 35 = .ok (.aload_n 0, 1) := by decide +kernel
theorem dX11_proof_36 : decode cX11_proof 36 = .ok (.getfield 36, 3) := by decide +kernel
theorem dX11_proof_39 : decode cX11_proof 39 = .ok (.aload_n 0, 1) := by decide +kernel
theorem dX11_proof_40 : decode cX11_proof 40 = .ok (.getfield 26, 3) := by decide +kernel
theorem dX11_proof_43 : decode cX11_proof 43 = .ok (.invokevirtual 209, 3) := by decide +kernel
theorem dX11_proof_46 : decode cX11_proof 46 = .ok (.aload_n 0, 1) := by decide +kernel
theorem dX11_proof_47 : decode cX11_proof 47 = .ok (.getfield 30, 3) := by decide +kernel
theorem dX11_proof_50 : decode cX11_proof 50 = .ok (.aload_n 0, 1) := by decide +kernel
theorem dX11_proof_51 : decode cX11_proof 51 = .ok (.getfield 10, 3) := by decide +kernel
theorem dX11_proof_54 : decode cX11_proof 54 = .ok (.lload_n 2, 1) := by decide +kernel
theorem dX11_proof_55 : decode cX11_proof 55 = .ok (.aload_n 0, 1) := by decide +kernel
theorem dX11_proof_56 : decode cX11_proof 56 = .ok (.getfield 10, 3) := by decide +kernel
theorem dX11_proof_59 : decode cX11_proof 59 = .ok (.invokevirtual 158, 3) := by decide +kernel
theorem dX11_proof_62 : decode cX11_proof 62 = .ok (.invokevirtual 244, 3) := by decide +kernel
theorem dX11_proof_65 : decode cX11_proof 65 = .ok (.aload_n 0, 1) := by decide +kernel
theorem dX11_proof_66 : decode cX11_proof 66 = .ok (.getfield 40, 3) := by decide +kernel
theorem dX11_proof_69 : decode cX11_proof 69 = .ok (.aload_n 0, 1) := by decide +kernel
theorem dX11_proof_70 : decode cX11_proof 70 = .ok (.getfield 30, 3) := by decide +kernel
theorem dX11_proof_73 : decode cX11_proof 73 = .ok (.invokevirtual 209, 3) := by decide +kernel
theorem dX11_proof_76 : decode cX11_proof 76 = .ok (.aload_n 0, 1) := by decide +kernel
theorem dX11_proof_77 : decode cX11_proof 77 = .ok (.getfield 40, 3) := by decide +kernel
theorem dX11_proof_80 : decode cX11_proof 80 = .ok (.aload_n 0, 1) := by decide +kernel
theorem dX11_proof_81 : decode cX11_proof 81 = .ok (.getfield 36, 3) := by decide +kernel
theorem dX11_proof_84 : decode cX11_proof 84 = .ok (.invokevirtual 248, 3) := by decide +kernel
theorem dX11_proof_87 : decode cX11_proof 87 = .ok (.ifCond .ne 7, 3) := by decide +kernel
theorem dX11_proof_90 : decode cX11_proof 90 = .ok (.iconst 1, 1) := by decide +kernel
theorem dX11_proof_91 : decode cX11_proof 91 = .ok (.goto 4, 3) := by decide +kernel
theorem dX11_proof_94 : decode cX11_proof 94 = .ok (.iconst 0, 1) := by decide +kernel
theorem dX11_proof_95 : decode cX11_proof 95 = .ok (.ireturn, 1) := by decide +kernel
theorem dX11_when_0 : decode cX11_when 0 = .ok (.iload_n 2, 1) := by decide +kernel
theorem dX11_when_1 : decode cX11_when 1 = .ok (.ifCond .ge 5, 3) := by decide +kernel
theorem dX11_when_4 : decode cX11_when 4 = .ok (.iconst (-1), 1) := by decide +kernel
theorem dX11_when_5 : decode cX11_when 5 = .ok (.ireturn, 1) := by decide +kernel
theorem dX11_when_6 : decode cX11_when 6 = .ok (.iconst 0, 1) := by decide +kernel
theorem dX11_when_7 : decode cX11_when 7 = .ok (.istore_n 3, 1) := by decide +kernel
theorem dX11_when_8 : decode cX11_when 8 = .ok (.iload_n 3, 1) := by decide +kernel
theorem dX11_when_9 : decode cX11_when 9 = .ok (.bipush 20, 2) := by decide +kernel
theorem dX11_when_11 : decode cX11_when 11 = .ok (.if_icmp .gt 61, 3) := by decide +kernel
theorem dX11_when_14 : decode cX11_when 14 = .ok (.aload_n 0, 1) := by decide +kernel
theorem dX11_when_15 : decode cX11_when 15 = .ok (.aload_n 0, 1) := by decide +kernel
theorem dX11_when_16 : decode cX11_when 16 = .ok (.getfield 26, 3) := by decide +kernel
theorem dX11_when_19 : decode cX11_when 19 = .ok (.iload_n 1, 1) := by decide +kernel
theorem dX11_when_20 : decode cX11_when 20 = .ok (.iload_n 3, 1) := by decide +kernel
theorem dX11_when_21 : decode cX11_when 21 = .ok (.invokevirtual 252, 3) := by decide +kernel
theorem dX11_when_24 : decode cX11_when 24 = .ok (.ifCond .ne 5, 3) := by decide +kernel
theorem dX11_when_27 : decode cX11_when 27 = .ok (.iconst (-1), 1) := by decide +kernel
theorem dX11_when_28 : decode cX11_when 28 = .ok (.ireturn, 1) := by decide +kernel
theorem dX11_when_29 : decode cX11_when 29 = .ok (.aload_n 0, 1) := by decide +kernel
theorem dX11_when_30 : decode cX11_when 30 = .ok (.getfield 36, 3) := by decide +kernel
theorem dX11_when_33 : decode cX11_when 33 = .ok (.aload_n 0, 1) := by decide +kernel
theorem dX11_when_34 : decode cX11_when 34 = .ok (.getfield 26, 3) := by decide +kernel
theorem dX11_when_37 : decode cX11_when 37 = .ok (.invokevirtual 209, 3) := by decide +kernel
theorem dX11_when_40 : decode cX11_when 40 = .ok (.aload_n 0, 1) := by decide +kernel
theorem dX11_when_41 : decode cX11_when 41 = .ok (.getfield 36, 3) := by decide +kernel
theorem dX11_when_44 : decode cX11_when 44 = .ok (.aload_n 0, 1) := by decide +kernel
theorem dX11_when_45 : decode cX11_when 45 = .ok (.getfield 91, 3) := by decide +kernel
theorem dX11_when_48 : decode cX11_when 48 = .ok (.invokevirtual 213, 3) := by decide +kernel
theorem dX11_when_51 : decode cX11_when 51 = .ok (.aload_n 0, 1) := by decide +kernel
theorem dX11_when_52 : decode cX11_when 52 = .ok (.getfield 91, 3) := by decide +kernel
theorem dX11_when_55 : decode cX11_when 55 = .ok (.iload_n 2, 1) := by decide +kernel
theorem dX11_when_56 : decode cX11_when 56 = .ok (.i2l, 1) := by decide +kernel
theorem dX11_when_57 : decode cX11_when 57 = .ok (.lconst 1, 1) := by decide +kernel
theorem dX11_when_58 : decode cX11_when 58 = .ok (.invokevirtual 256, 3) := by decide +kernel
theorem dX11_when_61 : decode cX11_when 61 = .ok (.ifCond .le 5, 3) := by decide +kernel
theorem dX11_when_64 : decode cX11_when 64 = .ok (.iload_n 3, 1) := by decide +kernel
theorem dX11_when_65 : decode cX11_when 65 = .ok (.ireturn, 1) := by decide +kernel
theorem dX11_when_66 : decode cX11_when 66 = .ok (.iinc 3 1, 3) := by decide +kernel
theorem dX11_when_69 : decode cX11_when 69 = .ok (.goto (-61), 3) := by decide +kernel
theorem dX11_when_72 : decode cX11_when 72 = .ok (.iconst (-1), 1) := by decide +kernel
theorem dX11_when_73 : decode cX11_when 73 = .ok (.ireturn, 1) := by decide +kernel
theorem dX11_hull_0 : decode cX11_hull 0 = .ok (.iload_n 2, 1) := by decide +kernel
theorem dX11_hull_1 : decode cX11_hull 1 = .ok (.iconst (-1), 1) := by decide +kernel
theorem dX11_hull_2 : decode cX11_hull 2 = .ok (.if_icmp .lt 11, 3) := by decide +kernel
theorem dX11_hull_5 : decode cX11_hull 5 = .ok (.aload_n 0, 1) := by decide +kernel
theorem dX11_hull_6 : decode cX11_hull 6 = .ok (.iload_n 1, 1) := by decide +kernel
theorem dX11_hull_7 : decode cX11_hull 7 = .ok (.invokevirtual 196, 3) := by decide +kernel
theorem dX11_hull_10 : decode cX11_hull 10 = .ok (.ifCond .ne 5, 3) := by decide +kernel
theorem dX11_hull_13 : decode cX11_hull 13 = .ok (.iconst (-1), 1) := by decide +kernel
theorem dX11_hull_14 : decode cX11_hull 14 = .ok (.ireturn, 1) := by decide +kernel
theorem dX11_hull_15 : decode cX11_hull 15 = .ok (.aload_n 0, 1) := by decide +kernel
theorem dX11_hull_16 : decode cX11_hull 16 = .ok (.getfield 46, 3) := by decide +kernel
theorem dX11_hull_19 : decode cX11_hull 19 = .ok (.aload_n 0, 1) := by decide +kernel
theorem dX11_hull_20 : decode cX11_hull 20 = .ok (.getfield 26, 3) := by decide +kernel
theorem dX11_hull_23 : decode cX11_hull 23 = .ok (.invokevirtual 260, 3) := by decide +kernel
theorem dX11_hull_26 : decode cX11_hull 26 = .ok (.iload_n 2, 1) := by decide +kernel
theorem dX11_hull_27 : decode cX11_hull 27 = .ok (.iconst (-1), 1) := by decide +kernel
theorem dX11_hull_28 : decode cX11_hull 28 = .ok (.if_icmp .ne 13, 3) := by decide +kernel
theorem dX11_hull_31 : decode cX11_hull 31 = .ok (.aload_n 0, 1) := by decide +kernel
theorem dX11_hull_32 : decode cX11_hull 32 = .ok (.getfield 46, 3) := by decide +kernel
theorem dX11_hull_35 : decode cX11_hull 35 = .ok (.invokevirtual 261, 3) := by decide +kernel
theorem dX11_hull_38 : decode cX11_hull 38 = .ok (.goto 11, 3) := by decide +kernel
theorem dX11_hull_41 : decode cX11_hull 41 = .ok (.aload_n 0, 1) := by decide +kernel
theorem dX11_hull_42 : decode cX11_hull 42 = .ok (.getfield 46, 3) := by decide +kernel
theorem dX11_hull_45 : decode cX11_hull 45 = .ok (.iload_n 2, 1) := by decide +kernel
theorem dX11_hull_46 : decode cX11_hull 46 = .ok (.invokevirtual 262, 3) := by decide +kernel
theorem dX11_hull_49 : decode cX11_hull 49 = .ok (.ireturn, 1) := by decide +kernel
theorem dX11_area_0 : decode cX11_area 0 = .ok (.aload_n 0, 1) := by decide +kernel
theorem dX11_area_1 : decode cX11_area 1 = .ok (.iload_n 1, 1) := by decide +kernel
theorem dX11_area_2 : decode cX11_area 2 = .ok (.invokevirtual 196, 3) := by decide +kernel
theorem dX11_area_5 : decode cX11_area 5 = .ok (.ifCond .ne 5, 3) := by decide +kernel
theorem dX11_area_8 : decode cX11_area 8 = .ok (.iconst (-1), 1) := by decide +kernel
theorem dX11_area_9 : decode cX11_area 9 = .ok (.ireturn, 1) := by decide +kernel
theorem dX11_area_10 : decode cX11_area 10 = .ok (.aload_n 0, 1) := by decide +kernel
theorem dX11_area_11 : decode cX11_area 11 = .ok (.getfield 46, 3) := by decide +kernel
theorem dX11_area_14 : decode cX11_area 14 = .ok (.aload_n 0, 1) := by decide +kernel
theorem dX11_area_15 : decode cX11_area 15 = .ok (.getfield 26, 3) := by decide +kernel
theorem dX11_area_18 : decode cX11_area 18 = .ok (.invokevirtual 260, 3) := by decide +kernel
theorem dX11_area_21 : decode cX11_area 21 = .ok (.aload_n 0, 1) := by decide +kernel
theorem dX11_area_22 : decode cX11_area 22 = .ok (.getfield 46, 3) := by decide +kernel
theorem dX11_area_25 : decode cX11_area 25 = .ok (.invokevirtual 263, 3) := by decide +kernel
theorem dX11_area_28 : decode cX11_area 28 = .ok (.l2i, 1) := by decide +kernel
theorem dX11_area_29 : decode cX11_area 29 = .ok (.ireturn, 1) := by decide +kernel
theorem dX11_layer_0 : decode cX11_layer 0 = .ok (.aload_n 0, 1) := by decide +kernel
theorem dX11_layer_1 : decode cX11_layer 1 = .ok (.iload_n 1, 1) := by decide +kernel
theorem dX11_layer_2 : decode cX11_layer 2 = .ok (.invokevirtual 196, 3) := by decide +kernel
theorem dX11_layer_5 : decode cX11_layer 5 = .ok (.ifCond .ne 5, 3) := by decide +kernel
theorem dX11_layer_8 : decode cX11_layer 8 = .ok (.iconst (-1), 1) := by decide +kernel
theorem dX11_layer_9 : decode cX11_layer 9 = .ok (.ireturn, 1) := by decide +kernel
theorem dX11_layer_10 : decode cX11_layer 10 = .ok (.iload_n 2, 1) := by decide +kernel
theorem dX11_layer_11 : decode cX11_layer 11 = .ok (.iconst (-1), 1) := by decide +kernel
theorem dX11_layer_12 : decode cX11_layer 12 = .ok (.if_icmp .ne 15, 3) := by decide +kernel
theorem dX11_layer_15 : decode cX11_layer 15 = .ok (.aload_n 0, 1) := by decide +kernel
theorem dX11_layer_16 : decode cX11_layer 16 = .ok (.getfield 56, 3) := by decide +kernel
theorem dX11_layer_19 : decode cX11_layer 19 = .ok (.aload_n 0, 1) := by decide +kernel
theorem dX11_layer_20 : decode cX11_layer 20 = .ok (.getfield 26, 3) := by decide +kernel
theorem dX11_layer_23 : decode cX11_layer 23 = .ok (.invokevirtual 267, 3) := by decide +kernel
theorem dX11_layer_26 : decode cX11_layer 26 = .ok (.ireturn, 1) := by decide +kernel
theorem dX11_layer_27 : decode cX11_layer 27 = .ok (.aload_n 0, 1) := by decide +kernel
theorem dX11_layer_28 : decode cX11_layer 28 = .ok (.getfield 10, 3) := by decide +kernel
theorem dX11_layer_31 : decode cX11_layer 31 = .ok (.iload_n 2, 1) := by decide +kernel
theorem dX11_layer_32 : decode cX11_layer 32 = .ok (.invokevirtual 144, 3) := by decide +kernel
theorem dX11_layer_35 : decode cX11_layer 35 = .ok (.ifCond .eq 20, 3) := by decide +kernel
theorem dX11_layer_38 : decode cX11_layer 38 = .ok (.aload_n 0, 1) := by decide +kernel
theorem dX11_layer_39 : decode cX11_layer 39 = .ok (.getfield 10, 3) := by decide +kernel
theorem dX11_layer_42 : decode cX11_layer 42 = .ok (.iload_n 1, 1) := by decide +kernel
theorem dX11_layer_43 : decode cX11_layer 43 = .ok (.invokevirtual 167, 3) := by decide +kernel
theorem dX11_layer_46 : decode cX11_layer 46 = .ok (.lconst 1, 1) := by decide +kernel
theorem dX11_layer_47 : decode cX11_layer 47 = .ok (.iload_n 2, 1) := by decide +kernel
theorem dX11_layer_48 : decode cX11_layer 48 = .ok (.lshl, 1) := by decide +kernel
theorem dX11_layer_49 : decode cX11_layer 49 = .ok (.land, 1) := by decide +kernel
theorem dX11_layer_50 : decode cX11_layer 50 = .ok (.lconst 0, 1) := by decide +kernel
theorem dX11_layer_51 : decode cX11_layer 51 = .ok (.lcmp, 1) := by decide +kernel
theorem dX11_layer_52 : decode cX11_layer 52 = .ok (.ifCond .ne 5, 3) := by decide +kernel
theorem dX11_layer_55 : decode cX11_layer 55 = .ok (.iconst (-1), 1) := by decide +kernel
theorem dX11_layer_56 : decode cX11_layer 56 = .ok (.ireturn, 1) := by decide +kernel
theorem dX11_layer_57 : decode cX11_layer 57 = .ok (.aload_n 0, 1) := by decide +kernel
theorem dX11_layer_58 : decode cX11_layer 58 = .ok (.getfield 56, 3) := by decide +kernel
theorem dX11_layer_61 : decode cX11_layer 61 = .ok (.aload_n 0, 1) := by decide +kernel
theorem dX11_layer_62 : decode cX11_layer 62 = .ok (.getfield 26, 3) := by decide +kernel
theorem dX11_layer_65 : decode cX11_layer 65 = .ok (.invokevirtual 267, 3) := by decide +kernel
theorem dX11_layer_68 : decode cX11_layer 68 = .ok (.pop, 1) := by decide +kernel
theorem dX11_layer_69 : decode cX11_layer 69 = .ok (.aload_n 0, 1) := by decide +kernel
theorem dX11_layer_70 : decode cX11_layer 70 = .ok (.getfield 26, 3) := by decide +kernel
theorem dX11_layer_73 : decode cX11_layer 73 = .ok (.aload_n 0, 1) := by decide +kernel
theorem dX11_layer_74 : decode cX11_layer 74 = .ok (.getfield 10, 3) := by decide +kernel
theorem dX11_layer_77 : decode cX11_layer 77 = .ok (.iload_n 2, 1) := by decide +kernel
theorem dX11_layer_78 : decode cX11_layer 78 = .ok (.aload_n 0, 1) := by decide +kernel
theorem dX11_layer_79 : decode cX11_layer 79 = .ok (.getfield 10, 3) := by decide +kernel
theorem dX11_layer_82 : decode cX11_layer 82 = .ok (.invokevirtual 158, 3) := by decide +kernel
theorem dX11_layer_85 : decode cX11_layer 85 = .ok (.invokevirtual 186, 3) := by decide +kernel
theorem dX11_layer_88 : decode cX11_layer 88 = .ok (.aload_n 0, 1) := by decide +kernel
theorem dX11_layer_89 : decode cX11_layer 89 = .ok (.getfield 10, 3) := by decide +kernel
theorem dX11_layer_92 : decode cX11_layer 92 = .ok (.iload_n 2, 1) := by decide +kernel
theorem dX11_layer_93 : decode cX11_layer 93 = .ok (.aload_n 0, 1) := by decide +kernel
theorem dX11_layer_94 : decode cX11_layer 94 = .ok (.getfield 10, 3) := by decide +kernel
theorem dX11_layer_97 : decode cX11_layer 97 = .ok (.invokevirtual 158, 3) := by decide +kernel
theorem dX11_layer_100 : decode cX11_layer 100 = .ok (.invokevirtual 190, 3) := by decide +kernel
theorem dX11_layer_103 : decode cX11_layer 103 = .ok (.invokevirtual 270, 3) := by decide +kernel
theorem dX11_layer_106 : decode cX11_layer 106 = .ok (.istore_n 3, 1) := by decide +kernel
theorem dX11_layer_107 : decode cX11_layer 107 = .ok (.aload_n 0, 1) := by decide +kernel
theorem dX11_layer_108 : decode cX11_layer 108 = .ok (.getfield 56, 3) := by decide +kernel
theorem dX11_layer_111 : decode cX11_layer 111 = .ok (.aload_n 0, 1) := by decide +kernel
theorem dX11_layer_112 : decode cX11_layer 112 = .ok (.getfield 26, 3) := by decide +kernel
theorem dX11_layer_115 : decode cX11_layer 115 = .ok (.iload_n 3, 1) := by decide +kernel
theorem dX11_layer_116 : decode cX11_layer 116 = .ok (.invokevirtual 204, 3) := by decide +kernel
theorem dX11_layer_119 : decode cX11_layer 119 = .ok (.invokevirtual 273, 3) := by decide +kernel
theorem dX11_layer_122 : decode cX11_layer 122 = .ok (.ireturn, 1) := by decide +kernel
theorem dX11_strip_0 : decode cX11_strip 0 = .ok (.iload_n 2, 1) := by decide +kernel
theorem dX11_strip_1 : decode cX11_strip 1 = .ok (.ifCond .lt 16, 3) := by decide +kernel
theorem dX11_strip_4 : decode cX11_strip 4 = .ok (.iload_n 2, 1) := by decide +kernel
theorem dX11_strip_5 : decode cX11_strip 5 = .ok (.iconst 2, 1) := by decide +kernel
theorem dX11_strip_6 : decode cX11_strip 6 = .ok (.if_icmp .gt 11, 3) := by decide +kernel
theorem dX11_strip_9 : decode cX11_strip 9 = .ok (.aload_n 0, 1) := by decide +kernel
theorem dX11_strip_10 : decode cX11_strip 10 = .ok (.iload_n 1, 1) := by decide +kernel
theorem dX11_strip_11 : decode cX11_strip 11 = .ok (.invokevirtual 276, 3) := by decide +kernel
theorem dX11_strip_14 : decode cX11_strip 14 = .ok (.ifCond .ne 7, 3) := by decide +kernel
theorem dX11_strip_17 : decode cX11_strip 17 = .ok (.ldc2_w 242, 3) := by decide +kernel
theorem dX11_strip_20 : decode cX11_strip 20 = .ok (.lreturn, 1) := by decide +kernel
theorem dX11_strip_21 : decode cX11_strip 21 = .ok (.aload_n 0, 1) := by decide +kernel
theorem dX11_strip_22 : decode cX11_strip 22 = .ok (.getfield 46, 3) := by decide +kernel
theorem dX11_strip_25 : decode cX11_strip 25 = .ok (.aload_n 0, 1) := by decide +kernel
theorem dX11_strip_26 : decode cX11_strip 26 = .ok (.getfield 91, 3) := by decide +kernel
theorem dX11_strip_29 : decode cX11_strip 29 = .ok (.invokevirtual 279, 3) := by decide +kernel
theorem dX11_strip_32 : decode cX11_strip 32 = .ok (.istore_n 3, 1) := by decide +kernel
theorem dX11_strip_33 : decode cX11_strip 33 = .ok (.iload_n 2, 1) := by decide +kernel
theorem dX11_strip_34 : decode cX11_strip 34 = .ok (.iconst 2, 1) := by decide +kernel
theorem dX11_strip_35 : decode cX11_strip 35 = .ok (.if_icmp .ne 8, 3) := by decide +kernel
theorem dX11_strip_38 : decode cX11_strip 38 = .ok (.iload_n 3, 1) := by decide +kernel
theorem dX11_strip_39 : decode cX11_strip 39 = .ok (.i2l, 1) := by decide +kernel
theorem dX11_strip_40 : decode cX11_strip 40 = .ok (.goto 11, 3) := by decide +kernel
theorem dX11_strip_43 : decode cX11_strip 43 = .ok (.aload_n 0, 1) := by decide +kernel
theorem dX11_strip_44 : decode cX11_strip 44 = .ok (.getfield 91, 3) := by decide +kernel
theorem dX11_strip_47 : decode cX11_strip 47 = .ok (.iload_n 2, 1) := by decide +kernel
theorem dX11_strip_48 : decode cX11_strip 48 = .ok (.invokevirtual 223, 3) := by decide +kernel
theorem dX11_strip_51 : decode cX11_strip 51 = .ok (.lreturn, 1) := by decide +kernel
theorem dX11_couple_0 : decode cX11_couple 0 = .ok (.iload_n 2, 1) := by decide +kernel
theorem dX11_couple_1 : decode cX11_couple 1 = .ok (.ifCond .lt 20, 3) := by decide +kernel
theorem dX11_couple_4 : decode cX11_couple 4 = .ok (.iload_n 3, 1) := by decide +kernel
theorem dX11_couple_5 : decode cX11_couple 5 = .ok (.ifCond .lt 16, 3) := by decide +kernel
theorem dX11_couple_8 : decode cX11_couple 8 = .ok (.iload_n 3, 1) := by decide +kernel
theorem dX11_couple_9 : decode cX11_couple 9 = .ok (.iconst 2, 1) := by decide +kernel
theorem dX11_couple_10 : decode cX11_couple 10 = .ok (.if_icmp .gt 11, 3) := by decide +kernel
theorem dX11_couple_13 : decode cX11_couple 13 = .ok (.aload_n 0, 1) := by decide +kernel
theorem dX11_couple_14 : decode cX11_couple 14 = .ok (.iload_n 1, 1) := by decide +kernel
theorem dX11_couple_15 : decode cX11_couple 15 = .ok (.invokevirtual 196, 3) := by decide +kernel
theorem dX11_couple_18 : decode cX11_couple 18 = .ok (.ifCond .ne 5, 3) := by decide +kernel
theorem dX11_couple_21 : decode cX11_couple 21 = .ok (.iconst (-1), 1) := by decide +kernel
theorem dX11_couple_22 : decode cX11_couple 22 = .ok (.ireturn, 1) := by decide +kernel
theorem dX11_couple_23 : decode cX11_couple 23 = .ok (.aload_n 0, 1) := by decide +kernel
theorem dX11_couple_24 : decode cX11_couple 24 = .ok (.getfield 63, 3) := by decide +kernel
theorem dX11_couple_27 : decode cX11_couple 27 = .ok (.aload_n 0, 1) := by decide +kernel
theorem dX11_couple_28 : decode cX11_couple 28 = .ok (.getfield 26, 3) := by decide +kernel
theorem dX11_couple_31 : decode cX11_couple 31 = .ok (.invokevirtual 283, 3) := by decide +kernel
theorem dX11_couple_34 : decode cX11_couple 34 = .ok (.iload_n 2, 1) := by decide +kernel
theorem dX11_couple_35 : decode cX11_couple 35 = .ok (.aload_n 0, 1) := by decide +kernel
theorem dX11_couple_36 : decode cX11_couple 36 = .ok (.getfield 63, 3) := by decide +kernel
theorem dX11_couple_39 : decode cX11_couple 39 = .ok (.invokevirtual 286, 3) := by decide +kernel
theorem dX11_couple_42 : decode cX11_couple 42 = .ok (.if_icmp .lt 5, 3) := by decide +kernel
theorem dX11_couple_45 : decode cX11_couple 45 = .ok (.iconst (-1), 1) := by decide +kernel
theorem dX11_couple_46 : decode cX11_couple 46 = .ok (.ireturn, 1) := by decide +kernel
theorem dX11_couple_47 : decode cX11_couple 47 = .ok (.iload_n 3, 1) := by decide +kernel
theorem dX11_couple_48 : decode cX11_couple 48 = .ok (.ifCond .ne 12, 3) := by decide +kernel
theorem dX11_couple_51 : decode cX11_couple 51 = .ok (.aload_n 0, 1) := by decide +kernel
theorem dX11_couple_52 : decode cX11_couple 52 = .ok (.getfield 63, 3) := by decide +kernel
theorem dX11_couple_55 : decode cX11_couple 55 = .ok (.iload_n 2, 1) := by decide +kernel
theorem dX11_couple_56 : decode cX11_couple 56 = .ok (.invokevirtual 287, 3) := by decide +kernel
theorem dX11_couple_59 : decode cX11_couple 59 = .ok (.ireturn, 1) := by decide +kernel
theorem dX11_couple_60 : decode cX11_couple 60 = .ok (.aload_n 0, 1) := by decide +kernel
theorem dX11_couple_61 : decode cX11_couple 61 = .ok (.getfield 26, 3) := by decide +kernel
theorem dX11_couple_64 : decode cX11_couple 64 = .ok (.iload_n 3, 1) := by decide +kernel
theorem dX11_couple_65 : decode cX11_couple 65 = .ok (.iconst 1, 1) := by decide +kernel
theorem dX11_couple_66 : decode cX11_couple 66 = .ok (.if_icmp .ne 14, 3) := by decide +kernel
theorem dX11_couple_69 : decode cX11_couple 69 = .ok (.aload_n 0, 1) := by decide +kernel
theorem dX11_couple_70 : decode cX11_couple 70 = .ok (.getfield 63, 3) := by decide +kernel
theorem dX11_couple_73 : decode cX11_couple 73 = .ok (.iload_n 2, 1) := by decide +kernel
theorem dX11_couple_74 : decode cX11_couple 74 = .ok (.invokevirtual 290, 3) := by decide +kernel
theorem dX11_couple_77 : decode cX11_couple 77 = .ok (.goto 11, 3) := by decide +kernel
theorem dX11_couple_80 : decode cX11_couple 80 = .ok (.aload_n 0, 1) := by decide +kernel
theorem dX11_couple_81 : decode cX11_couple 81 = .ok (.getfield 63, 3) := by decide +kernel
theorem dX11_couple_84 : decode cX11_couple 84 = .ok (.iload_n 2, 1) := by decide +kernel
theorem dX11_couple_85 : decode cX11_couple 85 = .ok (.invokevirtual 293, 3) := by decide +kernel
theorem dX11_couple_88 : decode cX11_couple 88 = .ok (.invokevirtual 204, 3) := by decide +kernel
theorem dX11_couple_91 : decode cX11_couple 91 = .ok (.ireturn, 1) := by decide +kernel
theorem dX11_ring_0 : decode cX11_ring 0 = .ok (.iload_n 2, 1) := by decide +kernel
theorem dX11_ring_1 : decode cX11_ring 1 = .ok (.ifCond .lt 29, 3) := by decide +kernel
theorem dX11_ring_4 : decode cX11_ring 4 = .ok (.iload_n 2, 1) := by decide +kernel
theorem dX11_ring_5 : decode cX11_ring 5 = .ok (.bipush 9, 2) := by decide +kernel
theorem dX11_ring_7 : decode cX11_ring 7 = .ok (.if_icmp .gt 23, 3) := by decide +kernel
theorem dX11_ring_10 : decode cX11_ring 10 = .ok (.aload_n 0, 1) := by decide +kernel
theorem dX11_ring_11 : decode cX11_ring 11 = .ok (.iload_n 1, 1) := by decide +kernel
theorem dX11_ring_12 : decode cX11_ring 12 = .ok (.invokevirtual 276, 3) := by decide +kernel
theorem dX11_ring_15 : decode cX11_ring 15 = .ok (.ifCond .eq 15, 3) := by decide +kernel
theorem dX11_ring_18 : decode cX11_ring 18 = .ok (.aload_n 0, 1) := by decide +kernel
theorem dX11_ring_19 : decode cX11_ring 19 = .ok (.getfield 26, 3) := by decide +kernel
theorem dX11_ring_22 : decode cX11_ring 22 = .ok (.invokevirtual 199, 3) := by decide +kernel
theorem dX11_ring_25 : decode cX11_ring 25 = .ok (.bipush 12, 2) := by decide +kernel
theorem dX11_ring_27 : decode cX11_ring 27 = .ok (.if_icmp .le 7, 3) := by decide +kernel
theorem dX11_ring_30 : decode cX11_ring 30 = .ok (.ldc2_w 207, 3) := by decide +kernel
theorem dX11_ring_33 : decode cX11_ring 33 = .ok (.lreturn, 1) := by decide +kernel
theorem dX11_ring_34 : decode cX11_ring 34 = .ok (.aload_n 0, 1) := by decide +kernel
theorem dX11_ring_35 : decode cX11_ring 35 = .ok (.getfield 63, 3) := by decide +kernel
theorem dX11_ring_38 : decode cX11_ring 38 = .ok (.aload_n 0, 1) := by decide +kernel
theorem dX11_ring_39 : decode cX11_ring 39 = .ok (.getfield 26, 3) := by decide +kernel
theorem dX11_ring_42 : decode cX11_ring 42 = .ok (.invokevirtual 283, 3) := by decide +kernel
theorem dX11_ring_45 : decode cX11_ring 45 = .ok (.aload_n 0, 1) := by decide +kernel
theorem dX11_ring_46 : decode cX11_ring 46 = .ok (.getfield 70, 3) := by decide +kernel
theorem dX11_ring_49 : decode cX11_ring 49 = .ok (.aload_n 0, 1) := by decide +kernel
theorem dX11_ring_50 : decode cX11_ring 50 = .ok (.getfield 26, 3) := by decide +kernel
theorem dX11_ring_53 : decode cX11_ring 53 = .ok (.aload_n 0, 1) := by decide +kernel
theorem dX11_ring_54 : decode cX11_ring 54 = .ok (.getfield 63, 3) := by decide +kernel
theorem dX11_ring_57 : decode cX11_ring 57 = .ok (.invokevirtual 295, 3) := by decide +kernel
theorem dX11_ring_60 : decode cX11_ring 60 = .ok (.aload_n 0, 1) := by decide +kernel
theorem dX11_ring_61 : decode cX11_ring 61 = .ok (.getfield 70, 3) := by decide +kernel
theorem dX11_ring_64 : decode cX11_ring 64 = .ok (.iload_n 2, 1) := by decide +kernel
theorem dX11_ring_65 : decode cX11_ring 65 = .ok (.iconst 2, 1) := by decide +kernel
theorem dX11_ring_66 : decode cX11_ring 66 = .ok (.idiv, 1) := by decide +kernel
theorem dX11_ring_67 : decode cX11_ring 67 = .ok (.aload_n 0, 1) := by decide +kernel
theorem dX11_ring_68 : decode cX11_ring 68 = .ok (.getfield 91, 3) := by decide +kernel
theorem dX11_ring_71 : decode cX11_ring 71 = .ok (.invokevirtual 298, 3) := by decide +kernel
theorem dX11_ring_74 : decode cX11_ring 74 = .ok (.aload_n 0, 1) := by decide +kernel
theorem dX11_ring_75 : decode cX11_ring 75 = .ok (.getfield 91, 3) := by decide +kernel
theorem dX11_ring_78 : decode cX11_ring 78 = .ok (.iload_n 2, 1) := by decide +kernel
theorem dX11_ring_79 : decode cX11_ring 79 = .ok (.iconst 2, 1) := by decide +kernel
theorem dX11_ring_80 : decode cX11_ring 80 = .ok (.irem, 1) := by decide +kernel
theorem dX11_ring_81 : decode cX11_ring 81 = .ok (.invokevirtual 223, 3) := by decide +kernel
theorem dX11_ring_84 : decode cX11_ring 84 = .ok (.lreturn, 1) := by decide +kernel
theorem dX11_two_0 : decode cX11_two 0 = .ok (.iload_n 2, 1) := by decide +kernel
theorem dX11_two_1 : decode cX11_two 1 = .ok (.ifCond .lt 39, 3) := by decide +kernel
theorem dX11_two_4 : decode cX11_two 4 = .ok (.iload_n 2, 1) := by decide +kernel
theorem dX11_two_5 : decode cX11_two 5 = .ok (.iconst 2, 1) := by decide +kernel
theorem dX11_two_6 : decode cX11_two 6 = .ok (.if_icmp .gt 34, 3) := by decide +kernel
theorem dX11_two_9 : decode cX11_two 9 = .ok (.aload_n 0, 1) := by decide +kernel
theorem dX11_two_10 : decode cX11_two 10 = .ok (.iload_n 1, 1) := by decide +kernel
theorem dX11_two_11 : decode cX11_two 11 = .ok (.invokevirtual 196, 3) := by decide +kernel
theorem dX11_two_14 : decode cX11_two 14 = .ok (.ifCond .eq 26, 3) := by decide +kernel
theorem dX11_two_17 : decode cX11_two 17 = .ok (.aload_n 0, 1) := by decide +kernel
theorem dX11_two_18 : decode cX11_two 18 = .ok (.getfield 26, 3) := by decide +kernel
theorem dX11_two_21 : decode cX11_two 21 = .ok (.invokevirtual 199, 3) := by decide +kernel
theorem dX11_two_24 : decode cX11_two 24 = .ok (.iconst 2, 1) := by decide +kernel
theorem dX11_two_25 : decode cX11_two 25 = .ok (.if_icmp .lt 15, 3) := by decide +kernel
theorem dX11_two_28 : decode cX11_two 28 = .ok (.aload_n 0, 1) := by decide +kernel
theorem dX11_two_29 : decode cX11_two 29 = .ok (.getfield 26, 3) := by decide +kernel
theorem dX11_two_32 : decode cX11_two 32 = .ok (.invokevirtual 199, 3) := by decide +kernel
theorem dX11_two_35 : decode cX11_two 35 = .ok (.bipush 12, 2) := by decide +kernel
theorem dX11_two_37 : decode cX11_two 37 = .ok (.if_icmp .le 7, 3) := by decide +kernel
theorem dX11_two_40 : decode cX11_two 40 = .ok (.ldc2_w 242, 3) := by decide +kernel
theorem dX11_two_43 : decode cX11_two 43 = .ok (.lreturn, 1) := by decide +kernel
theorem dX11_two_44 : decode cX11_two 44 = .ok (.aload_n 0, 1) := by decide +kernel
theorem dX11_two_45 : decode cX11_two 45 = .ok (.getfield 77, 3) := by decide +kernel
theorem dX11_two_48 : decode cX11_two 48 = .ok (.aload_n 0, 1) := by decide +kernel
theorem dX11_two_49 : decode cX11_two 49 = .ok (.getfield 26, 3) := by decide +kernel
theorem dX11_two_52 : decode cX11_two 52 = .ok (.invokevirtual 302, 3) := by decide +kernel
theorem dX11_two_55 : decode cX11_two 55 = .ok (.aload_n 0, 1) := by decide +kernel
theorem dX11_two_56 : decode cX11_two 56 = .ok (.getfield 77, 3) := by decide +kernel
theorem dX11_two_59 : decode cX11_two 59 = .ok (.aload_n 0, 1) := by decide +kernel
theorem dX11_two_60 : decode cX11_two 60 = .ok (.getfield 91, 3) := by decide +kernel
theorem dX11_two_63 : decode cX11_two 63 = .ok (.invokevirtual 303, 3) := by decide +kernel
theorem dX11_two_66 : decode cX11_two 66 = .ok (.istore_n 3, 1) := by decide +kernel
theorem dX11_two_67 : decode cX11_two 67 = .ok (.iload_n 2, 1) := by decide +kernel
theorem dX11_two_68 : decode cX11_two 68 = .ok (.iconst 2, 1) := by decide +kernel
theorem dX11_two_69 : decode cX11_two 69 = .ok (.if_icmp .ne 8, 3) := by decide +kernel
theorem dX11_two_72 : decode cX11_two 72 = .ok (.iload_n 3, 1) := by decide +kernel
theorem dX11_two_73 : decode cX11_two 73 = .ok (.i2l, 1) := by decide +kernel
theorem dX11_two_74 : decode cX11_two 74 = .ok (.goto 11, 3) := by decide +kernel
theorem dX11_two_77 : decode cX11_two 77 = .ok (.aload_n 0, 1) := by decide +kernel
theorem dX11_two_78 : decode cX11_two 78 = .ok (.getfield 91, 3) := by decide +kernel
theorem dX11_two_81 : decode cX11_two 81 = .ok (.iload_n 2, 1) := by decide +kernel
theorem dX11_two_82 : decode cX11_two 82 = .ok (.invokevirtual 223, 3) := by decide +kernel
theorem dX11_two_85 : decode cX11_two 85 = .ok (.lreturn, 1) := by decide +kernel
theorem dX11_box_0 : decode cX11_box 0 = .ok (.iload_n 2, 1) := by decide +kernel
theorem dX11_box_1 : decode cX11_box 1 = .ok (.ifCond .lt 16, 3) := by decide +kernel
theorem dX11_box_4 : decode cX11_box 4 = .ok (.iload_n 2, 1) := by decide +kernel
theorem dX11_box_5 : decode cX11_box 5 = .ok (.iconst 2, 1) := by decide +kernel
theorem dX11_box_6 : decode cX11_box 6 = .ok (.if_icmp .gt 11, 3) := by decide +kernel
theorem dX11_box_9 : decode cX11_box 9 = .ok (.aload_n 0, 1) := by decide +kernel
theorem dX11_box_10 : decode cX11_box 10 = .ok (.iload_n 1, 1) := by decide +kernel
theorem dX11_box_11 : decode cX11_box 11 = .ok (.invokevirtual 276, 3) := by decide +kernel
theorem dX11_box_14 : decode cX11_box 14 = .ok (.ifCond .ne 7, 3) := by decide +kernel
theorem dX11_box_17 : decode cX11_box 17 = .ok (.ldc2_w 242, 3) := by decide +kernel
theorem dX11_box_20 : decode cX11_box 20 = .ok (.lreturn, 1) := by decide +kernel
theorem dX11_box_21 : decode cX11_box 21 = .ok (.aload_n 0, 1) := by decide +kernel
theorem dX11_box_22 : decode cX11_box 22 = .ok (.getfield 46, 3) := by decide +kernel
theorem dX11_box_25 : decode cX11_box 25 = .ok (.aload_n 0, 1) := by decide +kernel
theorem dX11_box_26 : decode cX11_box 26 = .ok (.getfield 91, 3) := by decide +kernel
theorem dX11_box_29 : decode cX11_box 29 = .ok (.invokevirtual 306, 3) := by decide +kernel
theorem dX11_box_32 : decode cX11_box 32 = .ok (.istore_n 3, 1) := by decide +kernel
theorem dX11_box_33 : decode cX11_box 33 = .ok (.iload_n 2, 1) := by decide +kernel
theorem dX11_box_34 : decode cX11_box 34 = .ok (.iconst 2, 1) := by decide +kernel
theorem dX11_box_35 : decode cX11_box 35 = .ok (.if_icmp .ne 8, 3) := by decide +kernel
theorem dX11_box_38 : decode cX11_box 38 = .ok (.iload_n 3, 1) := by decide +kernel
theorem dX11_box_39 : decode cX11_box 39 = .ok (.i2l, 1) := by decide +kernel
theorem dX11_box_40 : decode cX11_box 40 = .ok (.goto 11, 3) := by decide +kernel
theorem dX11_box_43 : decode cX11_box 43 = .ok (.aload_n 0, 1) := by decide +kernel
theorem dX11_box_44 : decode cX11_box 44 = .ok (.getfield 91, 3) := by decide +kernel
theorem dX11_box_47 : decode cX11_box 47 = .ok (.iload_n 2, 1) := by decide +kernel
theorem dX11_box_48 : decode cX11_box 48 = .ok (.invokevirtual 223, 3) := by decide +kernel
theorem dX11_box_51 : decode cX11_box 51 = .ok (.lreturn, 1) := by decide +kernel
theorem dX11_meets_0 : decode cX11_meets 0 = .ok (.aload_n 0, 1) := by decide +kernel
theorem dX11_meets_1 : decode cX11_meets 1 = .ok (.iload_n 1, 1) := by decide +kernel
theorem dX11_meets_2 : decode cX11_meets 2 = .ok (.iload_n 2, 1) := by decide +kernel
theorem dX11_meets_3 : decode cX11_meets 3 = .ok (.aload_n 0, 1) := by decide +kernel
theorem dX11_meets_4 : decode cX11_meets 4 = .ok (.getfield 10, 3) := by decide +kernel
theorem dX11_meets_7 : decode cX11_meets 7 = .ok (.invokevirtual 158, 3) := by decide +kernel
theorem dX11_meets_10 : decode cX11_meets 10 = .ok (.invokevirtual 309, 3) := by decide +kernel
theorem dX11_meets_13 : decode cX11_meets 13 = .ok (.ireturn, 1) := by decide +kernel
theorem dX11_fewer_0 : decode cX11_fewer 0 = .ok (.iload_n 3, 1) := by decide +kernel
theorem dX11_fewer_1 : decode cX11_fewer 1 = .ok (.ifCond .lt 21, 3) := by decide +kernel
theorem dX11_fewer_4 : decode cX11_fewer 4 = .ok (.iload_n 3, 1) := by decide +kernel
theorem dX11_fewer_5 : decode cX11_fewer 5 = .ok (.iconst 2, 1) := by decide +kernel
theorem dX11_fewer_6 : decode cX11_fewer 6 = .ok (.if_icmp .gt 16, 3) := by decide +kernel
theorem dX11_fewer_9 : decode cX11_fewer 9 = .ok (.iload_n 2, 1) := by decide +kernel
theorem dX11_fewer_10 : decode cX11_fewer 10 = .ok (.iconst 1, 1) := by decide +kernel
theorem dX11_fewer_11 : decode cX11_fewer 11 = .ok (.if_icmp .lt 11, 3) := by decide +kernel
theorem dX11_fewer_14 : decode cX11_fewer 14 = .ok (.aload_n 0, 1) := by decide +kernel
theorem dX11_fewer_15 : decode cX11_fewer 15 = .ok (.iload_n 1, 1) := by decide +kernel
theorem dX11_fewer_16 : decode cX11_fewer 16 = .ok (.invokevirtual 196, 3) := by decide +kernel
theorem dX11_fewer_19 : decode cX11_fewer 19 = .ok (.ifCond .ne 7, 3) := by decide +kernel
theorem dX11_fewer_22 : decode cX11_fewer 22 = .ok (.ldc2_w 242, 3) := by decide +kernel
theorem dX11_fewer_25 : decode cX11_fewer 25 = .ok (.lreturn, 1) := by decide +kernel
theorem dX11_fewer_26 : decode cX11_fewer 26 = .ok (.aload_n 0, 1) := by decide +kernel
theorem dX11_fewer_27 : decode cX11_fewer 27 = .ok (.getfield 26, 3) := by decide +kernel
theorem dX11_fewer_30 : decode cX11_fewer 30 = .ok (.invokevirtual 199, 3) := by decide +kernel
theorem dX11_fewer_33 : decode cX11_fewer 33 = .ok (.bipush 12, 2) := by decide +kernel
theorem dX11_fewer_35 : decode cX11_fewer 35 = .ok (.if_icmp .gt 14, 3) := by decide +kernel
theorem dX11_fewer_38 : decode cX11_fewer 38 = .ok (.iload_n 2, 1) := by decide +kernel
theorem dX11_fewer_39 : decode cX11_fewer 39 = .ok (.aload_n 0, 1) := by decide +kernel
theorem dX11_fewer_40 : decode cX11_fewer 40 = .ok (.getfield 26, 3) := by decide +kernel
theorem dX11_fewer_43 : decode cX11_fewer 43 = .ok (.invokevirtual 199, 3) := by decide +kernel
theorem dX11_fewer_46 : decode cX11_fewer 46 = .ok (.if_icmp .le 7, 3) := by decide +kernel
theorem dX11_fewer_49 : decode cX11_fewer 49 = .ok (.ldc2_w 242, 3) := by decide +kernel
theorem dX11_fewer_52 : decode cX11_fewer 52 = .ok (.lreturn, 1) := by decide +kernel
theorem dX11_fewer_53 : decode cX11_fewer 53 = .ok (.aload_n 0, 1) := by decide +kernel
theorem dX11_fewer_54 : decode cX11_fewer 54 = .ok (.getfield 77, 3) := by decide +kernel
theorem dX11_fewer_57 : decode cX11_fewer 57 = .ok (.aload_n 0, 1) := by decide +kernel
theorem dX11_fewer_58 : decode cX11_fewer 58 = .ok (.getfield 26, 3) := by decide +kernel
theorem dX11_fewer_61 : decode cX11_fewer 61 = .ok (.invokevirtual 302, 3) := by decide +kernel
theorem dX11_fewer_64 : decode cX11_fewer 64 = .ok (.aload_n 0, 1) := by decide +kernel
theorem dX11_fewer_65 : decode cX11_fewer 65 = .ok (.getfield 77, 3) := by decide +kernel
theorem dX11_fewer_68 : decode cX11_fewer 68 = .ok (.iload_n 2, 1) := by decide +kernel
theorem dX11_fewer_69 : decode cX11_fewer 69 = .ok (.aload_n 0, 1) := by decide +kernel
theorem dX11_fewer_70 : decode cX11_fewer 70 = .ok (.getfield 91, 3) := by decide +kernel
theorem dX11_fewer_73 : decode cX11_fewer 73 = .ok (.invokevirtual 313, 3) := by decide +kernel
theorem dX11_fewer_76 : decode cX11_fewer 76 = .ok (.istore 4, 2) := by decide +kernel
theorem dX11_fewer_78 : decode cX11_fewer 78 = .ok (.iload_n 3, 1) := by decide +kernel
theorem dX11_fewer_79 : decode cX11_fewer 79 = .ok (.iconst 2, 1) := by decide +kernel
theorem dX11_fewer_80 : decode cX11_fewer 80 = .ok (.if_icmp .ne 9, 3) := by decide +kernel
theorem dX11_fewer_83 : decode cX11_fewer 83 = .ok (.iload 4, 2) := by decide +kernel
theorem dX11_fewer_85 : decode cX11_fewer 85 = .ok (.i2l, 1) := by decide +kernel
theorem dX11_fewer_86 : decode cX11_fewer 86 = .ok (.goto 11, 3) := by decide +kernel
theorem dX11_fewer_89 : decode cX11_fewer 89 = .ok (.aload_n 0, 1) := by decide +kernel
theorem dX11_fewer_90 : decode cX11_fewer 90 = .ok (.getfield 91, 3) := by decide +kernel
theorem dX11_fewer_93 : decode cX11_fewer 93 = .ok (.iload_n 3, 1) := by decide +kernel
theorem dX11_fewer_94 : decode cX11_fewer 94 = .ok (.invokevirtual 223, 3) := by decide +kernel
theorem dX11_fewer_97 : decode cX11_fewer 97 = .ok (.lreturn, 1) := by decide +kernel
theorem dX11_worse_0 : decode cX11_worse 0 = .ok (.iload 4, 2) := by decide +kernel
theorem dX11_worse_2 : decode cX11_worse 2 = .ok (.ifCond .lt 28, 3) := by decide +kernel
theorem dX11_worse_5 : decode cX11_worse 5 = .ok (.iload 4, 2) := by decide +kernel
theorem dX11_worse_7 : decode cX11_worse 7 = .ok (.iconst 2, 1) := by decide +kernel
theorem dX11_worse_8 : decode cX11_worse 8 = .ok (.if_icmp .gt 22, 3) := by decide +kernel
theorem dX11_worse_11 : decode cX11_worse 11 = .ok (.iload_n 2, 1) := by decide +kernel
theorem dX11_worse_12 : decode cX11_worse 12 = .ok (.iload_n 3, 1) := by decide +kernel
theorem dX11_worse_13 : decode cX11_worse 13 = .ok (.sipush 150, 3) := by decide +kernel
theorem dX11_worse_16 : decode cX11_worse 16 = .ok (.invokestatic 127, 3) := by decide +kernel
theorem dX11_worse_19 : decode cX11_worse 19 = .ok (.ifCond .eq 11, 3) := by decide +kernel
theorem dX11_worse_22 : decode cX11_worse 22 = .ok (.aload_n 0, 1) := by decide +kernel
theorem dX11_worse_23 : decode cX11_worse 23 = .ok (.iload_n 1, 1) := by decide +kernel
theorem dX11_worse_24 : decode cX11_worse 24 = .ok (.invokevirtual 196, 3) := by decide +kernel
theorem dX11_worse_27 : decode cX11_worse 27 = .ok (.ifCond .ne 7, 3) := by decide +kernel
theorem dX11_worse_30 : decode cX11_worse 30 = .ok (.ldc2_w 242, 3) := by decide +kernel
theorem dX11_worse_33 : decode cX11_worse 33 = .ok (.lreturn, 1) := by decide +kernel
theorem dX11_worse_34 : decode cX11_worse 34 = .ok (.aload_n 0, 1) := by decide +kernel
theorem dX11_worse_35 : decode cX11_worse 35 = .ok (.getfield 36, 3) := by decide +kernel
theorem dX11_worse_38 : decode cX11_worse 38 = .ok (.aload_n 0, 1) := by decide +kernel
theorem dX11_worse_39 : decode cX11_worse 39 = .ok (.getfield 26, 3) := by decide +kernel
theorem dX11_worse_42 : decode cX11_worse 42 = .ok (.invokevirtual 209, 3) := by decide +kernel
theorem dX11_worse_45 : decode cX11_worse 45 = .ok (.aload_n 0, 1) := by decide +kernel
theorem dX11_worse_46 : decode cX11_worse 46 = .ok (.getfield 36, 3) := by decide +kernel
theorem dX11_worse_49 : decode cX11_worse 49 = .ok (.aload_n 0, 1) := by decide +kernel
theorem dX11_worse_50 : decode cX11_worse 50 = .ok (.getfield 26, 3) := by decide +kernel
theorem dX11_worse_53 : decode cX11_worse 53 = .ok (.invokevirtual 226, 3) := by decide +kernel
theorem dX11_worse_56 : decode cX11_worse 56 = .ok (.aload_n 0, 1) := by decide +kernel
theorem dX11_worse_57 : decode cX11_worse 57 = .ok (.getfield 26, 3) := by decide +kernel
theorem dX11_worse_60 : decode cX11_worse 60 = .ok (.iload_n 2, 1) := by decide +kernel
theorem dX11_worse_61 : decode cX11_worse 61 = .ok (.iload_n 3, 1) := by decide +kernel
theorem dX11_worse_62 : decode cX11_worse 62 = .ok (.bipush 40, 2) := by decide +kernel
theorem dX11_worse_64 : decode cX11_worse 64 = .ok (.invokevirtual 317, 3) := by decide +kernel
theorem dX11_worse_67 : decode cX11_worse 67 = .ok (.aload_n 0, 1) := by decide +kernel
theorem dX11_worse_68 : decode cX11_worse 68 = .ok (.getfield 40, 3) := by decide +kernel
theorem dX11_worse_71 : decode cX11_worse 71 = .ok (.aload_n 0, 1) := by decide +kernel
theorem dX11_worse_72 : decode cX11_worse 72 = .ok (.getfield 26, 3) := by decide +kernel
theorem dX11_worse_75 : decode cX11_worse 75 = .ok (.invokevirtual 209, 3) := by decide +kernel
theorem dX11_worse_78 : decode cX11_worse 78 = .ok (.iload 4, 2) := by decide +kernel
theorem dX11_worse_80 : decode cX11_worse 80 = .ok (.iconst 2, 1) := by decide +kernel
theorem dX11_worse_81 : decode cX11_worse 81 = .ok (.if_icmp .ne 9, 3) := by decide +kernel
theorem dX11_worse_84 : decode cX11_worse 84 = .ok (.aload_n 0, 1) := by decide +kernel
theorem dX11_worse_85 : decode cX11_worse 85 = .ok (.invokevirtual 320, 3) := by decide +kernel
theorem dX11_worse_88 : decode cX11_worse 88 = .ok (.i2l, 1) := by decide +kernel
theorem dX11_worse_89 : decode cX11_worse 89 = .ok (.lreturn, 1) := by decide +kernel
theorem dX11_worse_90 : decode cX11_worse 90 = .ok (.aload_n 0, 1) := by decide +kernel
theorem dX11_worse_91 : decode cX11_worse 91 = .ok (.getfield 40, 3) := by decide +kernel
theorem dX11_worse_94 : decode cX11_worse 94 = .ok (.aload_n 0, 1) := by decide +kernel
theorem dX11_worse_95 : decode cX11_worse 95 = .ok (.getfield 91, 3) := by decide +kernel
theorem dX11_worse_98 : decode cX11_worse 98 = .ok (.invokevirtual 213, 3) := by decide +kernel
theorem dX11_worse_101 : decode cX11_worse 101 = .ok (.aload_n 0, 1) := by decide +kernel
theorem dX11_worse_102 : decode cX11_worse 102 = .ok (.getfield 91, 3) := by decide +kernel
theorem dX11_worse_105 : decode cX11_worse 105 = .ok (.iload 4, 2) := by decide +kernel
theorem dX11_worse_107 : decode cX11_worse 107 = .ok (.invokevirtual 223, 3) := by decide +kernel
theorem dX11_worse_110 : decode cX11_worse 110 = .ok (.lreturn, 1) := by decide +kernel
theorem dX11_calm_0 : decode cX11_calm 0 = .ok (.iload_n 2, 1) := by decide +kernel
theorem dX11_calm_1 : decode cX11_calm 1 = .ok (.ifCond .lt 8, 3) := by decide +kernel
theorem dX11_calm_4 : decode cX11_calm 4 = .ok (.iload_n 2, 1) := by decide +kernel
theorem dX11_calm_5 : decode cX11_calm 5 = .ok (.iconst 2, 1) := by decide +kernel
theorem dX11_calm_6 : decode cX11_calm 6 = .ok (.if_icmp .le 7, 3) := by decide +kernel
theorem dX11_calm_9 : decode cX11_calm 9 = .ok (.ldc2_w 242, 3) := by decide +kernel
theorem dX11_calm_12 : decode cX11_calm 12 = .ok (.lreturn, 1) := by decide +kernel
theorem dX11_calm_13 : decode cX11_calm 13 = .ok (.iconst 0, 1) := by decide +kernel
theorem dX11_calm_14 : decode cX11_calm 14 = .ok (.istore_n 3, 1) := by decide +kernel
theorem dX11_calm_15 : decode cX11_calm 15 = .ok (.iconst 0, 1) := by decide +kernel
theorem dX11_calm_16 : decode cX11_calm 16 = .ok (.istore 4, 2) := by decide +kernel
theorem dX11_calm_18 : decode cX11_calm 18 = .ok (.iload 4, 2) := by decide +kernel
theorem dX11_calm_20 : decode cX11_calm 20 = .ok (.bipush 20, 2) := by decide +kernel
theorem dX11_calm_22 : decode cX11_calm 22 = .ok (.if_icmp .gt 106, 3) := by decide +kernel
theorem dX11_calm_25 : decode cX11_calm 25 = .ok (.aload_n 0, 1) := by decide +kernel
theorem dX11_calm_26 : decode cX11_calm 26 = .ok (.aload_n 0, 1) := by decide +kernel
theorem dX11_calm_27 : decode cX11_calm 27 = .ok (.getfield 26, 3) := by decide +kernel
theorem dX11_calm_30 : decode cX11_calm 30 = .ok (.iload_n 1, 1) := by decide +kernel
theorem dX11_calm_31 : decode cX11_calm 31 = .ok (.iload 4, 2) := by decide +kernel
theorem dX11_calm_33 : decode cX11_calm 33 = .ok (.invokevirtual 252, 3) := by decide +kernel
theorem dX11_calm_36 : decode cX11_calm 36 = .ok (.ifCond .ne 7, 3) := by decide +kernel
theorem dX11_calm_39 : decode cX11_calm 39 = .ok (.ldc2_w 242, 3) := by decide +kernel
theorem dX11_calm_42 : decode cX11_calm 42 = .ok (.lreturn, 1) := by decide +kernel
theorem dX11_calm_43 : decode cX11_calm 43 = .ok (.aload_n 0, 1) := by decide +kernel
theorem dX11_calm_44 : decode cX11_calm 44 = .ok (.getfield 36, 3) := by decide +kernel
theorem dX11_calm_47 : decode cX11_calm 47 = .ok (.aload_n 0, 1) := by decide +kernel
theorem dX11_calm_48 : decode cX11_calm 48 = .ok (.getfield 26, 3) := by decide +kernel
theorem dX11_calm_51 : decode cX11_calm 51 = .ok (.invokevirtual 209, 3) := by decide +kernel
theorem dX11_calm_54 : decode cX11_calm 54 = .ok (.aload_n 0, 1) := by decide +kernel
theorem dX11_calm_55 : decode cX11_calm 55 = .ok (.getfield 36, 3) := by decide +kernel
theorem dX11_calm_58 : decode cX11_calm 58 = .ok (.aload_n 0, 1) := by decide +kernel
theorem dX11_calm_59 : decode cX11_calm 59 = .ok (.getfield 91, 3) := by decide +kernel
theorem dX11_calm_62 : decode cX11_calm 62 = .ok (.invokevirtual 213, 3) := by decide +kernel
theorem dX11_calm_65 : decode cX11_calm 65 = .ok (.iload 4, 2) := by decide +kernel
theorem dX11_calm_67 : decode cX11_calm 67 = .ok (.ifCond .eq 29, 3) := by decide +kernel
theorem dX11_calm_70 : decode cX11_calm 70 = .ok (.aload_n 0, 1) := by decide +kernel
theorem dX11_calm_71 : decode cX11_calm 71 = .ok (.getfield 91, 3) := by decide +kernel
theorem dX11_calm_74 : decode cX11_calm 74 = .ok (.aload_n 0, 1) := by decide +kernel
theorem dX11_calm_75 : decode cX11_calm 75 = .ok (.getfield 95, 3) := by decide +kernel
theorem dX11_calm_78 : decode cX11_calm 78 = .ok (.iconst 0, 1) := by decide +kernel
theorem dX11_calm_79 : decode cX11_calm 79 = .ok (.invokevirtual 223, 3) := by decide +kernel
theorem dX11_calm_82 : decode cX11_calm 82 = .ok (.aload_n 0, 1) := by decide +kernel
theorem dX11_calm_83 : decode cX11_calm 83 = .ok (.getfield 95, 3) := by decide +kernel
theorem dX11_calm_86 : decode cX11_calm 86 = .ok (.iconst 1, 1) := by decide +kernel
theorem dX11_calm_87 : decode cX11_calm 87 = .ok (.invokevirtual 223, 3) := by decide +kernel
theorem dX11_calm_90 : decode cX11_calm 90 = .ok (.invokevirtual 256, 3) := by decide +kernel
theorem dX11_calm_93 : decode cX11_calm 93 = .ok (.ifCond .ge 29, 3) := by decide +kernel
theorem dX11_calm_96 : decode cX11_calm 96 = .ok (.aload_n 0, 1) := by decide +kernel
theorem dX11_calm_97 : decode cX11_calm 97 = .ok (.getfield 95, 3) := by decide +kernel
theorem dX11_calm_100 : decode cX11_calm 100 = .ok (.aload_n 0, 1) := by decide +kernel
theorem dX11_calm_101 : decode cX11_calm 101 = .ok (.getfield 91, 3) := by decide +kernel
theorem dX11_calm_104 : decode cX11_calm 104 = .ok (.iconst 0, 1) := by decide +kernel
theorem dX11_calm_105 : decode cX11_calm 105 = .ok (.invokevirtual 223, 3) := by decide +kernel
theorem dX11_calm_108 : decode cX11_calm 108 = .ok (.aload_n 0, 1) := by decide +kernel
theorem dX11_calm_109 : decode cX11_calm 109 = .ok (.getfield 91, 3) := by decide +kernel
theorem dX11_calm_112 : decode cX11_calm 112 = .ok (.iconst 1, 1) := by decide +kernel
theorem dX11_calm_113 : decode cX11_calm 113 = .ok (.invokevirtual 223, 3) := by decide +kernel
theorem dX11_calm_116 : decode cX11_calm 116 = .ok (.invokevirtual 323, 3) := by decide +kernel
theorem dX11_calm_119 : decode cX11_calm 119 = .ok (.iload 4, 2) := by decide +kernel
theorem dX11_calm_121 : decode cX11_calm 121 = .ok (.istore_n 3, 1) := by decide +kernel
theorem dX11_calm_122 : decode cX11_calm 122 = .ok (.iinc 4 1, 3) := by decide +kernel
theorem dX11_calm_125 : decode cX11_calm 125 = .ok (.goto (-107), 3) := by decide +kernel
theorem dX11_calm_128 : decode cX11_calm 128 = .ok (.iload_n 2, 1) := by decide +kernel
theorem dX11_calm_129 : decode cX11_calm 129 = .ok (.ifCond .ne 8, 3) := by decide +kernel
theorem dX11_calm_132 : decode cX11_calm 132 = .ok (.iload_n 3, 1) := by decide +kernel
theorem dX11_calm_133 : decode cX11_calm 133 = .ok (.i2l, 1) := by decide +kernel
theorem dX11_calm_134 : decode cX11_calm 134 = .ok (.goto 13, 3) := by decide +kernel
theorem dX11_calm_137 : decode cX11_calm 137 = .ok (.aload_n 0, 1) := by decide +kernel
theorem dX11_calm_138 : decode cX11_calm 138 = .ok (.getfield 95, 3) := by decide +kernel
theorem dX11_calm_141 : decode cX11_calm 141 = .ok (.iload_n 2, 1) := by decide +kernel
theorem dX11_calm_142 : decode cX11_calm 142 = .ok (.iconst 1, 1) := by decide +kernel
theorem dX11_calm_143 : decode cX11_calm 143 = .ok (.isub, 1) := by decide +kernel
theorem dX11_calm_144 : decode cX11_calm 144 = .ok (.invokevirtual 223, 3) := by decide +kernel
theorem dX11_calm_147 : decode cX11_calm 147 = .ok (.lreturn, 1) := by decide +kernel
theorem dX11_reach_0 : decode cX11_reach 0 = .ok (.iload 4, 2) := by decide +kernel
theorem dX11_reach_2 : decode cX11_reach 2 = .ok (.ifCond .lt 35, 3) := by decide +kernel
theorem dX11_reach_5 : decode cX11_reach 5 = .ok (.iload 4, 2) := by decide +kernel
theorem dX11_reach_7 : decode cX11_reach 7 = .ok (.iconst 3, 1) := by decide +kernel
theorem dX11_reach_8 : decode cX11_reach 8 = .ok (.if_icmp .gt 29, 3) := by decide +kernel
theorem dX11_reach_11 : decode cX11_reach 11 = .ok (.iload_n 2, 1) := by decide +kernel
theorem dX11_reach_12 : decode cX11_reach 12 = .ok (.iload_n 3, 1) := by decide +kernel
theorem dX11_reach_13 : decode cX11_reach 13 = .ok (.bipush 100, 2) := by decide +kernel
theorem dX11_reach_15 : decode cX11_reach 15 = .ok (.invokestatic 127, 3) := by decide +kernel
theorem dX11_reach_18 : decode cX11_reach 18 = .ok (.ifCond .eq 19, 3) := by decide +kernel
theorem dX11_reach_21 : decode cX11_reach 21 = .ok (.iload_n 2, 1) := by decide +kernel
theorem dX11_reach_22 : decode cX11_reach 22 = .ok (.ifCond .ne 7, 3) := by decide +kernel
theorem dX11_reach_25 : decode cX11_reach 25 = .ok (.iload_n 3, 1) := by decide +kernel
theorem dX11_reach_26 : decode cX11_reach 26 = .ok (.ifCond .eq 11, 3) := by decide +kernel
theorem dX11_reach_29 : decode cX11_reach 29 = .ok (.aload_n 0, 1) := by decide +kernel
theorem dX11_reach_30 : decode cX11_reach 30 = .ok (.iload_n 1, 1) := by decide +kernel
theorem dX11_reach_31 : decode cX11_reach 31 = .ok (.invokevirtual 196, 3) := by decide +kernel
theorem dX11_reach_34 : decode cX11_reach 34 = .ok (.ifCond .ne 7, 3) := by decide +kernel
theorem dX11_reach_37 : decode cX11_reach 37 = .ok (.ldc2_w 207, 3) := by decide +kernel
theorem dX11_reach_40 : decode cX11_reach 40 = .ok (.lreturn, 1) := by decide +kernel
theorem dX11_reach_41 : decode cX11_reach 41 = .ok (.aload_n 0, 1) := by decide +kernel
theorem dX11_reach_42 : decode cX11_reach 42 = .ok (.getfield 46, 3) := by decide +kernel
theorem dX11_reach_45 : decode cX11_reach 45 = .ok (.aload_n 0, 1) := by decide +kernel
theorem dX11_reach_46 : decode cX11_reach 46 = .ok (.getfield 26, 3) := by decide +kernel
theorem dX11_reach_49 : decode cX11_reach 49 = .ok (.invokevirtual 260, 3) := by decide +kernel
theorem dX11_reach_52 : decode cX11_reach 52 = .ok (.iload 4, 2) := by decide +kernel
theorem dX11_reach_54 : decode cX11_reach 54 = .ok (.ifCond .ne 23, 3) := by decide +kernel
theorem dX11_reach_57 : decode cX11_reach 57 = .ok (.aload_n 0, 1) := by decide +kernel
theorem dX11_reach_58 : decode cX11_reach 58 = .ok (.getfield 46, 3) := by decide +kernel
theorem dX11_reach_61 : decode cX11_reach 61 = .ok (.aload_n 0, 1) := by decide +kernel
theorem dX11_reach_62 : decode cX11_reach 62 = .ok (.getfield 46, 3) := by decide +kernel
theorem dX11_reach_65 : decode cX11_reach 65 = .ok (.iload_n 2, 1) := by decide +kernel
theorem dX11_reach_66 : decode cX11_reach 66 = .ok (.i2l, 1) := by decide +kernel
theorem dX11_reach_67 : decode cX11_reach 67 = .ok (.iload_n 3, 1) := by decide +kernel
theorem dX11_reach_68 : decode cX11_reach 68 = .ok (.i2l, 1) := by decide +kernel
theorem dX11_reach_69 : decode cX11_reach 69 = .ok (.invokevirtual 327, 3) := by decide +kernel
theorem dX11_reach_72 : decode cX11_reach 72 = .ok (.invokevirtual 262, 3) := by decide +kernel
theorem dX11_reach_75 : decode cX11_reach 75 = .ok (.i2l, 1) := by decide +kernel
theorem dX11_reach_76 : decode cX11_reach 76 = .ok (.lreturn, 1) := by decide +kernel
theorem dX11_reach_77 : decode cX11_reach 77 = .ok (.aload_n 0, 1) := by decide +kernel
theorem dX11_reach_78 : decode cX11_reach 78 = .ok (.getfield 46, 3) := by decide +kernel
theorem dX11_reach_81 : decode cX11_reach 81 = .ok (.iload_n 2, 1) := by decide +kernel
theorem dX11_reach_82 : decode cX11_reach 82 = .ok (.i2l, 1) := by decide +kernel
theorem dX11_reach_83 : decode cX11_reach 83 = .ok (.iload_n 3, 1) := by decide +kernel
theorem dX11_reach_84 : decode cX11_reach 84 = .ok (.i2l, 1) := by decide +kernel
theorem dX11_reach_85 : decode cX11_reach 85 = .ok (.invokevirtual 330, 3) := by decide +kernel
theorem dX11_reach_88 : decode cX11_reach 88 = .ok (.lstore 5, 2) := by decide +kernel
theorem dX11_reach_90 : decode cX11_reach 90 = .ok (.iload 4, 2) := by decide +kernel
theorem dX11_reach_92 : decode cX11_reach 92 = .ok (.iconst 1, 1) := by decide +kernel
theorem dX11_reach_93 : decode cX11_reach 93 = .ok (.if_icmp .ne 6, 3) := by decide +kernel
theorem dX11_reach_96 : decode cX11_reach 96 = .ok (.lload 5, 2) := by decide +kernel
theorem dX11_reach_98 : decode cX11_reach 98 = .ok (.lreturn, 1) := by decide +kernel
theorem dX11_reach_99 : decode cX11_reach 99 = .ok (.lload 5, 2) := by decide +kernel
theorem dX11_reach_101 : decode cX11_reach 101 = .ok (.aload_n 0, 1) := by decide +kernel
theorem dX11_reach_102 : decode cX11_reach 102 = .ok (.getfield 46, 3) := by decide +kernel
theorem dX11_reach_105 : decode cX11_reach 105 = .ok (.iload_n 2, 1) := by decide +kernel
theorem dX11_reach_106 : decode cX11_reach 106 = .ok (.i2l, 1) := by decide +kernel
theorem dX11_reach_107 : decode cX11_reach 107 = .ok (.iload_n 3, 1) := by decide +kernel
theorem dX11_reach_108 : decode cX11_reach 108 = .ok (.i2l, 1) := by decide +kernel
theorem dX11_reach_109 : decode cX11_reach 109 = .ok (.invokevirtual 334, 3) := by decide +kernel
theorem dX11_reach_112 : decode cX11_reach 112 = .ok (.lsub, 1) := by decide +kernel
theorem dX11_reach_113 : decode cX11_reach 113 = .ok (.lstore 7, 2) := by decide +kernel
theorem dX11_reach_115 : decode cX11_reach 115 = .ok (.aload_n 0, 1) := by decide +kernel
theorem dX11_reach_116 : decode cX11_reach 116 = .ok (.getfield 91, 3) := by decide +kernel
theorem dX11_reach_119 : decode cX11_reach 119 = .ok (.lload 7, 2) := by decide +kernel
theorem dX11_reach_121 : decode cX11_reach 121 = .ok (.lload 7, 2) := by decide +kernel
theorem dX11_reach_123 : decode cX11_reach 123 = .ok (.lmul, 1) := by decide +kernel
theorem dX11_reach_124 : decode cX11_reach 124 = .ok (.iload_n 2, 1) := by decide +kernel
theorem dX11_reach_125 : decode cX11_reach 125 = .ok (.i2l, 1) := by decide +kernel
theorem dX11_reach_126 : decode cX11_reach 126 = .ok (.iload_n 2, 1) := by decide +kernel
theorem dX11_reach_127 : decode cX11_reach 127 = .ok (.i2l, 1) := by decide +kernel
theorem dX11_reach_128 : decode cX11_reach 128 = .ok (.lmul, 1) := by decide +kernel
theorem dX11_reach_129 : decode cX11_reach 129 = .ok (.iload_n 3, 1) := by decide +kernel
theorem dX11_reach_130 : decode cX11_reach 130 = .ok (.i2l, 1) := by decide +kernel
theorem dX11_reach_131 : decode cX11_reach 131 = .ok (.iload_n 3, 1) := by decide +kernel
theorem dX11_reach_132 : decode cX11_reach 132 = .ok (.i2l, 1) := by decide +kernel
theorem dX11_reach_133 : decode cX11_reach 133 = .ok (.lmul, 1) := by decide +kernel
theorem dX11_reach_134 : decode cX11_reach 134 = .ok (.ladd, 1) := by decide +kernel
theorem dX11_reach_135 : decode cX11_reach 135 = .ok (.invokevirtual 323, 3) := by decide +kernel
theorem dX11_reach_138 : decode cX11_reach 138 = .ok (.aload_n 0, 1) := by decide +kernel
theorem dX11_reach_139 : decode cX11_reach 139 = .ok (.getfield 91, 3) := by decide +kernel
theorem dX11_reach_142 : decode cX11_reach 142 = .ok (.iload 4, 2) := by decide +kernel
theorem dX11_reach_144 : decode cX11_reach 144 = .ok (.iconst 2, 1) := by decide +kernel
theorem dX11_reach_145 : decode cX11_reach 145 = .ok (.isub, 1) := by decide +kernel
theorem dX11_reach_146 : decode cX11_reach 146 = .ok (.invokevirtual 223, 3) := by decide +kernel
theorem dX11_reach_149 : decode cX11_reach 149 = .ok (.lreturn, 1) := by decide +kernel
theorem dX11_whole_0 : decode cX11_whole 0 = .ok (.iload_n 2, 1) := by decide +kernel
theorem dX11_whole_1 : decode cX11_whole 1 = .ok (.ifCond .lt 16, 3) := by decide +kernel
theorem dX11_whole_4 : decode cX11_whole 4 = .ok (.iload_n 2, 1) := by decide +kernel
theorem dX11_whole_5 : decode cX11_whole 5 = .ok (.iconst 1, 1) := by decide +kernel
theorem dX11_whole_6 : decode cX11_whole 6 = .ok (.if_icmp .gt 11, 3) := by decide +kernel
theorem dX11_whole_9 : decode cX11_whole 9 = .ok (.aload_n 0, 1) := by decide +kernel
theorem dX11_whole_10 : decode cX11_whole 10 = .ok (.iload_n 1, 1) := by decide +kernel
theorem dX11_whole_11 : decode cX11_whole 11 = .ok (.invokevirtual 196, 3) := by decide +kernel
theorem dX11_whole_14 : decode cX11_whole 14 = .ok (.ifCond .ne 5, 3) := by decide +kernel
theorem dX11_whole_17 : decode cX11_whole 17 = .ok (.iconst (-1), 1) := by decide +kernel
theorem dX11_whole_18 : decode cX11_whole 18 = .ok (.ireturn, 1) := by decide +kernel
theorem dX11_whole_19 : decode cX11_whole 19 = .ok (.aload_n 0, 1) := by decide +kernel
theorem dX11_whole_20 : decode cX11_whole 20 = .ok (.getfield 46, 3) := by decide +kernel
theorem dX11_whole_23 : decode cX11_whole 23 = .ok (.aload_n 0, 1) := by decide +kernel
theorem dX11_whole_24 : decode cX11_whole 24 = .ok (.getfield 26, 3) := by decide +kernel
theorem dX11_whole_27 : decode cX11_whole 27 = .ok (.invokevirtual 260, 3) := by decide +kernel
theorem dX11_whole_30 : decode cX11_whole 30 = .ok (.iload_n 2, 1) := by decide +kernel
theorem dX11_whole_31 : decode cX11_whole 31 = .ok (.ifCond .ne 13, 3) := by decide +kernel
theorem dX11_whole_34 : decode cX11_whole 34 = .ok (.aload_n 0, 1) := by decide +kernel
theorem dX11_whole_35 : decode cX11_whole 35 = .ok (.getfield 46, 3) := by decide +kernel
theorem dX11_whole_38 : decode cX11_whole 38 = .ok (.invokevirtual 337, 3) := by decide +kernel
theorem dX11_whole_41 : decode cX11_whole 41 = .ok (.goto 10, 3) := by decide +kernel
theorem dX11_whole_44 : decode cX11_whole 44 = .ok (.aload_n 0, 1) := by decide +kernel
theorem dX11_whole_45 : decode cX11_whole 45 = .ok (.getfield 46, 3) := by decide +kernel
theorem dX11_whole_48 : decode cX11_whole 48 = .ok (.invokevirtual 340, 3) := by decide +kernel
theorem dX11_whole_51 : decode cX11_whole 51 = .ok (.l2i, 1) := by decide +kernel
theorem dX11_whole_52 : decode cX11_whole 52 = .ok (.ireturn, 1) := by decide +kernel
theorem dX11_sees_0 : decode cX11_sees 0 = .ok (.iload 4, 2) := by decide +kernel
theorem dX11_sees_2 : decode cX11_sees 2 = .ok (.ifCond .lt 28, 3) := by decide +kernel
theorem dX11_sees_5 : decode cX11_sees 5 = .ok (.iload 4, 2) := by decide +kernel
theorem dX11_sees_7 : decode cX11_sees 7 = .ok (.iconst 2, 1) := by decide +kernel
theorem dX11_sees_8 : decode cX11_sees 8 = .ok (.if_icmp .gt 22, 3) := by decide +kernel
theorem dX11_sees_11 : decode cX11_sees 11 = .ok (.iload_n 2, 1) := by decide +kernel
theorem dX11_sees_12 : decode cX11_sees 12 = .ok (.iload_n 3, 1) := by decide +kernel
theorem dX11_sees_13 : decode cX11_sees 13 = .ok (.sipush 300, 3) := by decide +kernel
theorem dX11_sees_16 : decode cX11_sees 16 = .ok (.invokestatic 127, 3) := by decide +kernel
theorem dX11_sees_19 : decode cX11_sees 19 = .ok (.ifCond .eq 11, 3) := by decide +kernel
theorem dX11_sees_22 : decode cX11_sees 22 = .ok (.aload_n 0, 1) := by decide +kernel
theorem dX11_sees_23 : decode cX11_sees 23 = .ok (.iload_n 1, 1) := by decide +kernel
theorem dX11_sees_24 : decode cX11_sees 24 = .ok (.invokevirtual 276, 3) := by decide +kernel
theorem dX11_sees_27 : decode cX11_sees 27 = .ok (.ifCond .ne 5, 3) := by decide +kernel
theorem dX11_sees_30 : decode cX11_sees 30 = .ok (.iconst (-1), 1) := by decide +kernel
theorem dX11_sees_31 : decode cX11_sees 31 = .ok (.ireturn, 1) := by decide +kernel
theorem dX11_sees_32 : decode cX11_sees 32 = .ok (.iload 4, 2) := by decide +kernel
theorem dX11_sees_34 : decode cX11_sees 34 = .ok (.ifCond .ne 13, 3) := by decide +kernel
theorem dX11_sees_37 : decode cX11_sees 37 = .ok (.aload_n 0, 1) := by decide +kernel
theorem dX11_sees_38 : decode cX11_sees 38 = .ok (.getfield 46, 3) := by decide +kernel
theorem dX11_sees_41 : decode cX11_sees 41 = .ok (.iload_n 2, 1) := by decide +kernel
theorem dX11_sees_42 : decode cX11_sees 42 = .ok (.iload_n 3, 1) := by decide +kernel
theorem dX11_sees_43 : decode cX11_sees 43 = .ok (.invokevirtual 343, 3) := by decide +kernel
theorem dX11_sees_46 : decode cX11_sees 46 = .ok (.ireturn, 1) := by decide +kernel
theorem dX11_sees_47 : decode cX11_sees 47 = .ok (.iload 4, 2) := by decide +kernel
theorem dX11_sees_49 : decode cX11_sees 49 = .ok (.iconst 1, 1) := by decide +kernel
theorem dX11_sees_50 : decode cX11_sees 50 = .ok (.if_icmp .ne 15, 3) := by decide +kernel
theorem dX11_sees_53 : decode cX11_sees 53 = .ok (.aload_n 0, 1) := by decide +kernel
theorem dX11_sees_54 : decode cX11_sees 54 = .ok (.getfield 46, 3) := by decide +kernel
theorem dX11_sees_57 : decode cX11_sees 57 = .ok (.iload_n 2, 1) := by decide +kernel
theorem dX11_sees_58 : decode cX11_sees 58 = .ok (.iload_n 3, 1) := by decide +kernel
theorem dX11_sees_59 : decode cX11_sees 59 = .ok (.invokevirtual 346, 3) := by decide +kernel
theorem dX11_sees_62 : decode cX11_sees 62 = .ok (.goto 12, 3) := by decide +kernel
theorem dX11_sees_65 : decode cX11_sees 65 = .ok (.aload_n 0, 1) := by decide +kernel
theorem dX11_sees_66 : decode cX11_sees 66 = .ok (.getfield 46, 3) := by decide +kernel
theorem dX11_sees_69 : decode cX11_sees 69 = .ok (.iload_n 2, 1) := by decide +kernel
theorem dX11_sees_70 : decode cX11_sees 70 = .ok (.iload_n 3, 1) := by decide +kernel
theorem dX11_sees_71 : decode cX11_sees 71 = .ok (.invokevirtual 349, 3) := by decide +kernel
theorem dX11_sees_74 : decode cX11_sees 74 = .ok (.ireturn, 1) := by decide +kernel
theorem dX11_heaviest_0 : decode cX11_heaviest 0 = .ok (.iload_n 1, 1) := by decide +kernel
theorem dX11_heaviest_1 : decode cX11_heaviest 1 = .ok (.ifCond .lt 8, 3) := by decide +kernel
theorem dX11_heaviest_4 : decode cX11_heaviest 4 = .ok (.iload_n 1, 1) := by decide +kernel
theorem dX11_heaviest_5 : decode cX11_heaviest 5 = .ok (.iconst 1, 1) := by decide +kernel
theorem dX11_heaviest_6 : decode cX11_heaviest 6 = .ok (.if_icmp .le 5, 3) := by decide +kernel
theorem dX11_heaviest_9 : decode cX11_heaviest 9 = .ok (.iconst (-1), 1) := by decide +kernel
theorem dX11_heaviest_10 : decode cX11_heaviest 10 = .ok (.ireturn, 1) := by decide +kernel
theorem dX11_heaviest_11 : decode cX11_heaviest 11 = .ok (.iconst (-1), 1) := by decide +kernel
theorem dX11_heaviest_12 : decode cX11_heaviest 12 = .ok (.istore_n 2, 1) := by decide +kernel
theorem dX11_heaviest_13 : decode cX11_heaviest 13 = .ok (.iconst 1, 1) := by decide +kernel
theorem dX11_heaviest_14 : decode cX11_heaviest 14 = .ok (.istore_n 3, 1) := by decide +kernel
theorem dX11_heaviest_15 : decode cX11_heaviest 15 = .ok (.iload_n 3, 1) := by decide +kernel
theorem dX11_heaviest_16 : decode cX11_heaviest 16 = .ok (.bipush 15, 2) := by decide +kernel
theorem dX11_heaviest_18 : decode cX11_heaviest 18 = .ok (.if_icmp .gt 108, 3) := by decide +kernel
theorem dX11_heaviest_21 : decode cX11_heaviest 21 = .ok (.iload_n 3, 1) := by decide +kernel
theorem dX11_heaviest_22 : decode cX11_heaviest 22 = .ok (.invokestatic 352, 3) := by decide +kernel
theorem dX11_heaviest_25 : decode cX11_heaviest 25 = .ok (.iload_n 1, 1) := by decide +kernel
theorem dX11_heaviest_26 : decode cX11_heaviest 26 = .ok (.iconst 1, 1) := by decide +kernel
theorem dX11_heaviest_27 : decode cX11_heaviest 27 = .ok (.iadd, 1) := by decide +kernel
theorem dX11_heaviest_28 : decode cX11_heaviest 28 = .ok (.if_icmp .ne 92, 3) := by decide +kernel
theorem dX11_heaviest_31 : decode cX11_heaviest 31 = .ok (.aload_n 0, 1) := by decide +kernel
theorem dX11_heaviest_32 : decode cX11_heaviest 32 = .ok (.iload_n 3, 1) := by decide +kernel
theorem dX11_heaviest_33 : decode cX11_heaviest 33 = .ok (.invokevirtual 196, 3) := by decide +kernel
theorem dX11_heaviest_36 : decode cX11_heaviest 36 = .ok (.ifCond .ne 6, 3) := by decide +kernel
theorem dX11_heaviest_39 : decode cX11_heaviest 39 = .ok (.goto 81, 3) := by decide +kernel
theorem dX11_heaviest_42 : decode cX11_heaviest 42 = .ok (.aload_n 0, 1) := by decide +kernel
theorem dX11_heaviest_43 : decode cX11_heaviest 43 = .ok (.getfield 36, 3) := by decide +kernel
theorem dX11_heaviest_46 : decode cX11_heaviest 46 = .ok (.aload_n 0, 1) := by decide +kernel
theorem dX11_heaviest_47 : decode cX11_heaviest 47 = .ok (.getfield 26, 3) := by decide +kernel
theorem dX11_heaviest_50 : decode cX11_heaviest 50 = .ok (.invokevirtual 209, 3) := by decide +kernel
theorem dX11_heaviest_53 : decode cX11_heaviest 53 = .ok (.aload_n 0, 1) := by decide +kernel
theorem dX11_heaviest_54 : decode cX11_heaviest 54 = .ok (.getfield 36, 3) := by decide +kernel
theorem dX11_heaviest_57 : decode cX11_heaviest 57 = .ok (.aload_n 0, 1) := by decide +kernel
theorem dX11_heaviest_58 : decode cX11_heaviest 58 = .ok (.getfield 91, 3) := by decide +kernel
theorem dX11_heaviest_61 : decode cX11_heaviest 61 = .ok (.invokevirtual 213, 3) := by decide +kernel
theorem dX11_heaviest_64 : decode cX11_heaviest 64 = .ok (.iload_n 2, 1) := by decide +kernel
theorem dX11_heaviest_65 : decode cX11_heaviest 65 = .ok (.iconst (-1), 1) := by decide +kernel
theorem dX11_heaviest_66 : decode cX11_heaviest 66 = .ok (.if_icmp .eq 29, 3) := by decide +kernel
theorem dX11_heaviest_69 : decode cX11_heaviest 69 = .ok (.aload_n 0, 1) := by decide +kernel
theorem dX11_heaviest_70 : decode cX11_heaviest 70 = .ok (.getfield 91, 3) := by decide +kernel
theorem dX11_heaviest_73 : decode cX11_heaviest 73 = .ok (.aload_n 0, 1) := by decide +kernel
theorem dX11_heaviest_74 : decode cX11_heaviest 74 = .ok (.getfield 95, 3) := by decide +kernel
theorem dX11_heaviest_77 : decode cX11_heaviest 77 = .ok (.iconst 0, 1) := by decide +kernel
theorem dX11_heaviest_78 : decode cX11_heaviest 78 = .ok (.invokevirtual 223, 3) := by decide +kernel
theorem dX11_heaviest_81 : decode cX11_heaviest 81 = .ok (.aload_n 0, 1) := by decide +kernel
theorem dX11_heaviest_82 : decode cX11_heaviest 82 = .ok (.getfield 95, 3) := by decide +kernel
theorem dX11_heaviest_85 : decode cX11_heaviest 85 = .ok (.iconst 1, 1) := by decide +kernel
theorem dX11_heaviest_86 : decode cX11_heaviest 86 = .ok (.invokevirtual 223, 3) := by decide +kernel
theorem dX11_heaviest_89 : decode cX11_heaviest 89 = .ok (.invokevirtual 256, 3) := by decide +kernel
theorem dX11_heaviest_92 : decode cX11_heaviest 92 = .ok (.ifCond .le 28, 3) := by decide +kernel
theorem dX11_heaviest_95 : decode cX11_heaviest 95 = .ok (.aload_n 0, 1) := by decide +kernel
theorem dX11_heaviest_96 : decode cX11_heaviest 96 = .ok (.getfield 95, 3) := by decide +kernel
theorem dX11_heaviest_99 : decode cX11_heaviest 99 = .ok (.aload_n 0, 1) := by decide +kernel
theorem dX11_heaviest_100 : decode cX11_heaviest 100 = .ok (.getfield 91, 3) := by decide +kernel
theorem dX11_heaviest_103 : decode cX11_heaviest 103 = .ok (.iconst 0, 1) := by decide +kernel
theorem dX11_heaviest_104 : decode cX11_heaviest 104 = .ok (.invokevirtual 223, 3) := by decide +kernel
theorem dX11_heaviest_107 : decode cX11_heaviest 107 = .ok (.aload_n 0, 1) := by decide +kernel
theorem dX11_heaviest_108 : decode cX11_heaviest 108 = .ok (.getfield 91, 3) := by decide +kernel
theorem dX11_heaviest_111 : decode cX11_heaviest 111 = .ok (.iconst 1, 1) := by decide +kernel
theorem dX11_heaviest_112 : decode cX11_heaviest 112 = .ok (.invokevirtual 223, 3) := by decide +kernel
theorem dX11_heaviest_115 : decode cX11_heaviest 115 = .ok (.invokevirtual 323, 3) := by decide +kernel
theorem dX11_heaviest_118 : decode cX11_heaviest 118 = .ok (.iload_n 3, 1) := by decide +kernel
theorem dX11_heaviest_119 : decode cX11_heaviest 119 = .ok (.istore_n 2, 1) := by decide +kernel
theorem dX11_heaviest_120 : decode cX11_heaviest 120 = .ok (.iinc 3 1, 3) := by decide +kernel
theorem dX11_heaviest_123 : decode cX11_heaviest 123 = .ok (.goto (-108), 3) := by decide +kernel
theorem dX11_heaviest_126 : decode cX11_heaviest 126 = .ok (.iload_n 2, 1) := by decide +kernel
theorem dX11_heaviest_127 : decode cX11_heaviest 127 = .ok (.ireturn, 1) := by decide +kernel
theorem dX11_deep_0 : decode cX11_deep 0 = .ok (.iload_n 2, 1) := by decide +kernel
theorem dX11_deep_1 : decode cX11_deep 1 = .ok (.iload_n 3, 1) := by decide +kernel
theorem dX11_deep_2 : decode cX11_deep 2 = .ok (.sipush 300, 3) := by decide +kernel
theorem dX11_deep_5 : decode cX11_deep 5 = .ok (.invokestatic 127, 3) := by decide +kernel
theorem dX11_deep_8 : decode cX11_deep 8 = .ok (.ifCond .eq 11, 3) := by decide +kernel
theorem dX11_deep_11 : decode cX11_deep 11 = .ok (.aload_n 0, 1) := by decide +kernel
theorem dX11_deep_12 : decode cX11_deep 12 = .ok (.iload_n 1, 1) := by decide +kernel
theorem dX11_deep_13 : decode cX11_deep 13 = .ok (.invokevirtual 196, 3) := by decide +kernel
theorem dX11_deep_16 : decode cX11_deep 16 = .ok (.ifCond .ne 5, 3) := by decide +kernel
theorem dX11_deep_19 : decode cX11_deep 19 = .ok (.iconst (-1), 1) := by decide +kernel
theorem dX11_deep_20 : decode cX11_deep 20 = .ok (.ireturn, 1) := by decide +kernel
theorem dX11_deep_21 : decode cX11_deep 21 = .ok (.aload_n 0, 1) := by decide +kernel
theorem dX11_deep_22 : decode cX11_deep 22 = .ok (.getfield 26, 3) := by decide +kernel
theorem dX11_deep_25 : decode cX11_deep 25 = .ok (.iload_n 2, 1) := by decide +kernel
theorem dX11_deep_26 : decode cX11_deep 26 = .ok (.iload_n 3, 1) := by decide +kernel
theorem dX11_deep_27 : decode cX11_deep 27 = .ok (.invokevirtual 356, 3) := by decide +kernel
theorem dX11_deep_30 : decode cX11_deep 30 = .ok (.ireturn, 1) := by decide +kernel
theorem dX11_meetsAt_0 : decode cX11_meetsAt 0 = .ok (.iconst 0, 1) := by decide +kernel
theorem dX11_meetsAt_1 : decode cX11_meetsAt 1 = .ok (.istore_n 3, 1) := by decide +kernel
theorem dX11_meetsAt_2 : decode cX11_meetsAt 2 = .ok (.iload_n 3, 1) := by decide +kernel
theorem dX11_meetsAt_3 : decode cX11_meetsAt 3 = .ok (.bipush 20, 2) := by decide +kernel
theorem dX11_meetsAt_5 : decode cX11_meetsAt 5 = .ok (.if_icmp .gt 34, 3) := by decide +kernel
theorem dX11_meetsAt_8 : decode cX11_meetsAt 8 = .ok (.aload_n 0, 1) := by decide +kernel
theorem dX11_meetsAt_9 : decode cX11_meetsAt 9 = .ok (.iload_n 1, 1) := by decide +kernel
theorem dX11_meetsAt_10 : decode cX11_meetsAt 10 = .ok (.iload_n 2, 1) := by decide +kernel
theorem dX11_meetsAt_11 : decode cX11_meetsAt 11 = .ok (.iload_n 3, 1) := by decide +kernel
theorem dX11_meetsAt_12 : decode cX11_meetsAt 12 = .ok (.invokevirtual 309, 3) := by decide +kernel
theorem dX11_meetsAt_15 : decode cX11_meetsAt 15 = .ok (.istore 4, 2) := by decide +kernel
theorem dX11_meetsAt_17 : decode cX11_meetsAt 17 = .ok (.iload 4, 2) := by decide +kernel
theorem dX11_meetsAt_19 : decode cX11_meetsAt 19 = .ok (.iconst (-1), 1) := by decide +kernel
theorem dX11_meetsAt_20 : decode cX11_meetsAt 20 = .ok (.if_icmp .ne 5, 3) := by decide +kernel
theorem dX11_meetsAt_23 : decode cX11_meetsAt 23 = .ok (.iconst (-1), 1) := by decide +kernel
theorem dX11_meetsAt_24 : decode cX11_meetsAt 24 = .ok (.ireturn, 1) := by decide +kernel
theorem dX11_meetsAt_25 : decode cX11_meetsAt 25 = .ok (.iload 4, 2) := by decide +kernel
theorem dX11_meetsAt_27 : decode cX11_meetsAt 27 = .ok (.iconst 1, 1) := by decide +kernel
theorem dX11_meetsAt_28 : decode cX11_meetsAt 28 = .ok (.if_icmp .ne 5, 3) := by decide +kernel
theorem dX11_meetsAt_31 : decode cX11_meetsAt 31 = .ok (.iload_n 3, 1) := by decide +kernel
theorem dX11_meetsAt_32 : decode cX11_meetsAt 32 = .ok (.ireturn, 1) := by decide +kernel
theorem dX11_meetsAt_33 : decode cX11_meetsAt 33 = .ok (.iinc 3 1, 3) := by decide +kernel
theorem dX11_meetsAt_36 : decode cX11_meetsAt 36 = .ok (.goto (-34), 3) := by decide +kernel
theorem dX11_meetsAt_39 : decode cX11_meetsAt 39 = .ok (.iconst (-1), 1) := by decide +kernel
theorem dX11_meetsAt_40 : decode cX11_meetsAt 40 = .ok (.ireturn, 1) := by decide +kernel
theorem dX11_changes_0 : decode cX11_changes 0 = .ok (.iconst 0, 1) := by decide +kernel
theorem dX11_changes_1 : decode cX11_changes 1 = .ok (.istore_n 2, 1) := by decide +kernel
theorem dX11_changes_2 : decode cX11_changes 2 = .ok (.iconst 0, 1) := by decide +kernel
theorem dX11_changes_3 : decode cX11_changes 3 = .ok (.istore_n 3, 1) := by decide +kernel
theorem dX11_changes_4 : decode cX11_changes 4 = .ok (.iload_n 3, 1) := by decide +kernel
theorem dX11_changes_5 : decode cX11_changes 5 = .ok (.bipush 20, 2) := by decide +kernel
theorem dX11_changes_7 : decode cX11_changes 7 = .ok (.if_icmp .gt 95, 3) := by decide +kernel
theorem dX11_changes_10 : decode cX11_changes 10 = .ok (.aload_n 0, 1) := by decide +kernel
theorem dX11_changes_11 : decode cX11_changes 11 = .ok (.aload_n 0, 1) := by decide +kernel
theorem dX11_changes_12 : decode cX11_changes 12 = .ok (.getfield 26, 3) := by decide +kernel
theorem dX11_changes_15 : decode cX11_changes 15 = .ok (.iload_n 1, 1) := by decide +kernel
theorem dX11_changes_16 : decode cX11_changes 16 = .ok (.iload_n 3, 1) := by decide +kernel
theorem dX11_changes_17 : decode cX11_changes 17 = .ok (.invokevirtual 252, 3) := by decide +kernel
theorem dX11_changes_20 : decode cX11_changes 20 = .ok (.ifCond .ne 5, 3) := by decide +kernel
theorem dX11_changes_23 : decode cX11_changes 23 = .ok (.iconst (-1), 1) := by decide +kernel
theorem dX11_changes_24 : decode cX11_changes 24 = .ok (.ireturn, 1) := by decide +kernel
theorem dX11_changes_25 : decode cX11_changes 25 = .ok (.aload_n 0, 1) := by decide +kernel
theorem dX11_changes_26 : decode cX11_changes 26 = .ok (.getfield 36, 3) := by decide +kernel
theorem dX11_changes_29 : decode cX11_changes 29 = .ok (.aload_n 0, 1) := by decide +kernel
theorem dX11_changes_30 : decode cX11_changes 30 = .ok (.getfield 26, 3) := by decide +kernel
theorem dX11_changes_33 : decode cX11_changes 33 = .ok (.invokevirtual 209, 3) := by decide +kernel
theorem dX11_changes_36 : decode cX11_changes 36 = .ok (.aload_n 0, 1) := by decide +kernel
theorem dX11_changes_37 : decode cX11_changes 37 = .ok (.getfield 36, 3) := by decide +kernel
theorem dX11_changes_40 : decode cX11_changes 40 = .ok (.aload_n 0, 1) := by decide +kernel
theorem dX11_changes_41 : decode cX11_changes 41 = .ok (.getfield 26, 3) := by decide +kernel
theorem dX11_changes_44 : decode cX11_changes 44 = .ok (.invokevirtual 226, 3) := by decide +kernel
theorem dX11_changes_47 : decode cX11_changes 47 = .ok (.iload_n 3, 1) := by decide +kernel
theorem dX11_changes_48 : decode cX11_changes 48 = .ok (.ifCond .le 13, 3) := by decide +kernel
theorem dX11_changes_51 : decode cX11_changes 51 = .ok (.aload_n 0, 1) := by decide +kernel
theorem dX11_changes_52 : decode cX11_changes 52 = .ok (.invokevirtual 359, 3) := by decide +kernel
theorem dX11_changes_55 : decode cX11_changes 55 = .ok (.ifCond .ne 6, 3) := by decide +kernel
theorem dX11_changes_58 : decode cX11_changes 58 = .ok (.iinc 2 1, 3) := by decide +kernel
theorem dX11_changes_61 : decode cX11_changes 61 = .ok (.iconst 0, 1) := by decide +kernel
theorem dX11_changes_62 : decode cX11_changes 62 = .ok (.istore 4, 2) := by decide +kernel
theorem dX11_changes_64 : decode cX11_changes 64 = .ok (.iload 4, 2) := by decide +kernel
theorem dX11_changes_66 : decode cX11_changes 66 = .ok (.aload_n 0, 1) := by decide +kernel
theorem dX11_changes_67 : decode cX11_changes 67 = .ok (.getfield 98, 3) := by decide +kernel
theorem dX11_changes_70 : decode cX11_changes 70 = .ok (.arraylength, 1) := by decide +kernel
theorem dX11_changes_71 : decode cX11_changes 71 = .ok (.if_icmp .ge 25, 3) := by decide +kernel
theorem dX11_changes_74 : decode cX11_changes 74 = .ok (.aload_n 0, 1) := by decide +kernel
theorem dX11_changes_75 : decode cX11_changes 75 = .ok (.getfield 98, 3) := by decide +kernel
theorem dX11_changes_78 : decode cX11_changes 78 = .ok (.iload 4, 2) := by decide +kernel
theorem dX11_changes_80 : decode cX11_changes 80 = .ok (.aload_n 0, 1) := by decide +kernel
theorem dX11_changes_81 : decode cX11_changes 81 = .ok (.getfield 36, 3) := by decide +kernel
theorem dX11_changes_84 : decode cX11_changes 84 = .ok (.iload 4, 2) := by decide +kernel
theorem dX11_changes_86 : decode cX11_changes 86 = .ok (.invokevirtual 232, 3) := by decide +kernel
theorem dX11_changes_89 : decode cX11_changes 89 = .ok (.iastore, 1) := by decide +kernel
theorem dX11_changes_90 : decode cX11_changes 90 = .ok (.iinc 4 1, 3) := by decide +kernel
theorem dX11_changes_93 : decode cX11_changes 93 = .ok (.goto (-29), 3) := by decide +kernel
theorem dX11_changes_96 : decode cX11_changes 96 = .ok (.iinc 3 1, 3) := by decide +kernel
theorem dX11_changes_99 : decode cX11_changes 99 = .ok (.goto (-95), 3) := by decide +kernel
theorem dX11_changes_102 : decode cX11_changes 102 = .ok (.iload_n 2, 1) := by decide +kernel
theorem dX11_changes_103 : decode cX11_changes 103 = .ok (.ireturn, 1) := by decide +kernel
theorem dX11_write_0 : decode cX11_write 0 = .ok (.aload_n 0, 1) := by decide +kernel
theorem dX11_write_1 : decode cX11_write 1 = .ok (.iload_n 1, 1) := by decide +kernel
theorem dX11_write_2 : decode cX11_write 2 = .ok (.invokevirtual 196, 3) := by decide +kernel
theorem dX11_write_5 : decode cX11_write 5 = .ok (.ifCond .ne 5, 3) := by decide +kernel
theorem dX11_write_8 : decode cX11_write 8 = .ok (.iconst (-1), 1) := by decide +kernel
theorem dX11_write_9 : decode cX11_write 9 = .ok (.ireturn, 1) := by decide +kernel
theorem dX11_write_10 : decode cX11_write 10 = .ok (.aload_n 0, 1) := by decide +kernel
theorem dX11_write_11 : decode cX11_write 11 = .ok (.getfield 46, 3) := by decide +kernel
theorem dX11_write_14 : decode cX11_write 14 = .ok (.aload_n 0, 1) := by decide +kernel
theorem dX11_write_15 : decode cX11_write 15 = .ok (.getfield 26, 3) := by decide +kernel
theorem dX11_write_18 : decode cX11_write 18 = .ok (.invokevirtual 260, 3) := by decide +kernel
theorem dX11_write_21 : decode cX11_write 21 = .ok (.aload_n 0, 1) := by decide +kernel
theorem dX11_write_22 : decode cX11_write 22 = .ok (.getfield 84, 3) := by decide +kernel
theorem dX11_write_25 : decode cX11_write 25 = .ok (.invokevirtual 363, 3) := by decide +kernel
theorem dX11_write_28 : decode cX11_write 28 = .ok (.iconst 0, 1) := by decide +kernel
theorem dX11_write_29 : decode cX11_write 29 = .ok (.istore_n 2, 1) := by decide +kernel
theorem dX11_write_30 : decode cX11_write 30 = .ok (.iload_n 2, 1) := by decide +kernel
theorem dX11_write_31 : decode cX11_write 31 = .ok (.aload_n 0, 1) := by decide +kernel
theorem dX11_write_32 : decode cX11_write 32 = .ok (.getfield 46, 3) := by decide +kernel
theorem dX11_write_35 : decode cX11_write 35 = .ok (.invokevirtual 261, 3) := by decide +kernel
theorem dX11_write_38 : decode cX11_write 38 = .ok (.if_icmp .ge 57, 3) := by decide +kernel
theorem dX11_write_41 : decode cX11_write 41 = .ok (.aload_n 0, 1) := by decide +kernel
theorem dX11_write_42 : decode cX11_write 42 = .ok (.getfield 84, 3) := by decide +kernel
theorem dX11_write_45 : decode cX11_write 45 = .ok (.aload_n 0, 1) := by decide +kernel
theorem dX11_write_46 : decode cX11_write 46 = .ok (.getfield 46, 3) := by decide +kernel
theorem dX11_write_49 : decode cX11_write 49 = .ok (.iload_n 2, 1) := by decide +kernel
theorem dX11_write_50 : decode cX11_write 50 = .ok (.invokevirtual 366, 3) := by decide +kernel
theorem dX11_write_53 : decode cX11_write 53 = .ok (.invokevirtual 367, 3) := by decide +kernel
theorem dX11_write_56 : decode cX11_write 56 = .ok (.aload_n 0, 1) := by decide +kernel
theorem dX11_write_57 : decode cX11_write 57 = .ok (.getfield 84, 3) := by decide +kernel
theorem dX11_write_60 : decode cX11_write 60 = .ok (.bipush 44, 2) := by decide +kernel
theorem dX11_write_62 : decode cX11_write 62 = .ok (.invokevirtual 370, 3) := by decide +kernel
theorem dX11_write_65 : decode cX11_write 65 = .ok (.aload_n 0, 1) := by decide +kernel
theorem dX11_write_66 : decode cX11_write 66 = .ok (.getfield 84, 3) := by decide +kernel
theorem dX11_write_69 : decode cX11_write 69 = .ok (.aload_n 0, 1) := by decide +kernel
theorem dX11_write_70 : decode cX11_write 70 = .ok (.getfield 46, 3) := by decide +kernel
theorem dX11_write_73 : decode cX11_write 73 = .ok (.iload_n 2, 1) := by decide +kernel
theorem dX11_write_74 : decode cX11_write 74 = .ok (.invokevirtual 373, 3) := by decide +kernel
theorem dX11_write_77 : decode cX11_write 77 = .ok (.invokevirtual 367, 3) := by decide +kernel
theorem dX11_write_80 : decode cX11_write 80 = .ok (.aload_n 0, 1) := by decide +kernel
theorem dX11_write_81 : decode cX11_write 81 = .ok (.getfield 84, 3) := by decide +kernel
theorem dX11_write_84 : decode cX11_write 84 = .ok (.bipush 59, 2) := by decide +kernel
theorem dX11_write_86 : decode cX11_write 86 = .ok (.invokevirtual 370, 3) := by decide +kernel
theorem dX11_write_89 : decode cX11_write 89 = .ok (.iinc 2 1, 3) := by decide +kernel
theorem dX11_write_92 : decode cX11_write 92 = .ok (.goto (-62), 3) := by decide +kernel
theorem dX11_write_95 : decode cX11_write 95 = .ok (.aload_n 0, 1) := by decide +kernel
theorem dX11_write_96 : decode cX11_write 96 = .ok (.getfield 84, 3) := by decide +kernel
theorem dX11_write_99 : decode cX11_write 99 = .ok (.invokevirtual 374, 3) := by decide +kernel
theorem dX11_write_102 : decode cX11_write 102 = .ok (.ireturn, 1) := by decide +kernel
theorem dX11_octet_0 : decode cX11_octet 0 = .ok (.aload_n 0, 1) := by decide +kernel
theorem dX11_octet_1 : decode cX11_octet 1 = .ok (.getfield 84, 3) := by decide +kernel
theorem dX11_octet_4 : decode cX11_octet 4 = .ok (.iload_n 1, 1) := by decide +kernel
theorem dX11_octet_5 : decode cX11_octet 5 = .ok (.invokevirtual 375, 3) := by decide +kernel
theorem dX11_octet_8 : decode cX11_octet 8 = .ok (.ireturn, 1) := by decide +kernel
theorem dX11_isSet_0 : decode cX11_isSet 0 = .ok (.iload_n 0, 1) := by decide +kernel
theorem dX11_isSet_1 : decode cX11_isSet 1 = .ok (.iconst 1, 1) := by decide +kernel
theorem dX11_isSet_2 : decode cX11_isSet 2 = .ok (.if_icmp .lt 13, 3) := by decide +kernel
theorem dX11_isSet_5 : decode cX11_isSet 5 = .ok (.iload_n 0, 1) := by decide +kernel
theorem dX11_isSet_6 : decode cX11_isSet 6 = .ok (.bipush 15, 2) := by decide +kernel
theorem dX11_isSet_8 : decode cX11_isSet 8 = .ok (.if_icmp .gt 7, 3) := by decide +kernel
theorem dX11_isSet_11 : decode cX11_isSet 11 = .ok (.iconst 1, 1) := by decide +kernel
theorem dX11_isSet_12 : decode cX11_isSet 12 = .ok (.goto 4, 3) := by decide +kernel
theorem dX11_isSet_15 : decode cX11_isSet 15 = .ok (.iconst 0, 1) := by decide +kernel
theorem dX11_isSet_16 : decode cX11_isSet 16 = .ok (.ireturn, 1) := by decide +kernel
theorem dX11_isHeap_0 : decode cX11_isHeap 0 = .ok (.iload_n 0, 1) := by decide +kernel
theorem dX11_isHeap_1 : decode cX11_isHeap 1 = .ok (.ifCond .lt 12, 3) := by decide +kernel
theorem dX11_isHeap_4 : decode cX11_isHeap 4 = .ok (.iload_n 0, 1) := by decide +kernel
theorem dX11_isHeap_5 : decode cX11_isHeap 5 = .ok (.iconst 4, 1) := by decide +kernel
theorem dX11_isHeap_6 : decode cX11_isHeap 6 = .ok (.if_icmp .ge 7, 3) := by decide +kernel
theorem dX11_isHeap_9 : decode cX11_isHeap 9 = .ok (.iconst 1, 1) := by decide +kernel
theorem dX11_isHeap_10 : decode cX11_isHeap 10 = .ok (.goto 4, 3) := by decide +kernel
theorem dX11_isHeap_13 : decode cX11_isHeap 13 = .ok (.iconst 0, 1) := by decide +kernel
theorem dX11_isHeap_14 : decode cX11_isHeap 14 = .ok (.ireturn, 1) := by decide +kernel
theorem dX11_isNear_0 : decode cX11_isNear 0 = .ok (.iload_n 0, 1) := by decide +kernel
theorem dX11_isNear_1 : decode cX11_isNear 1 = .ok (.iload_n 2, 1) := by decide +kernel
theorem dX11_isNear_2 : decode cX11_isNear 2 = .ok (.ineg, 1) := by decide +kernel
theorem dX11_isNear_3 : decode cX11_isNear 3 = .ok (.if_icmp .lt 23, 3) := by decide +kernel
theorem dX11_isNear_6 : decode cX11_isNear 6 = .ok (.iload_n 0, 1) := by decide +kernel
theorem dX11_isNear_7 : decode cX11_isNear 7 = .ok (.iload_n 2, 1) := by decide +kernel
theorem dX11_isNear_8 : decode cX11_isNear 8 = .ok (.if_icmp .gt 18, 3) := by decide +kernel
theorem dX11_isNear_11 : decode cX11_isNear 11 = .ok (.iload_n 1, 1) := by decide +kernel
theorem dX11_isNear_12 : decode cX11_isNear 12 = .ok (.iload_n 2, 1) := by decide +kernel
theorem dX11_isNear_13 : decode cX11_isNear 13 = .ok (.ineg, 1) := by decide +kernel
theorem dX11_isNear_14 : decode cX11_isNear 14 = .ok (.if_icmp .lt 12, 3) := by decide +kernel
theorem dX11_isNear_17 : decode cX11_isNear 17 = .ok (.iload_n 1, 1) := by decide +kernel
theorem dX11_isNear_18 : decode cX11_isNear 18 = .ok (.iload_n 2, 1) := by decide +kernel
theorem dX11_isNear_19 : decode cX11_isNear 19 = .ok (.if_icmp .gt 7, 3) := by decide +kernel
theorem dX11_isNear_22 : decode cX11_isNear 22 = .ok (.iconst 1, 1) := by decide +kernel
theorem dX11_isNear_23 : decode cX11_isNear 23 = .ok (.goto 4, 3) := by decide +kernel
theorem dX11_isNear_26 : decode cX11_isNear 26 = .ok (.iconst 0, 1) := by decide +kernel
theorem dX11_isNear_27 : decode cX11_isNear 27 = .ok (.ireturn, 1) := by decide +kernel
theorem dX11_gather_0 : decode cX11_gather 0 = .ok (.aload_n 0, 1) := by decide +kernel
theorem dX11_gather_1 : decode cX11_gather 1 = .ok (.aload_n 0, 1) := by decide +kernel
theorem dX11_gather_2 : decode cX11_gather 2 = .ok (.getfield 26, 3) := by decide +kernel
theorem dX11_gather_5 : decode cX11_gather 5 = .ok (.iload_n 1, 1) := by decide +kernel
theorem dX11_gather_6 : decode cX11_gather 6 = .ok (.aload_n 0, 1) := by decide +kernel
theorem dX11_gather_7 : decode cX11_gather 7 = .ok (.getfield 10, 3) := by decide +kernel
theorem dX11_gather_10 : decode cX11_gather 10 = .ok (.invokevirtual 158, 3) := by decide +kernel
theorem dX11_gather_13 : decode cX11_gather 13 = .ok (.invokevirtual 252, 3) := by decide +kernel
theorem dX11_gather_16 : decode cX11_gather 16 = .ok (.ireturn, 1) := by decide +kernel
theorem dX11_gatherAt_0 : decode cX11_gatherAt 0 = .ok (.iload_n 2, 1) := by decide +kernel
theorem dX11_gatherAt_1 : decode cX11_gatherAt 1 = .ok (.invokestatic 193, 3) := by decide +kernel
theorem dX11_gatherAt_4 : decode cX11_gatherAt 4 = .ok (.ifCond .ne 5, 3) := by decide +kernel
theorem dX11_gatherAt_7 : decode cX11_gatherAt 7 = .ok (.iconst 0, 1) := by decide +kernel
theorem dX11_gatherAt_8 : decode cX11_gatherAt 8 = .ok (.ireturn, 1) := by decide +kernel
theorem dX11_gatherAt_9 : decode cX11_gatherAt 9 = .ok (.aload_n 1, 1) := by decide +kernel
theorem dX11_gatherAt_10 : decode cX11_gatherAt 10 = .ok (.aload_n 0, 1) := by decide +kernel
theorem dX11_gatherAt_11 : decode cX11_gatherAt 11 = .ok (.getfield 10, 3) := by decide +kernel
theorem dX11_gatherAt_14 : decode cX11_gatherAt 14 = .ok (.aload_n 0, 1) := by decide +kernel
theorem dX11_gatherAt_15 : decode cX11_gatherAt 15 = .ok (.getfield 10, 3) := by decide +kernel
theorem dX11_gatherAt_18 : decode cX11_gatherAt 18 = .ok (.iload_n 2, 1) := by decide +kernel
theorem dX11_gatherAt_19 : decode cX11_gatherAt 19 = .ok (.invokevirtual 167, 3) := by decide +kernel
theorem dX11_gatherAt_22 : decode cX11_gatherAt 22 = .ok (.iload_n 3, 1) := by decide +kernel
theorem dX11_gatherAt_23 : decode cX11_gatherAt 23 = .ok (.invokevirtual 244, 3) := by decide +kernel
theorem dX11_gatherAt_26 : decode cX11_gatherAt 26 = .ok (.aload_n 1, 1) := by decide +kernel
theorem dX11_gatherAt_27 : decode cX11_gatherAt 27 = .ok (.invokevirtual 199, 3) := by decide +kernel
theorem dX11_gatherAt_30 : decode cX11_gatherAt 30 = .ok (.ifCond .le 7, 3) := by decide +kernel
theorem dX11_gatherAt_33 : decode cX11_gatherAt 33 = .ok (.iconst 1, 1) := by decide +kernel
theorem dX11_gatherAt_34 : decode cX11_gatherAt 34 = .ok (.goto 4, 3) := by decide +kernel
theorem dX11_gatherAt_37 : decode cX11_gatherAt 37 = .ok (.iconst 0, 1) := by decide +kernel
theorem dX11_gatherAt_38 : decode cX11_gatherAt 38 = .ok (.ireturn, 1) := by decide +kernel
theorem dX11_outlineIsWide_0 : decode cX11_outlineIsWide 0 = .ok (.aload_n 0, 1) := by decide +kernel
theorem dX11_outlineIsWide_1 : decode cX11_outlineIsWide 1 = .ok (.iload_n 1, 1) := by decide +kernel
theorem dX11_outlineIsWide_2 : decode cX11_outlineIsWide 2 = .ok (.invokevirtual 196, 3) := by decide +kernel
theorem dX11_outlineIsWide_5 : decode cX11_outlineIsWide 5 = .ok (.ifCond .ne 5, 3) := by decide +kernel
theorem dX11_outlineIsWide_8 : decode cX11_outlineIsWide 8 = .ok (.iconst 0, 1) := by decide +kernel
theorem dX11_outlineIsWide_9 : decode cX11_outlineIsWide 9 = .ok (.ireturn, 1) := by decide +kernel
theorem dX11_outlineIsWide_10 : decode cX11_outlineIsWide 10 = .ok (.aload_n 0, 1) := by decide +kernel
theorem dX11_outlineIsWide_11 : decode cX11_outlineIsWide 11 = .ok (.getfield 46, 3) := by decide +kernel
theorem dX11_outlineIsWide_14 : decode cX11_outlineIsWide 14 = .ok (.aload_n 0, 1) := by decide +kernel
theorem dX11_outlineIsWide_15 : decode cX11_outlineIsWide 15 = .ok (.getfield 26, 3) := by decide +kernel
theorem dX11_outlineIsWide_18 : decode cX11_outlineIsWide 18 = .ok (.invokevirtual 260, 3) := by decide +kernel
theorem dX11_outlineIsWide_21 : decode cX11_outlineIsWide 21 = .ok (.aload_n 0, 1) := by decide +kernel
theorem dX11_outlineIsWide_22 : decode cX11_outlineIsWide 22 = .ok (.getfield 46, 3) := by decide +kernel
theorem dX11_outlineIsWide_25 : decode cX11_outlineIsWide 25 = .ok (.invokevirtual 261, 3) := by decide +kernel
theorem dX11_outlineIsWide_28 : decode cX11_outlineIsWide 28 = .ok (.iconst 2, 1) := by decide +kernel
theorem dX11_outlineIsWide_29 : decode cX11_outlineIsWide 29 = .ok (.if_icmp .le 7, 3) := by decide +kernel
theorem dX11_outlineIsWide_32 : decode cX11_outlineIsWide 32 = .ok (.iconst 1, 1) := by decide +kernel
theorem dX11_outlineIsWide_33 : decode cX11_outlineIsWide 33 = .ok (.goto 4, 3) := by decide +kernel
theorem dX11_outlineIsWide_36 : decode cX11_outlineIsWide 36 = .ok (.iconst 0, 1) := by decide +kernel
theorem dX11_outlineIsWide_37 : decode cX11_outlineIsWide 37 = .ok (.ireturn, 1) := by decide +kernel
theorem dX11_meetAt_0 : decode cX11_meetAt 0 = .ok (.aload_n 0, 1) := by decide +kernel
theorem dX11_meetAt_1 : decode cX11_meetAt 1 = .ok (.aload_n 0, 1) := by decide +kernel
theorem dX11_meetAt_2 : decode cX11_meetAt 2 = .ok (.getfield 26, 3) := by decide +kernel
theorem dX11_meetAt_5 : decode cX11_meetAt 5 = .ok (.iload_n 1, 1) := by decide +kernel
theorem dX11_meetAt_6 : decode cX11_meetAt 6 = .ok (.iload_n 3, 1) := by decide +kernel
theorem dX11_meetAt_7 : decode cX11_meetAt 7 = .ok (.invokevirtual 252, 3) := by decide +kernel
theorem dX11_meetAt_10 : decode cX11_meetAt 10 = .ok (.ifCond .eq 16, 3) := by decide +kernel
theorem dX11_meetAt_13 : decode cX11_meetAt 13 = .ok (.aload_n 0, 1) := by decide +kernel
theorem dX11_meetAt_14 : decode cX11_meetAt 14 = .ok (.aload_n 0, 1) := by decide +kernel
theorem dX11_meetAt_15 : decode cX11_meetAt 15 = .ok (.getfield 30, 3) := by decide +kernel
theorem dX11_meetAt_18 : decode cX11_meetAt 18 = .ok (.iload_n 2, 1) := by decide +kernel
theorem dX11_meetAt_19 : decode cX11_meetAt 19 = .ok (.iload_n 3, 1) := by decide +kernel
theorem dX11_meetAt_20 : decode cX11_meetAt 20 = .ok (.invokevirtual 252, 3) := by decide +kernel
theorem dX11_meetAt_23 : decode cX11_meetAt 23 = .ok (.ifCond .ne 5, 3) := by decide +kernel
theorem dX11_meetAt_26 : decode cX11_meetAt 26 = .ok (.iconst (-1), 1) := by decide +kernel
theorem dX11_meetAt_27 : decode cX11_meetAt 27 = .ok (.ireturn, 1) := by decide +kernel
theorem dX11_meetAt_28 : decode cX11_meetAt 28 = .ok (.aload_n 0, 1) := by decide +kernel
theorem dX11_meetAt_29 : decode cX11_meetAt 29 = .ok (.getfield 46, 3) := by decide +kernel
theorem dX11_meetAt_32 : decode cX11_meetAt 32 = .ok (.aload_n 0, 1) := by decide +kernel
theorem dX11_meetAt_33 : decode cX11_meetAt 33 = .ok (.getfield 26, 3) := by decide +kernel
theorem dX11_meetAt_36 : decode cX11_meetAt 36 = .ok (.invokevirtual 260, 3) := by decide +kernel
theorem dX11_meetAt_39 : decode cX11_meetAt 39 = .ok (.aload_n 0, 1) := by decide +kernel
theorem dX11_meetAt_40 : decode cX11_meetAt 40 = .ok (.getfield 50, 3) := by decide +kernel
theorem dX11_meetAt_43 : decode cX11_meetAt 43 = .ok (.aload_n 0, 1) := by decide +kernel
theorem dX11_meetAt_44 : decode cX11_meetAt 44 = .ok (.getfield 30, 3) := by decide +kernel
theorem dX11_meetAt_47 : decode cX11_meetAt 47 = .ok (.invokevirtual 260, 3) := by decide +kernel
theorem dX11_meetAt_50 : decode cX11_meetAt 50 = .ok (.aload_n 0, 1) := by decide +kernel
theorem dX11_meetAt_51 : decode cX11_meetAt 51 = .ok (.getfield 46, 3) := by decide +kernel
theorem dX11_meetAt_54 : decode cX11_meetAt 54 = .ok (.aload_n 0, 1) := by decide +kernel
theorem dX11_meetAt_55 : decode cX11_meetAt 55 = .ok (.getfield 50, 3) := by decide +kernel
theorem dX11_meetAt_58 : decode cX11_meetAt 58 = .ok (.invokevirtual 378, 3) := by decide +kernel
theorem dX11_meetAt_61 : decode cX11_meetAt 61 = .ok (.ifCond .eq 7, 3) := by decide +kernel
theorem dX11_meetAt_64 : decode cX11_meetAt 64 = .ok (.iconst 1, 1) := by decide +kernel
theorem dX11_meetAt_65 : decode cX11_meetAt 65 = .ok (.goto 4, 3) := by decide +kernel
theorem dX11_meetAt_68 : decode cX11_meetAt 68 = .ok (.iconst 0, 1) := by decide +kernel
theorem dX11_meetAt_69 : decode cX11_meetAt 69 = .ok (.ireturn, 1) := by decide +kernel
theorem dX11_countTightOnSecond_0 : decode cX11_countTightOnSecond 0 = .ok (.aload_n 0, 1) := by decide +kernel
theorem dX11_countTightOnSecond_1 : decode cX11_countTightOnSecond 1 = .ok (.getfield 10, 3) := by decide +kernel
theorem dX11_countTightOnSecond_4 : decode cX11_countTightOnSecond 4 = .ok (.invokevirtual 158, 3) := by decide +kernel
theorem dX11_countTightOnSecond_7 : decode cX11_countTightOnSecond 7 = .ok (.istore_n 1, 1) := by decide +kernel
theorem dX11_countTightOnSecond_8 : decode cX11_countTightOnSecond 8 = .ok (.iconst 0, 1) := by decide +kernel
theorem dX11_countTightOnSecond_9 : decode cX11_countTightOnSecond 9 = .ok (.istore_n 2, 1) := by decide +kernel
theorem dX11_countTightOnSecond_10 : decode cX11_countTightOnSecond 10 = .ok (.iconst 0, 1) := by decide +kernel
theorem dX11_countTightOnSecond_11 : decode cX11_countTightOnSecond 11 = .ok (.istore_n 3, 1) := by decide +kernel
theorem dX11_countTightOnSecond_12 : decode cX11_countTightOnSecond 12 = .ok (.iload_n 3, 1) := by decide +kernel
theorem dX11_countTightOnSecond_13 : decode cX11_countTightOnSecond 13 = .ok (.aload_n 0, 1) := by decide +kernel
theorem dX11_countTightOnSecond_14 : decode cX11_countTightOnSecond 14 = .ok (.getfield 36, 3) := by decide +kernel
theorem dX11_countTightOnSecond_17 : decode cX11_countTightOnSecond 17 = .ok (.invokevirtual 229, 3) := by decide +kernel
theorem dX11_countTightOnSecond_20 : decode cX11_countTightOnSecond 20 = .ok (.if_icmp .ge 52, 3) := by decide +kernel
theorem dX11_countTightOnSecond_23 : decode cX11_countTightOnSecond 23 = .ok (.aload_n 0, 1) := by decide +kernel
theorem dX11_countTightOnSecond_24 : decode cX11_countTightOnSecond 24 = .ok (.getfield 36, 3) := by decide +kernel
theorem dX11_countTightOnSecond_27 : decode cX11_countTightOnSecond 27 = .ok (.iload_n 3, 1) := by decide +kernel
theorem dX11_countTightOnSecond_28 : decode cX11_countTightOnSecond 28 = .ok (.invokevirtual 232, 3) := by decide +kernel
theorem dX11_countTightOnSecond_31 : decode cX11_countTightOnSecond 31 = .ok (.istore 4, 2) := by decide +kernel
theorem dX11_countTightOnSecond_33 : decode cX11_countTightOnSecond 33 = .ok (.aload_n 0, 1) := by decide +kernel
theorem dX11_countTightOnSecond_34 : decode cX11_countTightOnSecond 34 = .ok (.getfield 40, 3) := by decide +kernel
theorem dX11_countTightOnSecond_37 : decode cX11_countTightOnSecond 37 = .ok (.aload_n 0, 1) := by decide +kernel
theorem dX11_countTightOnSecond_38 : decode cX11_countTightOnSecond 38 = .ok (.getfield 10, 3) := by decide +kernel
theorem dX11_countTightOnSecond_41 : decode cX11_countTightOnSecond 41 = .ok (.iload 4, 2) := by decide +kernel
theorem dX11_countTightOnSecond_43 : decode cX11_countTightOnSecond 43 = .ok (.iload_n 1, 1) := by decide +kernel
theorem dX11_countTightOnSecond_44 : decode cX11_countTightOnSecond 44 = .ok (.invokevirtual 186, 3) := by decide +kernel
theorem dX11_countTightOnSecond_47 : decode cX11_countTightOnSecond 47 = .ok (.aload_n 0, 1) := by decide +kernel
theorem dX11_countTightOnSecond_48 : decode cX11_countTightOnSecond 48 = .ok (.getfield 10, 3) := by decide +kernel
theorem dX11_countTightOnSecond_51 : decode cX11_countTightOnSecond 51 = .ok (.iload 4, 2) := by decide +kernel
theorem dX11_countTightOnSecond_53 : decode cX11_countTightOnSecond 53 = .ok (.iload_n 1, 1) := by decide +kernel
theorem dX11_countTightOnSecond_54 : decode cX11_countTightOnSecond 54 = .ok (.invokevirtual 190, 3) := by decide +kernel
theorem dX11_countTightOnSecond_57 : decode cX11_countTightOnSecond 57 = .ok (.invokevirtual 239, 3) := by decide +kernel
theorem dX11_countTightOnSecond_60 : decode cX11_countTightOnSecond 60 = .ok (.ifCond .ne 6, 3) := by decide +kernel
theorem dX11_countTightOnSecond_63 : decode cX11_countTightOnSecond 63 = .ok (.iinc 2 1, 3) := by decide +kernel
theorem dX11_countTightOnSecond_66 : decode cX11_countTightOnSecond 66 = .ok (.iinc 3 1, 3) := by decide +kernel
theorem dX11_countTightOnSecond_69 : decode cX11_countTightOnSecond 69 = .ok (.goto (-57), 3) := by decide +kernel
theorem dX11_countTightOnSecond_72 : decode cX11_countTightOnSecond 72 = .ok (.iload_n 2, 1) := by decide +kernel
theorem dX11_countTightOnSecond_73 : decode cX11_countTightOnSecond 73 = .ok (.ireturn, 1) := by decide +kernel
theorem dX11_tightIsAsAhead_0 : decode cX11_tightIsAsAhead 0 = .ok (.iconst 0, 1) := by decide +kernel
theorem dX11_tightIsAsAhead_1 : decode cX11_tightIsAsAhead 1 = .ok (.istore_n 1, 1) := by decide +kernel
theorem dX11_tightIsAsAhead_2 : decode cX11_tightIsAsAhead 2 = .ok (.iload_n 1, 1) := by decide +kernel
theorem dX11_tightIsAsAhead_3 : decode cX11_tightIsAsAhead 3 = .ok (.aload_n 0, 1) := by decide +kernel
theorem dX11_tightIsAsAhead_4 : decode cX11_tightIsAsAhead 4 = .ok (.getfield 98, 3) := by decide +kernel
theorem dX11_tightIsAsAhead_7 : decode cX11_tightIsAsAhead 7 = .ok (.arraylength, 1) := by decide +kernel
theorem dX11_tightIsAsAhead_8 : decode cX11_tightIsAsAhead 8 = .ok (.if_icmp .ge 28, 3) := by decide +kernel
theorem dX11_tightIsAsAhead_11 : decode cX11_tightIsAsAhead 11 = .ok (.aload_n 0, 1) := by decide +kernel
theorem dX11_tightIsAsAhead_12 : decode cX11_tightIsAsAhead 12 = .ok (.getfield 98, 3) := by decide +kernel
theorem dX11_tightIsAsAhead_15 : decode cX11_tightIsAsAhead 15 = .ok (.iload_n 1, 1) := by decide +kernel
theorem dX11_tightIsAsAhead_16 : decode cX11_tightIsAsAhead 16 = .ok (.iaload, 1) := by decide +kernel
theorem dX11_tightIsAsAhead_17 : decode cX11_tightIsAsAhead 17 = .ok (.aload_n 0, 1) := by decide +kernel
theorem dX11_tightIsAsAhead_18 : decode cX11_tightIsAsAhead 18 = .ok (.getfield 36, 3) := by decide +kernel
theorem dX11_tightIsAsAhead_21 : decode cX11_tightIsAsAhead 21 = .ok (.iload_n 1, 1) := by decide +kernel
theorem dX11_tightIsAsAhead_22 : decode cX11_tightIsAsAhead 22 = .ok (.invokevirtual 232, 3) := by decide +kernel
theorem dX11_tightIsAsAhead_25 : decode cX11_tightIsAsAhead 25 = .ok (.if_icmp .eq 5, 3) := by decide +kernel
theorem dX11_tightIsAsAhead_28 : decode cX11_tightIsAsAhead 28 = .ok (.iconst 0, 1) := by decide +kernel
theorem dX11_tightIsAsAhead_29 : decode cX11_tightIsAsAhead 29 = .ok (.ireturn, 1) := by decide +kernel
theorem dX11_tightIsAsAhead_30 : decode cX11_tightIsAsAhead 30 = .ok (.iinc 1 1, 3) := by decide +kernel
theorem dX11_tightIsAsAhead_33 : decode cX11_tightIsAsAhead 33 = .ok (.goto (-31), 3) := by decide +kernel
theorem dX11_tightIsAsAhead_36 : decode cX11_tightIsAsAhead 36 = .ok (.iconst 1, 1) := by decide +kernel
theorem dX11_tightIsAsAhead_37 : decode cX11_tightIsAsAhead 37 = .ok (.ireturn, 1) := by decide +kernel
theorem dL_law_0 : decode cL_law 0 = .ok (.new 7, 3) := by decide +kernel
theorem dL_law_3 : decode cL_law 3 = .ok (.dup, 1) := by decide +kernel
theorem dL_law_4 : decode cL_law 4 = .ok (.invokespecial 9, 3) := by decide +kernel
theorem dL_law_7 : decode cL_law 7 = .ok (.astore_n 1, 1) := by decide +kernel
theorem dL_law_8 : decode cL_law 8 = .ok (.new 10, 3) := by decide +kernel
theorem dL_law_11 : decode cL_law 11 = .ok (.dup, 1) := by decide +kernel
theorem dL_law_12 : decode cL_law 12 = .ok (.invokespecial 12, 3) := by decide +kernel
theorem dL_law_15 : decode cL_law 15 = .ok (.astore_n 2, 1) := by decide +kernel
theorem dL_law_16 : decode cL_law 16 = .ok (.iconst 0, 1) := by decide +kernel
theorem dL_law_17 : decode cL_law 17 = .ok (.istore_n 3, 1) := by decide +kernel
theorem dL_law_18 : decode cL_law 18 = .ok (.iload_n 3, 1) := by decide +kernel
theorem dL_law_19 : decode cL_law 19 = .ok (.aload_n 0, 1) := by decide +kernel
theorem dL_law_20 : decode cL_law 20 = .ok (.arraylength, 1) := by decide +kernel
theorem dL_law_21 : decode cL_law 21 = .ok (.bipush 6, 2) := by decide +kernel
theorem dL_law_23 : decode cL_law 23 = .ok (.isub, 1) := by decide +kernel
theorem dL_law_24 : decode cL_law 24 = .ok (.if_icmp .gt 1623, 3) := by decide +kernel
theorem dL_law_27 : decode cL_law 27 = .ok (.aload_n 0, 1) := by decide +kernel
theorem dL_law_28 : decode cL_law 28 = .ok (.iload_n 3, 1) := by decide +kernel
theorem dL_law_29 : decode cL_law 29 = .ok (.iaload, 1) := by decide +kernel
theorem dL_law_30 : decode cL_law 30 = .ok (.bipush 63, 2) := by decide +kernel
theorem dL_law_32 : decode cL_law 32 = .ok (.iand, 1) := by decide +kernel
theorem dL_law_33 : decode cL_law 33 = .ok (.tableswitch 1608 0 41 #[183, 246, 269, 282, 295, 338, 361, 404, 447, 470, 483, 506, 539, 562, 605, 639, 672, 695, 738, 771, 834, 867, 900, 923, 956, 990, 1033, 1067, 1101, 1135, 1168, 1212, 1266, 1300, 1354, 1387, 1440, 1463, 1506, 1539, 1562, 1585], 183) := by decide +kernel
theorem dL_law_216 : decode cL_law 216 = .ok (.aload_n 1, 1) := by decide +kernel
theorem dL_law_217 : decode cL_law 217 = .ok (.aload_n 0, 1) := by decide +kernel
theorem dL_law_218 : decode cL_law 218 = .ok (.iload_n 3, 1) := by decide +kernel
theorem dL_law_219 : decode cL_law 219 = .ok (.iconst 1, 1) := by decide +kernel
theorem dL_law_220 : decode cL_law 220 = .ok (.iadd, 1) := by decide +kernel
theorem dL_law_221 : decode cL_law 221 = .ok (.iaload, 1) := by decide +kernel
theorem dL_law_222 : decode cL_law 222 = .ok (.aload_n 0, 1) := by decide +kernel
theorem dL_law_223 : decode cL_law 223 = .ok (.iload_n 3, 1) := by decide +kernel
theorem dL_law_224 : decode cL_law 224 = .ok (.iconst 2, 1) := by decide +kernel
theorem dL_law_225 : decode cL_law 225 = .ok (.iadd, 1) := by decide +kernel
theorem dL_law_226 : decode cL_law 226 = .ok (.iaload, 1) := by decide +kernel
theorem dL_law_227 : decode cL_law 227 = .ok (.aload_n 0, 1) := by decide +kernel
theorem dL_law_228 : decode cL_law 228 = .ok (.iload_n 3, 1) := by decide +kernel
theorem dL_law_229 : decode cL_law 229 = .ok (.iconst 3, 1) := by decide +kernel
theorem dL_law_230 : decode cL_law 230 = .ok (.iadd, 1) := by decide +kernel
theorem dL_law_231 : decode cL_law 231 = .ok (.iaload, 1) := by decide +kernel
theorem dL_law_232 : decode cL_law 232 = .ok (.aload_n 0, 1) := by decide +kernel
theorem dL_law_233 : decode cL_law 233 = .ok (.iload_n 3, 1) := by decide +kernel
theorem dL_law_234 : decode cL_law 234 = .ok (.iconst 4, 1) := by decide +kernel
theorem dL_law_235 : decode cL_law 235 = .ok (.iadd, 1) := by decide +kernel
theorem dL_law_236 : decode cL_law 236 = .ok (.iaload, 1) := by decide +kernel
theorem dL_law_237 : decode cL_law 237 = .ok (.aload_n 0, 1) := by decide +kernel
theorem dL_law_238 : decode cL_law 238 = .ok (.iload_n 3, 1) := by decide +kernel
theorem dL_law_239 : decode cL_law 239 = .ok (.iconst 5, 1) := by decide +kernel
theorem dL_law_240 : decode cL_law 240 = .ok (.iadd, 1) := by decide +kernel
theorem dL_law_241 : decode cL_law 241 = .ok (.iaload, 1) := by decide +kernel
theorem dL_law_242 : decode cL_law 242 = .ok (.invokevirtual 13, 3) := by decide +kernel
theorem dL_law_245 : decode cL_law 245 = .ok (.aload_n 2, 1) := by decide +kernel
theorem dL_law_246 : decode cL_law 246 = .ok (.aload_n 0, 1) := by decide +kernel
theorem dL_law_247 : decode cL_law 247 = .ok (.iload_n 3, 1) := by decide +kernel
theorem dL_law_248 : decode cL_law 248 = .ok (.iconst 1, 1) := by decide +kernel
theorem dL_law_249 : decode cL_law 249 = .ok (.iadd, 1) := by decide +kernel
theorem dL_law_250 : decode cL_law 250 = .ok (.iaload, 1) := by decide +kernel
theorem dL_law_251 : decode cL_law 251 = .ok (.aload_n 0, 1) := by decide +kernel
theorem dL_law_252 : decode cL_law 252 = .ok (.iload_n 3, 1) := by decide +kernel
theorem dL_law_253 : decode cL_law 253 = .ok (.iconst 2, 1) := by decide +kernel
theorem dL_law_254 : decode cL_law 254 = .ok (.iadd, 1) := by decide +kernel
theorem dL_law_255 : decode cL_law 255 = .ok (.iaload, 1) := by decide +kernel
theorem dL_law_256 : decode cL_law 256 = .ok (.aload_n 0, 1) := by decide +kernel
theorem dL_law_257 : decode cL_law 257 = .ok (.iload_n 3, 1) := by decide +kernel
theorem dL_law_258 : decode cL_law 258 = .ok (.iconst 3, 1) := by decide +kernel
theorem dL_law_259 : decode cL_law 259 = .ok (.iadd, 1) := by decide +kernel
theorem dL_law_260 : decode cL_law 260 = .ok (.iaload, 1) := by decide +kernel
theorem dL_law_261 : decode cL_law 261 = .ok (.aload_n 0, 1) := by decide +kernel
theorem dL_law_262 : decode cL_law 262 = .ok (.iload_n 3, 1) := by decide +kernel
theorem dL_law_263 : decode cL_law 263 = .ok (.iconst 4, 1) := by decide +kernel
theorem dL_law_264 : decode cL_law 264 = .ok (.iadd, 1) := by decide +kernel
theorem dL_law_265 : decode cL_law 265 = .ok (.iaload, 1) := by decide +kernel
theorem dL_law_266 : decode cL_law 266 = .ok (.aload_n 0, 1) := by decide +kernel
theorem dL_law_267 : decode cL_law 267 = .ok (.iload_n 3, 1) := by decide +kernel
theorem dL_law_268 : decode cL_law 268 = .ok (.iconst 5, 1) := by decide +kernel
theorem dL_law_269 : decode cL_law 269 = .ok (.iadd, 1) := by decide +kernel
theorem dL_law_270 : decode cL_law 270 = .ok (.iaload, 1) := by decide +kernel
theorem dL_law_271 : decode cL_law 271 = .ok (.invokevirtual 17, 3) := by decide +kernel
theorem dL_law_274 : decode cL_law 274 = .ok (.if_icmp .eq 1367, 3) := by decide +kernel
theorem dL_law_277 : decode cL_law 277 = .ok (.iconst 0, 1) := by decide +kernel
theorem dL_law_278 : decode cL_law 278 = .ok (.ireturn, 1) := by decide +kernel
theorem dL_law_279 : decode cL_law 279 = .ok (.aload_n 1, 1) := by decide +kernel
theorem dL_law_280 : decode cL_law 280 = .ok (.aload_n 0, 1) := by decide +kernel
theorem dL_law_281 : decode cL_law 281 = .ok (.iload_n 3, 1) := by decide +kernel
theorem dL_law_282 : decode cL_law 282 = .ok (.iconst 1, 1) := by decide +kernel
theorem dL_law_283 : decode cL_law 283 = .ok (.iadd, 1) := by decide +kernel
theorem dL_law_284 : decode cL_law 284 = .ok (.iaload, 1) := by decide +kernel
theorem dL_law_285 : decode cL_law 285 = .ok (.invokevirtual 18, 3) := by decide +kernel
theorem dL_law_288 : decode cL_law 288 = .ok (.aload_n 2, 1) := by decide +kernel
theorem dL_law_289 : decode cL_law 289 = .ok (.aload_n 0, 1) := by decide +kernel
theorem dL_law_290 : decode cL_law 290 = .ok (.iload_n 3, 1) := by decide +kernel
theorem dL_law_291 : decode cL_law 291 = .ok (.iconst 1, 1) := by decide +kernel
theorem dL_law_292 : decode cL_law 292 = .ok (.iadd, 1) := by decide +kernel
theorem dL_law_293 : decode cL_law 293 = .ok (.iaload, 1) := by decide +kernel
theorem dL_law_294 : decode cL_law 294 = .ok (.invokevirtual 22, 3) := by decide +kernel
theorem dL_law_297 : decode cL_law 297 = .ok (.if_icmp .eq 1344, 3) := by decide +kernel
theorem dL_law_300 : decode cL_law 300 = .ok (.iconst 0, 1) := by decide +kernel
theorem dL_law_301 : decode cL_law 301 = .ok (.ireturn, 1) := by decide +kernel
theorem dL_law_302 : decode cL_law 302 = .ok (.aload_n 1, 1) := by decide +kernel
theorem dL_law_303 : decode cL_law 303 = .ok (.invokevirtual 23, 3) := by decide +kernel
theorem dL_law_306 : decode cL_law 306 = .ok (.aload_n 2, 1) := by decide +kernel
theorem dL_law_307 : decode cL_law 307 = .ok (.invokevirtual 27, 3) := by decide +kernel
theorem dL_law_310 : decode cL_law 310 = .ok (.if_icmp .eq 1331, 3) := by decide +kernel
theorem dL_law_313 : decode cL_law 313 = .ok (.iconst 0, 1) := by decide +kernel
theorem dL_law_314 : decode cL_law 314 = .ok (.ireturn, 1) := by decide +kernel
theorem dL_law_315 : decode cL_law 315 = .ok (.aload_n 1, 1) := by decide +kernel
theorem dL_law_316 : decode cL_law 316 = .ok (.invokevirtual 28, 3) := by decide +kernel
theorem dL_law_319 : decode cL_law 319 = .ok (.aload_n 2, 1) := by decide +kernel
theorem dL_law_320 : decode cL_law 320 = .ok (.invokevirtual 31, 3) := by decide +kernel
theorem dL_law_323 : decode cL_law 323 = .ok (.if_icmp .eq 1318, 3) := by decide +kernel
theorem dL_law_326 : decode cL_law 326 = .ok (.iconst 0, 1) := by decide +kernel
theorem dL_law_327 : decode cL_law 327 = .ok (.ireturn, 1) := by decide +kernel
theorem dL_law_328 : decode cL_law 328 = .ok (.aload_n 1, 1) := by decide +kernel
theorem dL_law_329 : decode cL_law 329 = .ok (.aload_n 0, 1) := by decide +kernel
theorem dL_law_330 : decode cL_law 330 = .ok (.iload_n 3, 1) := by decide +kernel
theorem dL_law_331 : decode cL_law 331 = .ok (.iconst 1, 1) := by decide +kernel
theorem dL_law_332 : decode cL_law 332 = .ok (.iadd, 1) := by decide +kernel
theorem dL_law_333 : decode cL_law 333 = .ok (.iaload, 1) := by decide +kernel
theorem dL_law_334 : decode cL_law 334 = .ok (.aload_n 0, 1) := by decide +kernel
theorem dL_law_335 : decode cL_law 335 = .ok (.iload_n 3, 1) := by decide +kernel
theorem dL_law_336 : decode cL_law 336 = .ok (.iconst 2, 1) := by decide +kernel
theorem dL_law_337 : decode cL_law 337 = .ok (.iadd, 1) := by decide +kernel
theorem dL_law_338 : decode cL_law 338 = .ok (.iaload, 1) := by decide +kernel
theorem dL_law_339 : decode cL_law 339 = .ok (.aload_n 0, 1) := by decide +kernel
theorem dL_law_340 : decode cL_law 340 = .ok (.iload_n 3, 1) := by decide +kernel
theorem dL_law_341 : decode cL_law 341 = .ok (.iconst 3, 1) := by decide +kernel
theorem dL_law_342 : decode cL_law 342 = .ok (.iadd, 1) := by decide +kernel
theorem dL_law_343 : decode cL_law 343 = .ok (.iaload, 1) := by decide +kernel
theorem dL_law_344 : decode cL_law 344 = .ok (.invokevirtual 32, 3) := by decide +kernel
theorem dL_law_347 : decode cL_law 347 = .ok (.aload_n 2, 1) := by decide +kernel
theorem dL_law_348 : decode cL_law 348 = .ok (.aload_n 0, 1) := by decide +kernel
theorem dL_law_349 : decode cL_law 349 = .ok (.iload_n 3, 1) := by decide +kernel
theorem dL_law_350 : decode cL_law 350 = .ok (.iconst 1, 1) := by decide +kernel
theorem dL_law_351 : decode cL_law 351 = .ok (.iadd, 1) := by decide +kernel
theorem dL_law_352 : decode cL_law 352 = .ok (.iaload, 1) := by decide +kernel
theorem dL_law_353 : decode cL_law 353 = .ok (.aload_n 0, 1) := by decide +kernel
theorem dL_law_354 : decode cL_law 354 = .ok (.iload_n 3, 1) := by decide +kernel
theorem dL_law_355 : decode cL_law 355 = .ok (.iconst 2, 1) := by decide +kernel
theorem dL_law_356 : decode cL_law 356 = .ok (.iadd, 1) := by decide +kernel
theorem dL_law_357 : decode cL_law 357 = .ok (.iaload, 1) := by decide +kernel
theorem dL_law_358 : decode cL_law 358 = .ok (.aload_n 0, 1) := by decide +kernel
theorem dL_law_359 : decode cL_law 359 = .ok (.iload_n 3, 1) := by decide +kernel
theorem dL_law_360 : decode cL_law 360 = .ok (.iconst 3, 1) := by decide +kernel
theorem dL_law_361 : decode cL_law 361 = .ok (.iadd, 1) := by decide +kernel
theorem dL_law_362 : decode cL_law 362 = .ok (.iaload, 1) := by decide +kernel
theorem dL_law_363 : decode cL_law 363 = .ok (.invokevirtual 36, 3) := by decide +kernel
theorem dL_law_366 : decode cL_law 366 = .ok (.if_icmp .eq 1275, 3) := by decide +kernel
theorem dL_law_369 : decode cL_law 369 = .ok (.iconst 0, 1) := by decide +kernel
theorem dL_law_370 : decode cL_law 370 = .ok (.ireturn, 1) := by decide +kernel
theorem dL_law_371 : decode cL_law 371 = .ok (.aload_n 1, 1) := by decide +kernel
theorem dL_law_372 : decode cL_law 372 = .ok (.aload_n 0, 1) := by decide +kernel
theorem dL_law_373 : decode cL_law 373 = .ok (.iload_n 3, 1) := by decide +kernel
theorem dL_law_374 : decode cL_law 374 = .ok (.iconst 1, 1) := by decide +kernel
theorem dL_law_375 : decode cL_law 375 = .ok (.iadd, 1) := by decide +kernel
theorem dL_law_376 : decode cL_law 376 = .ok (.iaload, 1) := by decide +kernel
theorem dL_law_377 : decode cL_law 377 = .ok (.invokevirtual 37, 3) := by decide +kernel
theorem dL_law_380 : decode cL_law 380 = .ok (.aload_n 2, 1) := by decide +kernel
theorem dL_law_381 : decode cL_law 381 = .ok (.aload_n 0, 1) := by decide +kernel
theorem dL_law_382 : decode cL_law 382 = .ok (.iload_n 3, 1) := by decide +kernel
theorem dL_law_383 : decode cL_law 383 = .ok (.iconst 1, 1) := by decide +kernel
theorem dL_law_384 : decode cL_law 384 = .ok (.iadd, 1) := by decide +kernel
theorem dL_law_385 : decode cL_law 385 = .ok (.iaload, 1) := by decide +kernel
theorem dL_law_386 : decode cL_law 386 = .ok (.invokevirtual 41, 3) := by decide +kernel
theorem dL_law_389 : decode cL_law 389 = .ok (.if_icmp .eq 1252, 3) := by decide +kernel
theorem dL_law_392 : decode cL_law 392 = .ok (.iconst 0, 1) := by decide +kernel
theorem dL_law_393 : decode cL_law 393 = .ok (.ireturn, 1) := by decide +kernel
theorem dL_law_394 : decode cL_law 394 = .ok (.aload_n 1, 1) := by decide +kernel
theorem dL_law_395 : decode cL_law 395 = .ok (.aload_n 0, 1) := by decide +kernel
theorem dL_law_396 : decode cL_law 396 = .ok (.iload_n 3, 1) := by decide +kernel
theorem dL_law_397 : decode cL_law 397 = .ok (.iconst 1, 1) := by decide +kernel
theorem dL_law_398 : decode cL_law 398 = .ok (.iadd, 1) := by decide +kernel
theorem dL_law_399 : decode cL_law 399 = .ok (.iaload, 1) := by decide +kernel
theorem dL_law_400 : decode cL_law 400 = .ok (.aload_n 0, 1) := by decide +kernel
theorem dL_law_401 : decode cL_law 401 = .ok (.iload_n 3, 1) := by decide +kernel
theorem dL_law_402 : decode cL_law 402 = .ok (.iconst 2, 1) := by decide +kernel
theorem dL_law_403 : decode cL_law 403 = .ok (.iadd, 1) := by decide +kernel
theorem dL_law_404 : decode cL_law 404 = .ok (.iaload, 1) := by decide +kernel
theorem dL_law_405 : decode cL_law 405 = .ok (.aload_n 0, 1) := by decide +kernel
theorem dL_law_406 : decode cL_law 406 = .ok (.iload_n 3, 1) := by decide +kernel
theorem dL_law_407 : decode cL_law 407 = .ok (.iconst 3, 1) := by decide +kernel
theorem dL_law_408 : decode cL_law 408 = .ok (.iadd, 1) := by decide +kernel
theorem dL_law_409 : decode cL_law 409 = .ok (.iaload, 1) := by decide +kernel
theorem dL_law_410 : decode cL_law 410 = .ok (.invokevirtual 42, 3) := by decide +kernel
theorem dL_law_413 : decode cL_law 413 = .ok (.aload_n 2, 1) := by decide +kernel
theorem dL_law_414 : decode cL_law 414 = .ok (.aload_n 0, 1) := by decide +kernel
theorem dL_law_415 : decode cL_law 415 = .ok (.iload_n 3, 1) := by decide +kernel
theorem dL_law_416 : decode cL_law 416 = .ok (.iconst 1, 1) := by decide +kernel
theorem dL_law_417 : decode cL_law 417 = .ok (.iadd, 1) := by decide +kernel
theorem dL_law_418 : decode cL_law 418 = .ok (.iaload, 1) := by decide +kernel
theorem dL_law_419 : decode cL_law 419 = .ok (.aload_n 0, 1) := by decide +kernel
theorem dL_law_420 : decode cL_law 420 = .ok (.iload_n 3, 1) := by decide +kernel
theorem dL_law_421 : decode cL_law 421 = .ok (.iconst 2, 1) := by decide +kernel
theorem dL_law_422 : decode cL_law 422 = .ok (.iadd, 1) := by decide +kernel
theorem dL_law_423 : decode cL_law 423 = .ok (.iaload, 1) := by decide +kernel
theorem dL_law_424 : decode cL_law 424 = .ok (.aload_n 0, 1) := by decide +kernel
theorem dL_law_425 : decode cL_law 425 = .ok (.iload_n 3, 1) := by decide +kernel
theorem dL_law_426 : decode cL_law 426 = .ok (.iconst 3, 1) := by decide +kernel
theorem dL_law_427 : decode cL_law 427 = .ok (.iadd, 1) := by decide +kernel
theorem dL_law_428 : decode cL_law 428 = .ok (.iaload, 1) := by decide +kernel
theorem dL_law_429 : decode cL_law 429 = .ok (.invokevirtual 46, 3) := by decide +kernel
theorem dL_law_432 : decode cL_law 432 = .ok (.if_icmp .eq 1209, 3) := by decide +kernel
theorem dL_law_435 : decode cL_law 435 = .ok (.iconst 0, 1) := by decide +kernel
theorem dL_law_436 : decode cL_law 436 = .ok (.ireturn, 1) := by decide +kernel
theorem dL_law_437 : decode cL_law 437 = .ok (.aload_n 1, 1) := by decide +kernel
theorem dL_law_438 : decode cL_law 438 = .ok (.aload_n 0, 1) := by decide +kernel
theorem dL_law_439 : decode cL_law 439 = .ok (.iload_n 3, 1) := by decide +kernel
theorem dL_law_440 : decode cL_law 440 = .ok (.iconst 1, 1) := by decide +kernel
theorem dL_law_441 : decode cL_law 441 = .ok (.iadd, 1) := by decide +kernel
theorem dL_law_442 : decode cL_law 442 = .ok (.iaload, 1) := by decide +kernel
theorem dL_law_443 : decode cL_law 443 = .ok (.aload_n 0, 1) := by decide +kernel
theorem dL_law_444 : decode cL_law 444 = .ok (.iload_n 3, 1) := by decide +kernel
theorem dL_law_445 : decode cL_law 445 = .ok (.iconst 2, 1) := by decide +kernel
theorem dL_law_446 : decode cL_law 446 = .ok (.iadd, 1) := by decide +kernel
theorem dL_law_447 : decode cL_law 447 = .ok (.iaload, 1) := by decide +kernel
theorem dL_law_448 : decode cL_law 448 = .ok (.aload_n 0, 1) := by decide +kernel
theorem dL_law_449 : decode cL_law 449 = .ok (.iload_n 3, 1) := by decide +kernel
theorem dL_law_450 : decode cL_law 450 = .ok (.iconst 3, 1) := by decide +kernel
theorem dL_law_451 : decode cL_law 451 = .ok (.iadd, 1) := by decide +kernel
theorem dL_law_452 : decode cL_law 452 = .ok (.iaload, 1) := by decide +kernel
theorem dL_law_453 : decode cL_law 453 = .ok (.invokevirtual 47, 3) := by decide +kernel
theorem dL_law_456 : decode cL_law 456 = .ok (.aload_n 2, 1) := by decide +kernel
theorem dL_law_457 : decode cL_law 457 = .ok (.aload_n 0, 1) := by decide +kernel
theorem dL_law_458 : decode cL_law 458 = .ok (.iload_n 3, 1) := by decide +kernel
theorem dL_law_459 : decode cL_law 459 = .ok (.iconst 1, 1) := by decide +kernel
theorem dL_law_460 : decode cL_law 460 = .ok (.iadd, 1) := by decide +kernel
theorem dL_law_461 : decode cL_law 461 = .ok (.iaload, 1) := by decide +kernel
theorem dL_law_462 : decode cL_law 462 = .ok (.aload_n 0, 1) := by decide +kernel
theorem dL_law_463 : decode cL_law 463 = .ok (.iload_n 3, 1) := by decide +kernel
theorem dL_law_464 : decode cL_law 464 = .ok (.iconst 2, 1) := by decide +kernel
theorem dL_law_465 : decode cL_law 465 = .ok (.iadd, 1) := by decide +kernel
theorem dL_law_466 : decode cL_law 466 = .ok (.iaload, 1) := by decide +kernel
theorem dL_law_467 : decode cL_law 467 = .ok (.aload_n 0, 1) := by decide +kernel
theorem dL_law_468 : decode cL_law 468 = .ok (.iload_n 3, 1) := by decide +kernel
theorem dL_law_469 : decode cL_law 469 = .ok (.iconst 3, 1) := by decide +kernel
theorem dL_law_470 : decode cL_law 470 = .ok (.iadd, 1) := by decide +kernel
theorem dL_law_471 : decode cL_law 471 = .ok (.iaload, 1) := by decide +kernel
theorem dL_law_472 : decode cL_law 472 = .ok (.invokevirtual 50, 3) := by decide +kernel
theorem dL_law_475 : decode cL_law 475 = .ok (.if_icmp .eq 1166, 3) := by decide +kernel
theorem dL_law_478 : decode cL_law 478 = .ok (.iconst 0, 1) := by decide +kernel
theorem dL_law_479 : decode cL_law 479 = .ok (.ireturn, 1) := by decide +kernel
theorem dL_law_480 : decode cL_law 480 = .ok (.aload_n 1, 1) := by decide +kernel
theorem dL_law_481 : decode cL_law 481 = .ok (.aload_n 0, 1) := by decide +kernel
theorem dL_law_482 : decode cL_law 482 = .ok (.iload_n 3, 1) := by decide +kernel
theorem dL_law_483 : decode cL_law 483 = .ok (.iconst 1, 1) := by decide +kernel
theorem dL_law_484 : decode cL_law 484 = .ok (.iadd, 1) := by decide +kernel
theorem dL_law_485 : decode cL_law 485 = .ok (.iaload, 1) := by decide +kernel
theorem dL_law_486 : decode cL_law 486 = .ok (.invokevirtual 51, 3) := by decide +kernel
theorem dL_law_489 : decode cL_law 489 = .ok (.aload_n 2, 1) := by decide +kernel
theorem dL_law_490 : decode cL_law 490 = .ok (.aload_n 0, 1) := by decide +kernel
theorem dL_law_491 : decode cL_law 491 = .ok (.iload_n 3, 1) := by decide +kernel
theorem dL_law_492 : decode cL_law 492 = .ok (.iconst 1, 1) := by decide +kernel
theorem dL_law_493 : decode cL_law 493 = .ok (.iadd, 1) := by decide +kernel
theorem dL_law_494 : decode cL_law 494 = .ok (.iaload, 1) := by decide +kernel
theorem dL_law_495 : decode cL_law 495 = .ok (.invokevirtual 54, 3) := by decide +kernel
theorem dL_law_498 : decode cL_law 498 = .ok (.if_icmp .eq 1143, 3) := by decide +kernel
theorem dL_law_501 : decode cL_law 501 = .ok (.iconst 0, 1) := by decide +kernel
theorem dL_law_502 : decode cL_law 502 = .ok (.ireturn, 1) := by decide +kernel
theorem dL_law_503 : decode cL_law 503 = .ok (.aload_n 1, 1) := by decide +kernel
theorem dL_law_504 : decode cL_law 504 = .ok (.invokevirtual 55, 3) := by decide +kernel
theorem dL_law_507 : decode cL_law 507 = .ok (.aload_n 2, 1) := by decide +kernel
theorem dL_law_508 : decode cL_law 508 = .ok (.invokevirtual 58, 3) := by decide +kernel
theorem dL_law_511 : decode cL_law 511 = .ok (.if_icmp .eq 1130, 3) := by decide +kernel
theorem dL_law_514 : decode cL_law 514 = .ok (.iconst 0, 1) := by decide +kernel
theorem dL_law_515 : decode cL_law 515 = .ok (.ireturn, 1) := by decide +kernel
theorem dL_law_516 : decode cL_law 516 = .ok (.aload_n 1, 1) := by decide +kernel
theorem dL_law_517 : decode cL_law 517 = .ok (.aload_n 0, 1) := by decide +kernel
theorem dL_law_518 : decode cL_law 518 = .ok (.iload_n 3, 1) := by decide +kernel
theorem dL_law_519 : decode cL_law 519 = .ok (.iconst 1, 1) := by decide +kernel
theorem dL_law_520 : decode cL_law 520 = .ok (.iadd, 1) := by decide +kernel
theorem dL_law_521 : decode cL_law 521 = .ok (.iaload, 1) := by decide +kernel
theorem dL_law_522 : decode cL_law 522 = .ok (.invokevirtual 59, 3) := by decide +kernel
theorem dL_law_525 : decode cL_law 525 = .ok (.aload_n 2, 1) := by decide +kernel
theorem dL_law_526 : decode cL_law 526 = .ok (.aload_n 0, 1) := by decide +kernel
theorem dL_law_527 : decode cL_law 527 = .ok (.iload_n 3, 1) := by decide +kernel
theorem dL_law_528 : decode cL_law 528 = .ok (.iconst 1, 1) := by decide +kernel
theorem dL_law_529 : decode cL_law 529 = .ok (.iadd, 1) := by decide +kernel
theorem dL_law_530 : decode cL_law 530 = .ok (.iaload, 1) := by decide +kernel
theorem dL_law_531 : decode cL_law 531 = .ok (.invokevirtual 62, 3) := by decide +kernel
theorem dL_law_534 : decode cL_law 534 = .ok (.if_icmp .eq 1107, 3) := by decide +kernel
theorem dL_law_537 : decode cL_law 537 = .ok (.iconst 0, 1) := by decide +kernel
theorem dL_law_538 : decode cL_law 538 = .ok (.ireturn, 1) := by decide +kernel
theorem dL_law_539 : decode cL_law 539 = .ok (.aload_n 1, 1) := by decide +kernel
theorem dL_law_540 : decode cL_law 540 = .ok (.aload_n 0, 1) := by decide +kernel
theorem dL_law_541 : decode cL_law 541 = .ok (.iload_n 3, 1) := by decide +kernel
theorem dL_law_542 : decode cL_law 542 = .ok (.iconst 1, 1) := by decide +kernel
theorem dL_law_543 : decode cL_law 543 = .ok (.iadd, 1) := by decide +kernel
theorem dL_law_544 : decode cL_law 544 = .ok (.iaload, 1) := by decide +kernel
theorem dL_law_545 : decode cL_law 545 = .ok (.aload_n 0, 1) := by decide +kernel
theorem dL_law_546 : decode cL_law 546 = .ok (.iload_n 3, 1) := by decide +kernel
theorem dL_law_547 : decode cL_law 547 = .ok (.iconst 2, 1) := by decide +kernel
theorem dL_law_548 : decode cL_law 548 = .ok (.iadd, 1) := by decide +kernel
theorem dL_law_549 : decode cL_law 549 = .ok (.iaload, 1) := by decide +kernel
theorem dL_law_550 : decode cL_law 550 = .ok (.invokevirtual 63, 3) := by decide +kernel
theorem dL_law_553 : decode cL_law 553 = .ok (.aload_n 2, 1) := by decide +kernel
theorem dL_law_554 : decode cL_law 554 = .ok (.aload_n 0, 1) := by decide +kernel
theorem dL_law_555 : decode cL_law 555 = .ok (.iload_n 3, 1) := by decide +kernel
theorem dL_law_556 : decode cL_law 556 = .ok (.iconst 1, 1) := by decide +kernel
theorem dL_law_557 : decode cL_law 557 = .ok (.iadd, 1) := by decide +kernel
theorem dL_law_558 : decode cL_law 558 = .ok (.iaload, 1) := by decide +kernel
theorem dL_law_559 : decode cL_law 559 = .ok (.aload_n 0, 1) := by decide +kernel
theorem dL_law_560 : decode cL_law 560 = .ok (.iload_n 3, 1) := by decide +kernel
theorem dL_law_561 : decode cL_law 561 = .ok (.iconst 2, 1) := by decide +kernel
theorem dL_law_562 : decode cL_law 562 = .ok (.iadd, 1) := by decide +kernel
theorem dL_law_563 : decode cL_law 563 = .ok (.iaload, 1) := by decide +kernel
theorem dL_law_564 : decode cL_law 564 = .ok (.invokevirtual 67, 3) := by decide +kernel
theorem dL_law_567 : decode cL_law 567 = .ok (.if_icmp .eq 1074, 3) := by decide +kernel
theorem dL_law_570 : decode cL_law 570 = .ok (.iconst 0, 1) := by decide +kernel
theorem dL_law_571 : decode cL_law 571 = .ok (.ireturn, 1) := by decide +kernel
theorem dL_law_572 : decode cL_law 572 = .ok (.aload_n 1, 1) := by decide +kernel
theorem dL_law_573 : decode cL_law 573 = .ok (.aload_n 0, 1) := by decide +kernel
theorem dL_law_574 : decode cL_law 574 = .ok (.iload_n 3, 1) := by decide +kernel
theorem dL_law_575 : decode cL_law 575 = .ok (.iconst 1, 1) := by decide +kernel
theorem dL_law_576 : decode cL_law 576 = .ok (.iadd, 1) := by decide +kernel
theorem dL_law_577 : decode cL_law 577 = .ok (.iaload, 1) := by decide +kernel
theorem dL_law_578 : decode cL_law 578 = .ok (.invokevirtual 68, 3) := by decide +kernel
theorem dL_law_581 : decode cL_law 581 = .ok (.aload_n 2, 1) := by decide +kernel
theorem dL_law_582 : decode cL_law 582 = .ok (.aload_n 0, 1) := by decide +kernel
theorem dL_law_583 : decode cL_law 583 = .ok (.iload_n 3, 1) := by decide +kernel
theorem dL_law_584 : decode cL_law 584 = .ok (.iconst 1, 1) := by decide +kernel
theorem dL_law_585 : decode cL_law 585 = .ok (.iadd, 1) := by decide +kernel
theorem dL_law_586 : decode cL_law 586 = .ok (.iaload, 1) := by decide +kernel
theorem dL_law_587 : decode cL_law 587 = .ok (.invokevirtual 71, 3) := by decide +kernel
theorem dL_law_590 : decode cL_law 590 = .ok (.if_icmp .eq 1051, 3) := by decide +kernel
theorem dL_law_593 : decode cL_law 593 = .ok (.iconst 0, 1) := by decide +kernel
theorem dL_law_594 : decode cL_law 594 = .ok (.ireturn, 1) := by decide +kernel
theorem dL_law_595 : decode cL_law 595 = .ok (.aload_n 1, 1) := by decide +kernel
theorem dL_law_596 : decode cL_law 596 = .ok (.aload_n 0, 1) := by decide +kernel
theorem dL_law_597 : decode cL_law 597 = .ok (.iload_n 3, 1) := by decide +kernel
theorem dL_law_598 : decode cL_law 598 = .ok (.iconst 1, 1) := by decide +kernel
theorem dL_law_599 : decode cL_law 599 = .ok (.iadd, 1) := by decide +kernel
theorem dL_law_600 : decode cL_law 600 = .ok (.iaload, 1) := by decide +kernel
theorem dL_law_601 : decode cL_law 601 = .ok (.aload_n 0, 1) := by decide +kernel
theorem dL_law_602 : decode cL_law 602 = .ok (.iload_n 3, 1) := by decide +kernel
theorem dL_law_603 : decode cL_law 603 = .ok (.iconst 2, 1) := by decide +kernel
theorem dL_law_604 : decode cL_law 604 = .ok (.iadd, 1) := by decide +kernel
theorem dL_law_605 : decode cL_law 605 = .ok (.iaload, 1) := by decide +kernel
theorem dL_law_606 : decode cL_law 606 = .ok (.aload_n 0, 1) := by decide +kernel
theorem dL_law_607 : decode cL_law 607 = .ok (.iload_n 3, 1) := by decide +kernel
theorem dL_law_608 : decode cL_law 608 = .ok (.iconst 3, 1) := by decide +kernel
theorem dL_law_609 : decode cL_law 609 = .ok (.iadd, 1) := by decide +kernel
theorem dL_law_610 : decode cL_law 610 = .ok (.iaload, 1) := by decide +kernel
theorem dL_law_611 : decode cL_law 611 = .ok (.invokevirtual 72, 3) := by decide +kernel
theorem dL_law_614 : decode cL_law 614 = .ok (.aload_n 2, 1) := by decide +kernel
theorem dL_law_615 : decode cL_law 615 = .ok (.aload_n 0, 1) := by decide +kernel
theorem dL_law_616 : decode cL_law 616 = .ok (.iload_n 3, 1) := by decide +kernel
theorem dL_law_617 : decode cL_law 617 = .ok (.iconst 1, 1) := by decide +kernel
theorem dL_law_618 : decode cL_law 618 = .ok (.iadd, 1) := by decide +kernel
theorem dL_law_619 : decode cL_law 619 = .ok (.iaload, 1) := by decide +kernel
theorem dL_law_620 : decode cL_law 620 = .ok (.aload_n 0, 1) := by decide +kernel
theorem dL_law_621 : decode cL_law 621 = .ok (.iload_n 3, 1) := by decide +kernel
theorem dL_law_622 : decode cL_law 622 = .ok (.iconst 2, 1) := by decide +kernel
theorem dL_law_623 : decode cL_law 623 = .ok (.iadd, 1) := by decide +kernel
theorem dL_law_624 : decode cL_law 624 = .ok (.iaload, 1) := by decide +kernel
theorem dL_law_625 : decode cL_law 625 = .ok (.aload_n 0, 1) := by decide +kernel
theorem dL_law_626 : decode cL_law 626 = .ok (.iload_n 3, 1) := by decide +kernel
theorem dL_law_627 : decode cL_law 627 = .ok (.iconst 3, 1) := by decide +kernel
theorem dL_law_628 : decode cL_law 628 = .ok (.iadd, 1) := by decide +kernel
theorem dL_law_629 : decode cL_law 629 = .ok (.iaload, 1) := by decide +kernel
theorem dL_law_630 : decode cL_law 630 = .ok (.invokevirtual 75, 3) := by decide +kernel
theorem dL_law_633 : decode cL_law 633 = .ok (.if_icmp .eq 1008, 3) := by decide +kernel
theorem dL_law_636 : decode cL_law 636 = .ok (.iconst 0, 1) := by decide +kernel
theorem dL_law_637 : decode cL_law 637 = .ok (.ireturn, 1) := by decide +kernel
theorem dL_law_638 : decode cL_law 638 = .ok (.aload_n 1, 1) := by decide +kernel
theorem dL_law_639 : decode cL_law 639 = .ok (.aload_n 0, 1) := by decide +kernel
theorem dL_law_640 : decode cL_law 640 = .ok (.iload_n 3, 1) := by decide +kernel
theorem dL_law_641 : decode cL_law 641 = .ok (.iconst 1, 1) := by decide +kernel
theorem dL_law_642 : decode cL_law 642 = .ok (.iadd, 1) := by decide +kernel
theorem dL_law_643 : decode cL_law 643 = .ok (.iaload, 1) := by decide +kernel
theorem dL_law_644 : decode cL_law 644 = .ok (.aload_n 0, 1) := by decide +kernel
theorem dL_law_645 : decode cL_law 645 = .ok (.iload_n 3, 1) := by decide +kernel
theorem dL_law_646 : decode cL_law 646 = .ok (.iconst 2, 1) := by decide +kernel
theorem dL_law_647 : decode cL_law 647 = .ok (.iadd, 1) := by decide +kernel
theorem dL_law_648 : decode cL_law 648 = .ok (.iaload, 1) := by decide +kernel
theorem dL_law_649 : decode cL_law 649 = .ok (.invokevirtual 76, 3) := by decide +kernel
theorem dL_law_652 : decode cL_law 652 = .ok (.aload_n 2, 1) := by decide +kernel
theorem dL_law_653 : decode cL_law 653 = .ok (.aload_n 0, 1) := by decide +kernel
theorem dL_law_654 : decode cL_law 654 = .ok (.iload_n 3, 1) := by decide +kernel
theorem dL_law_655 : decode cL_law 655 = .ok (.iconst 1, 1) := by decide +kernel
theorem dL_law_656 : decode cL_law 656 = .ok (.iadd, 1) := by decide +kernel
theorem dL_law_657 : decode cL_law 657 = .ok (.iaload, 1) := by decide +kernel
theorem dL_law_658 : decode cL_law 658 = .ok (.aload_n 0, 1) := by decide +kernel
theorem dL_law_659 : decode cL_law 659 = .ok (.iload_n 3, 1) := by decide +kernel
theorem dL_law_660 : decode cL_law 660 = .ok (.iconst 2, 1) := by decide +kernel
theorem dL_law_661 : decode cL_law 661 = .ok (.iadd, 1) := by decide +kernel
theorem dL_law_662 : decode cL_law 662 = .ok (.iaload, 1) := by decide +kernel
theorem dL_law_663 : decode cL_law 663 = .ok (.invokevirtual 80, 3) := by decide +kernel
theorem dL_law_666 : decode cL_law 666 = .ok (.lcmp, 1) := by decide +kernel
theorem dL_law_667 : decode cL_law 667 = .ok (.ifCond .eq 974, 3) := by decide +kernel
theorem dL_law_670 : decode cL_law 670 = .ok (.iconst 0, 1) := by decide +kernel
theorem dL_law_671 : decode cL_law 671 = .ok (.ireturn, 1) := by decide +kernel
theorem dL_law_672 : decode cL_law 672 = .ok (.aload_n 1, 1) := by decide +kernel
theorem dL_law_673 : decode cL_law 673 = .ok (.aload_n 0, 1) := by decide +kernel
theorem dL_law_674 : decode cL_law 674 = .ok (.iload_n 3, 1) := by decide +kernel
theorem dL_law_675 : decode cL_law 675 = .ok (.iconst 1, 1) := by decide +kernel
theorem dL_law_676 : decode cL_law 676 = .ok (.iadd, 1) := by decide +kernel
theorem dL_law_677 : decode cL_law 677 = .ok (.iaload, 1) := by decide +kernel
theorem dL_law_678 : decode cL_law 678 = .ok (.aload_n 0, 1) := by decide +kernel
theorem dL_law_679 : decode cL_law 679 = .ok (.iload_n 3, 1) := by decide +kernel
theorem dL_law_680 : decode cL_law 680 = .ok (.iconst 2, 1) := by decide +kernel
theorem dL_law_681 : decode cL_law 681 = .ok (.iadd, 1) := by decide +kernel
theorem dL_law_682 : decode cL_law 682 = .ok (.iaload, 1) := by decide +kernel
theorem dL_law_683 : decode cL_law 683 = .ok (.invokevirtual 81, 3) := by decide +kernel
theorem dL_law_686 : decode cL_law 686 = .ok (.aload_n 2, 1) := by decide +kernel
theorem dL_law_687 : decode cL_law 687 = .ok (.aload_n 0, 1) := by decide +kernel
theorem dL_law_688 : decode cL_law 688 = .ok (.iload_n 3, 1) := by decide +kernel
theorem dL_law_689 : decode cL_law 689 = .ok (.iconst 1, 1) := by decide +kernel
theorem dL_law_690 : decode cL_law 690 = .ok (.iadd, 1) := by decide +kernel
theorem dL_law_691 : decode cL_law 691 = .ok (.iaload, 1) := by decide +kernel
theorem dL_law_692 : decode cL_law 692 = .ok (.aload_n 0, 1) := by decide +kernel
theorem dL_law_693 : decode cL_law 693 = .ok (.iload_n 3, 1) := by decide +kernel
theorem dL_law_694 : decode cL_law 694 = .ok (.iconst 2, 1) := by decide +kernel
theorem dL_law_695 : decode cL_law 695 = .ok (.iadd, 1) := by decide +kernel
theorem dL_law_696 : decode cL_law 696 = .ok (.iaload, 1) := by decide +kernel
theorem dL_law_697 : decode cL_law 697 = .ok (.invokevirtual 84, 3) := by decide +kernel
theorem dL_law_700 : decode cL_law 700 = .ok (.if_icmp .eq 941, 3) := by decide +kernel
theorem dL_law_703 : decode cL_law 703 = .ok (.iconst 0, 1) := by decide +kernel
theorem dL_law_704 : decode cL_law 704 = .ok (.ireturn, 1) := by decide +kernel
theorem dL_law_705 : decode cL_law 705 = .ok (.aload_n 1, 1) := by decide +kernel
theorem dL_law_706 : decode cL_law 706 = .ok (.aload_n 0, 1) := by decide +kernel
theorem dL_law_707 : decode cL_law 707 = .ok (.iload_n 3, 1) := by decide +kernel
theorem dL_law_708 : decode cL_law 708 = .ok (.iconst 1, 1) := by decide +kernel
theorem dL_law_709 : decode cL_law 709 = .ok (.iadd, 1) := by decide +kernel
theorem dL_law_710 : decode cL_law 710 = .ok (.iaload, 1) := by decide +kernel
theorem dL_law_711 : decode cL_law 711 = .ok (.invokevirtual 85, 3) := by decide +kernel
theorem dL_law_714 : decode cL_law 714 = .ok (.aload_n 2, 1) := by decide +kernel
theorem dL_law_715 : decode cL_law 715 = .ok (.aload_n 0, 1) := by decide +kernel
theorem dL_law_716 : decode cL_law 716 = .ok (.iload_n 3, 1) := by decide +kernel
theorem dL_law_717 : decode cL_law 717 = .ok (.iconst 1, 1) := by decide +kernel
theorem dL_law_718 : decode cL_law 718 = .ok (.iadd, 1) := by decide +kernel
theorem dL_law_719 : decode cL_law 719 = .ok (.iaload, 1) := by decide +kernel
theorem dL_law_720 : decode cL_law 720 = .ok (.invokevirtual 88, 3) := by decide +kernel
theorem dL_law_723 : decode cL_law 723 = .ok (.if_icmp .eq 918, 3) := by decide +kernel
theorem dL_law_726 : decode cL_law 726 = .ok (.iconst 0, 1) := by decide +kernel
theorem dL_law_727 : decode cL_law 727 = .ok (.ireturn, 1) := by decide +kernel
theorem dL_law_728 : decode cL_law 728 = .ok (.aload_n 1, 1) := by decide +kernel
theorem dL_law_729 : decode cL_law 729 = .ok (.aload_n 0, 1) := by decide +kernel
theorem dL_law_730 : decode cL_law 730 = .ok (.iload_n 3, 1) := by decide +kernel
theorem dL_law_731 : decode cL_law 731 = .ok (.iconst 1, 1) := by decide +kernel
theorem dL_law_732 : decode cL_law 732 = .ok (.iadd, 1) := by decide +kernel
theorem dL_law_733 : decode cL_law 733 = .ok (.iaload, 1) := by decide +kernel
theorem dL_law_734 : decode cL_law 734 = .ok (.aload_n 0, 1) := by decide +kernel
theorem dL_law_735 : decode cL_law 735 = .ok (.iload_n 3, 1) := by decide +kernel
theorem dL_law_736 : decode cL_law 736 = .ok (.iconst 2, 1) := by decide +kernel
theorem dL_law_737 : decode cL_law 737 = .ok (.iadd, 1) := by decide +kernel
theorem dL_law_738 : decode cL_law 738 = .ok (.iaload, 1) := by decide +kernel
theorem dL_law_739 : decode cL_law 739 = .ok (.aload_n 0, 1) := by decide +kernel
theorem dL_law_740 : decode cL_law 740 = .ok (.iload_n 3, 1) := by decide +kernel
theorem dL_law_741 : decode cL_law 741 = .ok (.iconst 3, 1) := by decide +kernel
theorem dL_law_742 : decode cL_law 742 = .ok (.iadd, 1) := by decide +kernel
theorem dL_law_743 : decode cL_law 743 = .ok (.iaload, 1) := by decide +kernel
theorem dL_law_744 : decode cL_law 744 = .ok (.invokevirtual 89, 3) := by decide +kernel
theorem dL_law_747 : decode cL_law 747 = .ok (.aload_n 2, 1) := by decide +kernel
theorem dL_law_748 : decode cL_law 748 = .ok (.aload_n 0, 1) := by decide +kernel
theorem dL_law_749 : decode cL_law 749 = .ok (.iload_n 3, 1) := by decide +kernel
theorem dL_law_750 : decode cL_law 750 = .ok (.iconst 1, 1) := by decide +kernel
theorem dL_law_751 : decode cL_law 751 = .ok (.iadd, 1) := by decide +kernel
theorem dL_law_752 : decode cL_law 752 = .ok (.iaload, 1) := by decide +kernel
theorem dL_law_753 : decode cL_law 753 = .ok (.aload_n 0, 1) := by decide +kernel
theorem dL_law_754 : decode cL_law 754 = .ok (.iload_n 3, 1) := by decide +kernel
theorem dL_law_755 : decode cL_law 755 = .ok (.iconst 2, 1) := by decide +kernel
theorem dL_law_756 : decode cL_law 756 = .ok (.iadd, 1) := by decide +kernel
theorem dL_law_757 : decode cL_law 757 = .ok (.iaload, 1) := by decide +kernel
theorem dL_law_758 : decode cL_law 758 = .ok (.aload_n 0, 1) := by decide +kernel
theorem dL_law_759 : decode cL_law 759 = .ok (.iload_n 3, 1) := by decide +kernel
theorem dL_law_760 : decode cL_law 760 = .ok (.iconst 3, 1) := by decide +kernel
theorem dL_law_761 : decode cL_law 761 = .ok (.iadd, 1) := by decide +kernel
theorem dL_law_762 : decode cL_law 762 = .ok (.iaload, 1) := by decide +kernel
theorem dL_law_763 : decode cL_law 763 = .ok (.invokevirtual 92, 3) := by decide +kernel
theorem dL_law_766 : decode cL_law 766 = .ok (.if_icmp .eq 875, 3) := by decide +kernel
theorem dL_law_769 : decode cL_law 769 = .ok (.iconst 0, 1) := by decide +kernel
theorem dL_law_770 : decode cL_law 770 = .ok (.ireturn, 1) := by decide +kernel
theorem dL_law_771 : decode cL_law 771 = .ok (.aload_n 1, 1) := by decide +kernel
theorem dL_law_772 : decode cL_law 772 = .ok (.aload_n 0, 1) := by decide +kernel
theorem dL_law_773 : decode cL_law 773 = .ok (.iload_n 3, 1) := by decide +kernel
theorem dL_law_774 : decode cL_law 774 = .ok (.iconst 1, 1) := by decide +kernel
theorem dL_law_775 : decode cL_law 775 = .ok (.iadd, 1) := by decide +kernel
theorem dL_law_776 : decode cL_law 776 = .ok (.iaload, 1) := by decide +kernel
theorem dL_law_777 : decode cL_law 777 = .ok (.aload_n 0, 1) := by decide +kernel
theorem dL_law_778 : decode cL_law 778 = .ok (.iload_n 3, 1) := by decide +kernel
theorem dL_law_779 : decode cL_law 779 = .ok (.iconst 2, 1) := by decide +kernel
theorem dL_law_780 : decode cL_law 780 = .ok (.iadd, 1) := by decide +kernel
theorem dL_law_781 : decode cL_law 781 = .ok (.iaload, 1) := by decide +kernel
theorem dL_law_782 : decode cL_law 782 = .ok (.invokevirtual 93, 3) := by decide +kernel
theorem dL_law_785 : decode cL_law 785 = .ok (.aload_n 2, 1) := by decide +kernel
theorem dL_law_786 : decode cL_law 786 = .ok (.aload_n 0, 1) := by decide +kernel
theorem dL_law_787 : decode cL_law 787 = .ok (.iload_n 3, 1) := by decide +kernel
theorem dL_law_788 : decode cL_law 788 = .ok (.iconst 1, 1) := by decide +kernel
theorem dL_law_789 : decode cL_law 789 = .ok (.iadd, 1) := by decide +kernel
theorem dL_law_790 : decode cL_law 790 = .ok (.iaload, 1) := by decide +kernel
theorem dL_law_791 : decode cL_law 791 = .ok (.aload_n 0, 1) := by decide +kernel
theorem dL_law_792 : decode cL_law 792 = .ok (.iload_n 3, 1) := by decide +kernel
theorem dL_law_793 : decode cL_law 793 = .ok (.iconst 2, 1) := by decide +kernel
theorem dL_law_794 : decode cL_law 794 = .ok (.iadd, 1) := by decide +kernel
theorem dL_law_795 : decode cL_law 795 = .ok (.iaload, 1) := by decide +kernel
theorem dL_law_796 : decode cL_law 796 = .ok (.invokevirtual 96, 3) := by decide +kernel
theorem dL_law_799 : decode cL_law 799 = .ok (.if_icmp .eq 842, 3) := by decide +kernel
theorem dL_law_802 : decode cL_law 802 = .ok (.iconst 0, 1) := by decide +kernel
theorem dL_law_803 : decode cL_law 803 = .ok (.ireturn, 1) := by decide +kernel
theorem dL_law_804 : decode cL_law 804 = .ok (.aload_n 1, 1) := by decide +kernel
theorem dL_law_805 : decode cL_law 805 = .ok (.aload_n 0, 1) := by decide +kernel
theorem dL_law_806 : decode cL_law 806 = .ok (.iload_n 3, 1) := by decide +kernel
theorem dL_law_807 : decode cL_law 807 = .ok (.iconst 1, 1) := by decide +kernel
theorem dL_law_808 : decode cL_law 808 = .ok (.iadd, 1) := by decide +kernel
theorem dL_law_809 : decode cL_law 809 = .ok (.iaload, 1) := by decide +kernel
theorem dL_law_810 : decode cL_law 810 = .ok (.aload_n 0, 1) := by decide +kernel
theorem dL_law_811 : decode cL_law 811 = .ok (.iload_n 3, 1) := by decide +kernel
theorem dL_law_812 : decode cL_law 812 = .ok (.iconst 2, 1) := by decide +kernel
theorem dL_law_813 : decode cL_law 813 = .ok (.iadd, 1) := by decide +kernel
theorem dL_law_814 : decode cL_law 814 = .ok (.iaload, 1) := by decide +kernel
theorem dL_law_815 : decode cL_law 815 = .ok (.i2l, 1) := by decide +kernel
theorem dL_law_816 : decode cL_law 816 = .ok (.bipush 32, 2) := by decide +kernel
theorem dL_law_818 : decode cL_law 818 = .ok (.lshl, 1) := by decide +kernel
theorem dL_law_819 : decode cL_law 819 = .ok (.aload_n 0, 1) := by decide +kernel
theorem dL_law_820 : decode cL_law 820 = .ok (.iload_n 3, 1) := by decide +kernel
theorem dL_law_821 : decode cL_law 821 = .ok (.iconst 3, 1) := by decide +kernel
theorem dL_law_822 : decode cL_law 822 = .ok (.iadd, 1) := by decide +kernel
theorem dL_law_823 : decode cL_law 823 = .ok (.iaload, 1) := by decide +kernel
theorem dL_law_824 : decode cL_law 824 = .ok (.i2l, 1) := by decide +kernel
theorem dL_law_825 : decode cL_law 825 = .ok (.ldc2_w 97, 3) := by decide +kernel
theorem dL_law_828 : decode cL_law 828 = .ok (.land, 1) := by decide +kernel
theorem dL_law_829 : decode cL_law 829 = .ok (.lor, 1) := by decide +kernel
theorem dL_law_830 : decode cL_law 830 = .ok (.invokevirtual 99, 3) := by decide +kernel
theorem dL_law_833 : decode cL_law 833 = .ok (.aload_n 2, 1) := by decide +kernel
theorem dL_law_834 : decode cL_law 834 = .ok (.aload_n 0, 1) := by decide +kernel
theorem dL_law_835 : decode cL_law 835 = .ok (.iload_n 3, 1) := by decide +kernel
theorem dL_law_836 : decode cL_law 836 = .ok (.iconst 1, 1) := by decide +kernel
theorem dL_law_837 : decode cL_law 837 = .ok (.iadd, 1) := by decide +kernel
theorem dL_law_838 : decode cL_law 838 = .ok (.iaload, 1) := by decide +kernel
theorem dL_law_839 : decode cL_law 839 = .ok (.aload_n 0, 1) := by decide +kernel
theorem dL_law_840 : decode cL_law 840 = .ok (.iload_n 3, 1) := by decide +kernel
theorem dL_law_841 : decode cL_law 841 = .ok (.iconst 2, 1) := by decide +kernel
theorem dL_law_842 : decode cL_law 842 = .ok (.iadd, 1) := by decide +kernel
theorem dL_law_843 : decode cL_law 843 = .ok (.iaload, 1) := by decide +kernel
theorem dL_law_844 : decode cL_law 844 = .ok (.i2l, 1) := by decide +kernel
theorem dL_law_845 : decode cL_law 845 = .ok (.bipush 32, 2) := by decide +kernel
theorem dL_law_847 : decode cL_law 847 = .ok (.lshl, 1) := by decide +kernel
theorem dL_law_848 : decode cL_law 848 = .ok (.aload_n 0, 1) := by decide +kernel
theorem dL_law_849 : decode cL_law 849 = .ok (.iload_n 3, 1) := by decide +kernel
theorem dL_law_850 : decode cL_law 850 = .ok (.iconst 3, 1) := by decide +kernel
theorem dL_law_851 : decode cL_law 851 = .ok (.iadd, 1) := by decide +kernel
theorem dL_law_852 : decode cL_law 852 = .ok (.iaload, 1) := by decide +kernel
theorem dL_law_853 : decode cL_law 853 = .ok (.i2l, 1) := by decide +kernel
theorem dL_law_854 : decode cL_law 854 = .ok (.ldc2_w 97, 3) := by decide +kernel
theorem dL_law_857 : decode cL_law 857 = .ok (.land, 1) := by decide +kernel
theorem dL_law_858 : decode cL_law 858 = .ok (.lor, 1) := by decide +kernel
theorem dL_law_859 : decode cL_law 859 = .ok (.invokevirtual 103, 3) := by decide +kernel
theorem dL_law_862 : decode cL_law 862 = .ok (.if_icmp .eq 779, 3) := by decide +kernel
theorem dL_law_865 : decode cL_law 865 = .ok (.iconst 0, 1) := by decide +kernel
theorem dL_law_866 : decode cL_law 866 = .ok (.ireturn, 1) := by decide +kernel
theorem dL_law_867 : decode cL_law 867 = .ok (.aload_n 1, 1) := by decide +kernel
theorem dL_law_868 : decode cL_law 868 = .ok (.aload_n 0, 1) := by decide +kernel
theorem dL_law_869 : decode cL_law 869 = .ok (.iload_n 3, 1) := by decide +kernel
theorem dL_law_870 : decode cL_law 870 = .ok (.iconst 1, 1) := by decide +kernel
theorem dL_law_871 : decode cL_law 871 = .ok (.iadd, 1) := by decide +kernel
theorem dL_law_872 : decode cL_law 872 = .ok (.iaload, 1) := by decide +kernel
theorem dL_law_873 : decode cL_law 873 = .ok (.aload_n 0, 1) := by decide +kernel
theorem dL_law_874 : decode cL_law 874 = .ok (.iload_n 3, 1) := by decide +kernel
theorem dL_law_875 : decode cL_law 875 = .ok (.iconst 2, 1) := by decide +kernel
theorem dL_law_876 : decode cL_law 876 = .ok (.iadd, 1) := by decide +kernel
theorem dL_law_877 : decode cL_law 877 = .ok (.iaload, 1) := by decide +kernel
theorem dL_law_878 : decode cL_law 878 = .ok (.invokevirtual 104, 3) := by decide +kernel
theorem dL_law_881 : decode cL_law 881 = .ok (.aload_n 2, 1) := by decide +kernel
theorem dL_law_882 : decode cL_law 882 = .ok (.aload_n 0, 1) := by decide +kernel
theorem dL_law_883 : decode cL_law 883 = .ok (.iload_n 3, 1) := by decide +kernel
theorem dL_law_884 : decode cL_law 884 = .ok (.iconst 1, 1) := by decide +kernel
theorem dL_law_885 : decode cL_law 885 = .ok (.iadd, 1) := by decide +kernel
theorem dL_law_886 : decode cL_law 886 = .ok (.iaload, 1) := by decide +kernel
theorem dL_law_887 : decode cL_law 887 = .ok (.aload_n 0, 1) := by decide +kernel
theorem dL_law_888 : decode cL_law 888 = .ok (.iload_n 3, 1) := by decide +kernel
theorem dL_law_889 : decode cL_law 889 = .ok (.iconst 2, 1) := by decide +kernel
theorem dL_law_890 : decode cL_law 890 = .ok (.iadd, 1) := by decide +kernel
theorem dL_law_891 : decode cL_law 891 = .ok (.iaload, 1) := by decide +kernel
theorem dL_law_892 : decode cL_law 892 = .ok (.invokevirtual 107, 3) := by decide +kernel
theorem dL_law_895 : decode cL_law 895 = .ok (.if_icmp .eq 746, 3) := by decide +kernel
theorem dL_law_898 : decode cL_law 898 = .ok (.iconst 0, 1) := by decide +kernel
theorem dL_law_899 : decode cL_law 899 = .ok (.ireturn, 1) := by decide +kernel
theorem dL_law_900 : decode cL_law 900 = .ok (.aload_n 1, 1) := by decide +kernel
theorem dL_law_901 : decode cL_law 901 = .ok (.aload_n 0, 1) := by decide +kernel
theorem dL_law_902 : decode cL_law 902 = .ok (.iload_n 3, 1) := by decide +kernel
theorem dL_law_903 : decode cL_law 903 = .ok (.iconst 1, 1) := by decide +kernel
theorem dL_law_904 : decode cL_law 904 = .ok (.iadd, 1) := by decide +kernel
theorem dL_law_905 : decode cL_law 905 = .ok (.iaload, 1) := by decide +kernel
theorem dL_law_906 : decode cL_law 906 = .ok (.aload_n 0, 1) := by decide +kernel
theorem dL_law_907 : decode cL_law 907 = .ok (.iload_n 3, 1) := by decide +kernel
theorem dL_law_908 : decode cL_law 908 = .ok (.iconst 2, 1) := by decide +kernel
theorem dL_law_909 : decode cL_law 909 = .ok (.iadd, 1) := by decide +kernel
theorem dL_law_910 : decode cL_law 910 = .ok (.iaload, 1) := by decide +kernel
theorem dL_law_911 : decode cL_law 911 = .ok (.invokevirtual 108, 3) := by decide +kernel
theorem dL_law_914 : decode cL_law 914 = .ok (.aload_n 2, 1) := by decide +kernel
theorem dL_law_915 : decode cL_law 915 = .ok (.aload_n 0, 1) := by decide +kernel
theorem dL_law_916 : decode cL_law 916 = .ok (.iload_n 3, 1) := by decide +kernel
theorem dL_law_917 : decode cL_law 917 = .ok (.iconst 1, 1) := by decide +kernel
theorem dL_law_918 : decode cL_law 918 = .ok (.iadd, 1) := by decide +kernel
theorem dL_law_919 : decode cL_law 919 = .ok (.iaload, 1) := by decide +kernel
theorem dL_law_920 : decode cL_law 920 = .ok (.aload_n 0, 1) := by decide +kernel
theorem dL_law_921 : decode cL_law 921 = .ok (.iload_n 3, 1) := by decide +kernel
theorem dL_law_922 : decode cL_law 922 = .ok (.iconst 2, 1) := by decide +kernel
theorem dL_law_923 : decode cL_law 923 = .ok (.iadd, 1) := by decide +kernel
theorem dL_law_924 : decode cL_law 924 = .ok (.iaload, 1) := by decide +kernel
theorem dL_law_925 : decode cL_law 925 = .ok (.invokevirtual 111, 3) := by decide +kernel
theorem dL_law_928 : decode cL_law 928 = .ok (.if_icmp .eq 713, 3) := by decide +kernel
theorem dL_law_931 : decode cL_law 931 = .ok (.iconst 0, 1) := by decide +kernel
theorem dL_law_932 : decode cL_law 932 = .ok (.ireturn, 1) := by decide +kernel
theorem dL_law_933 : decode cL_law 933 = .ok (.aload_n 1, 1) := by decide +kernel
theorem dL_law_934 : decode cL_law 934 = .ok (.aload_n 0, 1) := by decide +kernel
theorem dL_law_935 : decode cL_law 935 = .ok (.iload_n 3, 1) := by decide +kernel
theorem dL_law_936 : decode cL_law 936 = .ok (.iconst 1, 1) := by decide +kernel
theorem dL_law_937 : decode cL_law 937 = .ok (.iadd, 1) := by decide +kernel
theorem dL_law_938 : decode cL_law 938 = .ok (.iaload, 1) := by decide +kernel
theorem dL_law_939 : decode cL_law 939 = .ok (.invokevirtual 112, 3) := by decide +kernel
theorem dL_law_942 : decode cL_law 942 = .ok (.aload_n 2, 1) := by decide +kernel
theorem dL_law_943 : decode cL_law 943 = .ok (.aload_n 0, 1) := by decide +kernel
theorem dL_law_944 : decode cL_law 944 = .ok (.iload_n 3, 1) := by decide +kernel
theorem dL_law_945 : decode cL_law 945 = .ok (.iconst 1, 1) := by decide +kernel
theorem dL_law_946 : decode cL_law 946 = .ok (.iadd, 1) := by decide +kernel
theorem dL_law_947 : decode cL_law 947 = .ok (.iaload, 1) := by decide +kernel
theorem dL_law_948 : decode cL_law 948 = .ok (.invokevirtual 115, 3) := by decide +kernel
theorem dL_law_951 : decode cL_law 951 = .ok (.if_icmp .eq 690, 3) := by decide +kernel
theorem dL_law_954 : decode cL_law 954 = .ok (.iconst 0, 1) := by decide +kernel
theorem dL_law_955 : decode cL_law 955 = .ok (.ireturn, 1) := by decide +kernel
theorem dL_law_956 : decode cL_law 956 = .ok (.aload_n 1, 1) := by decide +kernel
theorem dL_law_957 : decode cL_law 957 = .ok (.aload_n 0, 1) := by decide +kernel
theorem dL_law_958 : decode cL_law 958 = .ok (.iload_n 3, 1) := by decide +kernel
theorem dL_law_959 : decode cL_law 959 = .ok (.iconst 1, 1) := by decide +kernel
theorem dL_law_960 : decode cL_law 960 = .ok (.iadd, 1) := by decide +kernel
theorem dL_law_961 : decode cL_law 961 = .ok (.iaload, 1) := by decide +kernel
theorem dL_law_962 : decode cL_law 962 = .ok (.aload_n 0, 1) := by decide +kernel
theorem dL_law_963 : decode cL_law 963 = .ok (.iload_n 3, 1) := by decide +kernel
theorem dL_law_964 : decode cL_law 964 = .ok (.iconst 2, 1) := by decide +kernel
theorem dL_law_965 : decode cL_law 965 = .ok (.iadd, 1) := by decide +kernel
theorem dL_law_966 : decode cL_law 966 = .ok (.iaload, 1) := by decide +kernel
theorem dL_law_967 : decode cL_law 967 = .ok (.invokevirtual 116, 3) := by decide +kernel
theorem dL_law_970 : decode cL_law 970 = .ok (.aload_n 2, 1) := by decide +kernel
theorem dL_law_971 : decode cL_law 971 = .ok (.aload_n 0, 1) := by decide +kernel
theorem dL_law_972 : decode cL_law 972 = .ok (.iload_n 3, 1) := by decide +kernel
theorem dL_law_973 : decode cL_law 973 = .ok (.iconst 1, 1) := by decide +kernel
theorem dL_law_974 : decode cL_law 974 = .ok (.iadd, 1) := by decide +kernel
theorem dL_law_975 : decode cL_law 975 = .ok (.iaload, 1) := by decide +kernel
theorem dL_law_976 : decode cL_law 976 = .ok (.aload_n 0, 1) := by decide +kernel
theorem dL_law_977 : decode cL_law 977 = .ok (.iload_n 3, 1) := by decide +kernel
theorem dL_law_978 : decode cL_law 978 = .ok (.iconst 2, 1) := by decide +kernel
theorem dL_law_979 : decode cL_law 979 = .ok (.iadd, 1) := by decide +kernel
theorem dL_law_980 : decode cL_law 980 = .ok (.iaload, 1) := by decide +kernel
theorem dL_law_981 : decode cL_law 981 = .ok (.invokevirtual 119, 3) := by decide +kernel
theorem dL_law_984 : decode cL_law 984 = .ok (.if_icmp .eq 657, 3) := by decide +kernel
theorem dL_law_987 : decode cL_law 987 = .ok (.iconst 0, 1) := by decide +kernel
theorem dL_law_988 : decode cL_law 988 = .ok (.ireturn, 1) := by decide +kernel
theorem dL_law_989 : decode cL_law 989 = .ok (.aload_n 1, 1) := by decide +kernel
theorem dL_law_990 : decode cL_law 990 = .ok (.aload_n 0, 1) := by decide +kernel
theorem dL_law_991 : decode cL_law 991 = .ok (.iload_n 3, 1) := by decide +kernel
theorem dL_law_992 : decode cL_law 992 = .ok (.iconst 1, 1) := by decide +kernel
theorem dL_law_993 : decode cL_law 993 = .ok (.iadd, 1) := by decide +kernel
theorem dL_law_994 : decode cL_law 994 = .ok (.iaload, 1) := by decide +kernel
theorem dL_law_995 : decode cL_law 995 = .ok (.aload_n 0, 1) := by decide +kernel
theorem dL_law_996 : decode cL_law 996 = .ok (.iload_n 3, 1) := by decide +kernel
theorem dL_law_997 : decode cL_law 997 = .ok (.iconst 2, 1) := by decide +kernel
theorem dL_law_998 : decode cL_law 998 = .ok (.iadd, 1) := by decide +kernel
theorem dL_law_999 : decode cL_law 999 = .ok (.iaload, 1) := by decide +kernel
theorem dL_law_1000 : decode cL_law 1000 = .ok (.invokevirtual 120, 3) := by decide +kernel
theorem dL_law_1003 : decode cL_law 1003 = .ok (.aload_n 2, 1) := by decide +kernel
theorem dL_law_1004 : decode cL_law 1004 = .ok (.aload_n 0, 1) := by decide +kernel
theorem dL_law_1005 : decode cL_law 1005 = .ok (.iload_n 3, 1) := by decide +kernel
theorem dL_law_1006 : decode cL_law 1006 = .ok (.iconst 1, 1) := by decide +kernel
theorem dL_law_1007 : decode cL_law 1007 = .ok (.iadd, 1) := by decide +kernel
theorem dL_law_1008 : decode cL_law 1008 = .ok (.iaload, 1) := by decide +kernel
theorem dL_law_1009 : decode cL_law 1009 = .ok (.aload_n 0, 1) := by decide +kernel
theorem dL_law_1010 : decode cL_law 1010 = .ok (.iload_n 3, 1) := by decide +kernel
theorem dL_law_1011 : decode cL_law 1011 = .ok (.iconst 2, 1) := by decide +kernel
theorem dL_law_1012 : decode cL_law 1012 = .ok (.iadd, 1) := by decide +kernel
theorem dL_law_1013 : decode cL_law 1013 = .ok (.iaload, 1) := by decide +kernel
theorem dL_law_1014 : decode cL_law 1014 = .ok (.invokevirtual 123, 3) := by decide +kernel
theorem dL_law_1017 : decode cL_law 1017 = .ok (.lcmp, 1) := by decide +kernel
theorem dL_law_1018 : decode cL_law 1018 = .ok (.ifCond .eq 623, 3) := by decide +kernel
theorem dL_law_1021 : decode cL_law 1021 = .ok (.iconst 0, 1) := by decide +kernel
theorem dL_law_1022 : decode cL_law 1022 = .ok (.ireturn, 1) := by decide +kernel
theorem dL_law_1023 : decode cL_law 1023 = .ok (.aload_n 1, 1) := by decide +kernel
theorem dL_law_1024 : decode cL_law 1024 = .ok (.aload_n 0, 1) := by decide +kernel
theorem dL_law_1025 : decode cL_law 1025 = .ok (.iload_n 3, 1) := by decide +kernel
theorem dL_law_1026 : decode cL_law 1026 = .ok (.iconst 1, 1) := by decide +kernel
theorem dL_law_1027 : decode cL_law 1027 = .ok (.iadd, 1) := by decide +kernel
theorem dL_law_1028 : decode cL_law 1028 = .ok (.iaload, 1) := by decide +kernel
theorem dL_law_1029 : decode cL_law 1029 = .ok (.aload_n 0, 1) := by decide +kernel
theorem dL_law_1030 : decode cL_law 1030 = .ok (.iload_n 3, 1) := by decide +kernel
theorem dL_law_1031 : decode cL_law 1031 = .ok (.iconst 2, 1) := by decide +kernel
theorem dL_law_1032 : decode cL_law 1032 = .ok (.iadd, 1) := by decide +kernel
theorem dL_law_1033 : decode cL_law 1033 = .ok (.iaload, 1) := by decide +kernel
theorem dL_law_1034 : decode cL_law 1034 = .ok (.aload_n 0, 1) := by decide +kernel
theorem dL_law_1035 : decode cL_law 1035 = .ok (.iload_n 3, 1) := by decide +kernel
theorem dL_law_1036 : decode cL_law 1036 = .ok (.iconst 3, 1) := by decide +kernel
theorem dL_law_1037 : decode cL_law 1037 = .ok (.iadd, 1) := by decide +kernel
theorem dL_law_1038 : decode cL_law 1038 = .ok (.iaload, 1) := by decide +kernel
theorem dL_law_1039 : decode cL_law 1039 = .ok (.invokevirtual 124, 3) := by decide +kernel
theorem dL_law_1042 : decode cL_law 1042 = .ok (.aload_n 2, 1) := by decide +kernel
theorem dL_law_1043 : decode cL_law 1043 = .ok (.aload_n 0, 1) := by decide +kernel
theorem dL_law_1044 : decode cL_law 1044 = .ok (.iload_n 3, 1) := by decide +kernel
theorem dL_law_1045 : decode cL_law 1045 = .ok (.iconst 1, 1) := by decide +kernel
theorem dL_law_1046 : decode cL_law 1046 = .ok (.iadd, 1) := by decide +kernel
theorem dL_law_1047 : decode cL_law 1047 = .ok (.iaload, 1) := by decide +kernel
theorem dL_law_1048 : decode cL_law 1048 = .ok (.aload_n 0, 1) := by decide +kernel
theorem dL_law_1049 : decode cL_law 1049 = .ok (.iload_n 3, 1) := by decide +kernel
theorem dL_law_1050 : decode cL_law 1050 = .ok (.iconst 2, 1) := by decide +kernel
theorem dL_law_1051 : decode cL_law 1051 = .ok (.iadd, 1) := by decide +kernel
theorem dL_law_1052 : decode cL_law 1052 = .ok (.iaload, 1) := by decide +kernel
theorem dL_law_1053 : decode cL_law 1053 = .ok (.aload_n 0, 1) := by decide +kernel
theorem dL_law_1054 : decode cL_law 1054 = .ok (.iload_n 3, 1) := by decide +kernel
theorem dL_law_1055 : decode cL_law 1055 = .ok (.iconst 3, 1) := by decide +kernel
theorem dL_law_1056 : decode cL_law 1056 = .ok (.iadd, 1) := by decide +kernel
theorem dL_law_1057 : decode cL_law 1057 = .ok (.iaload, 1) := by decide +kernel
theorem dL_law_1058 : decode cL_law 1058 = .ok (.invokevirtual 127, 3) := by decide +kernel
theorem dL_law_1061 : decode cL_law 1061 = .ok (.if_icmp .eq 580, 3) := by decide +kernel
theorem dL_law_1064 : decode cL_law 1064 = .ok (.iconst 0, 1) := by decide +kernel
theorem dL_law_1065 : decode cL_law 1065 = .ok (.ireturn, 1) := by decide +kernel
theorem dL_law_1066 : decode cL_law 1066 = .ok (.aload_n 1, 1) := by decide +kernel
theorem dL_law_1067 : decode cL_law 1067 = .ok (.aload_n 0, 1) := by decide +kernel
theorem dL_law_1068 : decode cL_law 1068 = .ok (.iload_n 3, 1) := by decide +kernel
theorem dL_law_1069 : decode cL_law 1069 = .ok (.iconst 1, 1) := by decide +kernel
theorem dL_law_1070 : decode cL_law 1070 = .ok (.iadd, 1) := by decide +kernel
theorem dL_law_1071 : decode cL_law 1071 = .ok (.iaload, 1) := by decide +kernel
theorem dL_law_1072 : decode cL_law 1072 = .ok (.aload_n 0, 1) := by decide +kernel
theorem dL_law_1073 : decode cL_law 1073 = .ok (.iload_n 3, 1) := by decide +kernel
theorem dL_law_1074 : decode cL_law 1074 = .ok (.iconst 2, 1) := by decide +kernel
theorem dL_law_1075 : decode cL_law 1075 = .ok (.iadd, 1) := by decide +kernel
theorem dL_law_1076 : decode cL_law 1076 = .ok (.iaload, 1) := by decide +kernel
theorem dL_law_1077 : decode cL_law 1077 = .ok (.invokevirtual 128, 3) := by decide +kernel
theorem dL_law_1080 : decode cL_law 1080 = .ok (.aload_n 2, 1) := by decide +kernel
theorem dL_law_1081 : decode cL_law 1081 = .ok (.aload_n 0, 1) := by decide +kernel
theorem dL_law_1082 : decode cL_law 1082 = .ok (.iload_n 3, 1) := by decide +kernel
theorem dL_law_1083 : decode cL_law 1083 = .ok (.iconst 1, 1) := by decide +kernel
theorem dL_law_1084 : decode cL_law 1084 = .ok (.iadd, 1) := by decide +kernel
theorem dL_law_1085 : decode cL_law 1085 = .ok (.iaload, 1) := by decide +kernel
theorem dL_law_1086 : decode cL_law 1086 = .ok (.aload_n 0, 1) := by decide +kernel
theorem dL_law_1087 : decode cL_law 1087 = .ok (.iload_n 3, 1) := by decide +kernel
theorem dL_law_1088 : decode cL_law 1088 = .ok (.iconst 2, 1) := by decide +kernel
theorem dL_law_1089 : decode cL_law 1089 = .ok (.iadd, 1) := by decide +kernel
theorem dL_law_1090 : decode cL_law 1090 = .ok (.iaload, 1) := by decide +kernel
theorem dL_law_1091 : decode cL_law 1091 = .ok (.invokevirtual 131, 3) := by decide +kernel
theorem dL_law_1094 : decode cL_law 1094 = .ok (.lcmp, 1) := by decide +kernel
theorem dL_law_1095 : decode cL_law 1095 = .ok (.ifCond .eq 546, 3) := by decide +kernel
theorem dL_law_1098 : decode cL_law 1098 = .ok (.iconst 0, 1) := by decide +kernel
theorem dL_law_1099 : decode cL_law 1099 = .ok (.ireturn, 1) := by decide +kernel
theorem dL_law_1100 : decode cL_law 1100 = .ok (.aload_n 1, 1) := by decide +kernel
theorem dL_law_1101 : decode cL_law 1101 = .ok (.aload_n 0, 1) := by decide +kernel
theorem dL_law_1102 : decode cL_law 1102 = .ok (.iload_n 3, 1) := by decide +kernel
theorem dL_law_1103 : decode cL_law 1103 = .ok (.iconst 1, 1) := by decide +kernel
theorem dL_law_1104 : decode cL_law 1104 = .ok (.iadd, 1) := by decide +kernel
theorem dL_law_1105 : decode cL_law 1105 = .ok (.iaload, 1) := by decide +kernel
theorem dL_law_1106 : decode cL_law 1106 = .ok (.aload_n 0, 1) := by decide +kernel
theorem dL_law_1107 : decode cL_law 1107 = .ok (.iload_n 3, 1) := by decide +kernel
theorem dL_law_1108 : decode cL_law 1108 = .ok (.iconst 2, 1) := by decide +kernel
theorem dL_law_1109 : decode cL_law 1109 = .ok (.iadd, 1) := by decide +kernel
theorem dL_law_1110 : decode cL_law 1110 = .ok (.iaload, 1) := by decide +kernel
theorem dL_law_1111 : decode cL_law 1111 = .ok (.invokevirtual 132, 3) := by decide +kernel
theorem dL_law_1114 : decode cL_law 1114 = .ok (.aload_n 2, 1) := by decide +kernel
theorem dL_law_1115 : decode cL_law 1115 = .ok (.aload_n 0, 1) := by decide +kernel
theorem dL_law_1116 : decode cL_law 1116 = .ok (.iload_n 3, 1) := by decide +kernel
theorem dL_law_1117 : decode cL_law 1117 = .ok (.iconst 1, 1) := by decide +kernel
theorem dL_law_1118 : decode cL_law 1118 = .ok (.iadd, 1) := by decide +kernel
theorem dL_law_1119 : decode cL_law 1119 = .ok (.iaload, 1) := by decide +kernel
theorem dL_law_1120 : decode cL_law 1120 = .ok (.aload_n 0, 1) := by decide +kernel
theorem dL_law_1121 : decode cL_law 1121 = .ok (.iload_n 3, 1) := by decide +kernel
theorem dL_law_1122 : decode cL_law 1122 = .ok (.iconst 2, 1) := by decide +kernel
theorem dL_law_1123 : decode cL_law 1123 = .ok (.iadd, 1) := by decide +kernel
theorem dL_law_1124 : decode cL_law 1124 = .ok (.iaload, 1) := by decide +kernel
theorem dL_law_1125 : decode cL_law 1125 = .ok (.invokevirtual 135, 3) := by decide +kernel
theorem dL_law_1128 : decode cL_law 1128 = .ok (.lcmp, 1) := by decide +kernel
theorem dL_law_1129 : decode cL_law 1129 = .ok (.ifCond .eq 512, 3) := by decide +kernel
theorem dL_law_1132 : decode cL_law 1132 = .ok (.iconst 0, 1) := by decide +kernel
theorem dL_law_1133 : decode cL_law 1133 = .ok (.ireturn, 1) := by decide +kernel
theorem dL_law_1134 : decode cL_law 1134 = .ok (.aload_n 1, 1) := by decide +kernel
theorem dL_law_1135 : decode cL_law 1135 = .ok (.aload_n 0, 1) := by decide +kernel
theorem dL_law_1136 : decode cL_law 1136 = .ok (.iload_n 3, 1) := by decide +kernel
theorem dL_law_1137 : decode cL_law 1137 = .ok (.iconst 1, 1) := by decide +kernel
theorem dL_law_1138 : decode cL_law 1138 = .ok (.iadd, 1) := by decide +kernel
theorem dL_law_1139 : decode cL_law 1139 = .ok (.iaload, 1) := by decide +kernel
theorem dL_law_1140 : decode cL_law 1140 = .ok (.aload_n 0, 1) := by decide +kernel
theorem dL_law_1141 : decode cL_law 1141 = .ok (.iload_n 3, 1) := by decide +kernel
theorem dL_law_1142 : decode cL_law 1142 = .ok (.iconst 2, 1) := by decide +kernel
theorem dL_law_1143 : decode cL_law 1143 = .ok (.iadd, 1) := by decide +kernel
theorem dL_law_1144 : decode cL_law 1144 = .ok (.iaload, 1) := by decide +kernel
theorem dL_law_1145 : decode cL_law 1145 = .ok (.invokevirtual 136, 3) := by decide +kernel
theorem dL_law_1148 : decode cL_law 1148 = .ok (.aload_n 2, 1) := by decide +kernel
theorem dL_law_1149 : decode cL_law 1149 = .ok (.aload_n 0, 1) := by decide +kernel
theorem dL_law_1150 : decode cL_law 1150 = .ok (.iload_n 3, 1) := by decide +kernel
theorem dL_law_1151 : decode cL_law 1151 = .ok (.iconst 1, 1) := by decide +kernel
theorem dL_law_1152 : decode cL_law 1152 = .ok (.iadd, 1) := by decide +kernel
theorem dL_law_1153 : decode cL_law 1153 = .ok (.iaload, 1) := by decide +kernel
theorem dL_law_1154 : decode cL_law 1154 = .ok (.aload_n 0, 1) := by decide +kernel
theorem dL_law_1155 : decode cL_law 1155 = .ok (.iload_n 3, 1) := by decide +kernel
theorem dL_law_1156 : decode cL_law 1156 = .ok (.iconst 2, 1) := by decide +kernel
theorem dL_law_1157 : decode cL_law 1157 = .ok (.iadd, 1) := by decide +kernel
theorem dL_law_1158 : decode cL_law 1158 = .ok (.iaload, 1) := by decide +kernel
theorem dL_law_1159 : decode cL_law 1159 = .ok (.invokevirtual 139, 3) := by decide +kernel
theorem dL_law_1162 : decode cL_law 1162 = .ok (.lcmp, 1) := by decide +kernel
theorem dL_law_1163 : decode cL_law 1163 = .ok (.ifCond .eq 478, 3) := by decide +kernel
theorem dL_law_1166 : decode cL_law 1166 = .ok (.iconst 0, 1) := by decide +kernel
theorem dL_law_1167 : decode cL_law 1167 = .ok (.ireturn, 1) := by decide +kernel
theorem dL_law_1168 : decode cL_law 1168 = .ok (.aload_n 1, 1) := by decide +kernel
theorem dL_law_1169 : decode cL_law 1169 = .ok (.aload_n 0, 1) := by decide +kernel
theorem dL_law_1170 : decode cL_law 1170 = .ok (.iload_n 3, 1) := by decide +kernel
theorem dL_law_1171 : decode cL_law 1171 = .ok (.iconst 1, 1) := by decide +kernel
theorem dL_law_1172 : decode cL_law 1172 = .ok (.iadd, 1) := by decide +kernel
theorem dL_law_1173 : decode cL_law 1173 = .ok (.iaload, 1) := by decide +kernel
theorem dL_law_1174 : decode cL_law 1174 = .ok (.aload_n 0, 1) := by decide +kernel
theorem dL_law_1175 : decode cL_law 1175 = .ok (.iload_n 3, 1) := by decide +kernel
theorem dL_law_1176 : decode cL_law 1176 = .ok (.iconst 2, 1) := by decide +kernel
theorem dL_law_1177 : decode cL_law 1177 = .ok (.iadd, 1) := by decide +kernel
theorem dL_law_1178 : decode cL_law 1178 = .ok (.iaload, 1) := by decide +kernel
theorem dL_law_1179 : decode cL_law 1179 = .ok (.invokevirtual 140, 3) := by decide +kernel
theorem dL_law_1182 : decode cL_law 1182 = .ok (.aload_n 2, 1) := by decide +kernel
theorem dL_law_1183 : decode cL_law 1183 = .ok (.aload_n 0, 1) := by decide +kernel
theorem dL_law_1184 : decode cL_law 1184 = .ok (.iload_n 3, 1) := by decide +kernel
theorem dL_law_1185 : decode cL_law 1185 = .ok (.iconst 1, 1) := by decide +kernel
theorem dL_law_1186 : decode cL_law 1186 = .ok (.iadd, 1) := by decide +kernel
theorem dL_law_1187 : decode cL_law 1187 = .ok (.iaload, 1) := by decide +kernel
theorem dL_law_1188 : decode cL_law 1188 = .ok (.aload_n 0, 1) := by decide +kernel
theorem dL_law_1189 : decode cL_law 1189 = .ok (.iload_n 3, 1) := by decide +kernel
theorem dL_law_1190 : decode cL_law 1190 = .ok (.iconst 2, 1) := by decide +kernel
theorem dL_law_1191 : decode cL_law 1191 = .ok (.iadd, 1) := by decide +kernel
theorem dL_law_1192 : decode cL_law 1192 = .ok (.iaload, 1) := by decide +kernel
theorem dL_law_1193 : decode cL_law 1193 = .ok (.invokevirtual 143, 3) := by decide +kernel
theorem dL_law_1196 : decode cL_law 1196 = .ok (.if_icmp .eq 445, 3) := by decide +kernel
theorem dL_law_1199 : decode cL_law 1199 = .ok (.iconst 0, 1) := by decide +kernel
theorem dL_law_1200 : decode cL_law 1200 = .ok (.ireturn, 1) := by decide +kernel
theorem dL_law_1201 : decode cL_law 1201 = .ok (.aload_n 1, 1) := by decide +kernel
theorem dL_law_1202 : decode cL_law 1202 = .ok (.aload_n 0, 1) := by decide +kernel
theorem dL_law_1203 : decode cL_law 1203 = .ok (.iload_n 3, 1) := by decide +kernel
theorem dL_law_1204 : decode cL_law 1204 = .ok (.iconst 1, 1) := by decide +kernel
theorem dL_law_1205 : decode cL_law 1205 = .ok (.iadd, 1) := by decide +kernel
theorem dL_law_1206 : decode cL_law 1206 = .ok (.iaload, 1) := by decide +kernel
theorem dL_law_1207 : decode cL_law 1207 = .ok (.aload_n 0, 1) := by decide +kernel
theorem dL_law_1208 : decode cL_law 1208 = .ok (.iload_n 3, 1) := by decide +kernel
theorem dL_law_1209 : decode cL_law 1209 = .ok (.iconst 2, 1) := by decide +kernel
theorem dL_law_1210 : decode cL_law 1210 = .ok (.iadd, 1) := by decide +kernel
theorem dL_law_1211 : decode cL_law 1211 = .ok (.iaload, 1) := by decide +kernel
theorem dL_law_1212 : decode cL_law 1212 = .ok (.aload_n 0, 1) := by decide +kernel
theorem dL_law_1213 : decode cL_law 1213 = .ok (.iload_n 3, 1) := by decide +kernel
theorem dL_law_1214 : decode cL_law 1214 = .ok (.iconst 3, 1) := by decide +kernel
theorem dL_law_1215 : decode cL_law 1215 = .ok (.iadd, 1) := by decide +kernel
theorem dL_law_1216 : decode cL_law 1216 = .ok (.iaload, 1) := by decide +kernel
theorem dL_law_1217 : decode cL_law 1217 = .ok (.invokevirtual 144, 3) := by decide +kernel
theorem dL_law_1220 : decode cL_law 1220 = .ok (.aload_n 2, 1) := by decide +kernel
theorem dL_law_1221 : decode cL_law 1221 = .ok (.aload_n 0, 1) := by decide +kernel
theorem dL_law_1222 : decode cL_law 1222 = .ok (.iload_n 3, 1) := by decide +kernel
theorem dL_law_1223 : decode cL_law 1223 = .ok (.iconst 1, 1) := by decide +kernel
theorem dL_law_1224 : decode cL_law 1224 = .ok (.iadd, 1) := by decide +kernel
theorem dL_law_1225 : decode cL_law 1225 = .ok (.iaload, 1) := by decide +kernel
theorem dL_law_1226 : decode cL_law 1226 = .ok (.aload_n 0, 1) := by decide +kernel
theorem dL_law_1227 : decode cL_law 1227 = .ok (.iload_n 3, 1) := by decide +kernel
theorem dL_law_1228 : decode cL_law 1228 = .ok (.iconst 2, 1) := by decide +kernel
theorem dL_law_1229 : decode cL_law 1229 = .ok (.iadd, 1) := by decide +kernel
theorem dL_law_1230 : decode cL_law 1230 = .ok (.iaload, 1) := by decide +kernel
theorem dL_law_1231 : decode cL_law 1231 = .ok (.aload_n 0, 1) := by decide +kernel
theorem dL_law_1232 : decode cL_law 1232 = .ok (.iload_n 3, 1) := by decide +kernel
theorem dL_law_1233 : decode cL_law 1233 = .ok (.iconst 3, 1) := by decide +kernel
theorem dL_law_1234 : decode cL_law 1234 = .ok (.iadd, 1) := by decide +kernel
theorem dL_law_1235 : decode cL_law 1235 = .ok (.iaload, 1) := by decide +kernel
theorem dL_law_1236 : decode cL_law 1236 = .ok (.invokevirtual 148, 3) := by decide +kernel
theorem dL_law_1239 : decode cL_law 1239 = .ok (.lcmp, 1) := by decide +kernel
theorem dL_law_1240 : decode cL_law 1240 = .ok (.ifCond .eq 401, 3) := by decide +kernel
theorem dL_law_1243 : decode cL_law 1243 = .ok (.iconst 0, 1) := by decide +kernel
theorem dL_law_1244 : decode cL_law 1244 = .ok (.ireturn, 1) := by decide +kernel
theorem dL_law_1245 : decode cL_law 1245 = .ok (.aload_n 1, 1) := by decide +kernel
theorem dL_law_1246 : decode cL_law 1246 = .ok (.aload_n 0, 1) := by decide +kernel
theorem dL_law_1247 : decode cL_law 1247 = .ok (.iload_n 3, 1) := by decide +kernel
theorem dL_law_1248 : decode cL_law 1248 = .ok (.iconst 1, 1) := by decide +kernel
theorem dL_law_1249 : decode cL_law 1249 = .ok (.iadd, 1) := by decide +kernel
theorem dL_law_1250 : decode cL_law 1250 = .ok (.iaload, 1) := by decide +kernel
theorem dL_law_1251 : decode cL_law 1251 = .ok (.aload_n 0, 1) := by decide +kernel
theorem dL_law_1252 : decode cL_law 1252 = .ok (.iload_n 3, 1) := by decide +kernel
theorem dL_law_1253 : decode cL_law 1253 = .ok (.iconst 2, 1) := by decide +kernel
theorem dL_law_1254 : decode cL_law 1254 = .ok (.iadd, 1) := by decide +kernel
theorem dL_law_1255 : decode cL_law 1255 = .ok (.iaload, 1) := by decide +kernel
theorem dL_law_1256 : decode cL_law 1256 = .ok (.aload_n 0, 1) := by decide +kernel
theorem dL_law_1257 : decode cL_law 1257 = .ok (.iload_n 3, 1) := by decide +kernel
theorem dL_law_1258 : decode cL_law 1258 = .ok (.iconst 3, 1) := by decide +kernel
theorem dL_law_1259 : decode cL_law 1259 = .ok (.iadd, 1) := by decide +kernel
theorem dL_law_1260 : decode cL_law 1260 = .ok (.iaload, 1) := by decide +kernel
theorem dL_law_1261 : decode cL_law 1261 = .ok (.aload_n 0, 1) := by decide +kernel
theorem dL_law_1262 : decode cL_law 1262 = .ok (.iload_n 3, 1) := by decide +kernel
theorem dL_law_1263 : decode cL_law 1263 = .ok (.iconst 4, 1) := by decide +kernel
theorem dL_law_1264 : decode cL_law 1264 = .ok (.iadd, 1) := by decide +kernel
theorem dL_law_1265 : decode cL_law 1265 = .ok (.iaload, 1) := by decide +kernel
theorem dL_law_1266 : decode cL_law 1266 = .ok (.invokevirtual 149, 3) := by decide +kernel
theorem dL_law_1269 : decode cL_law 1269 = .ok (.aload_n 2, 1) := by decide +kernel
theorem dL_law_1270 : decode cL_law 1270 = .ok (.aload_n 0, 1) := by decide +kernel
theorem dL_law_1271 : decode cL_law 1271 = .ok (.iload_n 3, 1) := by decide +kernel
theorem dL_law_1272 : decode cL_law 1272 = .ok (.iconst 1, 1) := by decide +kernel
theorem dL_law_1273 : decode cL_law 1273 = .ok (.iadd, 1) := by decide +kernel
theorem dL_law_1274 : decode cL_law 1274 = .ok (.iaload, 1) := by decide +kernel
theorem dL_law_1275 : decode cL_law 1275 = .ok (.aload_n 0, 1) := by decide +kernel
theorem dL_law_1276 : decode cL_law 1276 = .ok (.iload_n 3, 1) := by decide +kernel
theorem dL_law_1277 : decode cL_law 1277 = .ok (.iconst 2, 1) := by decide +kernel
theorem dL_law_1278 : decode cL_law 1278 = .ok (.iadd, 1) := by decide +kernel
theorem dL_law_1279 : decode cL_law 1279 = .ok (.iaload, 1) := by decide +kernel
theorem dL_law_1280 : decode cL_law 1280 = .ok (.aload_n 0, 1) := by decide +kernel
theorem dL_law_1281 : decode cL_law 1281 = .ok (.iload_n 3, 1) := by decide +kernel
theorem dL_law_1282 : decode cL_law 1282 = .ok (.iconst 3, 1) := by decide +kernel
theorem dL_law_1283 : decode cL_law 1283 = .ok (.iadd, 1) := by decide +kernel
theorem dL_law_1284 : decode cL_law 1284 = .ok (.iaload, 1) := by decide +kernel
theorem dL_law_1285 : decode cL_law 1285 = .ok (.aload_n 0, 1) := by decide +kernel
theorem dL_law_1286 : decode cL_law 1286 = .ok (.iload_n 3, 1) := by decide +kernel
theorem dL_law_1287 : decode cL_law 1287 = .ok (.iconst 4, 1) := by decide +kernel
theorem dL_law_1288 : decode cL_law 1288 = .ok (.iadd, 1) := by decide +kernel
theorem dL_law_1289 : decode cL_law 1289 = .ok (.iaload, 1) := by decide +kernel
theorem dL_law_1290 : decode cL_law 1290 = .ok (.invokevirtual 153, 3) := by decide +kernel
theorem dL_law_1293 : decode cL_law 1293 = .ok (.lcmp, 1) := by decide +kernel
theorem dL_law_1294 : decode cL_law 1294 = .ok (.ifCond .eq 347, 3) := by decide +kernel
theorem dL_law_1297 : decode cL_law 1297 = .ok (.iconst 0, 1) := by decide +kernel
theorem dL_law_1298 : decode cL_law 1298 = .ok (.ireturn, 1) := by decide +kernel
theorem dL_law_1299 : decode cL_law 1299 = .ok (.aload_n 1, 1) := by decide +kernel
theorem dL_law_1300 : decode cL_law 1300 = .ok (.aload_n 0, 1) := by decide +kernel
theorem dL_law_1301 : decode cL_law 1301 = .ok (.iload_n 3, 1) := by decide +kernel
theorem dL_law_1302 : decode cL_law 1302 = .ok (.iconst 1, 1) := by decide +kernel
theorem dL_law_1303 : decode cL_law 1303 = .ok (.iadd, 1) := by decide +kernel
theorem dL_law_1304 : decode cL_law 1304 = .ok (.iaload, 1) := by decide +kernel
theorem dL_law_1305 : decode cL_law 1305 = .ok (.aload_n 0, 1) := by decide +kernel
theorem dL_law_1306 : decode cL_law 1306 = .ok (.iload_n 3, 1) := by decide +kernel
theorem dL_law_1307 : decode cL_law 1307 = .ok (.iconst 2, 1) := by decide +kernel
theorem dL_law_1308 : decode cL_law 1308 = .ok (.iadd, 1) := by decide +kernel
theorem dL_law_1309 : decode cL_law 1309 = .ok (.iaload, 1) := by decide +kernel
theorem dL_law_1310 : decode cL_law 1310 = .ok (.invokevirtual 154, 3) := by decide +kernel
theorem dL_law_1313 : decode cL_law 1313 = .ok (.aload_n 2, 1) := by decide +kernel
theorem dL_law_1314 : decode cL_law 1314 = .ok (.aload_n 0, 1) := by decide +kernel
theorem dL_law_1315 : decode cL_law 1315 = .ok (.iload_n 3, 1) := by decide +kernel
theorem dL_law_1316 : decode cL_law 1316 = .ok (.iconst 1, 1) := by decide +kernel
theorem dL_law_1317 : decode cL_law 1317 = .ok (.iadd, 1) := by decide +kernel
theorem dL_law_1318 : decode cL_law 1318 = .ok (.iaload, 1) := by decide +kernel
theorem dL_law_1319 : decode cL_law 1319 = .ok (.aload_n 0, 1) := by decide +kernel
theorem dL_law_1320 : decode cL_law 1320 = .ok (.iload_n 3, 1) := by decide +kernel
theorem dL_law_1321 : decode cL_law 1321 = .ok (.iconst 2, 1) := by decide +kernel
theorem dL_law_1322 : decode cL_law 1322 = .ok (.iadd, 1) := by decide +kernel
theorem dL_law_1323 : decode cL_law 1323 = .ok (.iaload, 1) := by decide +kernel
theorem dL_law_1324 : decode cL_law 1324 = .ok (.invokevirtual 157, 3) := by decide +kernel
theorem dL_law_1327 : decode cL_law 1327 = .ok (.lcmp, 1) := by decide +kernel
theorem dL_law_1328 : decode cL_law 1328 = .ok (.ifCond .eq 313, 3) := by decide +kernel
theorem dL_law_1331 : decode cL_law 1331 = .ok (.iconst 0, 1) := by decide +kernel
theorem dL_law_1332 : decode cL_law 1332 = .ok (.ireturn, 1) := by decide +kernel
theorem dL_law_1333 : decode cL_law 1333 = .ok (.aload_n 1, 1) := by decide +kernel
theorem dL_law_1334 : decode cL_law 1334 = .ok (.aload_n 0, 1) := by decide +kernel
theorem dL_law_1335 : decode cL_law 1335 = .ok (.iload_n 3, 1) := by decide +kernel
theorem dL_law_1336 : decode cL_law 1336 = .ok (.iconst 1, 1) := by decide +kernel
theorem dL_law_1337 : decode cL_law 1337 = .ok (.iadd, 1) := by decide +kernel
theorem dL_law_1338 : decode cL_law 1338 = .ok (.iaload, 1) := by decide +kernel
theorem dL_law_1339 : decode cL_law 1339 = .ok (.aload_n 0, 1) := by decide +kernel
theorem dL_law_1340 : decode cL_law 1340 = .ok (.iload_n 3, 1) := by decide +kernel
theorem dL_law_1341 : decode cL_law 1341 = .ok (.iconst 2, 1) := by decide +kernel
theorem dL_law_1342 : decode cL_law 1342 = .ok (.iadd, 1) := by decide +kernel
theorem dL_law_1343 : decode cL_law 1343 = .ok (.iaload, 1) := by decide +kernel
theorem dL_law_1344 : decode cL_law 1344 = .ok (.aload_n 0, 1) := by decide +kernel
theorem dL_law_1345 : decode cL_law 1345 = .ok (.iload_n 3, 1) := by decide +kernel
theorem dL_law_1346 : decode cL_law 1346 = .ok (.iconst 3, 1) := by decide +kernel
theorem dL_law_1347 : decode cL_law 1347 = .ok (.iadd, 1) := by decide +kernel
theorem dL_law_1348 : decode cL_law 1348 = .ok (.iaload, 1) := by decide +kernel
theorem dL_law_1349 : decode cL_law 1349 = .ok (.aload_n 0, 1) := by decide +kernel
theorem dL_law_1350 : decode cL_law 1350 = .ok (.iload_n 3, 1) := by decide +kernel
theorem dL_law_1351 : decode cL_law 1351 = .ok (.iconst 4, 1) := by decide +kernel
theorem dL_law_1352 : decode cL_law 1352 = .ok (.iadd, 1) := by decide +kernel
theorem dL_law_1353 : decode cL_law 1353 = .ok (.iaload, 1) := by decide +kernel
theorem dL_law_1354 : decode cL_law 1354 = .ok (.invokevirtual 158, 3) := by decide +kernel
theorem dL_law_1357 : decode cL_law 1357 = .ok (.aload_n 2, 1) := by decide +kernel
theorem dL_law_1358 : decode cL_law 1358 = .ok (.aload_n 0, 1) := by decide +kernel
theorem dL_law_1359 : decode cL_law 1359 = .ok (.iload_n 3, 1) := by decide +kernel
theorem dL_law_1360 : decode cL_law 1360 = .ok (.iconst 1, 1) := by decide +kernel
theorem dL_law_1361 : decode cL_law 1361 = .ok (.iadd, 1) := by decide +kernel
theorem dL_law_1362 : decode cL_law 1362 = .ok (.iaload, 1) := by decide +kernel
theorem dL_law_1363 : decode cL_law 1363 = .ok (.aload_n 0, 1) := by decide +kernel
theorem dL_law_1364 : decode cL_law 1364 = .ok (.iload_n 3, 1) := by decide +kernel
theorem dL_law_1365 : decode cL_law 1365 = .ok (.iconst 2, 1) := by decide +kernel
theorem dL_law_1366 : decode cL_law 1366 = .ok (.iadd, 1) := by decide +kernel
theorem dL_law_1367 : decode cL_law 1367 = .ok (.iaload, 1) := by decide +kernel
theorem dL_law_1368 : decode cL_law 1368 = .ok (.aload_n 0, 1) := by decide +kernel
theorem dL_law_1369 : decode cL_law 1369 = .ok (.iload_n 3, 1) := by decide +kernel
theorem dL_law_1370 : decode cL_law 1370 = .ok (.iconst 3, 1) := by decide +kernel
theorem dL_law_1371 : decode cL_law 1371 = .ok (.iadd, 1) := by decide +kernel
theorem dL_law_1372 : decode cL_law 1372 = .ok (.iaload, 1) := by decide +kernel
theorem dL_law_1373 : decode cL_law 1373 = .ok (.aload_n 0, 1) := by decide +kernel
theorem dL_law_1374 : decode cL_law 1374 = .ok (.iload_n 3, 1) := by decide +kernel
theorem dL_law_1375 : decode cL_law 1375 = .ok (.iconst 4, 1) := by decide +kernel
theorem dL_law_1376 : decode cL_law 1376 = .ok (.iadd, 1) := by decide +kernel
theorem dL_law_1377 : decode cL_law 1377 = .ok (.iaload, 1) := by decide +kernel
theorem dL_law_1378 : decode cL_law 1378 = .ok (.invokevirtual 161, 3) := by decide +kernel
theorem dL_law_1381 : decode cL_law 1381 = .ok (.lcmp, 1) := by decide +kernel
theorem dL_law_1382 : decode cL_law 1382 = .ok (.ifCond .eq 259, 3) := by decide +kernel
theorem dL_law_1385 : decode cL_law 1385 = .ok (.iconst 0, 1) := by decide +kernel
theorem dL_law_1386 : decode cL_law 1386 = .ok (.ireturn, 1) := by decide +kernel
theorem dL_law_1387 : decode cL_law 1387 = .ok (.aload_n 1, 1) := by decide +kernel
theorem dL_law_1388 : decode cL_law 1388 = .ok (.aload_n 0, 1) := by decide +kernel
theorem dL_law_1389 : decode cL_law 1389 = .ok (.iload_n 3, 1) := by decide +kernel
theorem dL_law_1390 : decode cL_law 1390 = .ok (.iconst 1, 1) := by decide +kernel
theorem dL_law_1391 : decode cL_law 1391 = .ok (.iadd, 1) := by decide +kernel
theorem dL_law_1392 : decode cL_law 1392 = .ok (.iaload, 1) := by decide +kernel
theorem dL_law_1393 : decode cL_law 1393 = .ok (.aload_n 0, 1) := by decide +kernel
theorem dL_law_1394 : decode cL_law 1394 = .ok (.iload_n 3, 1) := by decide +kernel
theorem dL_law_1395 : decode cL_law 1395 = .ok (.iconst 2, 1) := by decide +kernel
theorem dL_law_1396 : decode cL_law 1396 = .ok (.iadd, 1) := by decide +kernel
theorem dL_law_1397 : decode cL_law 1397 = .ok (.iaload, 1) := by decide +kernel
theorem dL_law_1398 : decode cL_law 1398 = .ok (.invokevirtual 162, 3) := by decide +kernel
theorem dL_law_1401 : decode cL_law 1401 = .ok (.aload_n 2, 1) := by decide +kernel
theorem dL_law_1402 : decode cL_law 1402 = .ok (.aload_n 0, 1) := by decide +kernel
theorem dL_law_1403 : decode cL_law 1403 = .ok (.iload_n 3, 1) := by decide +kernel
theorem dL_law_1404 : decode cL_law 1404 = .ok (.iconst 1, 1) := by decide +kernel
theorem dL_law_1405 : decode cL_law 1405 = .ok (.iadd, 1) := by decide +kernel
theorem dL_law_1406 : decode cL_law 1406 = .ok (.iaload, 1) := by decide +kernel
theorem dL_law_1407 : decode cL_law 1407 = .ok (.aload_n 0, 1) := by decide +kernel
theorem dL_law_1408 : decode cL_law 1408 = .ok (.iload_n 3, 1) := by decide +kernel
theorem dL_law_1409 : decode cL_law 1409 = .ok (.iconst 2, 1) := by decide +kernel
theorem dL_law_1410 : decode cL_law 1410 = .ok (.iadd, 1) := by decide +kernel
theorem dL_law_1411 : decode cL_law 1411 = .ok (.iaload, 1) := by decide +kernel
theorem dL_law_1412 : decode cL_law 1412 = .ok (.invokevirtual 165, 3) := by decide +kernel
theorem dL_law_1415 : decode cL_law 1415 = .ok (.if_icmp .eq 226, 3) := by decide +kernel
theorem dL_law_1418 : decode cL_law 1418 = .ok (.iconst 0, 1) := by decide +kernel
theorem dL_law_1419 : decode cL_law 1419 = .ok (.ireturn, 1) := by decide +kernel
theorem dL_law_1420 : decode cL_law 1420 = .ok (.aload_n 1, 1) := by decide +kernel
theorem dL_law_1421 : decode cL_law 1421 = .ok (.aload_n 0, 1) := by decide +kernel
theorem dL_law_1422 : decode cL_law 1422 = .ok (.iload_n 3, 1) := by decide +kernel
theorem dL_law_1423 : decode cL_law 1423 = .ok (.iconst 1, 1) := by decide +kernel
theorem dL_law_1424 : decode cL_law 1424 = .ok (.iadd, 1) := by decide +kernel
theorem dL_law_1425 : decode cL_law 1425 = .ok (.iaload, 1) := by decide +kernel
theorem dL_law_1426 : decode cL_law 1426 = .ok (.aload_n 0, 1) := by decide +kernel
theorem dL_law_1427 : decode cL_law 1427 = .ok (.iload_n 3, 1) := by decide +kernel
theorem dL_law_1428 : decode cL_law 1428 = .ok (.iconst 2, 1) := by decide +kernel
theorem dL_law_1429 : decode cL_law 1429 = .ok (.iadd, 1) := by decide +kernel
theorem dL_law_1430 : decode cL_law 1430 = .ok (.iaload, 1) := by decide +kernel
theorem dL_law_1431 : decode cL_law 1431 = .ok (.aload_n 0, 1) := by decide +kernel
theorem dL_law_1432 : decode cL_law 1432 = .ok (.iload_n 3, 1) := by decide +kernel
theorem dL_law_1433 : decode cL_law 1433 = .ok (.iconst 3, 1) := by decide +kernel
theorem dL_law_1434 : decode cL_law 1434 = .ok (.iadd, 1) := by decide +kernel
theorem dL_law_1435 : decode cL_law 1435 = .ok (.iaload, 1) := by decide +kernel
theorem dL_law_1436 : decode cL_law 1436 = .ok (.aload_n 0, 1) := by decide +kernel
theorem dL_law_1437 : decode cL_law 1437 = .ok (.iload_n 3, 1) := by decide +kernel
theorem dL_law_1438 : decode cL_law 1438 = .ok (.iconst 4, 1) := by decide +kernel
theorem dL_law_1439 : decode cL_law 1439 = .ok (.iadd, 1) := by decide +kernel
theorem dL_law_1440 : decode cL_law 1440 = .ok (.iaload, 1) := by decide +kernel
theorem dL_law_1441 : decode cL_law 1441 = .ok (.invokevirtual 166, 3) := by decide +kernel
theorem dL_law_1444 : decode cL_law 1444 = .ok (.aload_n 2, 1) := by decide +kernel
theorem dL_law_1445 : decode cL_law 1445 = .ok (.aload_n 0, 1) := by decide +kernel
theorem dL_law_1446 : decode cL_law 1446 = .ok (.iload_n 3, 1) := by decide +kernel
theorem dL_law_1447 : decode cL_law 1447 = .ok (.iconst 1, 1) := by decide +kernel
theorem dL_law_1448 : decode cL_law 1448 = .ok (.iadd, 1) := by decide +kernel
theorem dL_law_1449 : decode cL_law 1449 = .ok (.iaload, 1) := by decide +kernel
theorem dL_law_1450 : decode cL_law 1450 = .ok (.aload_n 0, 1) := by decide +kernel
theorem dL_law_1451 : decode cL_law 1451 = .ok (.iload_n 3, 1) := by decide +kernel
theorem dL_law_1452 : decode cL_law 1452 = .ok (.iconst 2, 1) := by decide +kernel
theorem dL_law_1453 : decode cL_law 1453 = .ok (.iadd, 1) := by decide +kernel
theorem dL_law_1454 : decode cL_law 1454 = .ok (.iaload, 1) := by decide +kernel
theorem dL_law_1455 : decode cL_law 1455 = .ok (.aload_n 0, 1) := by decide +kernel
theorem dL_law_1456 : decode cL_law 1456 = .ok (.iload_n 3, 1) := by decide +kernel
theorem dL_law_1457 : decode cL_law 1457 = .ok (.iconst 3, 1) := by decide +kernel
theorem dL_law_1458 : decode cL_law 1458 = .ok (.iadd, 1) := by decide +kernel
theorem dL_law_1459 : decode cL_law 1459 = .ok (.iaload, 1) := by decide +kernel
theorem dL_law_1460 : decode cL_law 1460 = .ok (.aload_n 0, 1) := by decide +kernel
theorem dL_law_1461 : decode cL_law 1461 = .ok (.iload_n 3, 1) := by decide +kernel
theorem dL_law_1462 : decode cL_law 1462 = .ok (.iconst 4, 1) := by decide +kernel
theorem dL_law_1463 : decode cL_law 1463 = .ok (.iadd, 1) := by decide +kernel
theorem dL_law_1464 : decode cL_law 1464 = .ok (.iaload, 1) := by decide +kernel
theorem dL_law_1465 : decode cL_law 1465 = .ok (.invokevirtual 170, 3) := by decide +kernel
theorem dL_law_1468 : decode cL_law 1468 = .ok (.if_icmp .eq 173, 3) := by decide +kernel
theorem dL_law_1471 : decode cL_law 1471 = .ok (.iconst 0, 1) := by decide +kernel
theorem dL_law_1472 : decode cL_law 1472 = .ok (.ireturn, 1) := by decide +kernel
theorem dL_law_1473 : decode cL_law 1473 = .ok (.aload_n 1, 1) := by decide +kernel
theorem dL_law_1474 : decode cL_law 1474 = .ok (.aload_n 0, 1) := by decide +kernel
theorem dL_law_1475 : decode cL_law 1475 = .ok (.iload_n 3, 1) := by decide +kernel
theorem dL_law_1476 : decode cL_law 1476 = .ok (.iconst 1, 1) := by decide +kernel
theorem dL_law_1477 : decode cL_law 1477 = .ok (.iadd, 1) := by decide +kernel
theorem dL_law_1478 : decode cL_law 1478 = .ok (.iaload, 1) := by decide +kernel
theorem dL_law_1479 : decode cL_law 1479 = .ok (.invokevirtual 171, 3) := by decide +kernel
theorem dL_law_1482 : decode cL_law 1482 = .ok (.aload_n 2, 1) := by decide +kernel
theorem dL_law_1483 : decode cL_law 1483 = .ok (.aload_n 0, 1) := by decide +kernel
theorem dL_law_1484 : decode cL_law 1484 = .ok (.iload_n 3, 1) := by decide +kernel
theorem dL_law_1485 : decode cL_law 1485 = .ok (.iconst 1, 1) := by decide +kernel
theorem dL_law_1486 : decode cL_law 1486 = .ok (.iadd, 1) := by decide +kernel
theorem dL_law_1487 : decode cL_law 1487 = .ok (.iaload, 1) := by decide +kernel
theorem dL_law_1488 : decode cL_law 1488 = .ok (.invokevirtual 174, 3) := by decide +kernel
theorem dL_law_1491 : decode cL_law 1491 = .ok (.if_icmp .eq 150, 3) := by decide +kernel
theorem dL_law_1494 : decode cL_law 1494 = .ok (.iconst 0, 1) := by decide +kernel
theorem dL_law_1495 : decode cL_law 1495 = .ok (.ireturn, 1) := by decide +kernel
theorem dL_law_1496 : decode cL_law 1496 = .ok (.aload_n 1, 1) := by decide +kernel
theorem dL_law_1497 : decode cL_law 1497 = .ok (.aload_n 0, 1) := by decide +kernel
theorem dL_law_1498 : decode cL_law 1498 = .ok (.iload_n 3, 1) := by decide +kernel
theorem dL_law_1499 : decode cL_law 1499 = .ok (.iconst 1, 1) := by decide +kernel
theorem dL_law_1500 : decode cL_law 1500 = .ok (.iadd, 1) := by decide +kernel
theorem dL_law_1501 : decode cL_law 1501 = .ok (.iaload, 1) := by decide +kernel
theorem dL_law_1502 : decode cL_law 1502 = .ok (.aload_n 0, 1) := by decide +kernel
theorem dL_law_1503 : decode cL_law 1503 = .ok (.iload_n 3, 1) := by decide +kernel
theorem dL_law_1504 : decode cL_law 1504 = .ok (.iconst 2, 1) := by decide +kernel
theorem dL_law_1505 : decode cL_law 1505 = .ok (.iadd, 1) := by decide +kernel
theorem dL_law_1506 : decode cL_law 1506 = .ok (.iaload, 1) := by decide +kernel
theorem dL_law_1507 : decode cL_law 1507 = .ok (.aload_n 0, 1) := by decide +kernel
theorem dL_law_1508 : decode cL_law 1508 = .ok (.iload_n 3, 1) := by decide +kernel
theorem dL_law_1509 : decode cL_law 1509 = .ok (.iconst 3, 1) := by decide +kernel
theorem dL_law_1510 : decode cL_law 1510 = .ok (.iadd, 1) := by decide +kernel
theorem dL_law_1511 : decode cL_law 1511 = .ok (.iaload, 1) := by decide +kernel
theorem dL_law_1512 : decode cL_law 1512 = .ok (.invokevirtual 175, 3) := by decide +kernel
theorem dL_law_1515 : decode cL_law 1515 = .ok (.aload_n 2, 1) := by decide +kernel
theorem dL_law_1516 : decode cL_law 1516 = .ok (.aload_n 0, 1) := by decide +kernel
theorem dL_law_1517 : decode cL_law 1517 = .ok (.iload_n 3, 1) := by decide +kernel
theorem dL_law_1518 : decode cL_law 1518 = .ok (.iconst 1, 1) := by decide +kernel
theorem dL_law_1519 : decode cL_law 1519 = .ok (.iadd, 1) := by decide +kernel
theorem dL_law_1520 : decode cL_law 1520 = .ok (.iaload, 1) := by decide +kernel
theorem dL_law_1521 : decode cL_law 1521 = .ok (.aload_n 0, 1) := by decide +kernel
theorem dL_law_1522 : decode cL_law 1522 = .ok (.iload_n 3, 1) := by decide +kernel
theorem dL_law_1523 : decode cL_law 1523 = .ok (.iconst 2, 1) := by decide +kernel
theorem dL_law_1524 : decode cL_law 1524 = .ok (.iadd, 1) := by decide +kernel
theorem dL_law_1525 : decode cL_law 1525 = .ok (.iaload, 1) := by decide +kernel
theorem dL_law_1526 : decode cL_law 1526 = .ok (.aload_n 0, 1) := by decide +kernel
theorem dL_law_1527 : decode cL_law 1527 = .ok (.iload_n 3, 1) := by decide +kernel
theorem dL_law_1528 : decode cL_law 1528 = .ok (.iconst 3, 1) := by decide +kernel
theorem dL_law_1529 : decode cL_law 1529 = .ok (.iadd, 1) := by decide +kernel
theorem dL_law_1530 : decode cL_law 1530 = .ok (.iaload, 1) := by decide +kernel
theorem dL_law_1531 : decode cL_law 1531 = .ok (.invokevirtual 178, 3) := by decide +kernel
theorem dL_law_1534 : decode cL_law 1534 = .ok (.if_icmp .eq 107, 3) := by decide +kernel
theorem dL_law_1537 : decode cL_law 1537 = .ok (.iconst 0, 1) := by decide +kernel
theorem dL_law_1538 : decode cL_law 1538 = .ok (.ireturn, 1) := by decide +kernel
theorem dL_law_1539 : decode cL_law 1539 = .ok (.aload_n 1, 1) := by decide +kernel
theorem dL_law_1540 : decode cL_law 1540 = .ok (.aload_n 0, 1) := by decide +kernel
theorem dL_law_1541 : decode cL_law 1541 = .ok (.iload_n 3, 1) := by decide +kernel
theorem dL_law_1542 : decode cL_law 1542 = .ok (.iconst 1, 1) := by decide +kernel
theorem dL_law_1543 : decode cL_law 1543 = .ok (.iadd, 1) := by decide +kernel
theorem dL_law_1544 : decode cL_law 1544 = .ok (.iaload, 1) := by decide +kernel
theorem dL_law_1545 : decode cL_law 1545 = .ok (.aload_n 0, 1) := by decide +kernel
theorem dL_law_1546 : decode cL_law 1546 = .ok (.iload_n 3, 1) := by decide +kernel
theorem dL_law_1547 : decode cL_law 1547 = .ok (.iconst 2, 1) := by decide +kernel
theorem dL_law_1548 : decode cL_law 1548 = .ok (.iadd, 1) := by decide +kernel
theorem dL_law_1549 : decode cL_law 1549 = .ok (.iaload, 1) := by decide +kernel
theorem dL_law_1550 : decode cL_law 1550 = .ok (.invokevirtual 179, 3) := by decide +kernel
theorem dL_law_1553 : decode cL_law 1553 = .ok (.aload_n 2, 1) := by decide +kernel
theorem dL_law_1554 : decode cL_law 1554 = .ok (.aload_n 0, 1) := by decide +kernel
theorem dL_law_1555 : decode cL_law 1555 = .ok (.iload_n 3, 1) := by decide +kernel
theorem dL_law_1556 : decode cL_law 1556 = .ok (.iconst 1, 1) := by decide +kernel
theorem dL_law_1557 : decode cL_law 1557 = .ok (.iadd, 1) := by decide +kernel
theorem dL_law_1558 : decode cL_law 1558 = .ok (.iaload, 1) := by decide +kernel
theorem dL_law_1559 : decode cL_law 1559 = .ok (.aload_n 0, 1) := by decide +kernel
theorem dL_law_1560 : decode cL_law 1560 = .ok (.iload_n 3, 1) := by decide +kernel
theorem dL_law_1561 : decode cL_law 1561 = .ok (.iconst 2, 1) := by decide +kernel
theorem dL_law_1562 : decode cL_law 1562 = .ok (.iadd, 1) := by decide +kernel
theorem dL_law_1563 : decode cL_law 1563 = .ok (.iaload, 1) := by decide +kernel
theorem dL_law_1564 : decode cL_law 1564 = .ok (.invokevirtual 182, 3) := by decide +kernel
theorem dL_law_1567 : decode cL_law 1567 = .ok (.if_icmp .eq 74, 3) := by decide +kernel
theorem dL_law_1570 : decode cL_law 1570 = .ok (.iconst 0, 1) := by decide +kernel
theorem dL_law_1571 : decode cL_law 1571 = .ok (.ireturn, 1) := by decide +kernel
theorem dL_law_1572 : decode cL_law 1572 = .ok (.aload_n 1, 1) := by decide +kernel
theorem dL_law_1573 : decode cL_law 1573 = .ok (.aload_n 0, 1) := by decide +kernel
theorem dL_law_1574 : decode cL_law 1574 = .ok (.iload_n 3, 1) := by decide +kernel
theorem dL_law_1575 : decode cL_law 1575 = .ok (.iconst 1, 1) := by decide +kernel
theorem dL_law_1576 : decode cL_law 1576 = .ok (.iadd, 1) := by decide +kernel
theorem dL_law_1577 : decode cL_law 1577 = .ok (.iaload, 1) := by decide +kernel
theorem dL_law_1578 : decode cL_law 1578 = .ok (.invokevirtual 183, 3) := by decide +kernel
theorem dL_law_1581 : decode cL_law 1581 = .ok (.aload_n 2, 1) := by decide +kernel
theorem dL_law_1582 : decode cL_law 1582 = .ok (.aload_n 0, 1) := by decide +kernel
theorem dL_law_1583 : decode cL_law 1583 = .ok (.iload_n 3, 1) := by decide +kernel
theorem dL_law_1584 : decode cL_law 1584 = .ok (.iconst 1, 1) := by decide +kernel
theorem dL_law_1585 : decode cL_law 1585 = .ok (.iadd, 1) := by decide +kernel
theorem dL_law_1586 : decode cL_law 1586 = .ok (.iaload, 1) := by decide +kernel
theorem dL_law_1587 : decode cL_law 1587 = .ok (.invokevirtual 186, 3) := by decide +kernel
theorem dL_law_1590 : decode cL_law 1590 = .ok (.if_icmp .eq 51, 3) := by decide +kernel
theorem dL_law_1593 : decode cL_law 1593 = .ok (.iconst 0, 1) := by decide +kernel
theorem dL_law_1594 : decode cL_law 1594 = .ok (.ireturn, 1) := by decide +kernel
theorem dL_law_1595 : decode cL_law 1595 = .ok (.aload_n 1, 1) := by decide +kernel
theorem dL_law_1596 : decode cL_law 1596 = .ok (.aload_n 0, 1) := by decide +kernel
theorem dL_law_1597 : decode cL_law 1597 = .ok (.iload_n 3, 1) := by decide +kernel
theorem dL_law_1598 : decode cL_law 1598 = .ok (.iconst 1, 1) := by decide +kernel
theorem dL_law_1599 : decode cL_law 1599 = .ok (.iadd, 1) := by decide +kernel
theorem dL_law_1600 : decode cL_law 1600 = .ok (.iaload, 1) := by decide +kernel
theorem dL_law_1601 : decode cL_law 1601 = .ok (.invokevirtual 187, 3) := by decide +kernel
theorem dL_law_1604 : decode cL_law 1604 = .ok (.aload_n 2, 1) := by decide +kernel
theorem dL_law_1605 : decode cL_law 1605 = .ok (.aload_n 0, 1) := by decide +kernel
theorem dL_law_1606 : decode cL_law 1606 = .ok (.iload_n 3, 1) := by decide +kernel
theorem dL_law_1607 : decode cL_law 1607 = .ok (.iconst 1, 1) := by decide +kernel
theorem dL_law_1608 : decode cL_law 1608 = .ok (.iadd, 1) := by decide +kernel
theorem dL_law_1609 : decode cL_law 1609 = .ok (.iaload, 1) := by decide +kernel
theorem dL_law_1610 : decode cL_law 1610 = .ok (.invokevirtual 190, 3) := by decide +kernel
theorem dL_law_1613 : decode cL_law 1613 = .ok (.if_icmp .eq 28, 3) := by decide +kernel
theorem dL_law_1616 : decode cL_law 1616 = .ok (.iconst 0, 1) := by decide +kernel
theorem dL_law_1617 : decode cL_law 1617 = .ok (.ireturn, 1) := by decide +kernel
theorem dL_law_1618 : decode cL_law 1618 = .ok (.aload_n 1, 1) := by decide +kernel
theorem dL_law_1619 : decode cL_law 1619 = .ok (.aload_n 0, 1) := by decide +kernel
theorem dL_law_1620 : decode cL_law 1620 = .ok (.iload_n 3, 1) := by decide +kernel
theorem dL_law_1621 : decode cL_law 1621 = .ok (.iconst 1, 1) := by decide +kernel
theorem dL_law_1622 : decode cL_law 1622 = .ok (.iadd, 1) := by decide +kernel
theorem dL_law_1623 : decode cL_law 1623 = .ok (.iaload, 1) := by decide +kernel
theorem dL_law_1624 : decode cL_law 1624 = .ok (.invokevirtual 191, 3) := by decide +kernel
theorem dL_law_1627 : decode cL_law 1627 = .ok (.aload_n 2, 1) := by decide +kernel
theorem dL_law_1628 : decode cL_law 1628 = .ok (.aload_n 0, 1) := by decide +kernel
theorem dL_law_1629 : decode cL_law 1629 = .ok (.iload_n 3, 1) := by decide +kernel
theorem dL_law_1630 : decode cL_law 1630 = .ok (.iconst 1, 1) := by decide +kernel
theorem dL_law_1631 : decode cL_law 1631 = .ok (.iadd, 1) := by decide +kernel
theorem dL_law_1632 : decode cL_law 1632 = .ok (.iaload, 1) := by decide +kernel
theorem dL_law_1633 : decode cL_law 1633 = .ok (.invokevirtual 194, 3) := by decide +kernel
theorem dL_law_1636 : decode cL_law 1636 = .ok (.if_icmp .eq 5, 3) := by decide +kernel
theorem dL_law_1639 : decode cL_law 1639 = .ok (.iconst 0, 1) := by decide +kernel
theorem dL_law_1640 : decode cL_law 1640 = .ok (.ireturn, 1) := by decide +kernel
theorem dL_law_1641 : decode cL_law 1641 = .ok (.iinc 3 6, 3) := by decide +kernel
theorem dL_law_1644 : decode cL_law 1644 = .ok (.goto (-1626), 3) := by decide +kernel
theorem dL_law_1647 : decode cL_law 1647 = .ok (.iconst 1, 1) := by decide +kernel
theorem dL_law_1648 : decode cL_law 1648 = .ok (.ireturn, 1) := by decide +kernel
