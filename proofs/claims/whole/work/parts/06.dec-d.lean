theorem dX12_worse_175 : decode cX12_worse 175 = .ok (.iaload, 1) := by decide +kernel
theorem dX12_worse_176 : decode cX12_worse 176 = .ok (.i2l, 1) := by decide +kernel
theorem dX12_worse_177 : decode cX12_worse 177 = .ok (.invokevirtual 222, 3) := by decide +kernel
theorem dX12_worse_180 : decode cX12_worse 180 = .ok (.lconst 0, 1) := by decide +kernel
theorem dX12_worse_181 : decode cX12_worse 181 = .ok (.lcmp, 1) := by decide +kernel
theorem dX12_worse_182 : decode cX12_worse 182 = .ok (.ifCond .ne 7, 3) := by decide +kernel
theorem dX12_worse_185 : decode cX12_worse 185 = .ok (.iconst 1, 1) := by decide +kernel
theorem dX12_worse_186 : decode cX12_worse 186 = .ok (.goto 4, 3) := by decide +kernel
theorem dX12_worse_189 : decode cX12_worse 189 = .ok (.iconst 0, 1) := by decide +kernel
theorem dX12_worse_190 : decode cX12_worse 190 = .ok (.iadd, 1) := by decide +kernel
theorem dX12_worse_191 : decode cX12_worse 191 = .ok (.istore 6, 2) := by decide +kernel
theorem dX12_worse_193 : decode cX12_worse 193 = .ok (.iinc 7 1, 3) := by decide +kernel
theorem dX12_worse_196 : decode cX12_worse 196 = .ok (.goto (-45), 3) := by decide +kernel
theorem dX12_worse_199 : decode cX12_worse 199 = .ok (.iload 6, 2) := by decide +kernel
theorem dX12_worse_201 : decode cX12_worse 201 = .ok (.i2l, 1) := by decide +kernel
theorem dX12_worse_202 : decode cX12_worse 202 = .ok (.lreturn, 1) := by decide +kernel
theorem dX12_heaviest_0 : decode cX12_heaviest 0 = .ok (.iload_n 1, 1) := by decide +kernel
theorem dX12_heaviest_1 : decode cX12_heaviest 1 = .ok (.iconst 0, 1) := by decide +kernel
theorem dX12_heaviest_2 : decode cX12_heaviest 2 = .ok (.iconst 1, 1) := by decide +kernel
theorem dX12_heaviest_3 : decode cX12_heaviest 3 = .ok (.invokestatic 76, 3) := by decide +kernel
theorem dX12_heaviest_6 : decode cX12_heaviest 6 = .ok (.ifCond .ne 5, 3) := by decide +kernel
theorem dX12_heaviest_9 : decode cX12_heaviest 9 = .ok (.iconst (-1), 1) := by decide +kernel
theorem dX12_heaviest_10 : decode cX12_heaviest 10 = .ok (.ireturn, 1) := by decide +kernel
theorem dX12_heaviest_11 : decode cX12_heaviest 11 = .ok (.iconst (-1), 1) := by decide +kernel
theorem dX12_heaviest_12 : decode cX12_heaviest 12 = .ok (.istore_n 2, 1) := by decide +kernel
theorem dX12_heaviest_13 : decode cX12_heaviest 13 = .ok (.lconst 0, 1) := by decide +kernel
theorem dX12_heaviest_14 : decode cX12_heaviest 14 = .ok (.lstore_n 3, 1) := by decide +kernel
theorem dX12_heaviest_15 : decode cX12_heaviest 15 = .ok (.lconst 1, 1) := by decide +kernel
theorem dX12_heaviest_16 : decode cX12_heaviest 16 = .ok (.lstore 5, 2) := by decide +kernel
theorem dX12_heaviest_18 : decode cX12_heaviest 18 = .ok (.iconst 1, 1) := by decide +kernel
theorem dX12_heaviest_19 : decode cX12_heaviest 19 = .ok (.istore 7, 2) := by decide +kernel
theorem dX12_heaviest_21 : decode cX12_heaviest 21 = .ok (.iload 7, 2) := by decide +kernel
theorem dX12_heaviest_23 : decode cX12_heaviest 23 = .ok (.bipush 16, 2) := by decide +kernel
theorem dX12_heaviest_25 : decode cX12_heaviest 25 = .ok (.if_icmp .ge 71, 3) := by decide +kernel
theorem dX12_heaviest_28 : decode cX12_heaviest 28 = .ok (.iload 7, 2) := by decide +kernel
theorem dX12_heaviest_30 : decode cX12_heaviest 30 = .ok (.invokestatic 317, 3) := by decide +kernel
theorem dX12_heaviest_33 : decode cX12_heaviest 33 = .ok (.iload_n 1, 1) := by decide +kernel
theorem dX12_heaviest_34 : decode cX12_heaviest 34 = .ok (.iconst 1, 1) := by decide +kernel
theorem dX12_heaviest_35 : decode cX12_heaviest 35 = .ok (.iadd, 1) := by decide +kernel
theorem dX12_heaviest_36 : decode cX12_heaviest 36 = .ok (.if_icmp .ne 54, 3) := by decide +kernel
theorem dX12_heaviest_39 : decode cX12_heaviest 39 = .ok (.aload_n 0, 1) := by decide +kernel
theorem dX12_heaviest_40 : decode cX12_heaviest 40 = .ok (.iload 7, 2) := by decide +kernel
theorem dX12_heaviest_42 : decode cX12_heaviest 42 = .ok (.invokevirtual 288, 3) := by decide +kernel
theorem dX12_heaviest_45 : decode cX12_heaviest 45 = .ok (.ifCond .ne 6, 3) := by decide +kernel
theorem dX12_heaviest_48 : decode cX12_heaviest 48 = .ok (.goto 42, 3) := by decide +kernel
theorem dX12_heaviest_51 : decode cX12_heaviest 51 = .ok (.iload_n 2, 1) := by decide +kernel
theorem dX12_heaviest_52 : decode cX12_heaviest 52 = .ok (.iconst (-1), 1) := by decide +kernel
theorem dX12_heaviest_53 : decode cX12_heaviest 53 = .ok (.if_icmp .eq 23, 3) := by decide +kernel
theorem dX12_heaviest_56 : decode cX12_heaviest 56 = .ok (.aload_n 0, 1) := by decide +kernel
theorem dX12_heaviest_57 : decode cX12_heaviest 57 = .ok (.getfield 196, 3) := by decide +kernel
theorem dX12_heaviest_60 : decode cX12_heaviest 60 = .ok (.aload_n 0, 1) := by decide +kernel
theorem dX12_heaviest_61 : decode cX12_heaviest 61 = .ok (.getfield 199, 3) := by decide +kernel
theorem dX12_heaviest_64 : decode cX12_heaviest 64 = .ok (.lload_n 3, 1) := by decide +kernel
theorem dX12_heaviest_65 : decode cX12_heaviest 65 = .ok (.lload 5, 2) := by decide +kernel
theorem dX12_heaviest_67 : decode cX12_heaviest 67 = .ok (.invokestatic 271, 3) := by decide +kernel
theorem dX12_heaviest_70 : decode cX12_heaviest 70 = .ok (.ifCond .gt 6, 3) := by decide +kernel
theorem dX12_heaviest_73 : decode cX12_heaviest 73 = .ok (.goto 17, 3) := by decide +kernel
theorem dX12_heaviest_76 : decode cX12_heaviest 76 = .ok (.iload 7, 2) := by decide +kernel
theorem dX12_heaviest_78 : decode cX12_heaviest 78 = .ok (.istore_n 2, 1) := by decide +kernel
theorem dX12_heaviest_79 : decode cX12_heaviest 79 = .ok (.aload_n 0, 1) := by decide +kernel
theorem dX12_heaviest_80 : decode cX12_heaviest 80 = .ok (.getfield 196, 3) := by decide +kernel
theorem dX12_heaviest_83 : decode cX12_heaviest 83 = .ok (.lstore_n 3, 1) := by decide +kernel
theorem dX12_heaviest_84 : decode cX12_heaviest 84 = .ok (.aload_n 0, 1) := by decide +kernel
theorem dX12_heaviest_85 : decode cX12_heaviest 85 = .ok (.getfield 199, 3) := by decide +kernel
theorem dX12_heaviest_88 : decode cX12_heaviest 88 = .ok (.lstore 5, 2) := by decide +kernel
theorem dX12_heaviest_90 : decode cX12_heaviest 90 = .ok (.iinc 7 1, 3) := by decide +kernel
theorem dX12_heaviest_93 : decode cX12_heaviest 93 = .ok (.goto (-72), 3) := by decide +kernel
theorem dX12_heaviest_96 : decode cX12_heaviest 96 = .ok (.iload_n 2, 1) := by decide +kernel
theorem dX12_heaviest_97 : decode cX12_heaviest 97 = .ok (.ireturn, 1) := by decide +kernel
theorem dX12_bits_0 : decode cX12_bits 0 = .ok (.iconst 0, 1) := by decide +kernel
theorem dX12_bits_1 : decode cX12_bits 1 = .ok (.istore_n 1, 1) := by decide +kernel
theorem dX12_bits_2 : decode cX12_bits 2 = .ok (.iload_n 0, 1) := by decide +kernel
theorem dX12_bits_3 : decode cX12_bits 3 = .ok (.istore_n 2, 1) := by decide +kernel
theorem dX12_bits_4 : decode cX12_bits 4 = .ok (.iload_n 2, 1) := by decide +kernel
theorem dX12_bits_5 : decode cX12_bits 5 = .ok (.ifCond .eq 15, 3) := by decide +kernel
theorem dX12_bits_8 : decode cX12_bits 8 = .ok (.iinc 1 1, 3) := by decide +kernel
theorem dX12_bits_11 : decode cX12_bits 11 = .ok (.iload_n 2, 1) := by decide +kernel
theorem dX12_bits_12 : decode cX12_bits 12 = .ok (.iload_n 2, 1) := by decide +kernel
theorem dX12_bits_13 : decode cX12_bits 13 = .ok (.iconst 1, 1) := by decide +kernel
theorem dX12_bits_14 : decode cX12_bits 14 = .ok (.isub, 1) := by decide +kernel
theorem dX12_bits_15 : decode cX12_bits 15 = .ok (.iand, 1) := by decide +kernel
theorem dX12_bits_16 : decode cX12_bits 16 = .ok (.istore_n 2, 1) := by decide +kernel
theorem dX12_bits_17 : decode cX12_bits 17 = .ok (.goto (-13), 3) := by decide +kernel
theorem dX12_bits_20 : decode cX12_bits 20 = .ok (.iload_n 1, 1) := by decide +kernel
theorem dX12_bits_21 : decode cX12_bits 21 = .ok (.ireturn, 1) := by decide +kernel
theorem dX12_layHull_0 : decode cX12_layHull 0 = .ok (.iconst 0, 1) := by decide +kernel
theorem dX12_layHull_1 : decode cX12_layHull 1 = .ok (.istore_n 3, 1) := by decide +kernel
theorem dX12_layHull_2 : decode cX12_layHull 2 = .ok (.iconst 0, 1) := by decide +kernel
theorem dX12_layHull_3 : decode cX12_layHull 3 = .ok (.istore 4, 2) := by decide +kernel
theorem dX12_layHull_5 : decode cX12_layHull 5 = .ok (.iload 4, 2) := by decide +kernel
theorem dX12_layHull_7 : decode cX12_layHull 7 = .ok (.aload_n 0, 1) := by decide +kernel
theorem dX12_layHull_8 : decode cX12_layHull 8 = .ok (.getfield 157, 3) := by decide +kernel
theorem dX12_layHull_11 : decode cX12_layHull 11 = .ok (.if_icmp .ge 70, 3) := by decide +kernel
theorem dX12_layHull_14 : decode cX12_layHull 14 = .ok (.lload_n 1, 1) := by decide +kernel
theorem dX12_layHull_15 : decode cX12_layHull 15 = .ok (.iload 4, 2) := by decide +kernel
theorem dX12_layHull_17 : decode cX12_layHull 17 = .ok (.invokestatic 225, 3) := by decide +kernel
theorem dX12_layHull_20 : decode cX12_layHull 20 = .ok (.ifCond .ne 6, 3) := by decide +kernel
theorem dX12_layHull_23 : decode cX12_layHull 23 = .ok (.goto 52, 3) := by decide +kernel
theorem dX12_layHull_26 : decode cX12_layHull 26 = .ok (.iload_n 3, 1) := by decide +kernel
theorem dX12_layHull_27 : decode cX12_layHull 27 = .ok (.iconst 1, 1) := by decide +kernel
theorem dX12_layHull_28 : decode cX12_layHull 28 = .ok (.if_icmp .le 36, 3) := by decide +kernel
theorem dX12_layHull_31 : decode cX12_layHull 31 = .ok (.aload_n 0, 1) := by decide +kernel
theorem dX12_layHull_32 : decode cX12_layHull 32 = .ok (.aload_n 0, 1) := by decide +kernel
theorem dX12_layHull_33 : decode cX12_layHull 33 = .ok (.getfield 57, 3) := by decide +kernel
theorem dX12_layHull_36 : decode cX12_layHull 36 = .ok (.iload_n 3, 1) := by decide +kernel
theorem dX12_layHull_37 : decode cX12_layHull 37 = .ok (.iconst 2, 1) := by decide +kernel
theorem dX12_layHull_38 : decode cX12_layHull 38 = .ok (.isub, 1) := by decide +kernel
theorem dX12_layHull_39 : decode cX12_layHull 39 = .ok (.iaload, 1) := by decide +kernel
theorem dX12_layHull_40 : decode cX12_layHull 40 = .ok (.aload_n 0, 1) := by decide +kernel
theorem dX12_layHull_41 : decode cX12_layHull 41 = .ok (.getfield 57, 3) := by decide +kernel
theorem dX12_layHull_44 : decode cX12_layHull 44 = .ok (.iload_n 3, 1) := by decide +kernel
theorem dX12_layHull_45 : decode cX12_layHull 45 = .ok (.iconst 1, 1) := by decide +kernel
theorem dX12_layHull_46 : decode cX12_layHull 46 = .ok (.isub, 1) := by decide +kernel
theorem dX12_layHull_47 : decode cX12_layHull 47 = .ok (.iaload, 1) := by decide +kernel
theorem dX12_layHull_48 : decode cX12_layHull 48 = .ok (.iload 4, 2) := by decide +kernel
theorem dX12_layHull_50 : decode cX12_layHull 50 = .ok (.invokevirtual 216, 3) := by decide +kernel
theorem dX12_layHull_53 : decode cX12_layHull 53 = .ok (.lconst 0, 1) := by decide +kernel
theorem dX12_layHull_54 : decode cX12_layHull 54 = .ok (.lcmp, 1) := by decide +kernel
theorem dX12_layHull_55 : decode cX12_layHull 55 = .ok (.ifCond .gt 9, 3) := by decide +kernel
theorem dX12_layHull_58 : decode cX12_layHull 58 = .ok (.iinc 3 (-1), 3) := by decide +kernel
theorem dX12_layHull_61 : decode cX12_layHull 61 = .ok (.goto (-35), 3) := by decide +kernel
theorem dX12_layHull_64 : decode cX12_layHull 64 = .ok (.aload_n 0, 1) := by decide +kernel
theorem dX12_layHull_65 : decode cX12_layHull 65 = .ok (.getfield 57, 3) := by decide +kernel
theorem dX12_layHull_68 : decode cX12_layHull 68 = .ok (.iload_n 3, 1) := by decide +kernel
theorem dX12_layHull_69 : decode cX12_layHull 69 = .ok (.iload 4, 2) := by decide +kernel
theorem dX12_layHull_71 : decode cX12_layHull 71 = .ok (.iastore, 1) := by decide +kernel
theorem dX12_layHull_72 : decode cX12_layHull 72 = .ok (.iinc 3 1, 3) := by decide +kernel
theorem dX12_layHull_75 : decode cX12_layHull 75 = .ok (.iinc 4 1, 3) := by decide +kernel
theorem dX12_layHull_78 : decode cX12_layHull 78 = .ok (.goto (-73), 3) := by decide +kernel
theorem dX12_layHull_81 : decode cX12_layHull 81 = .ok (.aload_n 0, 1) := by decide +kernel
theorem dX12_layHull_82 : decode cX12_layHull 82 = .ok (.iload_n 3, 1) := by decide +kernel
theorem dX12_layHull_83 : decode cX12_layHull 83 = .ok (.putfield 320, 3) := by decide +kernel
theorem dX12_layHull_86 : decode cX12_layHull 86 = .ok (.iconst 0, 1) := by decide +kernel
theorem dX12_layHull_87 : decode cX12_layHull 87 = .ok (.istore 4, 2) := by decide +kernel
theorem dX12_layHull_89 : decode cX12_layHull 89 = .ok (.iload 4, 2) := by decide +kernel
theorem dX12_layHull_91 : decode cX12_layHull 91 = .ok (.iload_n 3, 1) := by decide +kernel
theorem dX12_layHull_92 : decode cX12_layHull 92 = .ok (.if_icmp .ge 23, 3) := by decide +kernel
theorem dX12_layHull_95 : decode cX12_layHull 95 = .ok (.aload_n 0, 1) := by decide +kernel
theorem dX12_layHull_96 : decode cX12_layHull 96 = .ok (.getfield 54, 3) := by decide +kernel
theorem dX12_layHull_99 : decode cX12_layHull 99 = .ok (.iload 4, 2) := by decide +kernel
theorem dX12_layHull_101 : decode cX12_layHull 101 = .ok (.aload_n 0, 1) := by decide +kernel
theorem dX12_layHull_102 : decode cX12_layHull 102 = .ok (.getfield 57, 3) := by decide +kernel
theorem dX12_layHull_105 : decode cX12_layHull 105 = .ok (.iload 4, 2) := by decide +kernel
theorem dX12_layHull_107 : decode cX12_layHull 107 = .ok (.iaload, 1) := by decide +kernel
theorem dX12_layHull_108 : decode cX12_layHull 108 = .ok (.iastore, 1) := by decide +kernel
theorem dX12_layHull_109 : decode cX12_layHull 109 = .ok (.iinc 4 1, 3) := by decide +kernel
theorem dX12_layHull_112 : decode cX12_layHull 112 = .ok (.goto (-23), 3) := by decide +kernel
theorem dX12_layHull_115 : decode cX12_layHull 115 = .ok (.iload_n 3, 1) := by decide +kernel
theorem dX12_layHull_116 : decode cX12_layHull 116 = .ok (.iconst 2, 1) := by decide +kernel
theorem dX12_layHull_117 : decode cX12_layHull 117 = .ok (.if_icmp .ge 4, 3) := by decide +kernel
theorem dX12_layHull_120 : decode cX12_layHull 120 = .ok (.return_, 1) := by decide +kernel
theorem dX12_layHull_121 : decode cX12_layHull 121 = .ok (.aload_n 0, 1) := by decide +kernel
theorem dX12_layHull_122 : decode cX12_layHull 122 = .ok (.getfield 57, 3) := by decide +kernel
theorem dX12_layHull_125 : decode cX12_layHull 125 = .ok (.iload_n 3, 1) := by decide +kernel
theorem dX12_layHull_126 : decode cX12_layHull 126 = .ok (.iconst 1, 1) := by decide +kernel
theorem dX12_layHull_127 : decode cX12_layHull 127 = .ok (.isub, 1) := by decide +kernel
theorem dX12_layHull_128 : decode cX12_layHull 128 = .ok (.iaload, 1) := by decide +kernel
theorem dX12_layHull_129 : decode cX12_layHull 129 = .ok (.istore 4, 2) := by decide +kernel
theorem dX12_layHull_131 : decode cX12_layHull 131 = .ok (.iconst 1, 1) := by decide +kernel
theorem dX12_layHull_132 : decode cX12_layHull 132 = .ok (.istore_n 3, 1) := by decide +kernel
theorem dX12_layHull_133 : decode cX12_layHull 133 = .ok (.aload_n 0, 1) := by decide +kernel
theorem dX12_layHull_134 : decode cX12_layHull 134 = .ok (.getfield 57, 3) := by decide +kernel
theorem dX12_layHull_137 : decode cX12_layHull 137 = .ok (.iconst 0, 1) := by decide +kernel
theorem dX12_layHull_138 : decode cX12_layHull 138 = .ok (.iload 4, 2) := by decide +kernel
theorem dX12_layHull_140 : decode cX12_layHull 140 = .ok (.iastore, 1) := by decide +kernel
theorem dX12_layHull_141 : decode cX12_layHull 141 = .ok (.iload 4, 2) := by decide +kernel
theorem dX12_layHull_143 : decode cX12_layHull 143 = .ok (.iconst 1, 1) := by decide +kernel
theorem dX12_layHull_144 : decode cX12_layHull 144 = .ok (.isub, 1) := by decide +kernel
theorem dX12_layHull_145 : decode cX12_layHull 145 = .ok (.istore 5, 2) := by decide +kernel
theorem dX12_layHull_147 : decode cX12_layHull 147 = .ok (.iload 5, 2) := by decide +kernel
theorem dX12_layHull_149 : decode cX12_layHull 149 = .ok (.ifCond .lt 70, 3) := by decide +kernel
theorem dX12_layHull_152 : decode cX12_layHull 152 = .ok (.lload_n 1, 1) := by decide +kernel
theorem dX12_layHull_153 : decode cX12_layHull 153 = .ok (.iload 5, 2) := by decide +kernel
theorem dX12_layHull_155 : decode cX12_layHull 155 = .ok (.invokestatic 225, 3) := by decide +kernel
theorem dX12_layHull_158 : decode cX12_layHull 158 = .ok (.ifCond .ne 6, 3) := by decide +kernel
theorem dX12_layHull_161 : decode cX12_layHull 161 = .ok (.goto 52, 3) := by decide +kernel
theorem dX12_layHull_164 : decode cX12_layHull 164 = .ok (.iload_n 3, 1) := by decide +kernel
theorem dX12_layHull_165 : decode cX12_layHull 165 = .ok (.iconst 1, 1) := by decide +kernel
theorem dX12_layHull_166 : decode cX12_layHull 166 = .ok (.if_icmp .le 36, 3) := by decide +kernel
theorem dX12_layHull_169 : decode cX12_layHull 169 = .ok (.aload_n 0, 1) := by decide +kernel
theorem dX12_layHull_170 : decode cX12_layHull 170 = .ok (.aload_n 0, 1) := by decide +kernel
theorem dX12_layHull_171 : decode cX12_layHull 171 = .ok (.getfield 57, 3) := by decide +kernel
theorem dX12_layHull_174 : decode cX12_layHull 174 = .ok (.iload_n 3, 1) := by decide +kernel
theorem dX12_layHull_175 : decode cX12_layHull 175 = .ok (.iconst 2, 1) := by decide +kernel
theorem dX12_layHull_176 : decode cX12_layHull 176 = .ok (.isub, 1) := by decide +kernel
theorem dX12_layHull_177 : decode cX12_layHull 177 = .ok (.iaload, 1) := by decide +kernel
theorem dX12_layHull_178 : decode cX12_layHull 178 = .ok (.aload_n 0, 1) := by decide +kernel
theorem dX12_layHull_179 : decode cX12_layHull 179 = .ok (.getfield 57, 3) := by decide +kernel
theorem dX12_layHull_182 : decode cX12_layHull 182 = .ok (.iload_n 3, 1) := by decide +kernel
theorem dX12_layHull_183 : decode cX12_layHull 183 = .ok (.iconst 1, 1) := by decide +kernel
theorem dX12_layHull_184 : decode cX12_layHull 184 = .ok (.isub, 1) := by decide +kernel
theorem dX12_layHull_185 : decode cX12_layHull 185 = .ok (.iaload, 1) := by decide +kernel
theorem dX12_layHull_186 : decode cX12_layHull 186 = .ok (.iload 5, 2) := by decide +kernel
theorem dX12_layHull_188 : decode cX12_layHull 188 = .ok (.invokevirtual 216, 3) := by decide +kernel
theorem dX12_layHull_191 : decode cX12_layHull 191 = .ok (.lconst 0, 1) := by decide +kernel
theorem dX12_layHull_192 : decode cX12_layHull 192 = .ok (.lcmp, 1) := by decide +kernel
theorem dX12_layHull_193 : decode cX12_layHull 193 = .ok (.ifCond .gt 9, 3) := by decide +kernel
theorem dX12_layHull_196 : decode cX12_layHull 196 = .ok (.iinc 3 (-1), 3) := by decide +kernel
theorem dX12_layHull_199 : decode cX12_layHull 199 = .ok (.goto (-35), 3) := by decide +kernel
theorem dX12_layHull_202 : decode cX12_layHull 202 = .ok (.aload_n 0, 1) := by decide +kernel
theorem dX12_layHull_203 : decode cX12_layHull 203 = .ok (.getfield 57, 3) := by decide +kernel
theorem dX12_layHull_206 : decode cX12_layHull 206 = .ok (.iload_n 3, 1) := by decide +kernel
theorem dX12_layHull_207 : decode cX12_layHull 207 = .ok (.iload 5, 2) := by decide +kernel
theorem dX12_layHull_209 : decode cX12_layHull 209 = .ok (.iastore, 1) := by decide +kernel
theorem dX12_layHull_210 : decode cX12_layHull 210 = .ok (.iinc 3 1, 3) := by decide +kernel
theorem dX12_layHull_213 : decode cX12_layHull 213 = .ok (.iinc 5 (-1), 3) := by decide +kernel
theorem dX12_layHull_216 : decode cX12_layHull 216 = .ok (.goto (-69), 3) := by decide +kernel
theorem dX12_layHull_219 : decode cX12_layHull 219 = .ok (.iconst 1, 1) := by decide +kernel
theorem dX12_layHull_220 : decode cX12_layHull 220 = .ok (.istore 5, 2) := by decide +kernel
theorem dX12_layHull_222 : decode cX12_layHull 222 = .ok (.iload 5, 2) := by decide +kernel
theorem dX12_layHull_224 : decode cX12_layHull 224 = .ok (.iload_n 3, 1) := by decide +kernel
theorem dX12_layHull_225 : decode cX12_layHull 225 = .ok (.iconst 1, 1) := by decide +kernel
theorem dX12_layHull_226 : decode cX12_layHull 226 = .ok (.isub, 1) := by decide +kernel
theorem dX12_layHull_227 : decode cX12_layHull 227 = .ok (.if_icmp .ge 35, 3) := by decide +kernel
theorem dX12_layHull_230 : decode cX12_layHull 230 = .ok (.aload_n 0, 1) := by decide +kernel
theorem dX12_layHull_231 : decode cX12_layHull 231 = .ok (.getfield 54, 3) := by decide +kernel
theorem dX12_layHull_234 : decode cX12_layHull 234 = .ok (.aload_n 0, 1) := by decide +kernel
theorem dX12_layHull_235 : decode cX12_layHull 235 = .ok (.getfield 320, 3) := by decide +kernel
theorem dX12_layHull_238 : decode cX12_layHull 238 = .ok (.aload_n 0, 1) := by decide +kernel
theorem dX12_layHull_239 : decode cX12_layHull 239 = .ok (.getfield 57, 3) := by decide +kernel
theorem dX12_layHull_242 : decode cX12_layHull 242 = .ok (.iload 5, 2) := by decide +kernel
theorem dX12_layHull_244 : decode cX12_layHull 244 = .ok (.iaload, 1) := by decide +kernel
theorem dX12_layHull_245 : decode cX12_layHull 245 = .ok (.iastore, 1) := by decide +kernel
theorem dX12_layHull_246 : decode cX12_layHull 246 = .ok (.aload_n 0, 1) := by decide +kernel
theorem dX12_layHull_247 : decode cX12_layHull 247 = .ok (.dup, 1) := by decide +kernel
theorem dX12_layHull_248 : decode cX12_layHull 248 = .ok (.getfield 320, 3) := by decide +kernel
theorem dX12_layHull_251 : decode cX12_layHull 251 = .ok (.iconst 1, 1) := by decide +kernel
theorem dX12_layHull_252 : decode cX12_layHull 252 = .ok (.iadd, 1) := by decide +kernel
theorem dX12_layHull_253 : decode cX12_layHull 253 = .ok (.putfield 320, 3) := by decide +kernel
theorem dX12_layHull_256 : decode cX12_layHull 256 = .ok (.iinc 5 1, 3) := by decide +kernel
theorem dX12_layHull_259 : decode cX12_layHull 259 = .ok (.goto (-37), 3) := by decide +kernel
theorem dX12_layHull_262 : decode cX12_layHull 262 = .ok (.return_, 1) := by decide +kernel
theorem dX12_hasHull_0 : decode cX12_hasHull 0 = .ok (.aload_n 0, 1) := by decide +kernel
theorem dX12_hasHull_1 : decode cX12_hasHull 1 = .ok (.iload_n 1, 1) := by decide +kernel
theorem dX12_hasHull_2 : decode cX12_hasHull 2 = .ok (.invokevirtual 173, 3) := by decide +kernel
theorem dX12_hasHull_5 : decode cX12_hasHull 5 = .ok (.ifCond .ne 5, 3) := by decide +kernel
theorem dX12_hasHull_8 : decode cX12_hasHull 8 = .ok (.iconst 0, 1) := by decide +kernel
theorem dX12_hasHull_9 : decode cX12_hasHull 9 = .ok (.ireturn, 1) := by decide +kernel
theorem dX12_hasHull_10 : decode cX12_hasHull 10 = .ok (.aload_n 0, 1) := by decide +kernel
theorem dX12_hasHull_11 : decode cX12_hasHull 11 = .ok (.aload_n 0, 1) := by decide +kernel
theorem dX12_hasHull_12 : decode cX12_hasHull 12 = .ok (.invokevirtual 281, 3) := by decide +kernel
theorem dX12_hasHull_15 : decode cX12_hasHull 15 = .ok (.invokevirtual 323, 3) := by decide +kernel
theorem dX12_hasHull_18 : decode cX12_hasHull 18 = .ok (.iconst 1, 1) := by decide +kernel
theorem dX12_hasHull_19 : decode cX12_hasHull 19 = .ok (.ireturn, 1) := by decide +kernel
theorem dX12_isWide_0 : decode cX12_isWide 0 = .ok (.aload_n 0, 1) := by decide +kernel
theorem dX12_isWide_1 : decode cX12_isWide 1 = .ok (.iload_n 1, 1) := by decide +kernel
theorem dX12_isWide_2 : decode cX12_isWide 2 = .ok (.invokevirtual 326, 3) := by decide +kernel
theorem dX12_isWide_5 : decode cX12_isWide 5 = .ok (.ifCond .eq 15, 3) := by decide +kernel
theorem dX12_isWide_8 : decode cX12_isWide 8 = .ok (.aload_n 0, 1) := by decide +kernel
theorem dX12_isWide_9 : decode cX12_isWide 9 = .ok (.getfield 320, 3) := by decide +kernel
theorem dX12_isWide_12 : decode cX12_isWide 12 = .ok (.iconst 2, 1) := by decide +kernel
theorem dX12_isWide_13 : decode cX12_isWide 13 = .ok (.if_icmp .le 7, 3) := by decide +kernel
theorem dX12_isWide_16 : decode cX12_isWide 16 = .ok (.iconst 1, 1) := by decide +kernel
theorem dX12_isWide_17 : decode cX12_isWide 17 = .ok (.goto 4, 3) := by decide +kernel
theorem dX12_isWide_20 : decode cX12_isWide 20 = .ok (.iconst 0, 1) := by decide +kernel
theorem dX12_isWide_21 : decode cX12_isWide 21 = .ok (.ireturn, 1) := by decide +kernel
theorem dX12_after_0 : decode cX12_after 0 = .ok (.iload_n 1, 1) := by decide +kernel
theorem dX12_after_1 : decode cX12_after 1 = .ok (.iconst 1, 1) := by decide +kernel
theorem dX12_after_2 : decode cX12_after 2 = .ok (.iadd, 1) := by decide +kernel
theorem dX12_after_3 : decode cX12_after 3 = .ok (.aload_n 0, 1) := by decide +kernel
theorem dX12_after_4 : decode cX12_after 4 = .ok (.getfield 320, 3) := by decide +kernel
theorem dX12_after_7 : decode cX12_after 7 = .ok (.if_icmp .ge 9, 3) := by decide +kernel
theorem dX12_after_10 : decode cX12_after 10 = .ok (.iload_n 1, 1) := by decide +kernel
theorem dX12_after_11 : decode cX12_after 11 = .ok (.iconst 1, 1) := by decide +kernel
theorem dX12_after_12 : decode cX12_after 12 = .ok (.iadd, 1) := by decide +kernel
theorem dX12_after_13 : decode cX12_after 13 = .ok (.goto 4, 3) := by decide +kernel
theorem dX12_after_16 : decode cX12_after 16 = .ok (.iconst 0, 1) := by decide +kernel
theorem dX12_after_17 : decode cX12_after 17 = .ok (.ireturn, 1) := by decide +kernel
theorem dX12_hull_0 : decode cX12_hull 0 = .ok (.iload_n 2, 1) := by decide +kernel
theorem dX12_hull_1 : decode cX12_hull 1 = .ok (.iconst (-1), 1) := by decide +kernel
theorem dX12_hull_2 : decode cX12_hull 2 = .ok (.if_icmp .lt 11, 3) := by decide +kernel
theorem dX12_hull_5 : decode cX12_hull 5 = .ok (.aload_n 0, 1) := by decide +kernel
theorem dX12_hull_6 : decode cX12_hull 6 = .ok (.iload_n 1, 1) := by decide +kernel
theorem dX12_hull_7 : decode cX12_hull 7 = .ok (.invokevirtual 326, 3) := by decide +kernel
theorem dX12_hull_10 : decode cX12_hull 10 = .ok (.ifCond .ne 5, 3) := by decide +kernel
theorem dX12_hull_13 : decode cX12_hull 13 = .ok (.iconst (-1), 1) := by decide +kernel
theorem dX12_hull_14 : decode cX12_hull 14 = .ok (.ireturn, 1) := by decide +kernel
theorem dX12_hull_15 : decode cX12_hull 15 = .ok (.iload_n 2, 1) := by decide +kernel
theorem dX12_hull_16 : decode cX12_hull 16 = .ok (.iconst (-1), 1) := by decide +kernel
theorem dX12_hull_17 : decode cX12_hull 17 = .ok (.if_icmp .ne 10, 3) := by decide +kernel
theorem dX12_hull_20 : decode cX12_hull 20 = .ok (.aload_n 0, 1) := by decide +kernel
theorem dX12_hull_21 : decode cX12_hull 21 = .ok (.getfield 320, 3) := by decide +kernel
theorem dX12_hull_24 : decode cX12_hull 24 = .ok (.goto 26, 3) := by decide +kernel
theorem dX12_hull_27 : decode cX12_hull 27 = .ok (.iload_n 2, 1) := by decide +kernel
theorem dX12_hull_28 : decode cX12_hull 28 = .ok (.aload_n 0, 1) := by decide +kernel
theorem dX12_hull_29 : decode cX12_hull 29 = .ok (.getfield 320, 3) := by decide +kernel
theorem dX12_hull_32 : decode cX12_hull 32 = .ok (.if_icmp .ge 17, 3) := by decide +kernel
theorem dX12_hull_35 : decode cX12_hull 35 = .ok (.aload_n 0, 1) := by decide +kernel
theorem dX12_hull_36 : decode cX12_hull 36 = .ok (.getfield 39, 3) := by decide +kernel
theorem dX12_hull_39 : decode cX12_hull 39 = .ok (.aload_n 0, 1) := by decide +kernel
theorem dX12_hull_40 : decode cX12_hull 40 = .ok (.getfield 54, 3) := by decide +kernel
theorem dX12_hull_43 : decode cX12_hull 43 = .ok (.iload_n 2, 1) := by decide +kernel
theorem dX12_hull_44 : decode cX12_hull 44 = .ok (.iaload, 1) := by decide +kernel
theorem dX12_hull_45 : decode cX12_hull 45 = .ok (.iaload, 1) := by decide +kernel
theorem dX12_hull_46 : decode cX12_hull 46 = .ok (.goto 4, 3) := by decide +kernel
theorem dX12_hull_49 : decode cX12_hull 49 = .ok (.iconst (-1), 1) := by decide +kernel
theorem dX12_hull_50 : decode cX12_hull 50 = .ok (.ireturn, 1) := by decide +kernel
theorem dX12_areaNow_0 : decode cX12_areaNow 0 = .ok (.lconst 0, 1) := by decide +kernel
theorem dX12_areaNow_1 : decode cX12_areaNow 1 = .ok (.lstore_n 1, 1) := by decide +kernel
theorem dX12_areaNow_2 : decode cX12_areaNow 2 = .ok (.iconst 1, 1) := by decide +kernel
theorem dX12_areaNow_3 : decode cX12_areaNow 3 = .ok (.istore_n 3, 1) := by decide +kernel
theorem dX12_areaNow_4 : decode cX12_areaNow 4 = .ok (.iload_n 3, 1) := by decide +kernel
theorem dX12_areaNow_5 : decode cX12_areaNow 5 = .ok (.iconst 1, 1) := by decide +kernel
theorem dX12_areaNow_6 : decode cX12_areaNow 6 = .ok (.iadd, 1) := by decide +kernel
theorem dX12_areaNow_7 : decode cX12_areaNow 7 = .ok (.aload_n 0, 1) := by decide +kernel
theorem dX12_areaNow_8 : decode cX12_areaNow 8 = .ok (.getfield 320, 3) := by decide +kernel
theorem dX12_areaNow_11 : decode cX12_areaNow 11 = .ok (.if_icmp .ge 36, 3) := by decide +kernel
theorem dX12_areaNow_14 : decode cX12_areaNow 14 = .ok (.lload_n 1, 1) := by decide +kernel
theorem dX12_areaNow_15 : decode cX12_areaNow 15 = .ok (.aload_n 0, 1) := by decide +kernel
theorem dX12_areaNow_16 : decode cX12_areaNow 16 = .ok (.aload_n 0, 1) := by decide +kernel
theorem dX12_areaNow_17 : decode cX12_areaNow 17 = .ok (.getfield 54, 3) := by decide +kernel
theorem dX12_areaNow_20 : decode cX12_areaNow 20 = .ok (.iconst 0, 1) := by decide +kernel
theorem dX12_areaNow_21 : decode cX12_areaNow 21 = .ok (.iaload, 1) := by decide +kernel
theorem dX12_areaNow_22 : decode cX12_areaNow 22 = .ok (.aload_n 0, 1) := by decide +kernel
theorem dX12_areaNow_23 : decode cX12_areaNow 23 = .ok (.getfield 54, 3) := by decide +kernel
theorem dX12_areaNow_26 : decode cX12_areaNow 26 = .ok (.iload_n 3, 1) := by decide +kernel
theorem dX12_areaNow_27 : decode cX12_areaNow 27 = .ok (.iaload, 1) := by decide +kernel
theorem dX12_areaNow_28 : decode cX12_areaNow 28 = .ok (.aload_n 0, 1) := by decide +kernel
theorem dX12_areaNow_29 : decode cX12_areaNow 29 = .ok (.getfield 54, 3) := by decide +kernel
theorem dX12_areaNow_32 : decode cX12_areaNow 32 = .ok (.iload_n 3, 1) := by decide +kernel
theorem dX12_areaNow_33 : decode cX12_areaNow 33 = .ok (.iconst 1, 1) := by decide +kernel
theorem dX12_areaNow_34 : decode cX12_areaNow 34 = .ok (.iadd, 1) := by decide +kernel
theorem dX12_areaNow_35 : decode cX12_areaNow 35 = .ok (.iaload, 1) := by decide +kernel
theorem dX12_areaNow_36 : decode cX12_areaNow 36 = .ok (.invokevirtual 216, 3) := by decide +kernel
theorem dX12_areaNow_39 : decode cX12_areaNow 39 = .ok (.ladd, 1) := by decide +kernel
theorem dX12_areaNow_40 : decode cX12_areaNow 40 = .ok (.lstore_n 1, 1) := by decide +kernel
theorem dX12_areaNow_41 : decode cX12_areaNow 41 = .ok (.iinc 3 1, 3) := by decide +kernel
theorem dX12_areaNow_44 : decode cX12_areaNow 44 = .ok (.goto (-40), 3) := by decide +kernel
theorem dX12_areaNow_47 : decode cX12_areaNow 47 = .ok (.lload_n 1, 1) := by decide +kernel
theorem dX12_areaNow_48 : decode cX12_areaNow 48 = .ok (.l2i, 1) := by decide +kernel
theorem dX12_areaNow_49 : decode cX12_areaNow 49 = .ok (.ireturn, 1) := by decide +kernel
theorem dX12_area_0 : decode cX12_area 0 = .ok (.aload_n 0, 1) := by decide +kernel
theorem dX12_area_1 : decode cX12_area 1 = .ok (.iload_n 1, 1) := by decide +kernel
theorem dX12_area_2 : decode cX12_area 2 = .ok (.invokevirtual 326, 3) := by decide +kernel
theorem dX12_area_5 : decode cX12_area 5 = .ok (.ifCond .eq 10, 3) := by decide +kernel
theorem dX12_area_8 : decode cX12_area 8 = .ok (.aload_n 0, 1) := by decide +kernel
theorem dX12_area_9 : decode cX12_area 9 = .ok (.invokevirtual 329, 3) := by decide +kernel
theorem dX12_area_12 : decode cX12_area 12 = .ok (.goto 4, 3) := by decide +kernel
theorem dX12_area_15 : decode cX12_area 15 = .ok (.iconst (-1), 1) := by decide +kernel
theorem dX12_area_16 : decode cX12_area 16 = .ok (.ireturn, 1) := by decide +kernel
theorem dX12_layer_0 : decode cX12_layer 0 = .ok (.iload_n 2, 1) := by decide +kernel
theorem dX12_layer_1 : decode cX12_layer 1 = .ok (.iconst (-1), 1) := by decide +kernel
theorem dX12_layer_2 : decode cX12_layer 2 = .ok (.if_icmp .eq 12, 3) := by decide +kernel
theorem dX12_layer_5 : decode cX12_layer 5 = .ok (.aload_n 0, 1) := by decide +kernel
theorem dX12_layer_6 : decode cX12_layer 6 = .ok (.iload_n 1, 1) := by decide +kernel
theorem dX12_layer_7 : decode cX12_layer 7 = .ok (.iload_n 2, 1) := by decide +kernel
theorem dX12_layer_8 : decode cX12_layer 8 = .ok (.invokevirtual 311, 3) := by decide +kernel
theorem dX12_layer_11 : decode cX12_layer 11 = .ok (.ifCond .eq 11, 3) := by decide +kernel
theorem dX12_layer_14 : decode cX12_layer 14 = .ok (.aload_n 0, 1) := by decide +kernel
theorem dX12_layer_15 : decode cX12_layer 15 = .ok (.iload_n 1, 1) := by decide +kernel
theorem dX12_layer_16 : decode cX12_layer 16 = .ok (.invokevirtual 173, 3) := by decide +kernel
theorem dX12_layer_19 : decode cX12_layer 19 = .ok (.ifCond .ne 5, 3) := by decide +kernel
theorem dX12_layer_22 : decode cX12_layer 22 = .ok (.iconst (-1), 1) := by decide +kernel
theorem dX12_layer_23 : decode cX12_layer 23 = .ok (.ireturn, 1) := by decide +kernel
theorem dX12_layer_24 : decode cX12_layer 24 = .ok (.iload_n 2, 1) := by decide +kernel
theorem dX12_layer_25 : decode cX12_layer 25 = .ok (.iconst (-1), 1) := by decide +kernel
theorem dX12_layer_26 : decode cX12_layer 26 = .ok (.if_icmp .ne 7, 3) := by decide +kernel
theorem dX12_layer_29 : decode cX12_layer 29 = .ok (.iconst (-1), 1) := by decide +kernel
theorem dX12_layer_30 : decode cX12_layer 30 = .ok (.goto 17, 3) := by decide +kernel
theorem dX12_layer_33 : decode cX12_layer 33 = .ok (.aload_n 0, 1) := by decide +kernel
theorem dX12_layer_34 : decode cX12_layer 34 = .ok (.aload_n 0, 1) := by decide +kernel
theorem dX12_layer_35 : decode cX12_layer 35 = .ok (.iload_n 2, 1) := by decide +kernel
theorem dX12_layer_36 : decode cX12_layer 36 = .ok (.invokevirtual 116, 3) := by decide +kernel
theorem dX12_layer_39 : decode cX12_layer 39 = .ok (.aload_n 0, 1) := by decide +kernel
theorem dX12_layer_40 : decode cX12_layer 40 = .ok (.iload_n 2, 1) := by decide +kernel
theorem dX12_layer_41 : decode cX12_layer 41 = .ok (.invokevirtual 119, 3) := by decide +kernel
theorem dX12_layer_44 : decode cX12_layer 44 = .ok (.invokevirtual 314, 3) := by decide +kernel
theorem dX12_layer_47 : decode cX12_layer 47 = .ok (.istore_n 3, 1) := by decide +kernel
theorem dX12_layer_48 : decode cX12_layer 48 = .ok (.aload_n 0, 1) := by decide +kernel
theorem dX12_layer_49 : decode cX12_layer 49 = .ok (.invokevirtual 281, 3) := by decide +kernel
theorem dX12_layer_52 : decode cX12_layer 52 = .ok (.lstore 4, 2) := by decide +kernel
theorem dX12_layer_54 : decode cX12_layer 54 = .ok (.iconst 0, 1) := by decide +kernel
theorem dX12_layer_55 : decode cX12_layer 55 = .ok (.istore 6, 2) := by decide +kernel
theorem dX12_layer_57 : decode cX12_layer 57 = .ok (.lload 4, 2) := by decide +kernel
theorem dX12_layer_59 : decode cX12_layer 59 = .ok (.lconst 0, 1) := by decide +kernel
theorem dX12_layer_60 : decode cX12_layer 60 = .ok (.lcmp, 1) := by decide +kernel
theorem dX12_layer_61 : decode cX12_layer 61 = .ok (.ifCond .eq 65, 3) := by decide +kernel
theorem dX12_layer_64 : decode cX12_layer 64 = .ok (.aload_n 0, 1) := by decide +kernel
theorem dX12_layer_65 : decode cX12_layer 65 = .ok (.lload 4, 2) := by decide +kernel
theorem dX12_layer_67 : decode cX12_layer 67 = .ok (.invokevirtual 323, 3) := by decide +kernel
theorem dX12_layer_70 : decode cX12_layer 70 = .ok (.iconst 0, 1) := by decide +kernel
theorem dX12_layer_71 : decode cX12_layer 71 = .ok (.istore 7, 2) := by decide +kernel
theorem dX12_layer_73 : decode cX12_layer 73 = .ok (.iload 7, 2) := by decide +kernel
theorem dX12_layer_75 : decode cX12_layer 75 = .ok (.aload_n 0, 1) := by decide +kernel
theorem dX12_layer_76 : decode cX12_layer 76 = .ok (.getfield 320, 3) := by decide +kernel
theorem dX12_layer_79 : decode cX12_layer 79 = .ok (.if_icmp .ge 41, 3) := by decide +kernel
theorem dX12_layer_82 : decode cX12_layer 82 = .ok (.aload_n 0, 1) := by decide +kernel
theorem dX12_layer_83 : decode cX12_layer 83 = .ok (.getfield 54, 3) := by decide +kernel
theorem dX12_layer_86 : decode cX12_layer 86 = .ok (.iload 7, 2) := by decide +kernel
theorem dX12_layer_88 : decode cX12_layer 88 = .ok (.iaload, 1) := by decide +kernel
theorem dX12_layer_89 : decode cX12_layer 89 = .ok (.iload_n 3, 1) := by decide +kernel
theorem dX12_layer_90 : decode cX12_layer 90 = .ok (.if_icmp .ne 6, 3) := by decide +kernel
theorem dX12_layer_93 : decode cX12_layer 93 = .ok (.iload 6, 2) := by decide +kernel
theorem dX12_layer_95 : decode cX12_layer 95 = .ok (.ireturn, 1) := by decide +kernel
theorem dX12_layer_96 : decode cX12_layer 96 = .ok (.lload 4, 2) := by decide +kernel
theorem dX12_layer_98 : decode cX12_layer 98 = .ok (.lconst 1, 1) := by decide +kernel
theorem dX12_layer_99 : decode cX12_layer 99 = .ok (.aload_n 0, 1) := by decide +kernel
theorem dX12_layer_100 : decode cX12_layer 100 = .ok (.getfield 54, 3) := by decide +kernel
theorem dX12_layer_103 : decode cX12_layer 103 = .ok (.iload 7, 2) := by decide +kernel
theorem dX12_layer_105 : decode cX12_layer 105 = .ok (.iaload, 1) := by decide +kernel
theorem dX12_layer_106 : decode cX12_layer 106 = .ok (.lshl, 1) := by decide +kernel
theorem dX12_layer_107 : decode cX12_layer 107 = .ok (.ldc2_w 220, 3) := by decide +kernel
theorem dX12_layer_110 : decode cX12_layer 110 = .ok (.lxor, 1) := by decide +kernel
theorem dX12_layer_111 : decode cX12_layer 111 = .ok (.land, 1) := by decide +kernel
theorem dX12_layer_112 : decode cX12_layer 112 = .ok (.lstore 4, 2) := by decide +kernel
theorem dX12_layer_114 : decode cX12_layer 114 = .ok (.iinc 7 1, 3) := by decide +kernel
theorem dX12_layer_117 : decode cX12_layer 117 = .ok (.goto (-44), 3) := by decide +kernel
theorem dX12_layer_120 : decode cX12_layer 120 = .ok (.iinc 6 1, 3) := by decide +kernel
theorem dX12_layer_123 : decode cX12_layer 123 = .ok (.goto (-66), 3) := by decide +kernel
theorem dX12_layer_126 : decode cX12_layer 126 = .ok (.iload 6, 2) := by decide +kernel
theorem dX12_layer_128 : decode cX12_layer 128 = .ok (.ireturn, 1) := by decide +kernel
theorem dX12_measure_0 : decode cX12_measure 0 = .ok (.aload_n 0, 1) := by decide +kernel
theorem dX12_measure_1 : decode cX12_measure 1 = .ok (.getfield 54, 3) := by decide +kernel
theorem dX12_measure_4 : decode cX12_measure 4 = .ok (.iload_n 1, 1) := by decide +kernel
theorem dX12_measure_5 : decode cX12_measure 5 = .ok (.iaload, 1) := by decide +kernel
theorem dX12_measure_6 : decode cX12_measure 6 = .ok (.istore_n 2, 1) := by decide +kernel
theorem dX12_measure_7 : decode cX12_measure 7 = .ok (.aload_n 0, 1) := by decide +kernel
theorem dX12_measure_8 : decode cX12_measure 8 = .ok (.getfield 54, 3) := by decide +kernel
theorem dX12_measure_11 : decode cX12_measure 11 = .ok (.aload_n 0, 1) := by decide +kernel
theorem dX12_measure_12 : decode cX12_measure 12 = .ok (.iload_n 1, 1) := by decide +kernel
theorem dX12_measure_13 : decode cX12_measure 13 = .ok (.invokevirtual 332, 3) := by decide +kernel
theorem dX12_measure_16 : decode cX12_measure 16 = .ok (.iaload, 1) := by decide +kernel
theorem dX12_measure_17 : decode cX12_measure 17 = .ok (.istore_n 3, 1) := by decide +kernel
theorem dX12_measure_18 : decode cX12_measure 18 = .ok (.aload_n 0, 1) := by decide +kernel
theorem dX12_measure_19 : decode cX12_measure 19 = .ok (.getfield 33, 3) := by decide +kernel
theorem dX12_measure_22 : decode cX12_measure 22 = .ok (.iload_n 3, 1) := by decide +kernel
theorem dX12_measure_23 : decode cX12_measure 23 = .ok (.iaload, 1) := by decide +kernel
theorem dX12_measure_24 : decode cX12_measure 24 = .ok (.aload_n 0, 1) := by decide +kernel
theorem dX12_measure_25 : decode cX12_measure 25 = .ok (.getfield 33, 3) := by decide +kernel
theorem dX12_measure_28 : decode cX12_measure 28 = .ok (.iload_n 2, 1) := by decide +kernel
theorem dX12_measure_29 : decode cX12_measure 29 = .ok (.iaload, 1) := by decide +kernel
theorem dX12_measure_30 : decode cX12_measure 30 = .ok (.isub, 1) := by decide +kernel
theorem dX12_measure_31 : decode cX12_measure 31 = .ok (.i2l, 1) := by decide +kernel
theorem dX12_measure_32 : decode cX12_measure 32 = .ok (.lstore 4, 2) := by decide +kernel
theorem dX12_measure_34 : decode cX12_measure 34 = .ok (.aload_n 0, 1) := by decide +kernel
theorem dX12_measure_35 : decode cX12_measure 35 = .ok (.getfield 36, 3) := by decide +kernel
theorem dX12_measure_38 : decode cX12_measure 38 = .ok (.iload_n 3, 1) := by decide +kernel
theorem dX12_measure_39 : decode cX12_measure 39 = .ok (.iaload, 1) := by decide +kernel
theorem dX12_measure_40 : decode cX12_measure 40 = .ok (.aload_n 0, 1) := by decide +kernel
theorem dX12_measure_41 : decode cX12_measure 41 = .ok (.getfield 36, 3) := by decide +kernel
theorem dX12_measure_44 : decode cX12_measure 44 = .ok (.iload_n 2, 1) := by decide +kernel
theorem dX12_measure_45 : decode cX12_measure 45 = .ok (.iaload, 1) := by decide +kernel
theorem dX12_measure_46 : decode cX12_measure 46 = .ok (.isub, 1) := by decide +kernel
theorem dX12_measure_47 : decode cX12_measure 47 = .ok (.i2l, 1) := by decide +kernel
theorem dX12_measure_48 : decode cX12_measure 48 = .ok (.lstore 6, 2) := by decide +kernel
theorem dX12_measure_50 : decode cX12_measure 50 = .ok (.lconst 0, 1) := by decide +kernel
theorem dX12_measure_51 : decode cX12_measure 51 = .ok (.lstore 8, 2) := by decide +kernel
theorem dX12_measure_53 : decode cX12_measure 53 = .ok (.lconst 0, 1) := by decide +kernel
theorem dX12_measure_54 : decode cX12_measure 54 = .ok (.lstore 10, 2) := by decide +kernel
theorem dX12_measure_56 : decode cX12_measure 56 = .ok (.aload_n 0, 1) := by decide +kernel
theorem dX12_measure_57 : decode cX12_measure 57 = .ok (.lconst 0, 1) := by decide +kernel
theorem dX12_measure_58 : decode cX12_measure 58 = .ok (.putfield 335, 3) := by decide +kernel
theorem dX12_measure_61 : decode cX12_measure 61 = .ok (.iconst 0, 1) := by decide +kernel
theorem dX12_measure_62 : decode cX12_measure 62 = .ok (.istore 12, 2) := by decide +kernel
theorem dX12_measure_64 : decode cX12_measure 64 = .ok (.iload 12, 2) := by decide +kernel
theorem dX12_measure_66 : decode cX12_measure 66 = .ok (.aload_n 0, 1) := by decide +kernel
theorem dX12_measure_67 : decode cX12_measure 67 = .ok (.getfield 320, 3) := by decide +kernel
theorem dX12_measure_70 : decode cX12_measure 70 = .ok (.if_icmp .ge 124, 3) := by decide +kernel
theorem dX12_measure_73 : decode cX12_measure 73 = .ok (.aload_n 0, 1) := by decide +kernel
theorem dX12_measure_74 : decode cX12_measure 74 = .ok (.getfield 54, 3) := by decide +kernel
theorem dX12_measure_77 : decode cX12_measure 77 = .ok (.iload 12, 2) := by decide +kernel
theorem dX12_measure_79 : decode cX12_measure 79 = .ok (.iaload, 1) := by decide +kernel
theorem dX12_measure_80 : decode cX12_measure 80 = .ok (.istore 13, 2) := by decide +kernel
theorem dX12_measure_82 : decode cX12_measure 82 = .ok (.aload_n 0, 1) := by decide +kernel
theorem dX12_measure_83 : decode cX12_measure 83 = .ok (.iload_n 2, 1) := by decide +kernel
theorem dX12_measure_84 : decode cX12_measure 84 = .ok (.iload_n 3, 1) := by decide +kernel
theorem dX12_measure_85 : decode cX12_measure 85 = .ok (.iload 13, 2) := by decide +kernel
theorem dX12_measure_87 : decode cX12_measure 87 = .ok (.invokevirtual 216, 3) := by decide +kernel
theorem dX12_measure_90 : decode cX12_measure 90 = .ok (.lstore 14, 2) := by decide +kernel
theorem dX12_measure_92 : decode cX12_measure 92 = .ok (.lload 4, 2) := by decide +kernel
theorem dX12_measure_94 : decode cX12_measure 94 = .ok (.aload_n 0, 1) := by decide +kernel
theorem dX12_measure_95 : decode cX12_measure 95 = .ok (.getfield 33, 3) := by decide +kernel
theorem dX12_measure_98 : decode cX12_measure 98 = .ok (.iload 13, 2) := by decide +kernel
theorem dX12_measure_100 : decode cX12_measure 100 = .ok (.iaload, 1) := by decide +kernel
theorem dX12_measure_101 : decode cX12_measure 101 = .ok (.aload_n 0, 1) := by decide +kernel
theorem dX12_measure_102 : decode cX12_measure 102 = .ok (.getfield 33, 3) := by decide +kernel
theorem dX12_measure_105 : decode cX12_measure 105 = .ok (.iload_n 2, 1) := by decide +kernel
theorem dX12_measure_106 : decode cX12_measure 106 = .ok (.iaload, 1) := by decide +kernel
theorem dX12_measure_107 : decode cX12_measure 107 = .ok (.isub, 1) := by decide +kernel
theorem dX12_measure_108 : decode cX12_measure 108 = .ok (.i2l, 1) := by decide +kernel
theorem dX12_measure_109 : decode cX12_measure 109 = .ok (.lmul, 1) := by decide +kernel
theorem dX12_measure_110 : decode cX12_measure 110 = .ok (.lload 6, 2) := by decide +kernel
theorem dX12_measure_112 : decode cX12_measure 112 = .ok (.aload_n 0, 1) := by decide +kernel
theorem dX12_measure_113 : decode cX12_measure 113 = .ok (.getfield 36, 3) := by decide +kernel
theorem dX12_measure_116 : decode cX12_measure 116 = .ok (.iload 13, 2) := by decide +kernel
theorem dX12_measure_118 : decode cX12_measure 118 = .ok (.iaload, 1) := by decide +kernel
theorem dX12_measure_119 : decode cX12_measure 119 = .ok (.aload_n 0, 1) := by decide +kernel
theorem dX12_measure_120 : decode cX12_measure 120 = .ok (.getfield 36, 3) := by decide +kernel
theorem dX12_measure_123 : decode cX12_measure 123 = .ok (.iload_n 2, 1) := by decide +kernel
theorem dX12_measure_124 : decode cX12_measure 124 = .ok (.iaload, 1) := by decide +kernel
theorem dX12_measure_125 : decode cX12_measure 125 = .ok (.isub, 1) := by decide +kernel
theorem dX12_measure_126 : decode cX12_measure 126 = .ok (.i2l, 1) := by decide +kernel
theorem dX12_measure_127 : decode cX12_measure 127 = .ok (.lmul, 1) := by decide +kernel
theorem dX12_measure_128 : decode cX12_measure 128 = .ok (.ladd, 1) := by decide +kernel
theorem dX12_measure_129 : decode cX12_measure 129 = .ok (.lstore 16, 2) := by decide +kernel
theorem dX12_measure_131 : decode cX12_measure 131 = .ok (.aload_n 0, 1) := by decide +kernel
theorem dX12_measure_132 : decode cX12_measure 132 = .ok (.lload 14, 2) := by decide +kernel
theorem dX12_measure_134 : decode cX12_measure 134 = .ok (.aload_n 0, 1) := by decide +kernel
theorem dX12_measure_135 : decode cX12_measure 135 = .ok (.getfield 335, 3) := by decide +kernel
theorem dX12_measure_138 : decode cX12_measure 138 = .ok (.lcmp, 1) := by decide +kernel
theorem dX12_measure_139 : decode cX12_measure 139 = .ok (.ifCond .le 8, 3) := by decide +kernel
theorem dX12_measure_142 : decode cX12_measure 142 = .ok (.lload 14, 2) := by decide +kernel
theorem dX12_measure_144 : decode cX12_measure 144 = .ok (.goto 7, 3) := by decide +kernel
theorem dX12_measure_147 : decode cX12_measure 147 = .ok (.aload_n 0, 1) := by decide +kernel
theorem dX12_measure_148 : decode cX12_measure 148 = .ok (.getfield 335, 3) := by decide +kernel
theorem dX12_measure_151 : decode cX12_measure 151 = .ok (.putfield 335, 3) := by decide +kernel
theorem dX12_measure_154 : decode cX12_measure 154 = .ok (.lload 16, 2) := by decide +kernel
theorem dX12_measure_156 : decode cX12_measure 156 = .ok (.lload 8, 2) := by decide +kernel
theorem dX12_measure_158 : decode cX12_measure 158 = .ok (.lcmp, 1) := by decide +kernel
theorem dX12_measure_159 : decode cX12_measure 159 = .ok (.ifCond .ge 8, 3) := by decide +kernel
theorem dX12_measure_162 : decode cX12_measure 162 = .ok (.lload 16, 2) := by decide +kernel
theorem dX12_measure_164 : decode cX12_measure 164 = .ok (.goto 5, 3) := by decide +kernel
theorem dX12_measure_167 : decode cX12_measure 167 = .ok (.lload 8, 2) := by decide +kernel
theorem dX12_measure_169 : decode cX12_measure 169 = .ok (.lstore 8, 2) := by decide +kernel
theorem dX12_measure_171 : decode cX12_measure 171 = .ok (.lload 16, 2) := by decide +kernel
theorem dX12_measure_173 : decode cX12_measure 173 = .ok (.lload 10, 2) := by decide +kernel
theorem dX12_measure_175 : decode cX12_measure 175 = .ok (.lcmp, 1) := by decide +kernel
theorem dX12_measure_176 : decode cX12_measure 176 = .ok (.ifCond .le 8, 3) := by decide +kernel
theorem dX12_measure_179 : decode cX12_measure 179 = .ok (.lload 16, 2) := by decide +kernel
theorem dX12_measure_181 : decode cX12_measure 181 = .ok (.goto 5, 3) := by decide +kernel
theorem dX12_measure_184 : decode cX12_measure 184 = .ok (.lload 10, 2) := by decide +kernel
theorem dX12_measure_186 : decode cX12_measure 186 = .ok (.lstore 10, 2) := by decide +kernel
theorem dX12_measure_188 : decode cX12_measure 188 = .ok (.iinc 12 1, 3) := by decide +kernel
theorem dX12_measure_191 : decode cX12_measure 191 = .ok (.goto (-127), 3) := by decide +kernel
theorem dX12_measure_194 : decode cX12_measure 194 = .ok (.aload_n 0, 1) := by decide +kernel
theorem dX12_measure_195 : decode cX12_measure 195 = .ok (.lload 10, 2) := by decide +kernel
theorem dX12_measure_197 : decode cX12_measure 197 = .ok (.lload 8, 2) := by decide +kernel
theorem dX12_measure_199 : decode cX12_measure 199 = .ok (.lsub, 1) := by decide +kernel
theorem dX12_measure_200 : decode cX12_measure 200 = .ok (.putfield 338, 3) := by decide +kernel
theorem dX12_measure_203 : decode cX12_measure 203 = .ok (.aload_n 0, 1) := by decide +kernel
theorem dX12_measure_204 : decode cX12_measure 204 = .ok (.lload 4, 2) := by decide +kernel
theorem dX12_measure_206 : decode cX12_measure 206 = .ok (.lload 4, 2) := by decide +kernel
theorem dX12_measure_208 : decode cX12_measure 208 = .ok (.lmul, 1) := by decide +kernel
theorem dX12_measure_209 : decode cX12_measure 209 = .ok (.lload 6, 2) := by decide +kernel
theorem dX12_measure_211 : decode cX12_measure 211 = .ok (.lload 6, 2) := by decide +kernel
theorem dX12_measure_213 : decode cX12_measure 213 = .ok (.lmul, 1) := by decide +kernel
theorem dX12_measure_214 : decode cX12_measure 214 = .ok (.ladd, 1) := by decide +kernel
theorem dX12_measure_215 : decode cX12_measure 215 = .ok (.putfield 341, 3) := by decide +kernel
theorem dX12_measure_218 : decode cX12_measure 218 = .ok (.return_, 1) := by decide +kernel
theorem dX12_narrowest_0 : decode cX12_narrowest 0 = .ok (.iload_n 2, 1) := by decide +kernel
theorem dX12_narrowest_1 : decode cX12_narrowest 1 = .ok (.iconst 0, 1) := by decide +kernel
theorem dX12_narrowest_2 : decode cX12_narrowest 2 = .ok (.iconst 2, 1) := by decide +kernel
theorem dX12_narrowest_3 : decode cX12_narrowest 3 = .ok (.invokestatic 76, 3) := by decide +kernel
theorem dX12_narrowest_6 : decode cX12_narrowest 6 = .ok (.ifCond .eq 11, 3) := by decide +kernel
theorem dX12_narrowest_9 : decode cX12_narrowest 9 = .ok (.aload_n 0, 1) := by decide +kernel
theorem dX12_narrowest_10 : decode cX12_narrowest 10 = .ok (.iload_n 1, 1) := by decide +kernel
theorem dX12_narrowest_11 : decode cX12_narrowest 11 = .ok (.invokevirtual 344, 3) := by decide +kernel
theorem dX12_narrowest_14 : decode cX12_narrowest 14 = .ok (.ifCond .ne 7, 3) := by decide +kernel
theorem dX12_narrowest_17 : decode cX12_narrowest 17 = .ok (.ldc2_w 220, 3) := by decide +kernel
theorem dX12_narrowest_20 : decode cX12_narrowest 20 = .ok (.lreturn, 1) := by decide +kernel
theorem dX12_narrowest_21 : decode cX12_narrowest 21 = .ok (.iconst (-1), 1) := by decide +kernel
theorem dX12_narrowest_22 : decode cX12_narrowest 22 = .ok (.istore 4, 2) := by decide +kernel
theorem dX12_narrowest_24 : decode cX12_narrowest 24 = .ok (.lconst 0, 1) := by decide +kernel
theorem dX12_narrowest_25 : decode cX12_narrowest 25 = .ok (.lstore 5, 2) := by decide +kernel
theorem dX12_narrowest_27 : decode cX12_narrowest 27 = .ok (.lconst 1, 1) := by decide +kernel
theorem dX12_narrowest_28 : decode cX12_narrowest 28 = .ok (.lstore 7, 2) := by decide +kernel
theorem dX12_narrowest_30 : decode cX12_narrowest 30 = .ok (.iconst 0, 1) := by decide +kernel
theorem dX12_narrowest_31 : decode cX12_narrowest 31 = .ok (.istore 9, 2) := by decide +kernel
theorem dX12_narrowest_33 : decode cX12_narrowest 33 = .ok (.iload 9, 2) := by decide +kernel
theorem dX12_narrowest_35 : decode cX12_narrowest 35 = .ok (.aload_n 0, 1) := by decide +kernel
theorem dX12_narrowest_36 : decode cX12_narrowest 36 = .ok (.getfield 320, 3) := by decide +kernel
theorem dX12_narrowest_39 : decode cX12_narrowest 39 = .ok (.if_icmp .ge 81, 3) := by decide +kernel
theorem dX12_narrowest_42 : decode cX12_narrowest 42 = .ok (.aload_n 0, 1) := by decide +kernel
theorem dX12_narrowest_43 : decode cX12_narrowest 43 = .ok (.iload 9, 2) := by decide +kernel
theorem dX12_narrowest_45 : decode cX12_narrowest 45 = .ok (.invokevirtual 347, 3) := by decide +kernel
theorem dX12_narrowest_48 : decode cX12_narrowest 48 = .ok (.iload_n 3, 1) := by decide +kernel
theorem dX12_narrowest_49 : decode cX12_narrowest 49 = .ok (.ifCond .eq 15, 3) := by decide +kernel
theorem dX12_narrowest_52 : decode cX12_narrowest 52 = .ok (.aload_n 0, 1) := by decide +kernel
theorem dX12_narrowest_53 : decode cX12_narrowest 53 = .ok (.getfield 335, 3) := by decide +kernel
theorem dX12_narrowest_56 : decode cX12_narrowest 56 = .ok (.aload_n 0, 1) := by decide +kernel
theorem dX12_narrowest_57 : decode cX12_narrowest 57 = .ok (.getfield 338, 3) := by decide +kernel
theorem dX12_narrowest_60 : decode cX12_narrowest 60 = .ok (.lmul, 1) := by decide +kernel
theorem dX12_narrowest_61 : decode cX12_narrowest 61 = .ok (.goto 12, 3) := by decide +kernel
theorem dX12_narrowest_64 : decode cX12_narrowest 64 = .ok (.aload_n 0, 1) := by decide +kernel
theorem dX12_narrowest_65 : decode cX12_narrowest 65 = .ok (.getfield 335, 3) := by decide +kernel
theorem dX12_narrowest_68 : decode cX12_narrowest 68 = .ok (.aload_n 0, 1) := by decide +kernel
theorem dX12_narrowest_69 : decode cX12_narrowest 69 = .ok (.getfield 335, 3) := by decide +kernel
theorem dX12_narrowest_72 : decode cX12_narrowest 72 = .ok (.lmul, 1) := by decide +kernel
theorem dX12_narrowest_73 : decode cX12_narrowest 73 = .ok (.lstore 10, 2) := by decide +kernel
theorem dX12_narrowest_75 : decode cX12_narrowest 75 = .ok (.iload 4, 2) := by decide +kernel
theorem dX12_narrowest_77 : decode cX12_narrowest 77 = .ok (.iconst (-1), 1) := by decide +kernel
theorem dX12_narrowest_78 : decode cX12_narrowest 78 = .ok (.if_icmp .eq 22, 3) := by decide +kernel
theorem dX12_narrowest_81 : decode cX12_narrowest 81 = .ok (.lload 10, 2) := by decide +kernel
theorem dX12_narrowest_83 : decode cX12_narrowest 83 = .ok (.aload_n 0, 1) := by decide +kernel
theorem dX12_narrowest_84 : decode cX12_narrowest 84 = .ok (.getfield 341, 3) := by decide +kernel
theorem dX12_narrowest_87 : decode cX12_narrowest 87 = .ok (.lload 5, 2) := by decide +kernel
theorem dX12_narrowest_89 : decode cX12_narrowest 89 = .ok (.lload 7, 2) := by decide +kernel
theorem dX12_narrowest_91 : decode cX12_narrowest 91 = .ok (.invokestatic 271, 3) := by decide +kernel
theorem dX12_narrowest_94 : decode cX12_narrowest 94 = .ok (.ifCond .lt 6, 3) := by decide +kernel
theorem dX12_narrowest_97 : decode cX12_narrowest 97 = .ok (.goto 17, 3) := by decide +kernel
theorem dX12_narrowest_100 : decode cX12_narrowest 100 = .ok (.iload 9, 2) := by decide +kernel
theorem dX12_narrowest_102 : decode cX12_narrowest 102 = .ok (.istore 4, 2) := by decide +kernel
theorem dX12_narrowest_104 : decode cX12_narrowest 104 = .ok (.lload 10, 2) := by decide +kernel
theorem dX12_narrowest_106 : decode cX12_narrowest 106 = .ok (.lstore 5, 2) := by decide +kernel
theorem dX12_narrowest_108 : decode cX12_narrowest 108 = .ok (.aload_n 0, 1) := by decide +kernel
theorem dX12_narrowest_109 : decode cX12_narrowest 109 = .ok (.getfield 341, 3) := by decide +kernel
theorem dX12_narrowest_112 : decode cX12_narrowest 112 = .ok (.lstore 7, 2) := by decide +kernel
theorem dX12_narrowest_114 : decode cX12_narrowest 114 = .ok (.iinc 9 1, 3) := by decide +kernel
theorem dX12_narrowest_117 : decode cX12_narrowest 117 = .ok (.goto (-84), 3) := by decide +kernel
theorem dX12_narrowest_120 : decode cX12_narrowest 120 = .ok (.iload_n 2, 1) := by decide +kernel
theorem dX12_narrowest_121 : decode cX12_narrowest 121 = .ok (.ifCond .ne 13, 3) := by decide +kernel
theorem dX12_narrowest_124 : decode cX12_narrowest 124 = .ok (.lload 5, 2) := by decide +kernel
theorem dX12_narrowest_126 : decode cX12_narrowest 126 = .ok (.lload 7, 2) := by decide +kernel
theorem dX12_narrowest_128 : decode cX12_narrowest 128 = .ok (.invokestatic 210, 3) := by decide +kernel
theorem dX12_narrowest_131 : decode cX12_narrowest 131 = .ok (.goto 31, 3) := by decide +kernel
theorem dX12_narrowest_134 : decode cX12_narrowest 134 = .ok (.iload_n 2, 1) := by decide +kernel
theorem dX12_narrowest_135 : decode cX12_narrowest 135 = .ok (.iconst 1, 1) := by decide +kernel
theorem dX12_narrowest_136 : decode cX12_narrowest 136 = .ok (.if_icmp .ne 13, 3) := by decide +kernel
theorem dX12_narrowest_139 : decode cX12_narrowest 139 = .ok (.lload 5, 2) := by decide +kernel
theorem dX12_narrowest_141 : decode cX12_narrowest 141 = .ok (.lload 7, 2) := by decide +kernel
theorem dX12_narrowest_143 : decode cX12_narrowest 143 = .ok (.invokestatic 213, 3) := by decide +kernel
theorem dX12_narrowest_146 : decode cX12_narrowest 146 = .ok (.goto 16, 3) := by decide +kernel
theorem dX12_narrowest_149 : decode cX12_narrowest 149 = .ok (.aload_n 0, 1) := by decide +kernel
theorem dX12_narrowest_150 : decode cX12_narrowest 150 = .ok (.getfield 39, 3) := by decide +kernel
theorem dX12_narrowest_153 : decode cX12_narrowest 153 = .ok (.aload_n 0, 1) := by decide +kernel
theorem dX12_narrowest_154 : decode cX12_narrowest 154 = .ok (.getfield 54, 3) := by decide +kernel
theorem dX12_narrowest_157 : decode cX12_narrowest 157 = .ok (.iload 4, 2) := by decide +kernel
theorem dX12_narrowest_159 : decode cX12_narrowest 159 = .ok (.iaload, 1) := by decide +kernel
theorem dX12_narrowest_160 : decode cX12_narrowest 160 = .ok (.iaload, 1) := by decide +kernel
theorem dX12_narrowest_161 : decode cX12_narrowest 161 = .ok (.i2l, 1) := by decide +kernel
theorem dX12_narrowest_162 : decode cX12_narrowest 162 = .ok (.lreturn, 1) := by decide +kernel
theorem dX12_strip_0 : decode cX12_strip 0 = .ok (.aload_n 0, 1) := by decide +kernel
theorem dX12_strip_1 : decode cX12_strip 1 = .ok (.iload_n 1, 1) := by decide +kernel
theorem dX12_strip_2 : decode cX12_strip 2 = .ok (.iload_n 2, 1) := by decide +kernel
theorem dX12_strip_3 : decode cX12_strip 3 = .ok (.iconst 0, 1) := by decide +kernel
theorem dX12_strip_4 : decode cX12_strip 4 = .ok (.invokevirtual 350, 3) := by decide +kernel
theorem dX12_strip_7 : decode cX12_strip 7 = .ok (.lreturn, 1) := by decide +kernel
theorem dX12_box_0 : decode cX12_box 0 = .ok (.aload_n 0, 1) := by decide +kernel
theorem dX12_box_1 : decode cX12_box 1 = .ok (.iload_n 1, 1) := by decide +kernel
theorem dX12_box_2 : decode cX12_box 2 = .ok (.iload_n 2, 1) := by decide +kernel
theorem dX12_box_3 : decode cX12_box 3 = .ok (.iconst 1, 1) := by decide +kernel
theorem dX12_box_4 : decode cX12_box 4 = .ok (.invokevirtual 350, 3) := by decide +kernel
theorem dX12_box_7 : decode cX12_box 7 = .ok (.lreturn, 1) := by decide +kernel
theorem dX12_couple_0 : decode cX12_couple 0 = .ok (.iload_n 3, 1) := by decide +kernel
theorem dX12_couple_1 : decode cX12_couple 1 = .ok (.iconst 0, 1) := by decide +kernel
theorem dX12_couple_2 : decode cX12_couple 2 = .ok (.iconst 2, 1) := by decide +kernel
theorem dX12_couple_3 : decode cX12_couple 3 = .ok (.invokestatic 76, 3) := by decide +kernel
theorem dX12_couple_6 : decode cX12_couple 6 = .ok (.ifCond .eq 34, 3) := by decide +kernel
theorem dX12_couple_9 : decode cX12_couple 9 = .ok (.aload_n 0, 1) := by decide +kernel
theorem dX12_couple_10 : decode cX12_couple 10 = .ok (.iload_n 1, 1) := by decide +kernel
theorem dX12_couple_11 : decode cX12_couple 11 = .ok (.invokevirtual 173, 3) := by decide +kernel
theorem dX12_couple_14 : decode cX12_couple 14 = .ok (.ifCond .eq 26, 3) := by decide +kernel
theorem dX12_couple_17 : decode cX12_couple 17 = .ok (.iload_n 2, 1) := by decide +kernel
theorem dX12_couple_18 : decode cX12_couple 18 = .ok (.iconst 0, 1) := by decide +kernel
theorem dX12_couple_19 : decode cX12_couple 19 = .ok (.aload_n 0, 1) := by decide +kernel
theorem dX12_couple_20 : decode cX12_couple 20 = .ok (.getfield 157, 3) := by decide +kernel
theorem dX12_couple_23 : decode cX12_couple 23 = .ok (.aload_n 0, 1) := by decide +kernel
theorem dX12_couple_24 : decode cX12_couple 24 = .ok (.getfield 157, 3) := by decide +kernel
theorem dX12_couple_27 : decode cX12_couple 27 = .ok (.iconst 1, 1) := by decide +kernel
theorem dX12_couple_28 : decode cX12_couple 28 = .ok (.isub, 1) := by decide +kernel
theorem dX12_couple_29 : decode cX12_couple 29 = .ok (.imul, 1) := by decide +kernel
theorem dX12_couple_30 : decode cX12_couple 30 = .ok (.iconst 2, 1) := by decide +kernel
theorem dX12_couple_31 : decode cX12_couple 31 = .ok (.idiv, 1) := by decide +kernel
theorem dX12_couple_32 : decode cX12_couple 32 = .ok (.iconst 1, 1) := by decide +kernel
theorem dX12_couple_33 : decode cX12_couple 33 = .ok (.isub, 1) := by decide +kernel
theorem dX12_couple_34 : decode cX12_couple 34 = .ok (.invokestatic 76, 3) := by decide +kernel
theorem dX12_couple_37 : decode cX12_couple 37 = .ok (.ifCond .ne 5, 3) := by decide +kernel
theorem dX12_couple_40 : decode cX12_couple 40 = .ok (.iconst (-1), 1) := by decide +kernel
theorem dX12_couple_41 : decode cX12_couple 41 = .ok (.ireturn, 1) := by decide +kernel
theorem dX12_couple_42 : decode cX12_couple 42 = .ok (.iconst 0, 1) := by decide +kernel
theorem dX12_couple_43 : decode cX12_couple 43 = .ok (.istore 4, 2) := by decide +kernel
theorem dX12_couple_45 : decode cX12_couple 45 = .ok (.iconst 0, 1) := by decide +kernel
theorem dX12_couple_46 : decode cX12_couple 46 = .ok (.istore 5, 2) := by decide +kernel
theorem dX12_couple_48 : decode cX12_couple 48 = .ok (.iload 5, 2) := by decide +kernel
theorem dX12_couple_50 : decode cX12_couple 50 = .ok (.aload_n 0, 1) := by decide +kernel
theorem dX12_couple_51 : decode cX12_couple 51 = .ok (.getfield 157, 3) := by decide +kernel
theorem dX12_couple_54 : decode cX12_couple 54 = .ok (.if_icmp .ge 114, 3) := by decide +kernel
theorem dX12_couple_57 : decode cX12_couple 57 = .ok (.iload 5, 2) := by decide +kernel
theorem dX12_couple_59 : decode cX12_couple 59 = .ok (.iconst 1, 1) := by decide +kernel
theorem dX12_couple_60 : decode cX12_couple 60 = .ok (.iadd, 1) := by decide +kernel
theorem dX12_couple_61 : decode cX12_couple 61 = .ok (.istore 6, 2) := by decide +kernel
theorem dX12_couple_63 : decode cX12_couple 63 = .ok (.iload 6, 2) := by decide +kernel
theorem dX12_couple_65 : decode cX12_couple 65 = .ok (.aload_n 0, 1) := by decide +kernel
theorem dX12_couple_66 : decode cX12_couple 66 = .ok (.getfield 157, 3) := by decide +kernel
theorem dX12_couple_69 : decode cX12_couple 69 = .ok (.if_icmp .ge 93, 3) := by decide +kernel
theorem dX12_couple_72 : decode cX12_couple 72 = .ok (.aload_n 0, 1) := by decide +kernel
theorem dX12_couple_73 : decode cX12_couple 73 = .ok (.iload 5, 2) := by decide +kernel
theorem dX12_couple_75 : decode cX12_couple 75 = .ok (.iload 6, 2) := by decide +kernel
theorem dX12_couple_77 : decode cX12_couple 77 = .ok (.invokevirtual 204, 3) := by decide +kernel
theorem dX12_couple_80 : decode cX12_couple 80 = .ok (.ldc2_w 354, 3) := by decide +kernel
theorem dX12_couple_83 : decode cX12_couple 83 = .ok (.lmul, 1) := by decide +kernel
theorem dX12_couple_84 : decode cX12_couple 84 = .ok (.iload 5, 2) := by decide +kernel
theorem dX12_couple_86 : decode cX12_couple 86 = .ok (.i2l, 1) := by decide +kernel
theorem dX12_couple_87 : decode cX12_couple 87 = .ok (.ladd, 1) := by decide +kernel
theorem dX12_couple_88 : decode cX12_couple 88 = .ok (.ldc2_w 354, 3) := by decide +kernel
theorem dX12_couple_91 : decode cX12_couple 91 = .ok (.lmul, 1) := by decide +kernel
theorem dX12_couple_92 : decode cX12_couple 92 = .ok (.iload 6, 2) := by decide +kernel
theorem dX12_couple_94 : decode cX12_couple 94 = .ok (.i2l, 1) := by decide +kernel
theorem dX12_couple_95 : decode cX12_couple 95 = .ok (.ladd, 1) := by decide +kernel
theorem dX12_couple_96 : decode cX12_couple 96 = .ok (.lstore 7, 2) := by decide +kernel
theorem dX12_couple_98 : decode cX12_couple 98 = .ok (.iload 4, 2) := by decide +kernel
theorem dX12_couple_100 : decode cX12_couple 100 = .ok (.istore 9, 2) := by decide +kernel
theorem dX12_couple_102 : decode cX12_couple 102 = .ok (.iload 9, 2) := by decide +kernel
theorem dX12_couple_104 : decode cX12_couple 104 = .ok (.ifCond .le 40, 3) := by decide +kernel
theorem dX12_couple_107 : decode cX12_couple 107 = .ok (.aload_n 0, 1) := by decide +kernel
theorem dX12_couple_108 : decode cX12_couple 108 = .ok (.getfield 60, 3) := by decide +kernel
theorem dX12_couple_111 : decode cX12_couple 111 = .ok (.iload 9, 2) := by decide +kernel
theorem dX12_couple_113 : decode cX12_couple 113 = .ok (.iconst 1, 1) := by decide +kernel
theorem dX12_couple_114 : decode cX12_couple 114 = .ok (.isub, 1) := by decide +kernel
theorem dX12_couple_115 : decode cX12_couple 115 = .ok (.laload, 1) := by decide +kernel
theorem dX12_couple_116 : decode cX12_couple 116 = .ok (.lload 7, 2) := by decide +kernel
theorem dX12_couple_118 : decode cX12_couple 118 = .ok (.lcmp, 1) := by decide +kernel
theorem dX12_couple_119 : decode cX12_couple 119 = .ok (.ifCond .le 25, 3) := by decide +kernel
theorem dX12_couple_122 : decode cX12_couple 122 = .ok (.aload_n 0, 1) := by decide +kernel
theorem dX12_couple_123 : decode cX12_couple 123 = .ok (.getfield 60, 3) := by decide +kernel
theorem dX12_couple_126 : decode cX12_couple 126 = .ok (.iload 9, 2) := by decide +kernel
theorem dX12_couple_128 : decode cX12_couple 128 = .ok (.aload_n 0, 1) := by decide +kernel
theorem dX12_couple_129 : decode cX12_couple 129 = .ok (.getfield 60, 3) := by decide +kernel
theorem dX12_couple_132 : decode cX12_couple 132 = .ok (.iload 9, 2) := by decide +kernel
theorem dX12_couple_134 : decode cX12_couple 134 = .ok (.iconst 1, 1) := by decide +kernel
theorem dX12_couple_135 : decode cX12_couple 135 = .ok (.isub, 1) := by decide +kernel
theorem dX12_couple_136 : decode cX12_couple 136 = .ok (.laload, 1) := by decide +kernel
theorem dX12_couple_137 : decode cX12_couple 137 = .ok (.lastore, 1) := by decide +kernel
theorem dX12_couple_138 : decode cX12_couple 138 = .ok (.iinc 9 (-1), 3) := by decide +kernel
theorem dX12_couple_141 : decode cX12_couple 141 = .ok (.goto (-39), 3) := by decide +kernel
theorem dX12_couple_144 : decode cX12_couple 144 = .ok (.aload_n 0, 1) := by decide +kernel
theorem dX12_couple_145 : decode cX12_couple 145 = .ok (.getfield 60, 3) := by decide +kernel
theorem dX12_couple_148 : decode cX12_couple 148 = .ok (.iload 9, 2) := by decide +kernel
theorem dX12_couple_150 : decode cX12_couple 150 = .ok (.lload 7, 2) := by decide +kernel
theorem dX12_couple_152 : decode cX12_couple 152 = .ok (.lastore, 1) := by decide +kernel
theorem dX12_couple_153 : decode cX12_couple 153 = .ok (.iinc 4 1, 3) := by decide +kernel
theorem dX12_couple_156 : decode cX12_couple 156 = .ok (.iinc 6 1, 3) := by decide +kernel
theorem dX12_couple_159 : decode cX12_couple 159 = .ok (.goto (-96), 3) := by decide +kernel
theorem dX12_couple_162 : decode cX12_couple 162 = .ok (.iinc 5 1, 3) := by decide +kernel
theorem dX12_couple_165 : decode cX12_couple 165 = .ok (.goto (-117), 3) := by decide +kernel
theorem dX12_couple_168 : decode cX12_couple 168 = .ok (.aload_n 0, 1) := by decide +kernel
theorem dX12_couple_169 : decode cX12_couple 169 = .ok (.getfield 60, 3) := by decide +kernel
theorem dX12_couple_172 : decode cX12_couple 172 = .ok (.iload_n 2, 1) := by decide +kernel
theorem dX12_couple_173 : decode cX12_couple 173 = .ok (.laload, 1) := by decide +kernel
theorem dX12_couple_174 : decode cX12_couple 174 = .ok (.lstore 5, 2) := by decide +kernel
theorem dX12_couple_176 : decode cX12_couple 176 = .ok (.iload_n 3, 1) := by decide +kernel
theorem dX12_couple_177 : decode cX12_couple 177 = .ok (.ifCond .ne 13, 3) := by decide +kernel
theorem dX12_couple_180 : decode cX12_couple 180 = .ok (.lload 5, 2) := by decide +kernel
theorem dX12_couple_182 : decode cX12_couple 182 = .ok (.ldc2_w 356, 3) := by decide +kernel
theorem dX12_couple_185 : decode cX12_couple 185 = .ok (.ldiv, 1) := by decide +kernel
theorem dX12_couple_186 : decode cX12_couple 186 = .ok (.l2i, 1) := by decide +kernel
theorem dX12_couple_187 : decode cX12_couple 187 = .ok (.goto 39, 3) := by decide +kernel
theorem dX12_couple_190 : decode cX12_couple 190 = .ok (.iload_n 3, 1) := by decide +kernel
theorem dX12_couple_191 : decode cX12_couple 191 = .ok (.iconst 1, 1) := by decide +kernel
theorem dX12_couple_192 : decode cX12_couple 192 = .ok (.if_icmp .ne 22, 3) := by decide +kernel
theorem dX12_couple_195 : decode cX12_couple 195 = .ok (.aload_n 0, 1) := by decide +kernel
theorem dX12_couple_196 : decode cX12_couple 196 = .ok (.getfield 39, 3) := by decide +kernel
theorem dX12_couple_199 : decode cX12_couple 199 = .ok (.lload 5, 2) := by decide +kernel
theorem dX12_couple_201 : decode cX12_couple 201 = .ok (.ldc2_w 354, 3) := by decide +kernel
theorem dX12_couple_204 : decode cX12_couple 204 = .ok (.ldiv, 1) := by decide +kernel
theorem dX12_couple_205 : decode cX12_couple 205 = .ok (.ldc2_w 354, 3) := by decide +kernel
theorem dX12_couple_208 : decode cX12_couple 208 = .ok (.lrem, 1) := by decide +kernel
theorem dX12_couple_209 : decode cX12_couple 209 = .ok (.l2i, 1) := by decide +kernel
theorem dX12_couple_210 : decode cX12_couple 210 = .ok (.iaload, 1) := by decide +kernel
theorem dX12_couple_211 : decode cX12_couple 211 = .ok (.goto 15, 3) := by decide +kernel
theorem dX12_couple_214 : decode cX12_couple 214 = .ok (.aload_n 0, 1) := by decide +kernel
theorem dX12_couple_215 : decode cX12_couple 215 = .ok (.getfield 39, 3) := by decide +kernel
theorem dX12_couple_218 : decode cX12_couple 218 = .ok (.lload 5, 2) := by decide +kernel
theorem dX12_couple_220 : decode cX12_couple 220 = .ok (.ldc2_w 354, 3) := by decide +kernel
theorem dX12_couple_223 : decode cX12_couple 223 = .ok (.lrem, 1) := by decide +kernel
theorem dX12_couple_224 : decode cX12_couple 224 = .ok (.l2i, 1) := by decide +kernel
theorem dX12_couple_225 : decode cX12_couple 225 = .ok (.iaload, 1) := by decide +kernel
theorem dX12_couple_226 : decode cX12_couple 226 = .ok (.ireturn, 1) := by decide +kernel
theorem dX12_sizeOf_0 : decode cX12_sizeOf 0 = .ok (.aload_n 0, 1) := by decide +kernel
theorem dX12_sizeOf_1 : decode cX12_sizeOf 1 = .ok (.getfield 33, 3) := by decide +kernel
theorem dX12_sizeOf_4 : decode cX12_sizeOf 4 = .ok (.iload_n 1, 1) := by decide +kernel
theorem dX12_sizeOf_5 : decode cX12_sizeOf 5 = .ok (.iaload, 1) := by decide +kernel
theorem dX12_sizeOf_6 : decode cX12_sizeOf 6 = .ok (.i2l, 1) := by decide +kernel
theorem dX12_sizeOf_7 : decode cX12_sizeOf 7 = .ok (.aload_n 0, 1) := by decide +kernel
theorem dX12_sizeOf_8 : decode cX12_sizeOf 8 = .ok (.getfield 33, 3) := by decide +kernel
theorem dX12_sizeOf_11 : decode cX12_sizeOf 11 = .ok (.iload_n 1, 1) := by decide +kernel
theorem dX12_sizeOf_12 : decode cX12_sizeOf 12 = .ok (.iaload, 1) := by decide +kernel
theorem dX12_sizeOf_13 : decode cX12_sizeOf 13 = .ok (.i2l, 1) := by decide +kernel
theorem dX12_sizeOf_14 : decode cX12_sizeOf 14 = .ok (.lmul, 1) := by decide +kernel
theorem dX12_sizeOf_15 : decode cX12_sizeOf 15 = .ok (.aload_n 0, 1) := by decide +kernel
theorem dX12_sizeOf_16 : decode cX12_sizeOf 16 = .ok (.getfield 36, 3) := by decide +kernel
theorem dX12_sizeOf_19 : decode cX12_sizeOf 19 = .ok (.iload_n 1, 1) := by decide +kernel
theorem dX12_sizeOf_20 : decode cX12_sizeOf 20 = .ok (.iaload, 1) := by decide +kernel
theorem dX12_sizeOf_21 : decode cX12_sizeOf 21 = .ok (.i2l, 1) := by decide +kernel
theorem dX12_sizeOf_22 : decode cX12_sizeOf 22 = .ok (.aload_n 0, 1) := by decide +kernel
theorem dX12_sizeOf_23 : decode cX12_sizeOf 23 = .ok (.getfield 36, 3) := by decide +kernel
theorem dX12_sizeOf_26 : decode cX12_sizeOf 26 = .ok (.iload_n 1, 1) := by decide +kernel
theorem dX12_sizeOf_27 : decode cX12_sizeOf 27 = .ok (.iaload, 1) := by decide +kernel
theorem dX12_sizeOf_28 : decode cX12_sizeOf 28 = .ok (.i2l, 1) := by decide +kernel
theorem dX12_sizeOf_29 : decode cX12_sizeOf 29 = .ok (.lmul, 1) := by decide +kernel
theorem dX12_sizeOf_30 : decode cX12_sizeOf 30 = .ok (.ladd, 1) := by decide +kernel
theorem dX12_sizeOf_31 : decode cX12_sizeOf 31 = .ok (.lreturn, 1) := by decide +kernel
theorem dX12_tryRing_0 : decode cX12_tryRing 0 = .ok (.ldc2_w 202, 3) := by decide +kernel
theorem dX12_tryRing_3 : decode cX12_tryRing 3 = .ok (.aload_n 0, 1) := by decide +kernel
theorem dX12_tryRing_4 : decode cX12_tryRing 4 = .ok (.getfield 33, 3) := by decide +kernel
theorem dX12_tryRing_7 : decode cX12_tryRing 7 = .ok (.iload_n 2, 1) := by decide +kernel
theorem dX12_tryRing_8 : decode cX12_tryRing 8 = .ok (.iaload, 1) := by decide +kernel
theorem dX12_tryRing_9 : decode cX12_tryRing 9 = .ok (.aload_n 0, 1) := by decide +kernel
theorem dX12_tryRing_10 : decode cX12_tryRing 10 = .ok (.getfield 33, 3) := by decide +kernel
theorem dX12_tryRing_13 : decode cX12_tryRing 13 = .ok (.iload_n 1, 1) := by decide +kernel
theorem dX12_tryRing_14 : decode cX12_tryRing 14 = .ok (.iaload, 1) := by decide +kernel
theorem dX12_tryRing_15 : decode cX12_tryRing 15 = .ok (.isub, 1) := by decide +kernel
theorem dX12_tryRing_16 : decode cX12_tryRing 16 = .ok (.i2l, 1) := by decide +kernel
theorem dX12_tryRing_17 : decode cX12_tryRing 17 = .ok (.lmul, 1) := by decide +kernel
theorem dX12_tryRing_18 : decode cX12_tryRing 18 = .ok (.lstore 5, 2) := by decide +kernel
theorem dX12_tryRing_20 : decode cX12_tryRing 20 = .ok (.ldc2_w 202, 3) := by decide +kernel
theorem dX12_tryRing_23 : decode cX12_tryRing 23 = .ok (.aload_n 0, 1) := by decide +kernel
theorem dX12_tryRing_24 : decode cX12_tryRing 24 = .ok (.getfield 36, 3) := by decide +kernel
theorem dX12_tryRing_27 : decode cX12_tryRing 27 = .ok (.iload_n 2, 1) := by decide +kernel
theorem dX12_tryRing_28 : decode cX12_tryRing 28 = .ok (.iaload, 1) := by decide +kernel
theorem dX12_tryRing_29 : decode cX12_tryRing 29 = .ok (.aload_n 0, 1) := by decide +kernel
theorem dX12_tryRing_30 : decode cX12_tryRing 30 = .ok (.getfield 36, 3) := by decide +kernel
theorem dX12_tryRing_33 : decode cX12_tryRing 33 = .ok (.iload_n 1, 1) := by decide +kernel
theorem dX12_tryRing_34 : decode cX12_tryRing 34 = .ok (.iaload, 1) := by decide +kernel
theorem dX12_tryRing_35 : decode cX12_tryRing 35 = .ok (.isub, 1) := by decide +kernel
theorem dX12_tryRing_36 : decode cX12_tryRing 36 = .ok (.i2l, 1) := by decide +kernel
theorem dX12_tryRing_37 : decode cX12_tryRing 37 = .ok (.lmul, 1) := by decide +kernel
theorem dX12_tryRing_38 : decode cX12_tryRing 38 = .ok (.lstore 7, 2) := by decide +kernel
theorem dX12_tryRing_40 : decode cX12_tryRing 40 = .ok (.ldc2_w 202, 3) := by decide +kernel
theorem dX12_tryRing_43 : decode cX12_tryRing 43 = .ok (.aload_n 0, 1) := by decide +kernel
theorem dX12_tryRing_44 : decode cX12_tryRing 44 = .ok (.getfield 33, 3) := by decide +kernel
theorem dX12_tryRing_47 : decode cX12_tryRing 47 = .ok (.iload 4, 2) := by decide +kernel
theorem dX12_tryRing_49 : decode cX12_tryRing 49 = .ok (.iaload, 1) := by decide +kernel
theorem dX12_tryRing_50 : decode cX12_tryRing 50 = .ok (.aload_n 0, 1) := by decide +kernel
theorem dX12_tryRing_51 : decode cX12_tryRing 51 = .ok (.getfield 33, 3) := by decide +kernel
theorem dX12_tryRing_54 : decode cX12_tryRing 54 = .ok (.iload_n 3, 1) := by decide +kernel
theorem dX12_tryRing_55 : decode cX12_tryRing 55 = .ok (.iaload, 1) := by decide +kernel
theorem dX12_tryRing_56 : decode cX12_tryRing 56 = .ok (.isub, 1) := by decide +kernel
theorem dX12_tryRing_57 : decode cX12_tryRing 57 = .ok (.i2l, 1) := by decide +kernel
theorem dX12_tryRing_58 : decode cX12_tryRing 58 = .ok (.lmul, 1) := by decide +kernel
theorem dX12_tryRing_59 : decode cX12_tryRing 59 = .ok (.lstore 9, 2) := by decide +kernel
theorem dX12_tryRing_61 : decode cX12_tryRing 61 = .ok (.ldc2_w 202, 3) := by decide +kernel
theorem dX12_tryRing_64 : decode cX12_tryRing 64 = .ok (.aload_n 0, 1) := by decide +kernel
theorem dX12_tryRing_65 : decode cX12_tryRing 65 = .ok (.getfield 36, 3) := by decide +kernel
theorem dX12_tryRing_68 : decode cX12_tryRing 68 = .ok (.iload 4, 2) := by decide +kernel
theorem dX12_tryRing_70 : decode cX12_tryRing 70 = .ok (.iaload, 1) := by decide +kernel
theorem dX12_tryRing_71 : decode cX12_tryRing 71 = .ok (.aload_n 0, 1) := by decide +kernel
theorem dX12_tryRing_72 : decode cX12_tryRing 72 = .ok (.getfield 36, 3) := by decide +kernel
theorem dX12_tryRing_75 : decode cX12_tryRing 75 = .ok (.iload_n 3, 1) := by decide +kernel
theorem dX12_tryRing_76 : decode cX12_tryRing 76 = .ok (.iaload, 1) := by decide +kernel
theorem dX12_tryRing_77 : decode cX12_tryRing 77 = .ok (.isub, 1) := by decide +kernel
theorem dX12_tryRing_78 : decode cX12_tryRing 78 = .ok (.i2l, 1) := by decide +kernel
theorem dX12_tryRing_79 : decode cX12_tryRing 79 = .ok (.lmul, 1) := by decide +kernel
theorem dX12_tryRing_80 : decode cX12_tryRing 80 = .ok (.lstore 11, 2) := by decide +kernel
theorem dX12_tryRing_82 : decode cX12_tryRing 82 = .ok (.lload 5, 2) := by decide +kernel
theorem dX12_tryRing_84 : decode cX12_tryRing 84 = .ok (.lload 11, 2) := by decide +kernel
theorem dX12_tryRing_86 : decode cX12_tryRing 86 = .ok (.lmul, 1) := by decide +kernel
theorem dX12_tryRing_87 : decode cX12_tryRing 87 = .ok (.lload 9, 2) := by decide +kernel
theorem dX12_tryRing_89 : decode cX12_tryRing 89 = .ok (.lload 7, 2) := by decide +kernel
theorem dX12_tryRing_91 : decode cX12_tryRing 91 = .ok (.lmul, 1) := by decide +kernel
theorem dX12_tryRing_92 : decode cX12_tryRing 92 = .ok (.lsub, 1) := by decide +kernel
theorem dX12_tryRing_93 : decode cX12_tryRing 93 = .ok (.lstore 13, 2) := by decide +kernel
theorem dX12_tryRing_95 : decode cX12_tryRing 95 = .ok (.lload 13, 2) := by decide +kernel
theorem dX12_tryRing_97 : decode cX12_tryRing 97 = .ok (.lconst 0, 1) := by decide +kernel
theorem dX12_tryRing_98 : decode cX12_tryRing 98 = .ok (.lcmp, 1) := by decide +kernel
theorem dX12_tryRing_99 : decode cX12_tryRing 99 = .ok (.ifCond .ne 4, 3) := by decide +kernel
theorem dX12_tryRing_102 : decode cX12_tryRing 102 = .ok (.return_, 1) := by decide +kernel
theorem dX12_tryRing_103 : decode cX12_tryRing 103 = .ok (.aload_n 0, 1) := by decide +kernel
theorem dX12_tryRing_104 : decode cX12_tryRing 104 = .ok (.iload_n 2, 1) := by decide +kernel
theorem dX12_tryRing_105 : decode cX12_tryRing 105 = .ok (.invokevirtual 358, 3) := by decide +kernel
theorem dX12_tryRing_108 : decode cX12_tryRing 108 = .ok (.aload_n 0, 1) := by decide +kernel
theorem dX12_tryRing_109 : decode cX12_tryRing 109 = .ok (.iload_n 1, 1) := by decide +kernel
theorem dX12_tryRing_110 : decode cX12_tryRing 110 = .ok (.invokevirtual 358, 3) := by decide +kernel
theorem dX12_tryRing_113 : decode cX12_tryRing 113 = .ok (.lsub, 1) := by decide +kernel
theorem dX12_tryRing_114 : decode cX12_tryRing 114 = .ok (.lstore 15, 2) := by decide +kernel
theorem dX12_tryRing_116 : decode cX12_tryRing 116 = .ok (.aload_n 0, 1) := by decide +kernel
theorem dX12_tryRing_117 : decode cX12_tryRing 117 = .ok (.iload 4, 2) := by decide +kernel
theorem dX12_tryRing_119 : decode cX12_tryRing 119 = .ok (.invokevirtual 358, 3) := by decide +kernel
theorem dX12_tryRing_122 : decode cX12_tryRing 122 = .ok (.aload_n 0, 1) := by decide +kernel
theorem dX12_tryRing_123 : decode cX12_tryRing 123 = .ok (.iload_n 3, 1) := by decide +kernel
theorem dX12_tryRing_124 : decode cX12_tryRing 124 = .ok (.invokevirtual 358, 3) := by decide +kernel
theorem dX12_tryRing_127 : decode cX12_tryRing 127 = .ok (.lsub, 1) := by decide +kernel
theorem dX12_tryRing_128 : decode cX12_tryRing 128 = .ok (.lstore 17, 2) := by decide +kernel
theorem dX12_tryRing_130 : decode cX12_tryRing 130 = .ok (.lload 13, 2) := by decide +kernel
theorem dX12_tryRing_132 : decode cX12_tryRing 132 = .ok (.lconst 0, 1) := by decide +kernel
theorem dX12_tryRing_133 : decode cX12_tryRing 133 = .ok (.lcmp, 1) := by decide +kernel
theorem dX12_tryRing_134 : decode cX12_tryRing 134 = .ok (.ifCond .ge 9, 3) := by decide +kernel
theorem dX12_tryRing_137 : decode cX12_tryRing 137 = .ok (.ldc2_w 220, 3) := by decide +kernel
theorem dX12_tryRing_140 : decode cX12_tryRing 140 = .ok (.goto 4, 3) := by decide +kernel
theorem dX12_tryRing_143 : decode cX12_tryRing 143 = .ok (.lconst 1, 1) := by decide +kernel
theorem dX12_tryRing_144 : decode cX12_tryRing 144 = .ok (.lstore 19, 2) := by decide +kernel
theorem dX12_tryRing_146 : decode cX12_tryRing 146 = .ok (.lload 19, 2) := by decide +kernel
theorem dX12_tryRing_148 : decode cX12_tryRing 148 = .ok (.lload 15, 2) := by decide +kernel
theorem dX12_tryRing_150 : decode cX12_tryRing 150 = .ok (.lload 11, 2) := by decide +kernel
theorem dX12_tryRing_152 : decode cX12_tryRing 152 = .ok (.lmul, 1) := by decide +kernel
theorem dX12_tryRing_153 : decode cX12_tryRing 153 = .ok (.lload 17, 2) := by decide +kernel
theorem dX12_tryRing_155 : decode cX12_tryRing 155 = .ok (.lload 7, 2) := by decide +kernel
theorem dX12_tryRing_157 : decode cX12_tryRing 157 = .ok (.lmul, 1) := by decide +kernel
theorem dX12_tryRing_158 : decode cX12_tryRing 158 = .ok (.lsub, 1) := by decide +kernel
theorem dX12_tryRing_159 : decode cX12_tryRing 159 = .ok (.lmul, 1) := by decide +kernel
theorem dX12_tryRing_160 : decode cX12_tryRing 160 = .ok (.lstore 21, 2) := by decide +kernel
theorem dX12_tryRing_162 : decode cX12_tryRing 162 = .ok (.lload 19, 2) := by decide +kernel
theorem dX12_tryRing_164 : decode cX12_tryRing 164 = .ok (.lload 5, 2) := by decide +kernel
theorem dX12_tryRing_166 : decode cX12_tryRing 166 = .ok (.lload 17, 2) := by decide +kernel
theorem dX12_tryRing_168 : decode cX12_tryRing 168 = .ok (.lmul, 1) := by decide +kernel
theorem dX12_tryRing_169 : decode cX12_tryRing 169 = .ok (.lload 9, 2) := by decide +kernel
theorem dX12_tryRing_171 : decode cX12_tryRing 171 = .ok (.lload 15, 2) := by decide +kernel
theorem dX12_tryRing_173 : decode cX12_tryRing 173 = .ok (.lmul, 1) := by decide +kernel
theorem dX12_tryRing_174 : decode cX12_tryRing 174 = .ok (.lsub, 1) := by decide +kernel
theorem dX12_tryRing_175 : decode cX12_tryRing 175 = .ok (.lmul, 1) := by decide +kernel
theorem dX12_tryRing_176 : decode cX12_tryRing 176 = .ok (.lstore 23, 2) := by decide +kernel
theorem dX12_tryRing_178 : decode cX12_tryRing 178 = .ok (.lload 19, 2) := by decide +kernel
theorem dX12_tryRing_180 : decode cX12_tryRing 180 = .ok (.lload 13, 2) := by decide +kernel
theorem dX12_tryRing_182 : decode cX12_tryRing 182 = .ok (.lmul, 1) := by decide +kernel
theorem dX12_tryRing_183 : decode cX12_tryRing 183 = .ok (.lstore 25, 2) := by decide +kernel
theorem dX12_tryRing_185 : decode cX12_tryRing 185 = .ok (.lconst 0, 1) := by decide +kernel
theorem dX12_tryRing_186 : decode cX12_tryRing 186 = .ok (.lstore 27, 2) := by decide +kernel
theorem dX12_tryRing_188 : decode cX12_tryRing 188 = .ok (.lconst 0, 1) := by decide +kernel
theorem dX12_tryRing_189 : decode cX12_tryRing 189 = .ok (.lstore 29, 2) := by decide +kernel
theorem dX12_tryRing_191 : decode cX12_tryRing 191 = .ok (.iconst 0, 1) := by decide +kernel
theorem dX12_tryRing_192 : decode cX12_tryRing 192 = .ok (.istore 31, 2) := by decide +kernel
theorem dX12_tryRing_194 : decode cX12_tryRing 194 = .ok (.iload 31, 2) := by decide +kernel
theorem dX12_tryRing_196 : decode cX12_tryRing 196 = .ok (.aload_n 0, 1) := by decide +kernel
theorem dX12_tryRing_197 : decode cX12_tryRing 197 = .ok (.getfield 157, 3) := by decide +kernel
theorem dX12_tryRing_200 : decode cX12_tryRing 200 = .ok (.if_icmp .ge 92, 3) := by decide +kernel
theorem dX12_tryRing_203 : decode cX12_tryRing 203 = .ok (.aload_n 0, 1) := by decide +kernel
theorem dX12_tryRing_204 : decode cX12_tryRing 204 = .ok (.iload 31, 2) := by decide +kernel
theorem dX12_tryRing_206 : decode cX12_tryRing 206 = .ok (.invokevirtual 358, 3) := by decide +kernel
theorem dX12_tryRing_209 : decode cX12_tryRing 209 = .ok (.lload 25, 2) := by decide +kernel
theorem dX12_tryRing_211 : decode cX12_tryRing 211 = .ok (.lmul, 1) := by decide +kernel
theorem dX12_tryRing_212 : decode cX12_tryRing 212 = .ok (.ldc2_w 202, 3) := by decide +kernel
theorem dX12_tryRing_215 : decode cX12_tryRing 215 = .ok (.lload 21, 2) := by decide +kernel
theorem dX12_tryRing_217 : decode cX12_tryRing 217 = .ok (.aload_n 0, 1) := by decide +kernel
theorem dX12_tryRing_218 : decode cX12_tryRing 218 = .ok (.getfield 33, 3) := by decide +kernel
theorem dX12_tryRing_221 : decode cX12_tryRing 221 = .ok (.iload 31, 2) := by decide +kernel
theorem dX12_tryRing_223 : decode cX12_tryRing 223 = .ok (.iaload, 1) := by decide +kernel
theorem dX12_tryRing_224 : decode cX12_tryRing 224 = .ok (.i2l, 1) := by decide +kernel
theorem dX12_tryRing_225 : decode cX12_tryRing 225 = .ok (.lmul, 1) := by decide +kernel
theorem dX12_tryRing_226 : decode cX12_tryRing 226 = .ok (.lload 23, 2) := by decide +kernel
theorem dX12_tryRing_228 : decode cX12_tryRing 228 = .ok (.aload_n 0, 1) := by decide +kernel
theorem dX12_tryRing_229 : decode cX12_tryRing 229 = .ok (.getfield 36, 3) := by decide +kernel
theorem dX12_tryRing_232 : decode cX12_tryRing 232 = .ok (.iload 31, 2) := by decide +kernel
theorem dX12_tryRing_234 : decode cX12_tryRing 234 = .ok (.iaload, 1) := by decide +kernel
theorem dX12_tryRing_235 : decode cX12_tryRing 235 = .ok (.i2l, 1) := by decide +kernel
theorem dX12_tryRing_236 : decode cX12_tryRing 236 = .ok (.lmul, 1) := by decide +kernel
theorem dX12_tryRing_237 : decode cX12_tryRing 237 = .ok (.ladd, 1) := by decide +kernel
theorem dX12_tryRing_238 : decode cX12_tryRing 238 = .ok (.lmul, 1) := by decide +kernel
theorem dX12_tryRing_239 : decode cX12_tryRing 239 = .ok (.lsub, 1) := by decide +kernel
theorem dX12_tryRing_240 : decode cX12_tryRing 240 = .ok (.lstore 32, 2) := by decide +kernel
theorem dX12_tryRing_242 : decode cX12_tryRing 242 = .ok (.iload 31, 2) := by decide +kernel
theorem dX12_tryRing_244 : decode cX12_tryRing 244 = .ok (.ifCond .eq 11, 3) := by decide +kernel
theorem dX12_tryRing_247 : decode cX12_tryRing 247 = .ok (.lload 32, 2) := by decide +kernel
theorem dX12_tryRing_249 : decode cX12_tryRing 249 = .ok (.lload 27, 2) := by decide +kernel
theorem dX12_tryRing_251 : decode cX12_tryRing 251 = .ok (.lcmp, 1) := by decide +kernel
theorem dX12_tryRing_252 : decode cX12_tryRing 252 = .ok (.ifCond .ge 8, 3) := by decide +kernel
theorem dX12_tryRing_255 : decode cX12_tryRing 255 = .ok (.lload 32, 2) := by decide +kernel
theorem dX12_tryRing_257 : decode cX12_tryRing 257 = .ok (.goto 5, 3) := by decide +kernel
theorem dX12_tryRing_260 : decode cX12_tryRing 260 = .ok (.lload 27, 2) := by decide +kernel
theorem dX12_tryRing_262 : decode cX12_tryRing 262 = .ok (.lstore 27, 2) := by decide +kernel
theorem dX12_tryRing_264 : decode cX12_tryRing 264 = .ok (.iload 31, 2) := by decide +kernel
theorem dX12_tryRing_266 : decode cX12_tryRing 266 = .ok (.ifCond .eq 11, 3) := by decide +kernel
theorem dX12_tryRing_269 : decode cX12_tryRing 269 = .ok (.lload 32, 2) := by decide +kernel
theorem dX12_tryRing_271 : decode cX12_tryRing 271 = .ok (.lload 29, 2) := by decide +kernel
theorem dX12_tryRing_273 : decode cX12_tryRing 273 = .ok (.lcmp, 1) := by decide +kernel
theorem dX12_tryRing_274 : decode cX12_tryRing 274 = .ok (.ifCond .le 8, 3) := by decide +kernel
theorem dX12_tryRing_277 : decode cX12_tryRing 277 = .ok (.lload 32, 2) := by decide +kernel
theorem dX12_tryRing_279 : decode cX12_tryRing 279 = .ok (.goto 5, 3) := by decide +kernel
theorem dX12_tryRing_282 : decode cX12_tryRing 282 = .ok (.lload 29, 2) := by decide +kernel
theorem dX12_tryRing_284 : decode cX12_tryRing 284 = .ok (.lstore 29, 2) := by decide +kernel
theorem dX12_tryRing_286 : decode cX12_tryRing 286 = .ok (.iinc 31 1, 3) := by decide +kernel
theorem dX12_tryRing_289 : decode cX12_tryRing 289 = .ok (.goto (-95), 3) := by decide +kernel
theorem dX12_tryRing_292 : decode cX12_tryRing 292 = .ok (.aload_n 0, 1) := by decide +kernel
theorem dX12_tryRing_293 : decode cX12_tryRing 293 = .ok (.getfield 362, 3) := by decide +kernel
theorem dX12_tryRing_296 : decode cX12_tryRing 296 = .ok (.ifCond .eq 22, 3) := by decide +kernel
theorem dX12_tryRing_299 : decode cX12_tryRing 299 = .ok (.aload_n 0, 1) := by decide +kernel
theorem dX12_tryRing_300 : decode cX12_tryRing 300 = .ok (.lload 29, 2) := by decide +kernel
theorem dX12_tryRing_302 : decode cX12_tryRing 302 = .ok (.lload 27, 2) := by decide +kernel
theorem dX12_tryRing_304 : decode cX12_tryRing 304 = .ok (.lsub, 1) := by decide +kernel
theorem dX12_tryRing_305 : decode cX12_tryRing 305 = .ok (.lload 21, 2) := by decide +kernel
theorem dX12_tryRing_307 : decode cX12_tryRing 307 = .ok (.lload 23, 2) := by decide +kernel
theorem dX12_tryRing_309 : decode cX12_tryRing 309 = .ok (.lload 25, 2) := by decide +kernel
theorem dX12_tryRing_311 : decode cX12_tryRing 311 = .ok (.invokevirtual 366, 3) := by decide +kernel
theorem dX12_tryRing_314 : decode cX12_tryRing 314 = .ok (.ifCond .ne 4, 3) := by decide +kernel
theorem dX12_tryRing_317 : decode cX12_tryRing 317 = .ok (.return_, 1) := by decide +kernel
theorem dX12_tryRing_318 : decode cX12_tryRing 318 = .ok (.aload_n 0, 1) := by decide +kernel
theorem dX12_tryRing_319 : decode cX12_tryRing 319 = .ok (.iconst 1, 1) := by decide +kernel
theorem dX12_tryRing_320 : decode cX12_tryRing 320 = .ok (.putfield 362, 3) := by decide +kernel
theorem dX12_tryRing_323 : decode cX12_tryRing 323 = .ok (.aload_n 0, 1) := by decide +kernel
theorem dX12_tryRing_324 : decode cX12_tryRing 324 = .ok (.lload 21, 2) := by decide +kernel
theorem dX12_tryRing_326 : decode cX12_tryRing 326 = .ok (.putfield 370, 3) := by decide +kernel
theorem dX12_tryRing_329 : decode cX12_tryRing 329 = .ok (.aload_n 0, 1) := by decide +kernel
theorem dX12_tryRing_330 : decode cX12_tryRing 330 = .ok (.lload 23, 2) := by decide +kernel
theorem dX12_tryRing_332 : decode cX12_tryRing 332 = .ok (.putfield 373, 3) := by decide +kernel
theorem dX12_tryRing_335 : decode cX12_tryRing 335 = .ok (.aload_n 0, 1) := by decide +kernel
theorem dX12_tryRing_336 : decode cX12_tryRing 336 = .ok (.lload 25, 2) := by decide +kernel
theorem dX12_tryRing_338 : decode cX12_tryRing 338 = .ok (.putfield 376, 3) := by decide +kernel
theorem dX12_tryRing_341 : decode cX12_tryRing 341 = .ok (.aload_n 0, 1) := by decide +kernel
theorem dX12_tryRing_342 : decode cX12_tryRing 342 = .ok (.lload 27, 2) := by decide +kernel
theorem dX12_tryRing_344 : decode cX12_tryRing 344 = .ok (.putfield 379, 3) := by decide +kernel
theorem dX12_tryRing_347 : decode cX12_tryRing 347 = .ok (.aload_n 0, 1) := by decide +kernel
theorem dX12_tryRing_348 : decode cX12_tryRing 348 = .ok (.lload 29, 2) := by decide +kernel
theorem dX12_tryRing_350 : decode cX12_tryRing 350 = .ok (.lload 27, 2) := by decide +kernel
theorem dX12_tryRing_352 : decode cX12_tryRing 352 = .ok (.lsub, 1) := by decide +kernel
theorem dX12_tryRing_353 : decode cX12_tryRing 353 = .ok (.putfield 382, 3) := by decide +kernel
theorem dX12_tryRing_356 : decode cX12_tryRing 356 = .ok (.return_, 1) := by decide +kernel
theorem dX12_isBetter_0 : decode cX12_isBetter 0 = .ok (.lload_n 1, 1) := by decide +kernel
theorem dX12_isBetter_1 : decode cX12_isBetter 1 = .ok (.lload 7, 2) := by decide +kernel
theorem dX12_isBetter_3 : decode cX12_isBetter 3 = .ok (.aload_n 0, 1) := by decide +kernel
theorem dX12_isBetter_4 : decode cX12_isBetter 4 = .ok (.getfield 382, 3) := by decide +kernel
theorem dX12_isBetter_7 : decode cX12_isBetter 7 = .ok (.aload_n 0, 1) := by decide +kernel
theorem dX12_isBetter_8 : decode cX12_isBetter 8 = .ok (.getfield 376, 3) := by decide +kernel
theorem dX12_isBetter_11 : decode cX12_isBetter 11 = .ok (.invokestatic 271, 3) := by decide +kernel
theorem dX12_isBetter_14 : decode cX12_isBetter 14 = .ok (.istore 9, 2) := by decide +kernel
theorem dX12_isBetter_16 : decode cX12_isBetter 16 = .ok (.iload 9, 2) := by decide +kernel
theorem dX12_isBetter_18 : decode cX12_isBetter 18 = .ok (.ifCond .eq 14, 3) := by decide +kernel
theorem dX12_isBetter_21 : decode cX12_isBetter 21 = .ok (.iload 9, 2) := by decide +kernel
theorem dX12_isBetter_23 : decode cX12_isBetter 23 = .ok (.ifCond .ge 7, 3) := by decide +kernel
theorem dX12_isBetter_26 : decode cX12_isBetter 26 = .ok (.iconst 1, 1) := by decide +kernel
theorem dX12_isBetter_27 : decode cX12_isBetter 27 = .ok (.goto 4, 3) := by decide +kernel
theorem dX12_isBetter_30 : decode cX12_isBetter 30 = .ok (.iconst 0, 1) := by decide +kernel
theorem dX12_isBetter_31 : decode cX12_isBetter 31 = .ok (.ireturn, 1) := by decide +kernel
theorem dX12_isBetter_32 : decode cX12_isBetter 32 = .ok (.lload_n 3, 1) := by decide +kernel
theorem dX12_isBetter_33 : decode cX12_isBetter 33 = .ok (.aload_n 0, 1) := by decide +kernel
theorem dX12_isBetter_34 : decode cX12_isBetter 34 = .ok (.getfield 376, 3) := by decide +kernel
theorem dX12_isBetter_37 : decode cX12_isBetter 37 = .ok (.lmul, 1) := by decide +kernel
theorem dX12_isBetter_38 : decode cX12_isBetter 38 = .ok (.aload_n 0, 1) := by decide +kernel
theorem dX12_isBetter_39 : decode cX12_isBetter 39 = .ok (.getfield 370, 3) := by decide +kernel
theorem dX12_isBetter_42 : decode cX12_isBetter 42 = .ok (.lload 7, 2) := by decide +kernel
theorem dX12_isBetter_44 : decode cX12_isBetter 44 = .ok (.lmul, 1) := by decide +kernel
theorem dX12_isBetter_45 : decode cX12_isBetter 45 = .ok (.lcmp, 1) := by decide +kernel
theorem dX12_isBetter_46 : decode cX12_isBetter 46 = .ok (.ifCond .eq 26, 3) := by decide +kernel
theorem dX12_isBetter_49 : decode cX12_isBetter 49 = .ok (.lload_n 3, 1) := by decide +kernel
theorem dX12_isBetter_50 : decode cX12_isBetter 50 = .ok (.aload_n 0, 1) := by decide +kernel
theorem dX12_isBetter_51 : decode cX12_isBetter 51 = .ok (.getfield 376, 3) := by decide +kernel
theorem dX12_isBetter_54 : decode cX12_isBetter 54 = .ok (.lmul, 1) := by decide +kernel
theorem dX12_isBetter_55 : decode cX12_isBetter 55 = .ok (.aload_n 0, 1) := by decide +kernel
theorem dX12_isBetter_56 : decode cX12_isBetter 56 = .ok (.getfield 370, 3) := by decide +kernel
theorem dX12_isBetter_59 : decode cX12_isBetter 59 = .ok (.lload 7, 2) := by decide +kernel
theorem dX12_isBetter_61 : decode cX12_isBetter 61 = .ok (.lmul, 1) := by decide +kernel
theorem dX12_isBetter_62 : decode cX12_isBetter 62 = .ok (.lcmp, 1) := by decide +kernel
theorem dX12_isBetter_63 : decode cX12_isBetter 63 = .ok (.ifCond .ge 7, 3) := by decide +kernel
theorem dX12_isBetter_66 : decode cX12_isBetter 66 = .ok (.iconst 1, 1) := by decide +kernel
theorem dX12_isBetter_67 : decode cX12_isBetter 67 = .ok (.goto 4, 3) := by decide +kernel
theorem dX12_isBetter_70 : decode cX12_isBetter 70 = .ok (.iconst 0, 1) := by decide +kernel
theorem dX12_isBetter_71 : decode cX12_isBetter 71 = .ok (.ireturn, 1) := by decide +kernel
theorem dX12_isBetter_72 : decode cX12_isBetter 72 = .ok (.lload 5, 2) := by decide +kernel
theorem dX12_isBetter_74 : decode cX12_isBetter 74 = .ok (.aload_n 0, 1) := by decide +kernel
theorem dX12_isBetter_75 : decode cX12_isBetter 75 = .ok (.getfield 376, 3) := by decide +kernel
theorem dX12_isBetter_78 : decode cX12_isBetter 78 = .ok (.lmul, 1) := by decide +kernel
theorem dX12_isBetter_79 : decode cX12_isBetter 79 = .ok (.aload_n 0, 1) := by decide +kernel
theorem dX12_isBetter_80 : decode cX12_isBetter 80 = .ok (.getfield 373, 3) := by decide +kernel
theorem dX12_isBetter_83 : decode cX12_isBetter 83 = .ok (.lload 7, 2) := by decide +kernel
theorem dX12_isBetter_85 : decode cX12_isBetter 85 = .ok (.lmul, 1) := by decide +kernel
theorem dX12_isBetter_86 : decode cX12_isBetter 86 = .ok (.lcmp, 1) := by decide +kernel
theorem dX12_isBetter_87 : decode cX12_isBetter 87 = .ok (.ifCond .ge 7, 3) := by decide +kernel
theorem dX12_isBetter_90 : decode cX12_isBetter 90 = .ok (.iconst 1, 1) := by decide +kernel
theorem dX12_isBetter_91 : decode cX12_isBetter 91 = .ok (.goto 4, 3) := by decide +kernel
theorem dX12_isBetter_94 : decode cX12_isBetter 94 = .ok (.iconst 0, 1) := by decide +kernel
theorem dX12_isBetter_95 : decode cX12_isBetter 95 = .ok (.ireturn, 1) := by decide +kernel
theorem dX12_layRing_0 : decode cX12_layRing 0 = .ok (.aload_n 0, 1) := by decide +kernel
theorem dX12_layRing_1 : decode cX12_layRing 1 = .ok (.iconst 0, 1) := by decide +kernel
theorem dX12_layRing_2 : decode cX12_layRing 2 = .ok (.putfield 362, 3) := by decide +kernel
theorem dX12_layRing_5 : decode cX12_layRing 5 = .ok (.iconst 0, 1) := by decide +kernel
theorem dX12_layRing_6 : decode cX12_layRing 6 = .ok (.istore_n 1, 1) := by decide +kernel
theorem dX12_layRing_7 : decode cX12_layRing 7 = .ok (.iload_n 1, 1) := by decide +kernel
theorem dX12_layRing_8 : decode cX12_layRing 8 = .ok (.aload_n 0, 1) := by decide +kernel
theorem dX12_layRing_9 : decode cX12_layRing 9 = .ok (.getfield 157, 3) := by decide +kernel
theorem dX12_layRing_12 : decode cX12_layRing 12 = .ok (.if_icmp .ge 72, 3) := by decide +kernel
theorem dX12_layRing_15 : decode cX12_layRing 15 = .ok (.iload_n 1, 1) := by decide +kernel
theorem dX12_layRing_16 : decode cX12_layRing 16 = .ok (.iconst 1, 1) := by decide +kernel
theorem dX12_layRing_17 : decode cX12_layRing 17 = .ok (.iadd, 1) := by decide +kernel
theorem dX12_layRing_18 : decode cX12_layRing 18 = .ok (.istore_n 2, 1) := by decide +kernel
theorem dX12_layRing_19 : decode cX12_layRing 19 = .ok (.iload_n 2, 1) := by decide +kernel
theorem dX12_layRing_20 : decode cX12_layRing 20 = .ok (.aload_n 0, 1) := by decide +kernel
theorem dX12_layRing_21 : decode cX12_layRing 21 = .ok (.getfield 157, 3) := by decide +kernel
theorem dX12_layRing_24 : decode cX12_layRing 24 = .ok (.if_icmp .ge 54, 3) := by decide +kernel
theorem dX12_layRing_27 : decode cX12_layRing 27 = .ok (.iload_n 1, 1) := by decide +kernel
theorem dX12_layRing_28 : decode cX12_layRing 28 = .ok (.istore_n 3, 1) := by decide +kernel
theorem dX12_layRing_29 : decode cX12_layRing 29 = .ok (.iload_n 3, 1) := by decide +kernel
theorem dX12_layRing_30 : decode cX12_layRing 30 = .ok (.aload_n 0, 1) := by decide +kernel
theorem dX12_layRing_31 : decode cX12_layRing 31 = .ok (.getfield 157, 3) := by decide +kernel
theorem dX12_layRing_34 : decode cX12_layRing 34 = .ok (.if_icmp .ge 38, 3) := by decide +kernel
theorem dX12_layRing_37 : decode cX12_layRing 37 = .ok (.iload_n 3, 1) := by decide +kernel
theorem dX12_layRing_38 : decode cX12_layRing 38 = .ok (.iconst 1, 1) := by decide +kernel
theorem dX12_layRing_39 : decode cX12_layRing 39 = .ok (.iadd, 1) := by decide +kernel
theorem dX12_layRing_40 : decode cX12_layRing 40 = .ok (.istore 4, 2) := by decide +kernel
theorem dX12_layRing_42 : decode cX12_layRing 42 = .ok (.iload 4, 2) := by decide +kernel
theorem dX12_layRing_44 : decode cX12_layRing 44 = .ok (.aload_n 0, 1) := by decide +kernel
theorem dX12_layRing_45 : decode cX12_layRing 45 = .ok (.getfield 157, 3) := by decide +kernel
theorem dX12_layRing_48 : decode cX12_layRing 48 = .ok (.if_icmp .ge 18, 3) := by decide +kernel
theorem dX12_layRing_51 : decode cX12_layRing 51 = .ok (.aload_n 0, 1) := by decide +kernel
theorem dX12_layRing_52 : decode cX12_layRing 52 = .ok (.iload_n 1, 1) := by decide +kernel
theorem dX12_layRing_53 : decode cX12_layRing 53 = .ok (.iload_n 2, 1) := by decide +kernel
theorem dX12_layRing_54 : decode cX12_layRing 54 = .ok (.iload_n 3, 1) := by decide +kernel
theorem dX12_layRing_55 : decode cX12_layRing 55 = .ok (.iload 4, 2) := by decide +kernel
theorem dX12_layRing_57 : decode cX12_layRing 57 = .ok (.invokevirtual 385, 3) := by decide +kernel
theorem dX12_layRing_60 : decode cX12_layRing 60 = .ok (.iinc 4 1, 3) := by decide +kernel
theorem dX12_layRing_63 : decode cX12_layRing 63 = .ok (.goto (-21), 3) := by decide +kernel
theorem dX12_layRing_66 : decode cX12_layRing 66 = .ok (.iinc 3 1, 3) := by decide +kernel
theorem dX12_layRing_69 : decode cX12_layRing 69 = .ok (.goto (-40), 3) := by decide +kernel
theorem dX12_layRing_72 : decode cX12_layRing 72 = .ok (.iinc 2 1, 3) := by decide +kernel
theorem dX12_layRing_75 : decode cX12_layRing 75 = .ok (.goto (-56), 3) := by decide +kernel
theorem dX12_layRing_78 : decode cX12_layRing 78 = .ok (.iinc 1 1, 3) := by decide +kernel
theorem dX12_layRing_81 : decode cX12_layRing 81 = .ok (.goto (-74), 3) := by decide +kernel
theorem dX12_layRing_84 : decode cX12_layRing 84 = .ok (.return_, 1) := by decide +kernel
theorem dX12_ring_0 : decode cX12_ring 0 = .ok (.iload_n 2, 1) := by decide +kernel
theorem dX12_ring_1 : decode cX12_ring 1 = .ok (.iconst 0, 1) := by decide +kernel
theorem dX12_ring_2 : decode cX12_ring 2 = .ok (.bipush 9, 2) := by decide +kernel
theorem dX12_ring_4 : decode cX12_ring 4 = .ok (.invokestatic 76, 3) := by decide +kernel
theorem dX12_ring_7 : decode cX12_ring 7 = .ok (.ifCond .eq 20, 3) := by decide +kernel
theorem dX12_ring_10 : decode cX12_ring 10 = .ok (.aload_n 0, 1) := by decide +kernel
theorem dX12_ring_11 : decode cX12_ring 11 = .ok (.iload_n 1, 1) := by decide +kernel
theorem dX12_ring_12 : decode cX12_ring 12 = .ok (.invokevirtual 344, 3) := by decide +kernel
theorem dX12_ring_15 : decode cX12_ring 15 = .ok (.ifCond .eq 12, 3) := by decide +kernel
theorem dX12_ring_18 : decode cX12_ring 18 = .ok (.aload_n 0, 1) := by decide +kernel
theorem dX12_ring_19 : decode cX12_ring 19 = .ok (.getfield 157, 3) := by decide +kernel
theorem dX12_ring_22 : decode cX12_ring 22 = .ok (.bipush 12, 2) := by decide +kernel
theorem dX12_ring_24 : decode cX12_ring 24 = .ok (.if_icmp .le 7, 3) := by decide +kernel
theorem dX12_ring_27 : decode cX12_ring 27 = .ok (.ldc2_w 291, 3) := by decide +kernel
theorem dX12_ring_30 : decode cX12_ring 30 = .ok (.lreturn, 1) := by decide +kernel
theorem dX12_ring_31 : decode cX12_ring 31 = .ok (.aload_n 0, 1) := by decide +kernel
theorem dX12_ring_32 : decode cX12_ring 32 = .ok (.invokevirtual 388, 3) := by decide +kernel
theorem dX12_ring_35 : decode cX12_ring 35 = .ok (.aload_n 0, 1) := by decide +kernel
theorem dX12_ring_36 : decode cX12_ring 36 = .ok (.getfield 376, 3) := by decide +kernel
theorem dX12_ring_39 : decode cX12_ring 39 = .ok (.lstore_n 3, 1) := by decide +kernel
theorem dX12_ring_40 : decode cX12_ring 40 = .ok (.aload_n 0, 1) := by decide +kernel
theorem dX12_ring_41 : decode cX12_ring 41 = .ok (.getfield 370, 3) := by decide +kernel
theorem dX12_ring_44 : decode cX12_ring 44 = .ok (.aload_n 0, 1) := by decide +kernel
theorem dX12_ring_45 : decode cX12_ring 45 = .ok (.getfield 370, 3) := by decide +kernel
theorem dX12_ring_48 : decode cX12_ring 48 = .ok (.lmul, 1) := by decide +kernel
theorem dX12_ring_49 : decode cX12_ring 49 = .ok (.aload_n 0, 1) := by decide +kernel
theorem dX12_ring_50 : decode cX12_ring 50 = .ok (.getfield 373, 3) := by decide +kernel
theorem dX12_ring_53 : decode cX12_ring 53 = .ok (.aload_n 0, 1) := by decide +kernel
theorem dX12_ring_54 : decode cX12_ring 54 = .ok (.getfield 373, 3) := by decide +kernel
theorem dX12_ring_57 : decode cX12_ring 57 = .ok (.lmul, 1) := by decide +kernel
theorem dX12_ring_58 : decode cX12_ring 58 = .ok (.ladd, 1) := by decide +kernel
theorem dX12_ring_59 : decode cX12_ring 59 = .ok (.aload_n 0, 1) := by decide +kernel
theorem dX12_ring_60 : decode cX12_ring 60 = .ok (.getfield 379, 3) := by decide +kernel
theorem dX12_ring_63 : decode cX12_ring 63 = .ok (.lload_n 3, 1) := by decide +kernel
theorem dX12_ring_64 : decode cX12_ring 64 = .ok (.lmul, 1) := by decide +kernel
theorem dX12_ring_65 : decode cX12_ring 65 = .ok (.ladd, 1) := by decide +kernel
theorem dX12_ring_66 : decode cX12_ring 66 = .ok (.lstore 5, 2) := by decide +kernel
theorem dX12_ring_68 : decode cX12_ring 68 = .ok (.lload 5, 2) := by decide +kernel
theorem dX12_ring_70 : decode cX12_ring 70 = .ok (.aload_n 0, 1) := by decide +kernel
theorem dX12_ring_71 : decode cX12_ring 71 = .ok (.getfield 382, 3) := by decide +kernel
theorem dX12_ring_74 : decode cX12_ring 74 = .ok (.lload_n 3, 1) := by decide +kernel
theorem dX12_ring_75 : decode cX12_ring 75 = .ok (.lmul, 1) := by decide +kernel
theorem dX12_ring_76 : decode cX12_ring 76 = .ok (.ladd, 1) := by decide +kernel
theorem dX12_ring_77 : decode cX12_ring 77 = .ok (.lstore 7, 2) := by decide +kernel
theorem dX12_ring_79 : decode cX12_ring 79 = .ok (.iload_n 2, 1) := by decide +kernel
theorem dX12_ring_80 : decode cX12_ring 80 = .ok (.tableswitch 133 0 8 #[52, 61, 70, 79, 88, 97, 106, 115, 124], 52) := by decide +kernel
theorem dX12_ring_132 : decode cX12_ring 132 = .ok (.aload_n 0, 1) := by decide +kernel
theorem dX12_ring_133 : decode cX12_ring 133 = .ok (.getfield 382, 3) := by decide +kernel
theorem dX12_ring_136 : decode cX12_ring 136 = .ok (.lload_n 3, 1) := by decide +kernel
theorem dX12_ring_137 : decode cX12_ring 137 = .ok (.invokestatic 210, 3) := by decide +kernel
theorem dX12_ring_140 : decode cX12_ring 140 = .ok (.lreturn, 1) := by decide +kernel
theorem dX12_ring_141 : decode cX12_ring 141 = .ok (.aload_n 0, 1) := by decide +kernel
theorem dX12_ring_142 : decode cX12_ring 142 = .ok (.getfield 382, 3) := by decide +kernel
theorem dX12_ring_145 : decode cX12_ring 145 = .ok (.lload_n 3, 1) := by decide +kernel
theorem dX12_ring_146 : decode cX12_ring 146 = .ok (.invokestatic 213, 3) := by decide +kernel
theorem dX12_ring_149 : decode cX12_ring 149 = .ok (.lreturn, 1) := by decide +kernel
theorem dX12_ring_150 : decode cX12_ring 150 = .ok (.lload 5, 2) := by decide +kernel
theorem dX12_ring_152 : decode cX12_ring 152 = .ok (.lload_n 3, 1) := by decide +kernel
theorem dX12_ring_153 : decode cX12_ring 153 = .ok (.lload_n 3, 1) := by decide +kernel
theorem dX12_ring_154 : decode cX12_ring 154 = .ok (.lmul, 1) := by decide +kernel
theorem dX12_ring_155 : decode cX12_ring 155 = .ok (.invokestatic 210, 3) := by decide +kernel
theorem dX12_ring_158 : decode cX12_ring 158 = .ok (.lreturn, 1) := by decide +kernel
theorem dX12_ring_159 : decode cX12_ring 159 = .ok (.lload 5, 2) := by decide +kernel
theorem dX12_ring_161 : decode cX12_ring 161 = .ok (.lload_n 3, 1) := by decide +kernel
theorem dX12_ring_162 : decode cX12_ring 162 = .ok (.lload_n 3, 1) := by decide +kernel
theorem dX12_ring_163 : decode cX12_ring 163 = .ok (.lmul, 1) := by decide +kernel
theorem dX12_ring_164 : decode cX12_ring 164 = .ok (.invokestatic 213, 3) := by decide +kernel
theorem dX12_ring_167 : decode cX12_ring 167 = .ok (.lreturn, 1) := by decide +kernel
theorem dX12_ring_168 : decode cX12_ring 168 = .ok (.lload 7, 2) := by decide +kernel
theorem dX12_ring_170 : decode cX12_ring 170 = .ok (.lload_n 3, 1) := by decide +kernel
theorem dX12_ring_171 : decode cX12_ring 171 = .ok (.lload_n 3, 1) := by decide +kernel
theorem dX12_ring_172 : decode cX12_ring 172 = .ok (.lmul, 1) := by decide +kernel
theorem dX12_ring_173 : decode cX12_ring 173 = .ok (.invokestatic 210, 3) := by decide +kernel
theorem dX12_ring_176 : decode cX12_ring 176 = .ok (.lreturn, 1) := by decide +kernel
theorem dX12_ring_177 : decode cX12_ring 177 = .ok (.lload 7, 2) := by decide +kernel
theorem dX12_ring_179 : decode cX12_ring 179 = .ok (.lload_n 3, 1) := by decide +kernel
theorem dX12_ring_180 : decode cX12_ring 180 = .ok (.lload_n 3, 1) := by decide +kernel
theorem dX12_ring_181 : decode cX12_ring 181 = .ok (.lmul, 1) := by decide +kernel
theorem dX12_ring_182 : decode cX12_ring 182 = .ok (.invokestatic 213, 3) := by decide +kernel
theorem dX12_ring_185 : decode cX12_ring 185 = .ok (.lreturn, 1) := by decide +kernel
theorem dX12_ring_186 : decode cX12_ring 186 = .ok (.aload_n 0, 1) := by decide +kernel
theorem dX12_ring_187 : decode cX12_ring 187 = .ok (.getfield 370, 3) := by decide +kernel
theorem dX12_ring_190 : decode cX12_ring 190 = .ok (.lload_n 3, 1) := by decide +kernel
theorem dX12_ring_191 : decode cX12_ring 191 = .ok (.invokestatic 210, 3) := by decide +kernel
theorem dX12_ring_194 : decode cX12_ring 194 = .ok (.lreturn, 1) := by decide +kernel
theorem dX12_ring_195 : decode cX12_ring 195 = .ok (.aload_n 0, 1) := by decide +kernel
theorem dX12_ring_196 : decode cX12_ring 196 = .ok (.getfield 370, 3) := by decide +kernel
theorem dX12_ring_199 : decode cX12_ring 199 = .ok (.lload_n 3, 1) := by decide +kernel
theorem dX12_ring_200 : decode cX12_ring 200 = .ok (.invokestatic 213, 3) := by decide +kernel
theorem dX12_ring_203 : decode cX12_ring 203 = .ok (.lreturn, 1) := by decide +kernel
theorem dX12_ring_204 : decode cX12_ring 204 = .ok (.aload_n 0, 1) := by decide +kernel
theorem dX12_ring_205 : decode cX12_ring 205 = .ok (.getfield 373, 3) := by decide +kernel
theorem dX12_ring_208 : decode cX12_ring 208 = .ok (.lload_n 3, 1) := by decide +kernel
theorem dX12_ring_209 : decode cX12_ring 209 = .ok (.invokestatic 210, 3) := by decide +kernel
theorem dX12_ring_212 : decode cX12_ring 212 = .ok (.lreturn, 1) := by decide +kernel
theorem dX12_ring_213 : decode cX12_ring 213 = .ok (.aload_n 0, 1) := by decide +kernel
theorem dX12_ring_214 : decode cX12_ring 214 = .ok (.getfield 373, 3) := by decide +kernel
theorem dX12_ring_217 : decode cX12_ring 217 = .ok (.lload_n 3, 1) := by decide +kernel
theorem dX12_ring_218 : decode cX12_ring 218 = .ok (.invokestatic 213, 3) := by decide +kernel
theorem dX12_ring_221 : decode cX12_ring 221 = .ok (.lreturn, 1) := by decide +kernel
theorem dX12_two_0 : decode cX12_two 0 = .ok (.iload_n 2, 1) := by decide +kernel
theorem dX12_two_1 : decode cX12_two 1 = .ok (.iconst 0, 1) := by decide +kernel
theorem dX12_two_2 : decode cX12_two 2 = .ok (.iconst 2, 1) := by decide +kernel
theorem dX12_two_3 : decode cX12_two 3 = .ok (.invokestatic 76, 3) := by decide +kernel
theorem dX12_two_6 : decode cX12_two 6 = .ok (.ifCond .eq 24, 3) := by decide +kernel
theorem dX12_two_9 : decode cX12_two 9 = .ok (.aload_n 0, 1) := by decide +kernel
theorem dX12_two_10 : decode cX12_two 10 = .ok (.iload_n 1, 1) := by decide +kernel
theorem dX12_two_11 : decode cX12_two 11 = .ok (.invokevirtual 173, 3) := by decide +kernel
theorem dX12_two_14 : decode cX12_two 14 = .ok (.ifCond .eq 16, 3) := by decide +kernel
theorem dX12_two_17 : decode cX12_two 17 = .ok (.aload_n 0, 1) := by decide +kernel
theorem dX12_two_18 : decode cX12_two 18 = .ok (.getfield 157, 3) := by decide +kernel
theorem dX12_two_21 : decode cX12_two 21 = .ok (.iconst 2, 1) := by decide +kernel
theorem dX12_two_22 : decode cX12_two 22 = .ok (.bipush 12, 2) := by decide +kernel
theorem dX12_two_24 : decode cX12_two 24 = .ok (.invokestatic 76, 3) := by decide +kernel
theorem dX12_two_27 : decode cX12_two 27 = .ok (.ifCond .ne 7, 3) := by decide +kernel
theorem dX12_two_30 : decode cX12_two 30 = .ok (.ldc2_w 220, 3) := by decide +kernel
theorem dX12_two_33 : decode cX12_two 33 = .ok (.lreturn, 1) := by decide +kernel
theorem dX12_two_34 : decode cX12_two 34 = .ok (.iconst (-1), 1) := by decide +kernel
theorem dX12_two_35 : decode cX12_two 35 = .ok (.istore_n 3, 1) := by decide +kernel
theorem dX12_two_36 : decode cX12_two 36 = .ok (.lconst 0, 1) := by decide +kernel
theorem dX12_two_37 : decode cX12_two 37 = .ok (.lstore 4, 2) := by decide +kernel
theorem dX12_two_39 : decode cX12_two 39 = .ok (.lconst 1, 1) := by decide +kernel
theorem dX12_two_40 : decode cX12_two 40 = .ok (.lstore 6, 2) := by decide +kernel
theorem dX12_two_42 : decode cX12_two 42 = .ok (.aload_n 0, 1) := by decide +kernel
theorem dX12_two_43 : decode cX12_two 43 = .ok (.invokevirtual 281, 3) := by decide +kernel
theorem dX12_two_46 : decode cX12_two 46 = .ok (.lstore 8, 2) := by decide +kernel
theorem dX12_two_48 : decode cX12_two 48 = .ok (.iconst 1, 1) := by decide +kernel
theorem dX12_two_49 : decode cX12_two 49 = .ok (.istore 10, 2) := by decide +kernel
theorem dX12_two_51 : decode cX12_two 51 = .ok (.iload 10, 2) := by decide +kernel
theorem dX12_two_53 : decode cX12_two 53 = .ok (.i2l, 1) := by decide +kernel
theorem dX12_two_54 : decode cX12_two 54 = .ok (.lload 8, 2) := by decide +kernel
theorem dX12_two_56 : decode cX12_two 56 = .ok (.lcmp, 1) := by decide +kernel
theorem dX12_two_57 : decode cX12_two 57 = .ok (.ifCond .ge 129, 3) := by decide +kernel
theorem dX12_two_60 : decode cX12_two 60 = .ok (.aload_n 0, 1) := by decide +kernel
theorem dX12_two_61 : decode cX12_two 61 = .ok (.iload 10, 2) := by decide +kernel
theorem dX12_two_63 : decode cX12_two 63 = .ok (.i2l, 1) := by decide +kernel
theorem dX12_two_64 : decode cX12_two 64 = .ok (.invokevirtual 285, 3) := by decide +kernel
theorem dX12_two_67 : decode cX12_two 67 = .ok (.iload_n 3, 1) := by decide +kernel
theorem dX12_two_68 : decode cX12_two 68 = .ok (.iconst (-1), 1) := by decide +kernel
theorem dX12_two_69 : decode cX12_two 69 = .ok (.if_icmp .eq 24, 3) := by decide +kernel
theorem dX12_two_72 : decode cX12_two 72 = .ok (.aload_n 0, 1) := by decide +kernel
theorem dX12_two_73 : decode cX12_two 73 = .ok (.getfield 196, 3) := by decide +kernel
theorem dX12_two_76 : decode cX12_two 76 = .ok (.aload_n 0, 1) := by decide +kernel
theorem dX12_two_77 : decode cX12_two 77 = .ok (.getfield 199, 3) := by decide +kernel
theorem dX12_two_80 : decode cX12_two 80 = .ok (.lload 4, 2) := by decide +kernel
theorem dX12_two_82 : decode cX12_two 82 = .ok (.lload 6, 2) := by decide +kernel
theorem dX12_two_84 : decode cX12_two 84 = .ok (.invokestatic 271, 3) := by decide +kernel
theorem dX12_two_87 : decode cX12_two 87 = .ok (.ifCond .lt 6, 3) := by decide +kernel
theorem dX12_two_90 : decode cX12_two 90 = .ok (.goto 90, 3) := by decide +kernel
theorem dX12_two_93 : decode cX12_two 93 = .ok (.aload_n 0, 1) := by decide +kernel
theorem dX12_two_94 : decode cX12_two 94 = .ok (.getfield 196, 3) := by decide +kernel
theorem dX12_two_97 : decode cX12_two 97 = .ok (.lstore 11, 2) := by decide +kernel
theorem dX12_two_99 : decode cX12_two 99 = .ok (.aload_n 0, 1) := by decide +kernel
theorem dX12_two_100 : decode cX12_two 100 = .ok (.getfield 199, 3) := by decide +kernel
theorem dX12_two_103 : decode cX12_two 103 = .ok (.lstore 13, 2) := by decide +kernel
theorem dX12_two_105 : decode cX12_two 105 = .ok (.aload_n 0, 1) := by decide +kernel
theorem dX12_two_106 : decode cX12_two 106 = .ok (.lload 8, 2) := by decide +kernel
theorem dX12_two_108 : decode cX12_two 108 = .ok (.iload 10, 2) := by decide +kernel
theorem dX12_two_110 : decode cX12_two 110 = .ok (.iconst (-1), 1) := by decide +kernel
theorem dX12_two_111 : decode cX12_two 111 = .ok (.ixor, 1) := by decide +kernel
theorem dX12_two_112 : decode cX12_two 112 = .ok (.i2l, 1) := by decide +kernel
theorem dX12_two_113 : decode cX12_two 113 = .ok (.land, 1) := by decide +kernel
theorem dX12_two_114 : decode cX12_two 114 = .ok (.invokevirtual 285, 3) := by decide +kernel
theorem dX12_two_117 : decode cX12_two 117 = .ok (.aload_n 0, 1) := by decide +kernel
theorem dX12_two_118 : decode cX12_two 118 = .ok (.getfield 196, 3) := by decide +kernel
theorem dX12_two_121 : decode cX12_two 121 = .ok (.aload_n 0, 1) := by decide +kernel
theorem dX12_two_122 : decode cX12_two 122 = .ok (.getfield 199, 3) := by decide +kernel
theorem dX12_two_125 : decode cX12_two 125 = .ok (.lload 11, 2) := by decide +kernel
theorem dX12_two_127 : decode cX12_two 127 = .ok (.lload 13, 2) := by decide +kernel
theorem dX12_two_129 : decode cX12_two 129 = .ok (.invokestatic 271, 3) := by decide +kernel
theorem dX12_two_132 : decode cX12_two 132 = .ok (.ifCond .le 15, 3) := by decide +kernel
theorem dX12_two_135 : decode cX12_two 135 = .ok (.aload_n 0, 1) := by decide +kernel
theorem dX12_two_136 : decode cX12_two 136 = .ok (.getfield 196, 3) := by decide +kernel
theorem dX12_two_139 : decode cX12_two 139 = .ok (.lstore 11, 2) := by decide +kernel
theorem dX12_two_141 : decode cX12_two 141 = .ok (.aload_n 0, 1) := by decide +kernel
theorem dX12_two_142 : decode cX12_two 142 = .ok (.getfield 199, 3) := by decide +kernel
theorem dX12_two_145 : decode cX12_two 145 = .ok (.lstore 13, 2) := by decide +kernel
theorem dX12_two_147 : decode cX12_two 147 = .ok (.iload_n 3, 1) := by decide +kernel
theorem dX12_two_148 : decode cX12_two 148 = .ok (.iconst (-1), 1) := by decide +kernel
theorem dX12_two_149 : decode cX12_two 149 = .ok (.if_icmp .eq 20, 3) := by decide +kernel
theorem dX12_two_152 : decode cX12_two 152 = .ok (.lload 11, 2) := by decide +kernel
theorem dX12_two_154 : decode cX12_two 154 = .ok (.lload 13, 2) := by decide +kernel
theorem dX12_two_156 : decode cX12_two 156 = .ok (.lload 4, 2) := by decide +kernel
theorem dX12_two_158 : decode cX12_two 158 = .ok (.lload 6, 2) := by decide +kernel
theorem dX12_two_160 : decode cX12_two 160 = .ok (.invokestatic 271, 3) := by decide +kernel
theorem dX12_two_163 : decode cX12_two 163 = .ok (.ifCond .lt 6, 3) := by decide +kernel
theorem dX12_two_166 : decode cX12_two 166 = .ok (.goto 14, 3) := by decide +kernel
theorem dX12_two_169 : decode cX12_two 169 = .ok (.iload 10, 2) := by decide +kernel
theorem dX12_two_171 : decode cX12_two 171 = .ok (.istore_n 3, 1) := by decide +kernel
theorem dX12_two_172 : decode cX12_two 172 = .ok (.lload 11, 2) := by decide +kernel
theorem dX12_two_174 : decode cX12_two 174 = .ok (.lstore 4, 2) := by decide +kernel
theorem dX12_two_176 : decode cX12_two 176 = .ok (.lload 13, 2) := by decide +kernel
theorem dX12_two_178 : decode cX12_two 178 = .ok (.lstore 6, 2) := by decide +kernel
theorem dX12_two_180 : decode cX12_two 180 = .ok (.iinc 10 2, 3) := by decide +kernel
theorem dX12_two_183 : decode cX12_two 183 = .ok (.goto (-132), 3) := by decide +kernel
theorem dX12_two_186 : decode cX12_two 186 = .ok (.iload_n 2, 1) := by decide +kernel
theorem dX12_two_187 : decode cX12_two 187 = .ok (.ifCond .ne 8, 3) := by decide +kernel
theorem dX12_two_190 : decode cX12_two 190 = .ok (.lload 4, 2) := by decide +kernel
theorem dX12_two_192 : decode cX12_two 192 = .ok (.goto 15, 3) := by decide +kernel
theorem dX12_two_195 : decode cX12_two 195 = .ok (.iload_n 2, 1) := by decide +kernel
theorem dX12_two_196 : decode cX12_two 196 = .ok (.iconst 1, 1) := by decide +kernel
theorem dX12_two_197 : decode cX12_two 197 = .ok (.if_icmp .ne 8, 3) := by decide +kernel
theorem dX12_two_200 : decode cX12_two 200 = .ok (.lload 6, 2) := by decide +kernel
theorem dX12_two_202 : decode cX12_two 202 = .ok (.goto 5, 3) := by decide +kernel
theorem dX12_two_205 : decode cX12_two 205 = .ok (.iload_n 3, 1) := by decide +kernel
theorem dX12_two_206 : decode cX12_two 206 = .ok (.i2l, 1) := by decide +kernel
theorem dX12_two_207 : decode cX12_two 207 = .ok (.lreturn, 1) := by decide +kernel
theorem dX12_tryFew_0 : decode cX12_tryFew 0 = .ok (.iconst 0, 1) := by decide +kernel
theorem dX12_tryFew_1 : decode cX12_tryFew 1 = .ok (.istore_n 2, 1) := by decide +kernel
theorem dX12_tryFew_2 : decode cX12_tryFew 2 = .ok (.iconst 0, 1) := by decide +kernel
theorem dX12_tryFew_3 : decode cX12_tryFew 3 = .ok (.istore_n 3, 1) := by decide +kernel
theorem dX12_tryFew_4 : decode cX12_tryFew 4 = .ok (.iload_n 3, 1) := by decide +kernel
theorem dX12_tryFew_5 : decode cX12_tryFew 5 = .ok (.aload_n 0, 1) := by decide +kernel
theorem dX12_tryFew_6 : decode cX12_tryFew 6 = .ok (.getfield 157, 3) := by decide +kernel
theorem dX12_tryFew_9 : decode cX12_tryFew 9 = .ok (.if_icmp .ge 27, 3) := by decide +kernel
theorem dX12_tryFew_12 : decode cX12_tryFew 12 = .ok (.iload_n 2, 1) := by decide +kernel
theorem dX12_tryFew_13 : decode cX12_tryFew 13 = .ok (.aload_n 0, 1) := by decide +kernel
theorem dX12_tryFew_14 : decode cX12_tryFew 14 = .ok (.iload_n 3, 1) := by decide +kernel
theorem dX12_tryFew_15 : decode cX12_tryFew 15 = .ok (.invokevirtual 229, 3) := by decide +kernel
theorem dX12_tryFew_18 : decode cX12_tryFew 18 = .ok (.ifCond .eq 9, 3) := by decide +kernel
theorem dX12_tryFew_21 : decode cX12_tryFew 21 = .ok (.iconst 1, 1) := by decide +kernel
theorem dX12_tryFew_22 : decode cX12_tryFew 22 = .ok (.iload_n 3, 1) := by decide +kernel
theorem dX12_tryFew_23 : decode cX12_tryFew 23 = .ok (.ishl, 1) := by decide +kernel
theorem dX12_tryFew_24 : decode cX12_tryFew 24 = .ok (.goto 4, 3) := by decide +kernel
theorem dX12_tryFew_27 : decode cX12_tryFew 27 = .ok (.iconst 0, 1) := by decide +kernel
theorem dX12_tryFew_28 : decode cX12_tryFew 28 = .ok (.ior, 1) := by decide +kernel
theorem dX12_tryFew_29 : decode cX12_tryFew 29 = .ok (.istore_n 2, 1) := by decide +kernel
theorem dX12_tryFew_30 : decode cX12_tryFew 30 = .ok (.iinc 3 1, 3) := by decide +kernel
theorem dX12_tryFew_33 : decode cX12_tryFew 33 = .ok (.goto (-29), 3) := by decide +kernel
theorem dX12_tryFew_36 : decode cX12_tryFew 36 = .ok (.iload_n 2, 1) := by decide +kernel
theorem dX12_tryFew_37 : decode cX12_tryFew 37 = .ok (.invokestatic 317, 3) := by decide +kernel
theorem dX12_tryFew_40 : decode cX12_tryFew 40 = .ok (.iload_n 1, 1) := by decide +kernel
theorem dX12_tryFew_41 : decode cX12_tryFew 41 = .ok (.if_icmp .ge 4, 3) := by decide +kernel
theorem dX12_tryFew_44 : decode cX12_tryFew 44 = .ok (.return_, 1) := by decide +kernel
theorem dX12_tryFew_45 : decode cX12_tryFew 45 = .ok (.aload_n 0, 1) := by decide +kernel
theorem dX12_tryFew_46 : decode cX12_tryFew 46 = .ok (.getfield 391, 3) := by decide +kernel
theorem dX12_tryFew_49 : decode cX12_tryFew 49 = .ok (.ifCond .eq 69, 3) := by decide +kernel
theorem dX12_tryFew_52 : decode cX12_tryFew 52 = .ok (.aload_n 0, 1) := by decide +kernel
theorem dX12_tryFew_53 : decode cX12_tryFew 53 = .ok (.getfield 196, 3) := by decide +kernel
theorem dX12_tryFew_56 : decode cX12_tryFew 56 = .ok (.aload_n 0, 1) := by decide +kernel
theorem dX12_tryFew_57 : decode cX12_tryFew 57 = .ok (.getfield 199, 3) := by decide +kernel
theorem dX12_tryFew_60 : decode cX12_tryFew 60 = .ok (.aload_n 0, 1) := by decide +kernel
theorem dX12_tryFew_61 : decode cX12_tryFew 61 = .ok (.getfield 394, 3) := by decide +kernel
theorem dX12_tryFew_64 : decode cX12_tryFew 64 = .ok (.aload_n 0, 1) := by decide +kernel
theorem dX12_tryFew_65 : decode cX12_tryFew 65 = .ok (.getfield 397, 3) := by decide +kernel
theorem dX12_tryFew_68 : decode cX12_tryFew 68 = .ok (.invokestatic 271, 3) := by decide +kernel
theorem dX12_tryFew_71 : decode cX12_tryFew 71 = .ok (.istore_n 3, 1) := by decide +kernel
theorem dX12_tryFew_72 : decode cX12_tryFew 72 = .ok (.iload_n 3, 1) := by decide +kernel
theorem dX12_tryFew_73 : decode cX12_tryFew 73 = .ok (.ifCond .le 4, 3) := by decide +kernel
theorem dX12_tryFew_76 : decode cX12_tryFew 76 = .ok (.return_, 1) := by decide +kernel
theorem dX12_tryFew_77 : decode cX12_tryFew 77 = .ok (.iload_n 3, 1) := by decide +kernel
theorem dX12_tryFew_78 : decode cX12_tryFew 78 = .ok (.ifCond .ne 40, 3) := by decide +kernel
theorem dX12_tryFew_81 : decode cX12_tryFew 81 = .ok (.iload_n 2, 1) := by decide +kernel
theorem dX12_tryFew_82 : decode cX12_tryFew 82 = .ok (.invokestatic 317, 3) := by decide +kernel
theorem dX12_tryFew_85 : decode cX12_tryFew 85 = .ok (.aload_n 0, 1) := by decide +kernel
theorem dX12_tryFew_86 : decode cX12_tryFew 86 = .ok (.getfield 391, 3) := by decide +kernel
theorem dX12_tryFew_89 : decode cX12_tryFew 89 = .ok (.invokestatic 317, 3) := by decide +kernel
theorem dX12_tryFew_92 : decode cX12_tryFew 92 = .ok (.if_icmp .lt 25, 3) := by decide +kernel
theorem dX12_tryFew_95 : decode cX12_tryFew 95 = .ok (.iload_n 2, 1) := by decide +kernel
theorem dX12_tryFew_96 : decode cX12_tryFew 96 = .ok (.invokestatic 317, 3) := by decide +kernel
theorem dX12_tryFew_99 : decode cX12_tryFew 99 = .ok (.aload_n 0, 1) := by decide +kernel
theorem dX12_tryFew_100 : decode cX12_tryFew 100 = .ok (.getfield 391, 3) := by decide +kernel
theorem dX12_tryFew_103 : decode cX12_tryFew 103 = .ok (.invokestatic 317, 3) := by decide +kernel
theorem dX12_tryFew_106 : decode cX12_tryFew 106 = .ok (.if_icmp .ne 12, 3) := by decide +kernel
theorem dX12_tryFew_109 : decode cX12_tryFew 109 = .ok (.iload_n 2, 1) := by decide +kernel
theorem dX12_tryFew_110 : decode cX12_tryFew 110 = .ok (.aload_n 0, 1) := by decide +kernel
theorem dX12_tryFew_111 : decode cX12_tryFew 111 = .ok (.getfield 391, 3) := by decide +kernel
theorem dX12_tryFew_114 : decode cX12_tryFew 114 = .ok (.if_icmp .lt 4, 3) := by decide +kernel
theorem dX12_tryFew_117 : decode cX12_tryFew 117 = .ok (.return_, 1) := by decide +kernel
theorem dX12_tryFew_118 : decode cX12_tryFew 118 = .ok (.aload_n 0, 1) := by decide +kernel
theorem dX12_tryFew_119 : decode cX12_tryFew 119 = .ok (.aload_n 0, 1) := by decide +kernel
theorem dX12_tryFew_120 : decode cX12_tryFew 120 = .ok (.getfield 196, 3) := by decide +kernel
theorem dX12_tryFew_123 : decode cX12_tryFew 123 = .ok (.putfield 394, 3) := by decide +kernel
theorem dX12_tryFew_126 : decode cX12_tryFew 126 = .ok (.aload_n 0, 1) := by decide +kernel
theorem dX12_tryFew_127 : decode cX12_tryFew 127 = .ok (.aload_n 0, 1) := by decide +kernel
theorem dX12_tryFew_128 : decode cX12_tryFew 128 = .ok (.getfield 199, 3) := by decide +kernel
theorem dX12_tryFew_131 : decode cX12_tryFew 131 = .ok (.putfield 397, 3) := by decide +kernel
theorem dX12_tryFew_134 : decode cX12_tryFew 134 = .ok (.aload_n 0, 1) := by decide +kernel
theorem dX12_tryFew_135 : decode cX12_tryFew 135 = .ok (.iload_n 2, 1) := by decide +kernel
theorem dX12_tryFew_136 : decode cX12_tryFew 136 = .ok (.putfield 391, 3) := by decide +kernel
theorem dX12_tryFew_139 : decode cX12_tryFew 139 = .ok (.return_, 1) := by decide +kernel
theorem dX12_fewer_0 : decode cX12_fewer 0 = .ok (.iload_n 3, 1) := by decide +kernel
theorem dX12_fewer_1 : decode cX12_fewer 1 = .ok (.iconst 0, 1) := by decide +kernel
theorem dX12_fewer_2 : decode cX12_fewer 2 = .ok (.iconst 2, 1) := by decide +kernel
theorem dX12_fewer_3 : decode cX12_fewer 3 = .ok (.invokestatic 76, 3) := by decide +kernel
theorem dX12_fewer_6 : decode cX12_fewer 6 = .ok (.ifCond .eq 32, 3) := by decide +kernel
theorem dX12_fewer_9 : decode cX12_fewer 9 = .ok (.aload_n 0, 1) := by decide +kernel
theorem dX12_fewer_10 : decode cX12_fewer 10 = .ok (.iload_n 1, 1) := by decide +kernel
theorem dX12_fewer_11 : decode cX12_fewer 11 = .ok (.invokevirtual 173, 3) := by decide +kernel
theorem dX12_fewer_14 : decode cX12_fewer 14 = .ok (.ifCond .eq 24, 3) := by decide +kernel
theorem dX12_fewer_17 : decode cX12_fewer 17 = .ok (.aload_n 0, 1) := by decide +kernel
theorem dX12_fewer_18 : decode cX12_fewer 18 = .ok (.getfield 157, 3) := by decide +kernel
theorem dX12_fewer_21 : decode cX12_fewer 21 = .ok (.bipush 12, 2) := by decide +kernel
theorem dX12_fewer_23 : decode cX12_fewer 23 = .ok (.if_icmp .gt 15, 3) := by decide +kernel
theorem dX12_fewer_26 : decode cX12_fewer 26 = .ok (.iload_n 2, 1) := by decide +kernel
theorem dX12_fewer_27 : decode cX12_fewer 27 = .ok (.iconst 1, 1) := by decide +kernel
theorem dX12_fewer_28 : decode cX12_fewer 28 = .ok (.aload_n 0, 1) := by decide +kernel
theorem dX12_fewer_29 : decode cX12_fewer 29 = .ok (.getfield 157, 3) := by decide +kernel
theorem dX12_fewer_32 : decode cX12_fewer 32 = .ok (.invokestatic 76, 3) := by decide +kernel
theorem dX12_fewer_35 : decode cX12_fewer 35 = .ok (.ifCond .ne 7, 3) := by decide +kernel
theorem dX12_fewer_38 : decode cX12_fewer 38 = .ok (.ldc2_w 220, 3) := by decide +kernel
theorem dX12_fewer_41 : decode cX12_fewer 41 = .ok (.lreturn, 1) := by decide +kernel
theorem dX12_fewer_42 : decode cX12_fewer 42 = .ok (.aload_n 0, 1) := by decide +kernel
theorem dX12_fewer_43 : decode cX12_fewer 43 = .ok (.iconst 0, 1) := by decide +kernel
theorem dX12_fewer_44 : decode cX12_fewer 44 = .ok (.putfield 391, 3) := by decide +kernel
theorem dX12_fewer_47 : decode cX12_fewer 47 = .ok (.iconst 0, 1) := by decide +kernel
theorem dX12_fewer_48 : decode cX12_fewer 48 = .ok (.istore 4, 2) := by decide +kernel
theorem dX12_fewer_50 : decode cX12_fewer 50 = .ok (.iload 4, 2) := by decide +kernel
theorem dX12_fewer_52 : decode cX12_fewer 52 = .ok (.aload_n 0, 1) := by decide +kernel
theorem dX12_fewer_53 : decode cX12_fewer 53 = .ok (.getfield 157, 3) := by decide +kernel
theorem dX12_fewer_56 : decode cX12_fewer 56 = .ok (.if_icmp .ge 83, 3) := by decide +kernel
theorem dX12_fewer_59 : decode cX12_fewer 59 = .ok (.aload_n 0, 1) := by decide +kernel
theorem dX12_fewer_60 : decode cX12_fewer 60 = .ok (.iload 4, 2) := by decide +kernel
theorem dX12_fewer_62 : decode cX12_fewer 62 = .ok (.invokevirtual 253, 3) := by decide +kernel
theorem dX12_fewer_65 : decode cX12_fewer 65 = .ok (.aload_n 0, 1) := by decide +kernel
theorem dX12_fewer_66 : decode cX12_fewer 66 = .ok (.iload_n 2, 1) := by decide +kernel
theorem dX12_fewer_67 : decode cX12_fewer 67 = .ok (.invokevirtual 400, 3) := by decide +kernel
theorem dX12_fewer_70 : decode cX12_fewer 70 = .ok (.iconst 0, 1) := by decide +kernel
theorem dX12_fewer_71 : decode cX12_fewer 71 = .ok (.istore 5, 2) := by decide +kernel
theorem dX12_fewer_73 : decode cX12_fewer 73 = .ok (.iload 5, 2) := by decide +kernel
theorem dX12_fewer_75 : decode cX12_fewer 75 = .ok (.iload 4, 2) := by decide +kernel
theorem dX12_fewer_77 : decode cX12_fewer 77 = .ok (.if_icmp .ge 56, 3) := by decide +kernel
theorem dX12_fewer_80 : decode cX12_fewer 80 = .ok (.aload_n 0, 1) := by decide +kernel
theorem dX12_fewer_81 : decode cX12_fewer 81 = .ok (.iload 4, 2) := by decide +kernel
theorem dX12_fewer_83 : decode cX12_fewer 83 = .ok (.iload 5, 2) := by decide +kernel
theorem dX12_fewer_85 : decode cX12_fewer 85 = .ok (.invokevirtual 256, 3) := by decide +kernel
theorem dX12_fewer_88 : decode cX12_fewer 88 = .ok (.aload_n 0, 1) := by decide +kernel
theorem dX12_fewer_89 : decode cX12_fewer 89 = .ok (.iload_n 2, 1) := by decide +kernel
theorem dX12_fewer_90 : decode cX12_fewer 90 = .ok (.invokevirtual 400, 3) := by decide +kernel
theorem dX12_fewer_93 : decode cX12_fewer 93 = .ok (.iconst 0, 1) := by decide +kernel
theorem dX12_fewer_94 : decode cX12_fewer 94 = .ok (.istore 6, 2) := by decide +kernel
theorem dX12_fewer_96 : decode cX12_fewer 96 = .ok (.iload 6, 2) := by decide +kernel
theorem dX12_fewer_98 : decode cX12_fewer 98 = .ok (.iload 5, 2) := by decide +kernel
theorem dX12_fewer_100 : decode cX12_fewer 100 = .ok (.if_icmp .ge 27, 3) := by decide +kernel
theorem dX12_fewer_103 : decode cX12_fewer 103 = .ok (.aload_n 0, 1) := by decide +kernel
theorem dX12_fewer_104 : decode cX12_fewer 104 = .ok (.iload 4, 2) := by decide +kernel
theorem dX12_fewer_106 : decode cX12_fewer 106 = .ok (.iload 5, 2) := by decide +kernel
theorem dX12_fewer_108 : decode cX12_fewer 108 = .ok (.iload 6, 2) := by decide +kernel
theorem dX12_fewer_110 : decode cX12_fewer 110 = .ok (.invokevirtual 268, 3) := by decide +kernel
theorem dX12_fewer_113 : decode cX12_fewer 113 = .ok (.ifCond .eq 8, 3) := by decide +kernel
theorem dX12_fewer_116 : decode cX12_fewer 116 = .ok (.aload_n 0, 1) := by decide +kernel
theorem dX12_fewer_117 : decode cX12_fewer 117 = .ok (.iload_n 2, 1) := by decide +kernel
theorem dX12_fewer_118 : decode cX12_fewer 118 = .ok (.invokevirtual 400, 3) := by decide +kernel
theorem dX12_fewer_121 : decode cX12_fewer 121 = .ok (.iinc 6 1, 3) := by decide +kernel
theorem dX12_fewer_124 : decode cX12_fewer 124 = .ok (.goto (-28), 3) := by decide +kernel
theorem dX12_fewer_127 : decode cX12_fewer 127 = .ok (.iinc 5 1, 3) := by decide +kernel
theorem dX12_fewer_130 : decode cX12_fewer 130 = .ok (.goto (-57), 3) := by decide +kernel
theorem dX12_fewer_133 : decode cX12_fewer 133 = .ok (.iinc 4 1, 3) := by decide +kernel
theorem dX12_fewer_136 : decode cX12_fewer 136 = .ok (.goto (-86), 3) := by decide +kernel
theorem dX12_fewer_139 : decode cX12_fewer 139 = .ok (.iload_n 3, 1) := by decide +kernel
theorem dX12_fewer_140 : decode cX12_fewer 140 = .ok (.ifCond .ne 10, 3) := by decide +kernel
theorem dX12_fewer_143 : decode cX12_fewer 143 = .ok (.aload_n 0, 1) := by decide +kernel
theorem dX12_fewer_144 : decode cX12_fewer 144 = .ok (.getfield 394, 3) := by decide +kernel
theorem dX12_fewer_147 : decode cX12_fewer 147 = .ok (.goto 20, 3) := by decide +kernel
theorem dX12_fewer_150 : decode cX12_fewer 150 = .ok (.iload_n 3, 1) := by decide +kernel
theorem dX12_fewer_151 : decode cX12_fewer 151 = .ok (.iconst 1, 1) := by decide +kernel
theorem dX12_fewer_152 : decode cX12_fewer 152 = .ok (.if_icmp .ne 10, 3) := by decide +kernel
theorem dX12_fewer_155 : decode cX12_fewer 155 = .ok (.aload_n 0, 1) := by decide +kernel
theorem dX12_fewer_156 : decode cX12_fewer 156 = .ok (.getfield 397, 3) := by decide +kernel
theorem dX12_fewer_159 : decode cX12_fewer 159 = .ok (.goto 8, 3) := by decide +kernel
theorem dX12_fewer_162 : decode cX12_fewer 162 = .ok (.aload_n 0, 1) := by decide +kernel
theorem dX12_fewer_163 : decode cX12_fewer 163 = .ok (.getfield 391, 3) := by decide +kernel
theorem dX12_fewer_166 : decode cX12_fewer 166 = .ok (.i2l, 1) := by decide +kernel
theorem dX12_fewer_167 : decode cX12_fewer 167 = .ok (.lreturn, 1) := by decide +kernel
theorem dX12_turnOf_0 : decode cX12_turnOf 0 = .ok (.lload 4, 2) := by decide +kernel
theorem dX12_turnOf_2 : decode cX12_turnOf 2 = .ok (.lload_n 0, 1) := by decide +kernel
theorem dX12_turnOf_3 : decode cX12_turnOf 3 = .ok (.lsub, 1) := by decide +kernel
theorem dX12_turnOf_4 : decode cX12_turnOf 4 = .ok (.lload 10, 2) := by decide +kernel
theorem dX12_turnOf_6 : decode cX12_turnOf 6 = .ok (.lload_n 2, 1) := by decide +kernel
theorem dX12_turnOf_7 : decode cX12_turnOf 7 = .ok (.lsub, 1) := by decide +kernel
theorem dX12_turnOf_8 : decode cX12_turnOf 8 = .ok (.lmul, 1) := by decide +kernel
theorem dX12_turnOf_9 : decode cX12_turnOf 9 = .ok (.lload 6, 2) := by decide +kernel
theorem dX12_turnOf_11 : decode cX12_turnOf 11 = .ok (.lload_n 2, 1) := by decide +kernel
theorem dX12_turnOf_12 : decode cX12_turnOf 12 = .ok (.lsub, 1) := by decide +kernel
theorem dX12_turnOf_13 : decode cX12_turnOf 13 = .ok (.lload 8, 2) := by decide +kernel
theorem dX12_turnOf_15 : decode cX12_turnOf 15 = .ok (.lload_n 0, 1) := by decide +kernel
theorem dX12_turnOf_16 : decode cX12_turnOf 16 = .ok (.lsub, 1) := by decide +kernel
theorem dX12_turnOf_17 : decode cX12_turnOf 17 = .ok (.lmul, 1) := by decide +kernel
theorem dX12_turnOf_18 : decode cX12_turnOf 18 = .ok (.lsub, 1) := by decide +kernel
theorem dX12_turnOf_19 : decode cX12_turnOf 19 = .ok (.lreturn, 1) := by decide +kernel
theorem dX12_isBetween_0 : decode cX12_isBetween 0 = .ok (.lload_n 0, 1) := by decide +kernel
theorem dX12_isBetween_1 : decode cX12_isBetween 1 = .ok (.lload_n 2, 1) := by decide +kernel
theorem dX12_isBetween_2 : decode cX12_isBetween 2 = .ok (.lcmp, 1) := by decide +kernel
theorem dX12_isBetween_3 : decode cX12_isBetween 3 = .ok (.ifCond .gt 25, 3) := by decide +kernel
theorem dX12_isBetween_6 : decode cX12_isBetween 6 = .ok (.lload 4, 2) := by decide +kernel
theorem dX12_isBetween_8 : decode cX12_isBetween 8 = .ok (.lload_n 0, 1) := by decide +kernel
theorem dX12_isBetween_9 : decode cX12_isBetween 9 = .ok (.lcmp, 1) := by decide +kernel
theorem dX12_isBetween_10 : decode cX12_isBetween 10 = .ok (.ifCond .lt 14, 3) := by decide +kernel
theorem dX12_isBetween_13 : decode cX12_isBetween 13 = .ok (.lload 4, 2) := by decide +kernel
theorem dX12_isBetween_15 : decode cX12_isBetween 15 = .ok (.lload_n 2, 1) := by decide +kernel
theorem dX12_isBetween_16 : decode cX12_isBetween 16 = .ok (.lcmp, 1) := by decide +kernel
theorem dX12_isBetween_17 : decode cX12_isBetween 17 = .ok (.ifCond .gt 7, 3) := by decide +kernel
theorem dX12_isBetween_20 : decode cX12_isBetween 20 = .ok (.iconst 1, 1) := by decide +kernel
theorem dX12_isBetween_21 : decode cX12_isBetween 21 = .ok (.goto 26, 3) := by decide +kernel
theorem dX12_isBetween_24 : decode cX12_isBetween 24 = .ok (.iconst 0, 1) := by decide +kernel
theorem dX12_isBetween_25 : decode cX12_isBetween 25 = .ok (.goto 22, 3) := by decide +kernel
theorem dX12_isBetween_28 : decode cX12_isBetween 28 = .ok (.lload 4, 2) := by decide +kernel
theorem dX12_isBetween_30 : decode cX12_isBetween 30 = .ok (.lload_n 2, 1) := by decide +kernel
theorem dX12_isBetween_31 : decode cX12_isBetween 31 = .ok (.lcmp, 1) := by decide +kernel
theorem dX12_isBetween_32 : decode cX12_isBetween 32 = .ok (.ifCond .lt 14, 3) := by decide +kernel
theorem dX12_isBetween_35 : decode cX12_isBetween 35 = .ok (.lload 4, 2) := by decide +kernel
theorem dX12_isBetween_37 : decode cX12_isBetween 37 = .ok (.lload_n 0, 1) := by decide +kernel
theorem dX12_isBetween_38 : decode cX12_isBetween 38 = .ok (.lcmp, 1) := by decide +kernel
theorem dX12_isBetween_39 : decode cX12_isBetween 39 = .ok (.ifCond .gt 7, 3) := by decide +kernel
theorem dX12_isBetween_42 : decode cX12_isBetween 42 = .ok (.iconst 1, 1) := by decide +kernel
theorem dX12_isBetween_43 : decode cX12_isBetween 43 = .ok (.goto 4, 3) := by decide +kernel
theorem dX12_isBetween_46 : decode cX12_isBetween 46 = .ok (.iconst 0, 1) := by decide +kernel
theorem dX12_isBetween_47 : decode cX12_isBetween 47 = .ok (.ireturn, 1) := by decide +kernel
theorem dX12_isOn_0 : decode cX12_isOn 0 = .ok (.lload_n 0, 1) := by decide +kernel
theorem dX12_isOn_1 : decode cX12_isOn 1 = .ok (.lload_n 2, 1) := by decide +kernel
theorem dX12_isOn_2 : decode cX12_isOn 2 = .ok (.lload 4, 2) := by decide +kernel
theorem dX12_isOn_4 : decode cX12_isOn 4 = .ok (.lload 6, 2) := by decide +kernel
theorem dX12_isOn_6 : decode cX12_isOn 6 = .ok (.lload 8, 2) := by decide +kernel
theorem dX12_isOn_8 : decode cX12_isOn 8 = .ok (.lload 10, 2) := by decide +kernel
theorem dX12_isOn_10 : decode cX12_isOn 10 = .ok (.invokestatic 403, 3) := by decide +kernel
theorem dX12_isOn_13 : decode cX12_isOn 13 = .ok (.lconst 0, 1) := by decide +kernel
theorem dX12_isOn_14 : decode cX12_isOn 14 = .ok (.lcmp, 1) := by decide +kernel
theorem dX12_isOn_15 : decode cX12_isOn 15 = .ok (.ifCond .ne 29, 3) := by decide +kernel
theorem dX12_isOn_18 : decode cX12_isOn 18 = .ok (.lload_n 0, 1) := by decide +kernel
theorem dX12_isOn_19 : decode cX12_isOn 19 = .ok (.lload 4, 2) := by decide +kernel
theorem dX12_isOn_21 : decode cX12_isOn 21 = .ok (.lload 8, 2) := by decide +kernel
theorem dX12_isOn_23 : decode cX12_isOn 23 = .ok (.invokestatic 407, 3) := by decide +kernel
theorem dX12_isOn_26 : decode cX12_isOn 26 = .ok (.ifCond .eq 18, 3) := by decide +kernel
theorem dX12_isOn_29 : decode cX12_isOn 29 = .ok (.lload_n 2, 1) := by decide +kernel
theorem dX12_isOn_30 : decode cX12_isOn 30 = .ok (.lload 6, 2) := by decide +kernel
theorem dX12_isOn_32 : decode cX12_isOn 32 = .ok (.lload 10, 2) := by decide +kernel
theorem dX12_isOn_34 : decode cX12_isOn 34 = .ok (.invokestatic 407, 3) := by decide +kernel
theorem dX12_isOn_37 : decode cX12_isOn 37 = .ok (.ifCond .eq 7, 3) := by decide +kernel
theorem dX12_isOn_40 : decode cX12_isOn 40 = .ok (.iconst 1, 1) := by decide +kernel
theorem dX12_isOn_41 : decode cX12_isOn 41 = .ok (.goto 4, 3) := by decide +kernel
theorem dX12_isOn_44 : decode cX12_isOn 44 = .ok (.iconst 0, 1) := by decide +kernel
theorem dX12_isOn_45 : decode cX12_isOn 45 = .ok (.ireturn, 1) := by decide +kernel
theorem dX12_doCross_0 : decode cX12_doCross 0 = .ok (.lload_n 0, 1) := by decide +kernel
theorem dX12_doCross_1 : decode cX12_doCross 1 = .ok (.lload_n 2, 1) := by decide +kernel
theorem dX12_doCross_2 : decode cX12_doCross 2 = .ok (.lload 4, 2) := by decide +kernel
theorem dX12_doCross_4 : decode cX12_doCross 4 = .ok (.lload 6, 2) := by decide +kernel
theorem dX12_doCross_6 : decode cX12_doCross 6 = .ok (.lload 8, 2) := by decide +kernel
theorem dX12_doCross_8 : decode cX12_doCross 8 = .ok (.lload 10, 2) := by decide +kernel
theorem dX12_doCross_10 : decode cX12_doCross 10 = .ok (.invokestatic 403, 3) := by decide +kernel
theorem dX12_doCross_13 : decode cX12_doCross 13 = .ok (.lstore 16, 2) := by decide +kernel
theorem dX12_doCross_15 : decode cX12_doCross 15 = .ok (.lload_n 0, 1) := by decide +kernel
theorem dX12_doCross_16 : decode cX12_doCross 16 = .ok (.lload_n 2, 1) := by decide +kernel
theorem dX12_doCross_17 : decode cX12_doCross 17 = .ok (.lload 4, 2) := by decide +kernel
theorem dX12_doCross_19 : decode cX12_doCross 19 = .ok (.lload 6, 2) := by decide +kernel
theorem dX12_doCross_21 : decode cX12_doCross 21 = .ok (.lload 12, 2) := by decide +kernel
theorem dX12_doCross_23 : decode cX12_doCross 23 = .ok (.lload 14, 2) := by decide +kernel
theorem dX12_doCross_25 : decode cX12_doCross 25 = .ok (.invokestatic 403, 3) := by decide +kernel
theorem dX12_doCross_28 : decode cX12_doCross 28 = .ok (.lstore 18, 2) := by decide +kernel
theorem dX12_doCross_30 : decode cX12_doCross 30 = .ok (.lload 8, 2) := by decide +kernel
theorem dX12_doCross_32 : decode cX12_doCross 32 = .ok (.lload 10, 2) := by decide +kernel
theorem dX12_doCross_34 : decode cX12_doCross 34 = .ok (.lload 12, 2) := by decide +kernel
theorem dX12_doCross_36 : decode cX12_doCross 36 = .ok (.lload 14, 2) := by decide +kernel
theorem dX12_doCross_38 : decode cX12_doCross 38 = .ok (.lload_n 0, 1) := by decide +kernel
theorem dX12_doCross_39 : decode cX12_doCross 39 = .ok (.lload_n 2, 1) := by decide +kernel
theorem dX12_doCross_40 : decode cX12_doCross 40 = .ok (.invokestatic 403, 3) := by decide +kernel
theorem dX12_doCross_43 : decode cX12_doCross 43 = .ok (.lstore 20, 2) := by decide +kernel
theorem dX12_doCross_45 : decode cX12_doCross 45 = .ok (.lload 8, 2) := by decide +kernel
theorem dX12_doCross_47 : decode cX12_doCross 47 = .ok (.lload 10, 2) := by decide +kernel
theorem dX12_doCross_49 : decode cX12_doCross 49 = .ok (.lload 12, 2) := by decide +kernel
theorem dX12_doCross_51 : decode cX12_doCross 51 = .ok (.lload 14, 2) := by decide +kernel
theorem dX12_doCross_53 : decode cX12_doCross 53 = .ok (.lload 4, 2) := by decide +kernel
theorem dX12_doCross_55 : decode cX12_doCross 55 = .ok (.lload 6, 2) := by decide +kernel
theorem dX12_doCross_57 : decode cX12_doCross 57 = .ok (.invokestatic 403, 3) := by decide +kernel
theorem dX12_doCross_60 : decode cX12_doCross 60 = .ok (.lstore 22, 2) := by decide +kernel
theorem dX12_doCross_62 : decode cX12_doCross 62 = .ok (.lload 16, 2) := by decide +kernel
theorem dX12_doCross_64 : decode cX12_doCross 64 = .ok (.lconst 0, 1) := by decide +kernel
theorem dX12_doCross_65 : decode cX12_doCross 65 = .ok (.lcmp, 1) := by decide +kernel
theorem dX12_doCross_66 : decode cX12_doCross 66 = .ok (.ifCond .ge 10, 3) := by decide +kernel
theorem dX12_doCross_69 : decode cX12_doCross 69 = .ok (.lload 18, 2) := by decide +kernel
theorem dX12_doCross_71 : decode cX12_doCross 71 = .ok (.lconst 0, 1) := by decide +kernel
theorem dX12_doCross_72 : decode cX12_doCross 72 = .ok (.lcmp, 1) := by decide +kernel
theorem dX12_doCross_73 : decode cX12_doCross 73 = .ok (.ifCond .gt 17, 3) := by decide +kernel
theorem dX12_doCross_76 : decode cX12_doCross 76 = .ok (.lload 16, 2) := by decide +kernel
theorem dX12_doCross_78 : decode cX12_doCross 78 = .ok (.lconst 0, 1) := by decide +kernel
theorem dX12_doCross_79 : decode cX12_doCross 79 = .ok (.lcmp, 1) := by decide +kernel
theorem dX12_doCross_80 : decode cX12_doCross 80 = .ok (.ifCond .le 40, 3) := by decide +kernel
theorem dX12_doCross_83 : decode cX12_doCross 83 = .ok (.lload 18, 2) := by decide +kernel
theorem dX12_doCross_85 : decode cX12_doCross 85 = .ok (.lconst 0, 1) := by decide +kernel
theorem dX12_doCross_86 : decode cX12_doCross 86 = .ok (.lcmp, 1) := by decide +kernel
theorem dX12_doCross_87 : decode cX12_doCross 87 = .ok (.ifCond .ge 33, 3) := by decide +kernel
theorem dX12_doCross_90 : decode cX12_doCross 90 = .ok (.lload 20, 2) := by decide +kernel
theorem dX12_doCross_92 : decode cX12_doCross 92 = .ok (.lconst 0, 1) := by decide +kernel
theorem dX12_doCross_93 : decode cX12_doCross 93 = .ok (.lcmp, 1) := by decide +kernel
theorem dX12_doCross_94 : decode cX12_doCross 94 = .ok (.ifCond .ge 10, 3) := by decide +kernel
theorem dX12_doCross_97 : decode cX12_doCross 97 = .ok (.lload 22, 2) := by decide +kernel
theorem dX12_doCross_99 : decode cX12_doCross 99 = .ok (.lconst 0, 1) := by decide +kernel
theorem dX12_doCross_100 : decode cX12_doCross 100 = .ok (.lcmp, 1) := by decide +kernel
theorem dX12_doCross_101 : decode cX12_doCross 101 = .ok (.ifCond .gt 17, 3) := by decide +kernel
theorem dX12_doCross_104 : decode cX12_doCross 104 = .ok (.lload 20, 2) := by decide +kernel
theorem dX12_doCross_106 : decode cX12_doCross 106 = .ok (.lconst 0, 1) := by decide +kernel
theorem dX12_doCross_107 : decode cX12_doCross 107 = .ok (.lcmp, 1) := by decide +kernel
theorem dX12_doCross_108 : decode cX12_doCross 108 = .ok (.ifCond .le 12, 3) := by decide +kernel
theorem dX12_doCross_111 : decode cX12_doCross 111 = .ok (.lload 22, 2) := by decide +kernel
theorem dX12_doCross_113 : decode cX12_doCross 113 = .ok (.lconst 0, 1) := by decide +kernel
theorem dX12_doCross_114 : decode cX12_doCross 114 = .ok (.lcmp, 1) := by decide +kernel
theorem dX12_doCross_115 : decode cX12_doCross 115 = .ok (.ifCond .ge 5, 3) := by decide +kernel
theorem dX12_doCross_118 : decode cX12_doCross 118 = .ok (.iconst 1, 1) := by decide +kernel
theorem dX12_doCross_119 : decode cX12_doCross 119 = .ok (.ireturn, 1) := by decide +kernel
theorem dX12_doCross_120 : decode cX12_doCross 120 = .ok (.lload_n 0, 1) := by decide +kernel
theorem dX12_doCross_121 : decode cX12_doCross 121 = .ok (.lload_n 2, 1) := by decide +kernel
theorem dX12_doCross_122 : decode cX12_doCross 122 = .ok (.lload 4, 2) := by decide +kernel
theorem dX12_doCross_124 : decode cX12_doCross 124 = .ok (.lload 6, 2) := by decide +kernel
theorem dX12_doCross_126 : decode cX12_doCross 126 = .ok (.lload 8, 2) := by decide +kernel
theorem dX12_doCross_128 : decode cX12_doCross 128 = .ok (.lload 10, 2) := by decide +kernel
theorem dX12_doCross_130 : decode cX12_doCross 130 = .ok (.invokestatic 411, 3) := by decide +kernel
theorem dX12_doCross_133 : decode cX12_doCross 133 = .ok (.ifCond .ne 53, 3) := by decide +kernel
theorem dX12_doCross_136 : decode cX12_doCross 136 = .ok (.lload_n 0, 1) := by decide +kernel
theorem dX12_doCross_137 : decode cX12_doCross 137 = .ok (.lload_n 2, 1) := by decide +kernel
theorem dX12_doCross_138 : decode cX12_doCross 138 = .ok (.lload 4, 2) := by decide +kernel
theorem dX12_doCross_140 : decode cX12_doCross 140 = .ok (.lload 6, 2) := by decide +kernel
theorem dX12_doCross_142 : decode cX12_doCross 142 = .ok (.lload 12, 2) := by decide +kernel
theorem dX12_doCross_144 : decode cX12_doCross 144 = .ok (.lload 14, 2) := by decide +kernel
theorem dX12_doCross_146 : decode cX12_doCross 146 = .ok (.invokestatic 411, 3) := by decide +kernel
theorem dX12_doCross_149 : decode cX12_doCross 149 = .ok (.ifCond .ne 37, 3) := by decide +kernel
theorem dX12_doCross_152 : decode cX12_doCross 152 = .ok (.lload 8, 2) := by decide +kernel
theorem dX12_doCross_154 : decode cX12_doCross 154 = .ok (.lload 10, 2) := by decide +kernel
theorem dX12_doCross_156 : decode cX12_doCross 156 = .ok (.lload 12, 2) := by decide +kernel
theorem dX12_doCross_158 : decode cX12_doCross 158 = .ok (.lload 14, 2) := by decide +kernel
theorem dX12_doCross_160 : decode cX12_doCross 160 = .ok (.lload_n 0, 1) := by decide +kernel
theorem dX12_doCross_161 : decode cX12_doCross 161 = .ok (.lload_n 2, 1) := by decide +kernel
theorem dX12_doCross_162 : decode cX12_doCross 162 = .ok (.invokestatic 411, 3) := by decide +kernel
theorem dX12_doCross_165 : decode cX12_doCross 165 = .ok (.ifCond .ne 21, 3) := by decide +kernel
theorem dX12_doCross_168 : decode cX12_doCross 168 = .ok (.lload 8, 2) := by decide +kernel
theorem dX12_doCross_170 : decode cX12_doCross 170 = .ok (.lload 10, 2) := by decide +kernel
theorem dX12_doCross_172 : decode cX12_doCross 172 = .ok (.lload 12, 2) := by decide +kernel
theorem dX12_doCross_174 : decode cX12_doCross 174 = .ok (.lload 14, 2) := by decide +kernel
theorem dX12_doCross_176 : decode cX12_doCross 176 = .ok (.lload 4, 2) := by decide +kernel
theorem dX12_doCross_178 : decode cX12_doCross 178 = .ok (.lload 6, 2) := by decide +kernel
theorem dX12_doCross_180 : decode cX12_doCross 180 = .ok (.invokestatic 411, 3) := by decide +kernel
theorem dX12_doCross_183 : decode cX12_doCross 183 = .ok (.ifCond .eq 7, 3) := by decide +kernel
theorem dX12_doCross_186 : decode cX12_doCross 186 = .ok (.iconst 1, 1) := by decide +kernel
theorem dX12_doCross_187 : decode cX12_doCross 187 = .ok (.goto 4, 3) := by decide +kernel
theorem dX12_doCross_190 : decode cX12_doCross 190 = .ok (.iconst 0, 1) := by decide +kernel
theorem dX12_doCross_191 : decode cX12_doCross 191 = .ok (.ireturn, 1) := by decide +kernel
theorem dX12_isWithin_0 : decode cX12_isWithin 0 = .ok (.iconst 0, 1) := by decide +kernel
theorem dX12_isWithin_1 : decode cX12_isWithin 1 = .ok (.istore 5, 2) := by decide +kernel
theorem dX12_isWithin_3 : decode cX12_isWithin 3 = .ok (.iload 5, 2) := by decide +kernel
theorem dX12_isWithin_5 : decode cX12_isWithin 5 = .ok (.aload_n 0, 1) := by decide +kernel
theorem dX12_isWithin_6 : decode cX12_isWithin 6 = .ok (.getfield 320, 3) := by decide +kernel
theorem dX12_isWithin_9 : decode cX12_isWithin 9 = .ok (.if_icmp .ge 89, 3) := by decide +kernel
theorem dX12_isWithin_12 : decode cX12_isWithin 12 = .ok (.aload_n 0, 1) := by decide +kernel
theorem dX12_isWithin_13 : decode cX12_isWithin 13 = .ok (.getfield 320, 3) := by decide +kernel
theorem dX12_isWithin_16 : decode cX12_isWithin 16 = .ok (.iconst 2, 1) := by decide +kernel
theorem dX12_isWithin_17 : decode cX12_isWithin 17 = .ok (.if_icmp .le 81, 3) := by decide +kernel
theorem dX12_isWithin_20 : decode cX12_isWithin 20 = .ok (.aload_n 0, 1) := by decide +kernel
theorem dX12_isWithin_21 : decode cX12_isWithin 21 = .ok (.getfield 33, 3) := by decide +kernel
theorem dX12_isWithin_24 : decode cX12_isWithin 24 = .ok (.aload_n 0, 1) := by decide +kernel
theorem dX12_isWithin_25 : decode cX12_isWithin 25 = .ok (.getfield 54, 3) := by decide +kernel
theorem dX12_isWithin_28 : decode cX12_isWithin 28 = .ok (.iload 5, 2) := by decide +kernel
theorem dX12_isWithin_30 : decode cX12_isWithin 30 = .ok (.iaload, 1) := by decide +kernel
theorem dX12_isWithin_31 : decode cX12_isWithin 31 = .ok (.iaload, 1) := by decide +kernel
theorem dX12_isWithin_32 : decode cX12_isWithin 32 = .ok (.i2l, 1) := by decide +kernel
theorem dX12_isWithin_33 : decode cX12_isWithin 33 = .ok (.aload_n 0, 1) := by decide +kernel
theorem dX12_isWithin_34 : decode cX12_isWithin 34 = .ok (.getfield 36, 3) := by decide +kernel
theorem dX12_isWithin_37 : decode cX12_isWithin 37 = .ok (.aload_n 0, 1) := by decide +kernel
theorem dX12_isWithin_38 : decode cX12_isWithin 38 = .ok (.getfield 54, 3) := by decide +kernel
theorem dX12_isWithin_41 : decode cX12_isWithin 41 = .ok (.iload 5, 2) := by decide +kernel
theorem dX12_isWithin_43 : decode cX12_isWithin 43 = .ok (.iaload, 1) := by decide +kernel
theorem dX12_isWithin_44 : decode cX12_isWithin 44 = .ok (.iaload, 1) := by decide +kernel
theorem dX12_isWithin_45 : decode cX12_isWithin 45 = .ok (.i2l, 1) := by decide +kernel
theorem dX12_isWithin_46 : decode cX12_isWithin 46 = .ok (.aload_n 0, 1) := by decide +kernel
theorem dX12_isWithin_47 : decode cX12_isWithin 47 = .ok (.getfield 33, 3) := by decide +kernel
theorem dX12_isWithin_50 : decode cX12_isWithin 50 = .ok (.aload_n 0, 1) := by decide +kernel
theorem dX12_isWithin_51 : decode cX12_isWithin 51 = .ok (.getfield 54, 3) := by decide +kernel
theorem dX12_isWithin_54 : decode cX12_isWithin 54 = .ok (.aload_n 0, 1) := by decide +kernel
theorem dX12_isWithin_55 : decode cX12_isWithin 55 = .ok (.iload 5, 2) := by decide +kernel
theorem dX12_isWithin_57 : decode cX12_isWithin 57 = .ok (.invokevirtual 332, 3) := by decide +kernel
theorem dX12_isWithin_60 : decode cX12_isWithin 60 = .ok (.iaload, 1) := by decide +kernel
theorem dX12_isWithin_61 : decode cX12_isWithin 61 = .ok (.iaload, 1) := by decide +kernel
theorem dX12_isWithin_62 : decode cX12_isWithin 62 = .ok (.i2l, 1) := by decide +kernel
theorem dX12_isWithin_63 : decode cX12_isWithin 63 = .ok (.aload_n 0, 1) := by decide +kernel
theorem dX12_isWithin_64 : decode cX12_isWithin 64 = .ok (.getfield 36, 3) := by decide +kernel
theorem dX12_isWithin_67 : decode cX12_isWithin 67 = .ok (.aload_n 0, 1) := by decide +kernel
theorem dX12_isWithin_68 : decode cX12_isWithin 68 = .ok (.getfield 54, 3) := by decide +kernel
theorem dX12_isWithin_71 : decode cX12_isWithin 71 = .ok (.aload_n 0, 1) := by decide +kernel
theorem dX12_isWithin_72 : decode cX12_isWithin 72 = .ok (.iload 5, 2) := by decide +kernel
theorem dX12_isWithin_74 : decode cX12_isWithin 74 = .ok (.invokevirtual 332, 3) := by decide +kernel
theorem dX12_isWithin_77 : decode cX12_isWithin 77 = .ok (.iaload, 1) := by decide +kernel
theorem dX12_isWithin_78 : decode cX12_isWithin 78 = .ok (.iaload, 1) := by decide +kernel
theorem dX12_isWithin_79 : decode cX12_isWithin 79 = .ok (.i2l, 1) := by decide +kernel
theorem dX12_isWithin_80 : decode cX12_isWithin 80 = .ok (.lload_n 1, 1) := by decide +kernel
theorem dX12_isWithin_81 : decode cX12_isWithin 81 = .ok (.lload_n 3, 1) := by decide +kernel
theorem dX12_isWithin_82 : decode cX12_isWithin 82 = .ok (.invokestatic 403, 3) := by decide +kernel
theorem dX12_isWithin_85 : decode cX12_isWithin 85 = .ok (.lconst 0, 1) := by decide +kernel
theorem dX12_isWithin_86 : decode cX12_isWithin 86 = .ok (.lcmp, 1) := by decide +kernel
theorem dX12_isWithin_87 : decode cX12_isWithin 87 = .ok (.ifCond .ge 5, 3) := by decide +kernel
theorem dX12_isWithin_90 : decode cX12_isWithin 90 = .ok (.iconst 0, 1) := by decide +kernel
theorem dX12_isWithin_91 : decode cX12_isWithin 91 = .ok (.ireturn, 1) := by decide +kernel
theorem dX12_isWithin_92 : decode cX12_isWithin 92 = .ok (.iinc 5 1, 3) := by decide +kernel
theorem dX12_isWithin_95 : decode cX12_isWithin 95 = .ok (.goto (-92), 3) := by decide +kernel
theorem dX12_isWithin_98 : decode cX12_isWithin 98 = .ok (.aload_n 0, 1) := by decide +kernel
theorem dX12_isWithin_99 : decode cX12_isWithin 99 = .ok (.getfield 320, 3) := by decide +kernel
theorem dX12_isWithin_102 : decode cX12_isWithin 102 = .ok (.iconst 2, 1) := by decide +kernel
theorem dX12_isWithin_103 : decode cX12_isWithin 103 = .ok (.if_icmp .le 7, 3) := by decide +kernel
theorem dX12_isWithin_106 : decode cX12_isWithin 106 = .ok (.iconst 1, 1) := by decide +kernel
theorem dX12_isWithin_107 : decode cX12_isWithin 107 = .ok (.goto 4, 3) := by decide +kernel
theorem dX12_isWithin_110 : decode cX12_isWithin 110 = .ok (.iconst 0, 1) := by decide +kernel
theorem dX12_isWithin_111 : decode cX12_isWithin 111 = .ok (.ireturn, 1) := by decide +kernel
theorem dX12_isInOther_0 : decode cX12_isInOther 0 = .ok (.iconst 0, 1) := by decide +kernel
theorem dX12_isInOther_1 : decode cX12_isInOther 1 = .ok (.istore 5, 2) := by decide +kernel
theorem dX12_isInOther_3 : decode cX12_isInOther 3 = .ok (.iload 5, 2) := by decide +kernel
theorem dX12_isInOther_5 : decode cX12_isInOther 5 = .ok (.aload_n 0, 1) := by decide +kernel
theorem dX12_isInOther_6 : decode cX12_isInOther 6 = .ok (.getfield 415, 3) := by decide +kernel
theorem dX12_isInOther_9 : decode cX12_isInOther 9 = .ok (.if_icmp .ge 82, 3) := by decide +kernel
theorem dX12_isInOther_12 : decode cX12_isInOther 12 = .ok (.aload_n 0, 1) := by decide +kernel
theorem dX12_isInOther_13 : decode cX12_isInOther 13 = .ok (.getfield 415, 3) := by decide +kernel
theorem dX12_isInOther_16 : decode cX12_isInOther 16 = .ok (.iconst 2, 1) := by decide +kernel
theorem dX12_isInOther_17 : decode cX12_isInOther 17 = .ok (.if_icmp .le 74, 3) := by decide +kernel
theorem dX12_isInOther_20 : decode cX12_isInOther 20 = .ok (.iload 5, 2) := by decide +kernel
theorem dX12_isInOther_22 : decode cX12_isInOther 22 = .ok (.iconst 1, 1) := by decide +kernel
theorem dX12_isInOther_23 : decode cX12_isInOther 23 = .ok (.iadd, 1) := by decide +kernel
theorem dX12_isInOther_24 : decode cX12_isInOther 24 = .ok (.aload_n 0, 1) := by decide +kernel
theorem dX12_isInOther_25 : decode cX12_isInOther 25 = .ok (.getfield 415, 3) := by decide +kernel
theorem dX12_isInOther_28 : decode cX12_isInOther 28 = .ok (.if_icmp .ge 10, 3) := by decide +kernel
theorem dX12_isInOther_31 : decode cX12_isInOther 31 = .ok (.iload 5, 2) := by decide +kernel
theorem dX12_isInOther_33 : decode cX12_isInOther 33 = .ok (.iconst 1, 1) := by decide +kernel
theorem dX12_isInOther_34 : decode cX12_isInOther 34 = .ok (.iadd, 1) := by decide +kernel
theorem dX12_isInOther_35 : decode cX12_isInOther 35 = .ok (.goto 4, 3) := by decide +kernel
theorem dX12_isInOther_38 : decode cX12_isInOther 38 = .ok (.iconst 0, 1) := by decide +kernel
theorem dX12_isInOther_39 : decode cX12_isInOther 39 = .ok (.istore 6, 2) := by decide +kernel
theorem dX12_isInOther_41 : decode cX12_isInOther 41 = .ok (.aload_n 0, 1) := by decide +kernel
theorem dX12_isInOther_42 : decode cX12_isInOther 42 = .ok (.getfield 64, 3) := by decide +kernel
theorem dX12_isInOther_45 : decode cX12_isInOther 45 = .ok (.iload 5, 2) := by decide +kernel
theorem dX12_isInOther_47 : decode cX12_isInOther 47 = .ok (.iaload, 1) := by decide +kernel
theorem dX12_isInOther_48 : decode cX12_isInOther 48 = .ok (.i2l, 1) := by decide +kernel
theorem dX12_isInOther_49 : decode cX12_isInOther 49 = .ok (.aload_n 0, 1) := by decide +kernel
theorem dX12_isInOther_50 : decode cX12_isInOther 50 = .ok (.getfield 67, 3) := by decide +kernel
theorem dX12_isInOther_53 : decode cX12_isInOther 53 = .ok (.iload 5, 2) := by decide +kernel
theorem dX12_isInOther_55 : decode cX12_isInOther 55 = .ok (.iaload, 1) := by decide +kernel
theorem dX12_isInOther_56 : decode cX12_isInOther 56 = .ok (.i2l, 1) := by decide +kernel
theorem dX12_isInOther_57 : decode cX12_isInOther 57 = .ok (.aload_n 0, 1) := by decide +kernel
theorem dX12_isInOther_58 : decode cX12_isInOther 58 = .ok (.getfield 64, 3) := by decide +kernel
theorem dX12_isInOther_61 : decode cX12_isInOther 61 = .ok (.iload 6, 2) := by decide +kernel
theorem dX12_isInOther_63 : decode cX12_isInOther 63 = .ok (.iaload, 1) := by decide +kernel
theorem dX12_isInOther_64 : decode cX12_isInOther 64 = .ok (.i2l, 1) := by decide +kernel
theorem dX12_isInOther_65 : decode cX12_isInOther 65 = .ok (.aload_n 0, 1) := by decide +kernel
theorem dX12_isInOther_66 : decode cX12_isInOther 66 = .ok (.getfield 67, 3) := by decide +kernel
theorem dX12_isInOther_69 : decode cX12_isInOther 69 = .ok (.iload 6, 2) := by decide +kernel
theorem dX12_isInOther_71 : decode cX12_isInOther 71 = .ok (.iaload, 1) := by decide +kernel
theorem dX12_isInOther_72 : decode cX12_isInOther 72 = .ok (.i2l, 1) := by decide +kernel
theorem dX12_isInOther_73 : decode cX12_isInOther 73 = .ok (.lload_n 1, 1) := by decide +kernel
theorem dX12_isInOther_74 : decode cX12_isInOther 74 = .ok (.lload_n 3, 1) := by decide +kernel
theorem dX12_isInOther_75 : decode cX12_isInOther 75 = .ok (.invokestatic 403, 3) := by decide +kernel
theorem dX12_isInOther_78 : decode cX12_isInOther 78 = .ok (.lconst 0, 1) := by decide +kernel
theorem dX12_isInOther_79 : decode cX12_isInOther 79 = .ok (.lcmp, 1) := by decide +kernel
theorem dX12_isInOther_80 : decode cX12_isInOther 80 = .ok (.ifCond .ge 5, 3) := by decide +kernel
theorem dX12_isInOther_83 : decode cX12_isInOther 83 = .ok (.iconst 0, 1) := by decide +kernel
theorem dX12_isInOther_84 : decode cX12_isInOther 84 = .ok (.ireturn, 1) := by decide +kernel
theorem dX12_isInOther_85 : decode cX12_isInOther 85 = .ok (.iinc 5 1, 3) := by decide +kernel
theorem dX12_isInOther_88 : decode cX12_isInOther 88 = .ok (.goto (-85), 3) := by decide +kernel
theorem dX12_isInOther_91 : decode cX12_isInOther 91 = .ok (.aload_n 0, 1) := by decide +kernel
theorem dX12_isInOther_92 : decode cX12_isInOther 92 = .ok (.getfield 415, 3) := by decide +kernel
theorem dX12_isInOther_95 : decode cX12_isInOther 95 = .ok (.iconst 2, 1) := by decide +kernel
theorem dX12_isInOther_96 : decode cX12_isInOther 96 = .ok (.if_icmp .le 7, 3) := by decide +kernel
theorem dX12_isInOther_99 : decode cX12_isInOther 99 = .ok (.iconst 1, 1) := by decide +kernel
theorem dX12_isInOther_100 : decode cX12_isInOther 100 = .ok (.goto 4, 3) := by decide +kernel
theorem dX12_isInOther_103 : decode cX12_isInOther 103 = .ok (.iconst 0, 1) := by decide +kernel
theorem dX12_isInOther_104 : decode cX12_isInOther 104 = .ok (.ireturn, 1) := by decide +kernel
theorem dX12_meets_0 : decode cX12_meets 0 = .ok (.aload_n 0, 1) := by decide +kernel
theorem dX12_meets_1 : decode cX12_meets 1 = .ok (.iload_n 1, 1) := by decide +kernel
theorem dX12_meets_2 : decode cX12_meets 2 = .ok (.invokevirtual 326, 3) := by decide +kernel
theorem dX12_meets_5 : decode cX12_meets 5 = .ok (.ifCond .ne 5, 3) := by decide +kernel
theorem dX12_meets_8 : decode cX12_meets 8 = .ok (.iconst (-1), 1) := by decide +kernel
theorem dX12_meets_9 : decode cX12_meets 9 = .ok (.ireturn, 1) := by decide +kernel
theorem dX12_meets_10 : decode cX12_meets 10 = .ok (.aload_n 0, 1) := by decide +kernel
theorem dX12_meets_11 : decode cX12_meets 11 = .ok (.aload_n 0, 1) := by decide +kernel
theorem dX12_meets_12 : decode cX12_meets 12 = .ok (.getfield 320, 3) := by decide +kernel
theorem dX12_meets_15 : decode cX12_meets 15 = .ok (.putfield 415, 3) := by decide +kernel
theorem dX12_meets_18 : decode cX12_meets 18 = .ok (.iconst 0, 1) := by decide +kernel
theorem dX12_meets_19 : decode cX12_meets 19 = .ok (.istore_n 3, 1) := by decide +kernel
theorem dX12_meets_20 : decode cX12_meets 20 = .ok (.iload_n 3, 1) := by decide +kernel
theorem dX12_meets_21 : decode cX12_meets 21 = .ok (.aload_n 0, 1) := by decide +kernel
theorem dX12_meets_22 : decode cX12_meets 22 = .ok (.getfield 320, 3) := by decide +kernel
theorem dX12_meets_25 : decode cX12_meets 25 = .ok (.if_icmp .ge 43, 3) := by decide +kernel
theorem dX12_meets_28 : decode cX12_meets 28 = .ok (.aload_n 0, 1) := by decide +kernel
theorem dX12_meets_29 : decode cX12_meets 29 = .ok (.getfield 64, 3) := by decide +kernel
theorem dX12_meets_32 : decode cX12_meets 32 = .ok (.iload_n 3, 1) := by decide +kernel
theorem dX12_meets_33 : decode cX12_meets 33 = .ok (.aload_n 0, 1) := by decide +kernel
theorem dX12_meets_34 : decode cX12_meets 34 = .ok (.getfield 33, 3) := by decide +kernel
theorem dX12_meets_37 : decode cX12_meets 37 = .ok (.aload_n 0, 1) := by decide +kernel
theorem dX12_meets_38 : decode cX12_meets 38 = .ok (.getfield 54, 3) := by decide +kernel
theorem dX12_meets_41 : decode cX12_meets 41 = .ok (.iload_n 3, 1) := by decide +kernel
theorem dX12_meets_42 : decode cX12_meets 42 = .ok (.iaload, 1) := by decide +kernel
theorem dX12_meets_43 : decode cX12_meets 43 = .ok (.iaload, 1) := by decide +kernel
theorem dX12_meets_44 : decode cX12_meets 44 = .ok (.iastore, 1) := by decide +kernel
theorem dX12_meets_45 : decode cX12_meets 45 = .ok (.aload_n 0, 1) := by decide +kernel
theorem dX12_meets_46 : decode cX12_meets 46 = .ok (.getfield 67, 3) := by decide +kernel
theorem dX12_meets_49 : decode cX12_meets 49 = .ok (.iload_n 3, 1) := by decide +kernel
theorem dX12_meets_50 : decode cX12_meets 50 = .ok (.aload_n 0, 1) := by decide +kernel
theorem dX12_meets_51 : decode cX12_meets 51 = .ok (.getfield 36, 3) := by decide +kernel
theorem dX12_meets_54 : decode cX12_meets 54 = .ok (.aload_n 0, 1) := by decide +kernel
theorem dX12_meets_55 : decode cX12_meets 55 = .ok (.getfield 54, 3) := by decide +kernel
theorem dX12_meets_58 : decode cX12_meets 58 = .ok (.iload_n 3, 1) := by decide +kernel
theorem dX12_meets_59 : decode cX12_meets 59 = .ok (.iaload, 1) := by decide +kernel
theorem dX12_meets_60 : decode cX12_meets 60 = .ok (.iaload, 1) := by decide +kernel
theorem dX12_meets_61 : decode cX12_meets 61 = .ok (.iastore, 1) := by decide +kernel
theorem dX12_meets_62 : decode cX12_meets 62 = .ok (.iinc 3 1, 3) := by decide +kernel
theorem dX12_meets_65 : decode cX12_meets 65 = .ok (.goto (-45), 3) := by decide +kernel
theorem dX12_meets_68 : decode cX12_meets 68 = .ok (.aload_n 0, 1) := by decide +kernel
theorem dX12_meets_69 : decode cX12_meets 69 = .ok (.iload_n 2, 1) := by decide +kernel
theorem dX12_meets_70 : decode cX12_meets 70 = .ok (.invokevirtual 326, 3) := by decide +kernel
theorem dX12_meets_73 : decode cX12_meets 73 = .ok (.ifCond .ne 5, 3) := by decide +kernel
theorem dX12_meets_76 : decode cX12_meets 76 = .ok (.iconst (-1), 1) := by decide +kernel
theorem dX12_meets_77 : decode cX12_meets 77 = .ok (.ireturn, 1) := by decide +kernel
theorem dX12_meets_78 : decode cX12_meets 78 = .ok (.aload_n 0, 1) := by decide +kernel
theorem dX12_meets_79 : decode cX12_meets 79 = .ok (.aload_n 0, 1) := by decide +kernel
theorem dX12_meets_80 : decode cX12_meets 80 = .ok (.getfield 64, 3) := by decide +kernel
theorem dX12_meets_83 : decode cX12_meets 83 = .ok (.iconst 0, 1) := by decide +kernel
theorem dX12_meets_84 : decode cX12_meets 84 = .ok (.iaload, 1) := by decide +kernel
theorem dX12_meets_85 : decode cX12_meets 85 = .ok (.i2l, 1) := by decide +kernel
theorem dX12_meets_86 : decode cX12_meets 86 = .ok (.aload_n 0, 1) := by decide +kernel
theorem dX12_meets_87 : decode cX12_meets 87 = .ok (.getfield 67, 3) := by decide +kernel
theorem dX12_meets_90 : decode cX12_meets 90 = .ok (.iconst 0, 1) := by decide +kernel
theorem dX12_meets_91 : decode cX12_meets 91 = .ok (.iaload, 1) := by decide +kernel
theorem dX12_meets_92 : decode cX12_meets 92 = .ok (.i2l, 1) := by decide +kernel
theorem dX12_meets_93 : decode cX12_meets 93 = .ok (.invokevirtual 418, 3) := by decide +kernel
theorem dX12_meets_96 : decode cX12_meets 96 = .ok (.ifCond .ne 34, 3) := by decide +kernel
theorem dX12_meets_99 : decode cX12_meets 99 = .ok (.aload_n 0, 1) := by decide +kernel
theorem dX12_meets_100 : decode cX12_meets 100 = .ok (.aload_n 0, 1) := by decide +kernel
theorem dX12_meets_101 : decode cX12_meets 101 = .ok (.getfield 33, 3) := by decide +kernel
theorem dX12_meets_104 : decode cX12_meets 104 = .ok (.aload_n 0, 1) := by decide +kernel
theorem dX12_meets_105 : decode cX12_meets 105 = .ok (.getfield 54, 3) := by decide +kernel
theorem dX12_meets_108 : decode cX12_meets 108 = .ok (.iconst 0, 1) := by decide +kernel
theorem dX12_meets_109 : decode cX12_meets 109 = .ok (.iaload, 1) := by decide +kernel
theorem dX12_meets_110 : decode cX12_meets 110 = .ok (.iaload, 1) := by decide +kernel
theorem dX12_meets_111 : decode cX12_meets 111 = .ok (.i2l, 1) := by decide +kernel
theorem dX12_meets_112 : decode cX12_meets 112 = .ok (.aload_n 0, 1) := by decide +kernel
theorem dX12_meets_113 : decode cX12_meets 113 = .ok (.getfield 36, 3) := by decide +kernel
theorem dX12_meets_116 : decode cX12_meets 116 = .ok (.aload_n 0, 1) := by decide +kernel
theorem dX12_meets_117 : decode cX12_meets 117 = .ok (.getfield 54, 3) := by decide +kernel
theorem dX12_meets_120 : decode cX12_meets 120 = .ok (.iconst 0, 1) := by decide +kernel
theorem dX12_meets_121 : decode cX12_meets 121 = .ok (.iaload, 1) := by decide +kernel
theorem dX12_meets_122 : decode cX12_meets 122 = .ok (.iaload, 1) := by decide +kernel
theorem dX12_meets_123 : decode cX12_meets 123 = .ok (.i2l, 1) := by decide +kernel
theorem dX12_meets_124 : decode cX12_meets 124 = .ok (.invokevirtual 422, 3) := by decide +kernel
theorem dX12_meets_127 : decode cX12_meets 127 = .ok (.ifCond .eq 5, 3) := by decide +kernel
theorem dX12_meets_130 : decode cX12_meets 130 = .ok (.iconst 1, 1) := by decide +kernel
theorem dX12_meets_131 : decode cX12_meets 131 = .ok (.ireturn, 1) := by decide +kernel
theorem dX12_meets_132 : decode cX12_meets 132 = .ok (.iconst 0, 1) := by decide +kernel
theorem dX12_meets_133 : decode cX12_meets 133 = .ok (.istore_n 3, 1) := by decide +kernel
theorem dX12_meets_134 : decode cX12_meets 134 = .ok (.iload_n 3, 1) := by decide +kernel
theorem dX12_meets_135 : decode cX12_meets 135 = .ok (.aload_n 0, 1) := by decide +kernel
theorem dX12_meets_136 : decode cX12_meets 136 = .ok (.getfield 415, 3) := by decide +kernel
theorem dX12_meets_139 : decode cX12_meets 139 = .ok (.if_icmp .ge 138, 3) := by decide +kernel
theorem dX12_meets_142 : decode cX12_meets 142 = .ok (.iload_n 3, 1) := by decide +kernel
theorem dX12_meets_143 : decode cX12_meets 143 = .ok (.iconst 1, 1) := by decide +kernel
theorem dX12_meets_144 : decode cX12_meets 144 = .ok (.iadd, 1) := by decide +kernel
theorem dX12_meets_145 : decode cX12_meets 145 = .ok (.aload_n 0, 1) := by decide +kernel
theorem dX12_meets_146 : decode cX12_meets 146 = .ok (.getfield 415, 3) := by decide +kernel
theorem dX12_meets_149 : decode cX12_meets 149 = .ok (.if_icmp .ge 9, 3) := by decide +kernel
theorem dX12_meets_152 : decode cX12_meets 152 = .ok (.iload_n 3, 1) := by decide +kernel
theorem dX12_meets_153 : decode cX12_meets 153 = .ok (.iconst 1, 1) := by decide +kernel
theorem dX12_meets_154 : decode cX12_meets 154 = .ok (.iadd, 1) := by decide +kernel
theorem dX12_meets_155 : decode cX12_meets 155 = .ok (.goto 4, 3) := by decide +kernel
theorem dX12_meets_158 : decode cX12_meets 158 = .ok (.iconst 0, 1) := by decide +kernel
theorem dX12_meets_159 : decode cX12_meets 159 = .ok (.istore 4, 2) := by decide +kernel
theorem dX12_meets_161 : decode cX12_meets 161 = .ok (.iconst 0, 1) := by decide +kernel
theorem dX12_meets_162 : decode cX12_meets 162 = .ok (.istore 5, 2) := by decide +kernel
theorem dX12_meets_164 : decode cX12_meets 164 = .ok (.iload 5, 2) := by decide +kernel
theorem dX12_meets_166 : decode cX12_meets 166 = .ok (.aload_n 0, 1) := by decide +kernel
theorem dX12_meets_167 : decode cX12_meets 167 = .ok (.getfield 320, 3) := by decide +kernel
theorem dX12_meets_170 : decode cX12_meets 170 = .ok (.if_icmp .ge 101, 3) := by decide +kernel
theorem dX12_meets_173 : decode cX12_meets 173 = .ok (.aload_n 0, 1) := by decide +kernel
theorem dX12_meets_174 : decode cX12_meets 174 = .ok (.getfield 54, 3) := by decide +kernel
theorem dX12_meets_177 : decode cX12_meets 177 = .ok (.iload 5, 2) := by decide +kernel
theorem dX12_meets_179 : decode cX12_meets 179 = .ok (.iaload, 1) := by decide +kernel
theorem dX12_meets_180 : decode cX12_meets 180 = .ok (.istore 6, 2) := by decide +kernel
theorem dX12_meets_182 : decode cX12_meets 182 = .ok (.aload_n 0, 1) := by decide +kernel
theorem dX12_meets_183 : decode cX12_meets 183 = .ok (.getfield 54, 3) := by decide +kernel
theorem dX12_meets_186 : decode cX12_meets 186 = .ok (.aload_n 0, 1) := by decide +kernel
theorem dX12_meets_187 : decode cX12_meets 187 = .ok (.iload 5, 2) := by decide +kernel
theorem dX12_meets_189 : decode cX12_meets 189 = .ok (.invokevirtual 332, 3) := by decide +kernel
theorem dX12_meets_192 : decode cX12_meets 192 = .ok (.iaload, 1) := by decide +kernel
theorem dX12_meets_193 : decode cX12_meets 193 = .ok (.istore 7, 2) := by decide +kernel
theorem dX12_meets_195 : decode cX12_meets 195 = .ok (.aload_n 0, 1) := by decide +kernel
theorem dX12_meets_196 : decode cX12_meets 196 = .ok (.getfield 64, 3) := by decide +kernel
theorem dX12_meets_199 : decode cX12_meets 199 = .ok (.iload_n 3, 1) := by decide +kernel
theorem dX12_meets_200 : decode cX12_meets 200 = .ok (.iaload, 1) := by decide +kernel
theorem dX12_meets_201 : decode cX12_meets 201 = .ok (.i2l, 1) := by decide +kernel
theorem dX12_meets_202 : decode cX12_meets 202 = .ok (.aload_n 0, 1) := by decide +kernel
theorem dX12_meets_203 : decode cX12_meets 203 = .ok (.getfield 67, 3) := by decide +kernel
theorem dX12_meets_206 : decode cX12_meets 206 = .ok (.iload_n 3, 1) := by decide +kernel
theorem dX12_meets_207 : decode cX12_meets 207 = .ok (.iaload, 1) := by decide +kernel
theorem dX12_meets_208 : decode cX12_meets 208 = .ok (.i2l, 1) := by decide +kernel
theorem dX12_meets_209 : decode cX12_meets 209 = .ok (.aload_n 0, 1) := by decide +kernel
theorem dX12_meets_210 : decode cX12_meets 210 = .ok (.getfield 64, 3) := by decide +kernel
theorem dX12_meets_213 : decode cX12_meets 213 = .ok (.iload 4, 2) := by decide +kernel
theorem dX12_meets_215 : decode cX12_meets 215 = .ok (.iaload, 1) := by decide +kernel
theorem dX12_meets_216 : decode cX12_meets 216 = .ok (.i2l, 1) := by decide +kernel
theorem dX12_meets_217 : decode cX12_meets 217 = .ok (.aload_n 0, 1) := by decide +kernel
theorem dX12_meets_218 : decode cX12_meets 218 = .ok (.getfield 67, 3) := by decide +kernel
theorem dX12_meets_221 : decode cX12_meets 221 = .ok (.iload 4, 2) := by decide +kernel
theorem dX12_meets_223 : decode cX12_meets 223 = .ok (.iaload, 1) := by decide +kernel
theorem dX12_meets_224 : decode cX12_meets 224 = .ok (.i2l, 1) := by decide +kernel
theorem dX12_meets_225 : decode cX12_meets 225 = .ok (.aload_n 0, 1) := by decide +kernel
theorem dX12_meets_226 : decode cX12_meets 226 = .ok (.getfield 33, 3) := by decide +kernel
theorem dX12_meets_229 : decode cX12_meets 229 = .ok (.iload 6, 2) := by decide +kernel
theorem dX12_meets_231 : decode cX12_meets 231 = .ok (.iaload, 1) := by decide +kernel
theorem dX12_meets_232 : decode cX12_meets 232 = .ok (.i2l, 1) := by decide +kernel
theorem dX12_meets_233 : decode cX12_meets 233 = .ok (.aload_n 0, 1) := by decide +kernel
theorem dX12_meets_234 : decode cX12_meets 234 = .ok (.getfield 36, 3) := by decide +kernel
theorem dX12_meets_237 : decode cX12_meets 237 = .ok (.iload 6, 2) := by decide +kernel
theorem dX12_meets_239 : decode cX12_meets 239 = .ok (.iaload, 1) := by decide +kernel
theorem dX12_meets_240 : decode cX12_meets 240 = .ok (.i2l, 1) := by decide +kernel
theorem dX12_meets_241 : decode cX12_meets 241 = .ok (.aload_n 0, 1) := by decide +kernel
theorem dX12_meets_242 : decode cX12_meets 242 = .ok (.getfield 33, 3) := by decide +kernel
theorem dX12_meets_245 : decode cX12_meets 245 = .ok (.iload 7, 2) := by decide +kernel
theorem dX12_meets_247 : decode cX12_meets 247 = .ok (.iaload, 1) := by decide +kernel
theorem dX12_meets_248 : decode cX12_meets 248 = .ok (.i2l, 1) := by decide +kernel
theorem dX12_meets_249 : decode cX12_meets 249 = .ok (.aload_n 0, 1) := by decide +kernel
theorem dX12_meets_250 : decode cX12_meets 250 = .ok (.getfield 36, 3) := by decide +kernel
theorem dX12_meets_253 : decode cX12_meets 253 = .ok (.iload 7, 2) := by decide +kernel
theorem dX12_meets_255 : decode cX12_meets 255 = .ok (.iaload, 1) := by decide +kernel
theorem dX12_meets_256 : decode cX12_meets 256 = .ok (.i2l, 1) := by decide +kernel
theorem dX12_meets_257 : decode cX12_meets 257 = .ok (.invokestatic 425, 3) := by decide +kernel
theorem dX12_meets_260 : decode cX12_meets 260 = .ok (.ifCond .eq 5, 3) := by decide +kernel
theorem dX12_meets_263 : decode cX12_meets 263 = .ok (.iconst 1, 1) := by decide +kernel
theorem dX12_meets_264 : decode cX12_meets 264 = .ok (.ireturn, 1) := by decide +kernel
theorem dX12_meets_265 : decode cX12_meets 265 = .ok (.iinc 5 1, 3) := by decide +kernel
theorem dX12_meets_268 : decode cX12_meets 268 = .ok (.goto (-104), 3) := by decide +kernel
theorem dX12_meets_271 : decode cX12_meets 271 = .ok (.iinc 3 1, 3) := by decide +kernel
theorem dX12_meets_274 : decode cX12_meets 274 = .ok (.goto (-140), 3) := by decide +kernel
theorem dX12_meets_277 : decode cX12_meets 277 = .ok (.iconst 0, 1) := by decide +kernel
theorem dX12_meets_278 : decode cX12_meets 278 = .ok (.ireturn, 1) := by decide +kernel
theorem dX12_reach_0 : decode cX12_reach 0 = .ok (.iload_n 2, 1) := by decide +kernel
theorem dX12_reach_1 : decode cX12_reach 1 = .ok (.bipush 100, 2) := by decide +kernel
theorem dX12_reach_3 : decode cX12_reach 3 = .ok (.invokestatic 293, 3) := by decide +kernel
theorem dX12_reach_6 : decode cX12_reach 6 = .ok (.ifCond .eq 38, 3) := by decide +kernel
theorem dX12_reach_9 : decode cX12_reach 9 = .ok (.iload_n 3, 1) := by decide +kernel
theorem dX12_reach_10 : decode cX12_reach 10 = .ok (.bipush 100, 2) := by decide +kernel
theorem dX12_reach_12 : decode cX12_reach 12 = .ok (.invokestatic 293, 3) := by decide +kernel
theorem dX12_reach_15 : decode cX12_reach 15 = .ok (.ifCond .eq 29, 3) := by decide +kernel
theorem dX12_reach_18 : decode cX12_reach 18 = .ok (.iload_n 2, 1) := by decide +kernel
theorem dX12_reach_19 : decode cX12_reach 19 = .ok (.ifCond .ne 7, 3) := by decide +kernel
theorem dX12_reach_22 : decode cX12_reach 22 = .ok (.iload_n 3, 1) := by decide +kernel
theorem dX12_reach_23 : decode cX12_reach 23 = .ok (.ifCond .eq 21, 3) := by decide +kernel
theorem dX12_reach_26 : decode cX12_reach 26 = .ok (.iload 4, 2) := by decide +kernel
theorem dX12_reach_28 : decode cX12_reach 28 = .ok (.iconst 0, 1) := by decide +kernel
theorem dX12_reach_29 : decode cX12_reach 29 = .ok (.iconst 3, 1) := by decide +kernel
theorem dX12_reach_30 : decode cX12_reach 30 = .ok (.invokestatic 76, 3) := by decide +kernel
theorem dX12_reach_33 : decode cX12_reach 33 = .ok (.ifCond .eq 11, 3) := by decide +kernel
theorem dX12_reach_36 : decode cX12_reach 36 = .ok (.aload_n 0, 1) := by decide +kernel
theorem dX12_reach_37 : decode cX12_reach 37 = .ok (.iload_n 1, 1) := by decide +kernel
theorem dX12_reach_38 : decode cX12_reach 38 = .ok (.invokevirtual 326, 3) := by decide +kernel
theorem dX12_reach_41 : decode cX12_reach 41 = .ok (.ifCond .ne 7, 3) := by decide +kernel
theorem dX12_reach_44 : decode cX12_reach 44 = .ok (.ldc2_w 291, 3) := by decide +kernel
theorem dX12_reach_47 : decode cX12_reach 47 = .ok (.lreturn, 1) := by decide +kernel
theorem dX12_reach_48 : decode cX12_reach 48 = .ok (.iconst 0, 1) := by decide +kernel
theorem dX12_reach_49 : decode cX12_reach 49 = .ok (.istore 5, 2) := by decide +kernel
theorem dX12_reach_51 : decode cX12_reach 51 = .ok (.lconst 0, 1) := by decide +kernel
theorem dX12_reach_52 : decode cX12_reach 52 = .ok (.lstore 6, 2) := by decide +kernel
theorem dX12_reach_54 : decode cX12_reach 54 = .ok (.lconst 0, 1) := by decide +kernel
theorem dX12_reach_55 : decode cX12_reach 55 = .ok (.lstore 8, 2) := by decide +kernel
theorem dX12_reach_57 : decode cX12_reach 57 = .ok (.iconst 0, 1) := by decide +kernel
theorem dX12_reach_58 : decode cX12_reach 58 = .ok (.istore 10, 2) := by decide +kernel
theorem dX12_reach_60 : decode cX12_reach 60 = .ok (.iload 10, 2) := by decide +kernel
theorem dX12_reach_62 : decode cX12_reach 62 = .ok (.aload_n 0, 1) := by decide +kernel
theorem dX12_reach_63 : decode cX12_reach 63 = .ok (.getfield 320, 3) := by decide +kernel
theorem dX12_reach_66 : decode cX12_reach 66 = .ok (.if_icmp .ge 87, 3) := by decide +kernel
theorem dX12_reach_69 : decode cX12_reach 69 = .ok (.iload_n 2, 1) := by decide +kernel
theorem dX12_reach_70 : decode cX12_reach 70 = .ok (.i2l, 1) := by decide +kernel
theorem dX12_reach_71 : decode cX12_reach 71 = .ok (.aload_n 0, 1) := by decide +kernel
theorem dX12_reach_72 : decode cX12_reach 72 = .ok (.getfield 33, 3) := by decide +kernel
theorem dX12_reach_75 : decode cX12_reach 75 = .ok (.aload_n 0, 1) := by decide +kernel
theorem dX12_reach_76 : decode cX12_reach 76 = .ok (.getfield 54, 3) := by decide +kernel
theorem dX12_reach_79 : decode cX12_reach 79 = .ok (.iload 10, 2) := by decide +kernel
theorem dX12_reach_81 : decode cX12_reach 81 = .ok (.iaload, 1) := by decide +kernel
theorem dX12_reach_82 : decode cX12_reach 82 = .ok (.iaload, 1) := by decide +kernel
theorem dX12_reach_83 : decode cX12_reach 83 = .ok (.i2l, 1) := by decide +kernel
theorem dX12_reach_84 : decode cX12_reach 84 = .ok (.lmul, 1) := by decide +kernel
theorem dX12_reach_85 : decode cX12_reach 85 = .ok (.iload_n 3, 1) := by decide +kernel
theorem dX12_reach_86 : decode cX12_reach 86 = .ok (.i2l, 1) := by decide +kernel
theorem dX12_reach_87 : decode cX12_reach 87 = .ok (.aload_n 0, 1) := by decide +kernel
theorem dX12_reach_88 : decode cX12_reach 88 = .ok (.getfield 36, 3) := by decide +kernel
theorem dX12_reach_91 : decode cX12_reach 91 = .ok (.aload_n 0, 1) := by decide +kernel
theorem dX12_reach_92 : decode cX12_reach 92 = .ok (.getfield 54, 3) := by decide +kernel
theorem dX12_reach_95 : decode cX12_reach 95 = .ok (.iload 10, 2) := by decide +kernel
theorem dX12_reach_97 : decode cX12_reach 97 = .ok (.iaload, 1) := by decide +kernel
theorem dX12_reach_98 : decode cX12_reach 98 = .ok (.iaload, 1) := by decide +kernel
theorem dX12_reach_99 : decode cX12_reach 99 = .ok (.i2l, 1) := by decide +kernel
theorem dX12_reach_100 : decode cX12_reach 100 = .ok (.lmul, 1) := by decide +kernel
theorem dX12_reach_101 : decode cX12_reach 101 = .ok (.ladd, 1) := by decide +kernel
theorem dX12_reach_102 : decode cX12_reach 102 = .ok (.lstore 11, 2) := by decide +kernel
theorem dX12_reach_104 : decode cX12_reach 104 = .ok (.iload 10, 2) := by decide +kernel
theorem dX12_reach_106 : decode cX12_reach 106 = .ok (.ifCond .eq 11, 3) := by decide +kernel
theorem dX12_reach_109 : decode cX12_reach 109 = .ok (.lload 11, 2) := by decide +kernel
theorem dX12_reach_111 : decode cX12_reach 111 = .ok (.lload 6, 2) := by decide +kernel
theorem dX12_reach_113 : decode cX12_reach 113 = .ok (.lcmp, 1) := by decide +kernel
theorem dX12_reach_114 : decode cX12_reach 114 = .ok (.ifCond .le 11, 3) := by decide +kernel
theorem dX12_reach_117 : decode cX12_reach 117 = .ok (.iload 10, 2) := by decide +kernel
theorem dX12_reach_119 : decode cX12_reach 119 = .ok (.istore 5, 2) := by decide +kernel
theorem dX12_reach_121 : decode cX12_reach 121 = .ok (.lload 11, 2) := by decide +kernel
theorem dX12_reach_123 : decode cX12_reach 123 = .ok (.lstore 6, 2) := by decide +kernel
theorem dX12_reach_125 : decode cX12_reach 125 = .ok (.iload 10, 2) := by decide +kernel
theorem dX12_reach_127 : decode cX12_reach 127 = .ok (.ifCond .eq 11, 3) := by decide +kernel
theorem dX12_reach_130 : decode cX12_reach 130 = .ok (.lload 11, 2) := by decide +kernel
theorem dX12_reach_132 : decode cX12_reach 132 = .ok (.lload 8, 2) := by decide +kernel
theorem dX12_reach_134 : decode cX12_reach 134 = .ok (.lcmp, 1) := by decide +kernel
theorem dX12_reach_135 : decode cX12_reach 135 = .ok (.ifCond .ge 8, 3) := by decide +kernel
theorem dX12_reach_138 : decode cX12_reach 138 = .ok (.lload 11, 2) := by decide +kernel
theorem dX12_reach_140 : decode cX12_reach 140 = .ok (.goto 5, 3) := by decide +kernel
theorem dX12_reach_143 : decode cX12_reach 143 = .ok (.lload 8, 2) := by decide +kernel
theorem dX12_reach_145 : decode cX12_reach 145 = .ok (.lstore 8, 2) := by decide +kernel
theorem dX12_reach_147 : decode cX12_reach 147 = .ok (.iinc 10 1, 3) := by decide +kernel
theorem dX12_reach_150 : decode cX12_reach 150 = .ok (.goto (-90), 3) := by decide +kernel
theorem dX12_reach_153 : decode cX12_reach 153 = .ok (.lload 6, 2) := by decide +kernel
theorem dX12_reach_155 : decode cX12_reach 155 = .ok (.lload 8, 2) := by decide +kernel
theorem dX12_reach_157 : decode cX12_reach 157 = .ok (.lsub, 1) := by decide +kernel
theorem dX12_reach_158 : decode cX12_reach 158 = .ok (.lload 6, 2) := by decide +kernel
theorem dX12_reach_160 : decode cX12_reach 160 = .ok (.lload 8, 2) := by decide +kernel
theorem dX12_reach_162 : decode cX12_reach 162 = .ok (.lsub, 1) := by decide +kernel
theorem dX12_reach_163 : decode cX12_reach 163 = .ok (.lmul, 1) := by decide +kernel
theorem dX12_reach_164 : decode cX12_reach 164 = .ok (.lstore 10, 2) := by decide +kernel
theorem dX12_reach_166 : decode cX12_reach 166 = .ok (.iload_n 2, 1) := by decide +kernel
theorem dX12_reach_167 : decode cX12_reach 167 = .ok (.i2l, 1) := by decide +kernel
theorem dX12_reach_168 : decode cX12_reach 168 = .ok (.iload_n 2, 1) := by decide +kernel
theorem dX12_reach_169 : decode cX12_reach 169 = .ok (.i2l, 1) := by decide +kernel
theorem dX12_reach_170 : decode cX12_reach 170 = .ok (.lmul, 1) := by decide +kernel
theorem dX12_reach_171 : decode cX12_reach 171 = .ok (.iload_n 3, 1) := by decide +kernel
theorem dX12_reach_172 : decode cX12_reach 172 = .ok (.i2l, 1) := by decide +kernel
theorem dX12_reach_173 : decode cX12_reach 173 = .ok (.iload_n 3, 1) := by decide +kernel
theorem dX12_reach_174 : decode cX12_reach 174 = .ok (.i2l, 1) := by decide +kernel
theorem dX12_reach_175 : decode cX12_reach 175 = .ok (.lmul, 1) := by decide +kernel
theorem dX12_reach_176 : decode cX12_reach 176 = .ok (.ladd, 1) := by decide +kernel
theorem dX12_reach_177 : decode cX12_reach 177 = .ok (.lstore 12, 2) := by decide +kernel
theorem dX12_reach_179 : decode cX12_reach 179 = .ok (.iload 4, 2) := by decide +kernel
theorem dX12_reach_181 : decode cX12_reach 181 = .ok (.ifCond .ne 19, 3) := by decide +kernel
theorem dX12_reach_184 : decode cX12_reach 184 = .ok (.aload_n 0, 1) := by decide +kernel
theorem dX12_reach_185 : decode cX12_reach 185 = .ok (.getfield 39, 3) := by decide +kernel
theorem dX12_reach_188 : decode cX12_reach 188 = .ok (.aload_n 0, 1) := by decide +kernel
theorem dX12_reach_189 : decode cX12_reach 189 = .ok (.getfield 54, 3) := by decide +kernel
theorem dX12_reach_192 : decode cX12_reach 192 = .ok (.iload 5, 2) := by decide +kernel
theorem dX12_reach_194 : decode cX12_reach 194 = .ok (.iaload, 1) := by decide +kernel
theorem dX12_reach_195 : decode cX12_reach 195 = .ok (.iaload, 1) := by decide +kernel
theorem dX12_reach_196 : decode cX12_reach 196 = .ok (.i2l, 1) := by decide +kernel
theorem dX12_reach_197 : decode cX12_reach 197 = .ok (.goto 37, 3) := by decide +kernel
theorem dX12_reach_200 : decode cX12_reach 200 = .ok (.iload 4, 2) := by decide +kernel
theorem dX12_reach_202 : decode cX12_reach 202 = .ok (.iconst 1, 1) := by decide +kernel
theorem dX12_reach_203 : decode cX12_reach 203 = .ok (.if_icmp .ne 8, 3) := by decide +kernel
theorem dX12_reach_206 : decode cX12_reach 206 = .ok (.lload 6, 2) := by decide +kernel
theorem dX12_reach_208 : decode cX12_reach 208 = .ok (.goto 26, 3) := by decide +kernel
theorem dX12_reach_211 : decode cX12_reach 211 = .ok (.iload 4, 2) := by decide +kernel
theorem dX12_reach_213 : decode cX12_reach 213 = .ok (.iconst 2, 1) := by decide +kernel
theorem dX12_reach_214 : decode cX12_reach 214 = .ok (.if_icmp .ne 13, 3) := by decide +kernel
theorem dX12_reach_217 : decode cX12_reach 217 = .ok (.lload 10, 2) := by decide +kernel
theorem dX12_reach_219 : decode cX12_reach 219 = .ok (.lload 12, 2) := by decide +kernel
theorem dX12_reach_221 : decode cX12_reach 221 = .ok (.invokestatic 210, 3) := by decide +kernel
theorem dX12_reach_224 : decode cX12_reach 224 = .ok (.goto 10, 3) := by decide +kernel
theorem dX12_reach_227 : decode cX12_reach 227 = .ok (.lload 10, 2) := by decide +kernel
theorem dX12_reach_229 : decode cX12_reach 229 = .ok (.lload 12, 2) := by decide +kernel
theorem dX12_reach_231 : decode cX12_reach 231 = .ok (.invokestatic 213, 3) := by decide +kernel
theorem dX12_reach_234 : decode cX12_reach 234 = .ok (.lreturn, 1) := by decide +kernel
theorem dX12_whole_0 : decode cX12_whole 0 = .ok (.iload_n 2, 1) := by decide +kernel
theorem dX12_whole_1 : decode cX12_whole 1 = .ok (.iconst 0, 1) := by decide +kernel
theorem dX12_whole_2 : decode cX12_whole 2 = .ok (.iconst 1, 1) := by decide +kernel
theorem dX12_whole_3 : decode cX12_whole 3 = .ok (.invokestatic 76, 3) := by decide +kernel
theorem dX12_whole_6 : decode cX12_whole 6 = .ok (.ifCond .eq 11, 3) := by decide +kernel
theorem dX12_whole_9 : decode cX12_whole 9 = .ok (.aload_n 0, 1) := by decide +kernel
theorem dX12_whole_10 : decode cX12_whole 10 = .ok (.iload_n 1, 1) := by decide +kernel
theorem dX12_whole_11 : decode cX12_whole 11 = .ok (.invokevirtual 326, 3) := by decide +kernel
theorem dX12_whole_14 : decode cX12_whole 14 = .ok (.ifCond .ne 5, 3) := by decide +kernel
theorem dX12_whole_17 : decode cX12_whole 17 = .ok (.iconst (-1), 1) := by decide +kernel
theorem dX12_whole_18 : decode cX12_whole 18 = .ok (.ireturn, 1) := by decide +kernel
theorem dX12_whole_19 : decode cX12_whole 19 = .ok (.aload_n 0, 1) := by decide +kernel
theorem dX12_whole_20 : decode cX12_whole 20 = .ok (.getfield 320, 3) := by decide +kernel
theorem dX12_whole_23 : decode cX12_whole 23 = .ok (.iconst 1, 1) := by decide +kernel
theorem dX12_whole_24 : decode cX12_whole 24 = .ok (.if_icmp .ne 13, 3) := by decide +kernel
theorem dX12_whole_27 : decode cX12_whole 27 = .ok (.iload_n 2, 1) := by decide +kernel
theorem dX12_whole_28 : decode cX12_whole 28 = .ok (.ifCond .ne 7, 3) := by decide +kernel
theorem dX12_whole_31 : decode cX12_whole 31 = .ok (.iconst 1, 1) := by decide +kernel
theorem dX12_whole_32 : decode cX12_whole 32 = .ok (.goto 4, 3) := by decide +kernel
theorem dX12_whole_35 : decode cX12_whole 35 = .ok (.iconst 0, 1) := by decide +kernel
theorem dX12_whole_36 : decode cX12_whole 36 = .ok (.ireturn, 1) := by decide +kernel
theorem dX12_whole_37 : decode cX12_whole 37 = .ok (.iconst 0, 1) := by decide +kernel
theorem dX12_whole_38 : decode cX12_whole 38 = .ok (.istore_n 3, 1) := by decide +kernel
theorem dX12_whole_39 : decode cX12_whole 39 = .ok (.iconst 0, 1) := by decide +kernel
theorem dX12_whole_40 : decode cX12_whole 40 = .ok (.istore 4, 2) := by decide +kernel
theorem dX12_whole_42 : decode cX12_whole 42 = .ok (.iload 4, 2) := by decide +kernel
theorem dX12_whole_44 : decode cX12_whole 44 = .ok (.aload_n 0, 1) := by decide +kernel
theorem dX12_whole_45 : decode cX12_whole 45 = .ok (.getfield 320, 3) := by decide +kernel
theorem dX12_whole_48 : decode cX12_whole 48 = .ok (.if_icmp .ge 70, 3) := by decide +kernel
theorem dX12_whole_51 : decode cX12_whole 51 = .ok (.aload_n 0, 1) := by decide +kernel
theorem dX12_whole_52 : decode cX12_whole 52 = .ok (.getfield 54, 3) := by decide +kernel
theorem dX12_whole_55 : decode cX12_whole 55 = .ok (.iload 4, 2) := by decide +kernel
theorem dX12_whole_57 : decode cX12_whole 57 = .ok (.iaload, 1) := by decide +kernel
theorem dX12_whole_58 : decode cX12_whole 58 = .ok (.istore 5, 2) := by decide +kernel
theorem dX12_whole_60 : decode cX12_whole 60 = .ok (.aload_n 0, 1) := by decide +kernel
theorem dX12_whole_61 : decode cX12_whole 61 = .ok (.getfield 54, 3) := by decide +kernel
theorem dX12_whole_64 : decode cX12_whole 64 = .ok (.aload_n 0, 1) := by decide +kernel
theorem dX12_whole_65 : decode cX12_whole 65 = .ok (.iload 4, 2) := by decide +kernel
theorem dX12_whole_67 : decode cX12_whole 67 = .ok (.invokevirtual 332, 3) := by decide +kernel
theorem dX12_whole_70 : decode cX12_whole 70 = .ok (.iaload, 1) := by decide +kernel
theorem dX12_whole_71 : decode cX12_whole 71 = .ok (.istore 6, 2) := by decide +kernel
theorem dX12_whole_73 : decode cX12_whole 73 = .ok (.iload_n 3, 1) := by decide +kernel
theorem dX12_whole_74 : decode cX12_whole 74 = .ok (.aload_n 0, 1) := by decide +kernel
theorem dX12_whole_75 : decode cX12_whole 75 = .ok (.getfield 33, 3) := by decide +kernel
theorem dX12_whole_78 : decode cX12_whole 78 = .ok (.iload 6, 2) := by decide +kernel
theorem dX12_whole_80 : decode cX12_whole 80 = .ok (.iaload, 1) := by decide +kernel
theorem dX12_whole_81 : decode cX12_whole 81 = .ok (.aload_n 0, 1) := by decide +kernel
theorem dX12_whole_82 : decode cX12_whole 82 = .ok (.getfield 33, 3) := by decide +kernel
theorem dX12_whole_85 : decode cX12_whole 85 = .ok (.iload 5, 2) := by decide +kernel
theorem dX12_whole_87 : decode cX12_whole 87 = .ok (.iaload, 1) := by decide +kernel
theorem dX12_whole_88 : decode cX12_whole 88 = .ok (.isub, 1) := by decide +kernel
theorem dX12_whole_89 : decode cX12_whole 89 = .ok (.i2l, 1) := by decide +kernel
theorem dX12_whole_90 : decode cX12_whole 90 = .ok (.aload_n 0, 1) := by decide +kernel
theorem dX12_whole_91 : decode cX12_whole 91 = .ok (.getfield 36, 3) := by decide +kernel
theorem dX12_whole_94 : decode cX12_whole 94 = .ok (.iload 6, 2) := by decide +kernel
theorem dX12_whole_96 : decode cX12_whole 96 = .ok (.iaload, 1) := by decide +kernel
theorem dX12_whole_97 : decode cX12_whole 97 = .ok (.aload_n 0, 1) := by decide +kernel
theorem dX12_whole_98 : decode cX12_whole 98 = .ok (.getfield 36, 3) := by decide +kernel
theorem dX12_whole_101 : decode cX12_whole 101 = .ok (.iload 5, 2) := by decide +kernel
theorem dX12_whole_103 : decode cX12_whole 103 = .ok (.iaload, 1) := by decide +kernel
theorem dX12_whole_104 : decode cX12_whole 104 = .ok (.isub, 1) := by decide +kernel
theorem dX12_whole_105 : decode cX12_whole 105 = .ok (.i2l, 1) := by decide +kernel
theorem dX12_whole_106 : decode cX12_whole 106 = .ok (.invokestatic 176, 3) := by decide +kernel
theorem dX12_whole_109 : decode cX12_whole 109 = .ok (.l2i, 1) := by decide +kernel
theorem dX12_whole_110 : decode cX12_whole 110 = .ok (.iadd, 1) := by decide +kernel
theorem dX12_whole_111 : decode cX12_whole 111 = .ok (.istore_n 3, 1) := by decide +kernel
theorem dX12_whole_112 : decode cX12_whole 112 = .ok (.iinc 4 1, 3) := by decide +kernel
theorem dX12_whole_115 : decode cX12_whole 115 = .ok (.goto (-73), 3) := by decide +kernel
theorem dX12_whole_118 : decode cX12_whole 118 = .ok (.aload_n 0, 1) := by decide +kernel
theorem dX12_whole_119 : decode cX12_whole 119 = .ok (.getfield 320, 3) := by decide +kernel
theorem dX12_whole_122 : decode cX12_whole 122 = .ok (.iconst 2, 1) := by decide +kernel
theorem dX12_whole_123 : decode cX12_whole 123 = .ok (.if_icmp .ne 17, 3) := by decide +kernel
theorem dX12_whole_126 : decode cX12_whole 126 = .ok (.iload_n 2, 1) := by decide +kernel
theorem dX12_whole_127 : decode cX12_whole 127 = .ok (.ifCond .ne 11, 3) := by decide +kernel
theorem dX12_whole_130 : decode cX12_whole 130 = .ok (.iload_n 3, 1) := by decide +kernel
theorem dX12_whole_131 : decode cX12_whole 131 = .ok (.iconst 2, 1) := by decide +kernel
theorem dX12_whole_132 : decode cX12_whole 132 = .ok (.idiv, 1) := by decide +kernel
theorem dX12_whole_133 : decode cX12_whole 133 = .ok (.iconst 1, 1) := by decide +kernel
theorem dX12_whole_134 : decode cX12_whole 134 = .ok (.iadd, 1) := by decide +kernel
theorem dX12_whole_135 : decode cX12_whole 135 = .ok (.goto 4, 3) := by decide +kernel
theorem dX12_whole_138 : decode cX12_whole 138 = .ok (.iconst 0, 1) := by decide +kernel
theorem dX12_whole_139 : decode cX12_whole 139 = .ok (.ireturn, 1) := by decide +kernel
theorem dX12_whole_140 : decode cX12_whole 140 = .ok (.iload_n 2, 1) := by decide +kernel
theorem dX12_whole_141 : decode cX12_whole 141 = .ok (.ifCond .ne 7, 3) := by decide +kernel
theorem dX12_whole_144 : decode cX12_whole 144 = .ok (.iload_n 3, 1) := by decide +kernel
theorem dX12_whole_145 : decode cX12_whole 145 = .ok (.goto 13, 3) := by decide +kernel
theorem dX12_whole_148 : decode cX12_whole 148 = .ok (.aload_n 0, 1) := by decide +kernel
theorem dX12_whole_149 : decode cX12_whole 149 = .ok (.invokevirtual 329, 3) := by decide +kernel
theorem dX12_whole_152 : decode cX12_whole 152 = .ok (.iload_n 3, 1) := by decide +kernel
theorem dX12_whole_153 : decode cX12_whole 153 = .ok (.isub, 1) := by decide +kernel
theorem dX12_whole_154 : decode cX12_whole 154 = .ok (.iconst 2, 1) := by decide +kernel
theorem dX12_whole_155 : decode cX12_whole 155 = .ok (.iadd, 1) := by decide +kernel
theorem dX12_whole_156 : decode cX12_whole 156 = .ok (.iconst 2, 1) := by decide +kernel
theorem dX12_whole_157 : decode cX12_whole 157 = .ok (.idiv, 1) := by decide +kernel
theorem dX12_whole_158 : decode cX12_whole 158 = .ok (.ireturn, 1) := by decide +kernel
theorem dX12_isSeen_0 : decode cX12_isSeen 0 = .ok (.aload_n 0, 1) := by decide +kernel
theorem dX12_isSeen_1 : decode cX12_isSeen 1 = .ok (.getfield 33, 3) := by decide +kernel
theorem dX12_isSeen_4 : decode cX12_isSeen 4 = .ok (.aload_n 0, 1) := by decide +kernel
theorem dX12_isSeen_5 : decode cX12_isSeen 5 = .ok (.getfield 54, 3) := by decide +kernel
theorem dX12_isSeen_8 : decode cX12_isSeen 8 = .ok (.iload_n 1, 1) := by decide +kernel
theorem dX12_isSeen_9 : decode cX12_isSeen 9 = .ok (.iaload, 1) := by decide +kernel
theorem dX12_isSeen_10 : decode cX12_isSeen 10 = .ok (.iaload, 1) := by decide +kernel
theorem dX12_isSeen_11 : decode cX12_isSeen 11 = .ok (.i2l, 1) := by decide +kernel
theorem dX12_isSeen_12 : decode cX12_isSeen 12 = .ok (.aload_n 0, 1) := by decide +kernel
theorem dX12_isSeen_13 : decode cX12_isSeen 13 = .ok (.getfield 36, 3) := by decide +kernel
theorem dX12_isSeen_16 : decode cX12_isSeen 16 = .ok (.aload_n 0, 1) := by decide +kernel
theorem dX12_isSeen_17 : decode cX12_isSeen 17 = .ok (.getfield 54, 3) := by decide +kernel
theorem dX12_isSeen_20 : decode cX12_isSeen 20 = .ok (.iload_n 1, 1) := by decide +kernel
theorem dX12_isSeen_21 : decode cX12_isSeen 21 = .ok (.iaload, 1) := by decide +kernel
theorem dX12_isSeen_22 : decode cX12_isSeen 22 = .ok (.iaload, 1) := by decide +kernel
theorem dX12_isSeen_23 : decode cX12_isSeen 23 = .ok (.i2l, 1) := by decide +kernel
theorem dX12_isSeen_24 : decode cX12_isSeen 24 = .ok (.aload_n 0, 1) := by decide +kernel
theorem dX12_isSeen_25 : decode cX12_isSeen 25 = .ok (.getfield 33, 3) := by decide +kernel
theorem dX12_isSeen_28 : decode cX12_isSeen 28 = .ok (.aload_n 0, 1) := by decide +kernel
theorem dX12_isSeen_29 : decode cX12_isSeen 29 = .ok (.getfield 54, 3) := by decide +kernel
theorem dX12_isSeen_32 : decode cX12_isSeen 32 = .ok (.aload_n 0, 1) := by decide +kernel
theorem dX12_isSeen_33 : decode cX12_isSeen 33 = .ok (.iload_n 1, 1) := by decide +kernel
theorem dX12_isSeen_34 : decode cX12_isSeen 34 = .ok (.invokevirtual 332, 3) := by decide +kernel
theorem dX12_isSeen_37 : decode cX12_isSeen 37 = .ok (.iaload, 1) := by decide +kernel
theorem dX12_isSeen_38 : decode cX12_isSeen 38 = .ok (.iaload, 1) := by decide +kernel
theorem dX12_isSeen_39 : decode cX12_isSeen 39 = .ok (.i2l, 1) := by decide +kernel
theorem dX12_isSeen_40 : decode cX12_isSeen 40 = .ok (.aload_n 0, 1) := by decide +kernel
theorem dX12_isSeen_41 : decode cX12_isSeen 41 = .ok (.getfield 36, 3) := by decide +kernel
theorem dX12_isSeen_44 : decode cX12_isSeen 44 = .ok (.aload_n 0, 1) := by decide +kernel
theorem dX12_isSeen_45 : decode cX12_isSeen 45 = .ok (.getfield 54, 3) := by decide +kernel
theorem dX12_isSeen_48 : decode cX12_isSeen 48 = .ok (.aload_n 0, 1) := by decide +kernel
theorem dX12_isSeen_49 : decode cX12_isSeen 49 = .ok (.iload_n 1, 1) := by decide +kernel
theorem dX12_isSeen_50 : decode cX12_isSeen 50 = .ok (.invokevirtual 332, 3) := by decide +kernel
theorem dX12_isSeen_53 : decode cX12_isSeen 53 = .ok (.iaload, 1) := by decide +kernel
theorem dX12_isSeen_54 : decode cX12_isSeen 54 = .ok (.iaload, 1) := by decide +kernel
theorem dX12_isSeen_55 : decode cX12_isSeen 55 = .ok (.i2l, 1) := by decide +kernel
theorem dX12_isSeen_56 : decode cX12_isSeen 56 = .ok (.iload_n 2, 1) := by decide +kernel
theorem dX12_isSeen_57 : decode cX12_isSeen 57 = .ok (.i2l, 1) := by decide +kernel
theorem dX12_isSeen_58 : decode cX12_isSeen 58 = .ok (.iload_n 3, 1) := by decide +kernel
theorem dX12_isSeen_59 : decode cX12_isSeen 59 = .ok (.i2l, 1) := by decide +kernel
theorem dX12_isSeen_60 : decode cX12_isSeen 60 = .ok (.invokestatic 403, 3) := by decide +kernel
theorem dX12_isSeen_63 : decode cX12_isSeen 63 = .ok (.lconst 0, 1) := by decide +kernel
theorem dX12_isSeen_64 : decode cX12_isSeen 64 = .ok (.lcmp, 1) := by decide +kernel
theorem dX12_isSeen_65 : decode cX12_isSeen 65 = .ok (.ifCond .ge 7, 3) := by decide +kernel
theorem dX12_isSeen_68 : decode cX12_isSeen 68 = .ok (.iconst 1, 1) := by decide +kernel
theorem dX12_isSeen_69 : decode cX12_isSeen 69 = .ok (.goto 4, 3) := by decide +kernel
theorem dX12_isSeen_72 : decode cX12_isSeen 72 = .ok (.iconst 0, 1) := by decide +kernel
theorem dX12_isSeen_73 : decode cX12_isSeen 73 = .ok (.ireturn, 1) := by decide +kernel
theorem dX12_sees_0 : decode cX12_sees 0 = .ok (.iload_n 2, 1) := by decide +kernel
theorem dX12_sees_1 : decode cX12_sees 1 = .ok (.sipush 300, 3) := by decide +kernel
theorem dX12_sees_4 : decode cX12_sees 4 = .ok (.invokestatic 293, 3) := by decide +kernel
theorem dX12_sees_7 : decode cX12_sees 7 = .ok (.ifCond .eq 31, 3) := by decide +kernel
theorem dX12_sees_10 : decode cX12_sees 10 = .ok (.iload_n 3, 1) := by decide +kernel
theorem dX12_sees_11 : decode cX12_sees 11 = .ok (.sipush 300, 3) := by decide +kernel
theorem dX12_sees_14 : decode cX12_sees 14 = .ok (.invokestatic 293, 3) := by decide +kernel
theorem dX12_sees_17 : decode cX12_sees 17 = .ok (.ifCond .eq 21, 3) := by decide +kernel
theorem dX12_sees_20 : decode cX12_sees 20 = .ok (.iload 4, 2) := by decide +kernel
theorem dX12_sees_22 : decode cX12_sees 22 = .ok (.iconst 0, 1) := by decide +kernel
theorem dX12_sees_23 : decode cX12_sees 23 = .ok (.iconst 2, 1) := by decide +kernel
theorem dX12_sees_24 : decode cX12_sees 24 = .ok (.invokestatic 76, 3) := by decide +kernel
theorem dX12_sees_27 : decode cX12_sees 27 = .ok (.ifCond .eq 11, 3) := by decide +kernel
theorem dX12_sees_30 : decode cX12_sees 30 = .ok (.aload_n 0, 1) := by decide +kernel
theorem dX12_sees_31 : decode cX12_sees 31 = .ok (.iload_n 1, 1) := by decide +kernel
theorem dX12_sees_32 : decode cX12_sees 32 = .ok (.invokevirtual 344, 3) := by decide +kernel
theorem dX12_sees_35 : decode cX12_sees 35 = .ok (.ifCond .ne 5, 3) := by decide +kernel
theorem dX12_sees_38 : decode cX12_sees 38 = .ok (.iconst (-1), 1) := by decide +kernel
theorem dX12_sees_39 : decode cX12_sees 39 = .ok (.ireturn, 1) := by decide +kernel
theorem dX12_sees_40 : decode cX12_sees 40 = .ok (.iconst 0, 1) := by decide +kernel
theorem dX12_sees_41 : decode cX12_sees 41 = .ok (.istore 5, 2) := by decide +kernel
theorem dX12_sees_43 : decode cX12_sees 43 = .ok (.iconst (-1), 1) := by decide +kernel
theorem dX12_sees_44 : decode cX12_sees 44 = .ok (.istore 6, 2) := by decide +kernel
theorem dX12_sees_46 : decode cX12_sees 46 = .ok (.iconst (-1), 1) := by decide +kernel
theorem dX12_sees_47 : decode cX12_sees 47 = .ok (.istore 7, 2) := by decide +kernel
theorem dX12_sees_49 : decode cX12_sees 49 = .ok (.iconst 0, 1) := by decide +kernel
theorem dX12_sees_50 : decode cX12_sees 50 = .ok (.istore 8, 2) := by decide +kernel
theorem dX12_sees_52 : decode cX12_sees 52 = .ok (.iload 8, 2) := by decide +kernel
theorem dX12_sees_54 : decode cX12_sees 54 = .ok (.aload_n 0, 1) := by decide +kernel
theorem dX12_sees_55 : decode cX12_sees 55 = .ok (.getfield 320, 3) := by decide +kernel
theorem dX12_sees_58 : decode cX12_sees 58 = .ok (.if_icmp .ge 104, 3) := by decide +kernel
theorem dX12_sees_61 : decode cX12_sees 61 = .ok (.aload_n 0, 1) := by decide +kernel
theorem dX12_sees_62 : decode cX12_sees 62 = .ok (.iload 8, 2) := by decide +kernel
theorem dX12_sees_64 : decode cX12_sees 64 = .ok (.iload_n 2, 1) := by decide +kernel
theorem dX12_sees_65 : decode cX12_sees 65 = .ok (.iload_n 3, 1) := by decide +kernel
theorem dX12_sees_66 : decode cX12_sees 66 = .ok (.invokevirtual 429, 3) := by decide +kernel
theorem dX12_sees_69 : decode cX12_sees 69 = .ok (.ifCond .ne 6, 3) := by decide +kernel
theorem dX12_sees_72 : decode cX12_sees 72 = .ok (.goto 84, 3) := by decide +kernel
theorem dX12_sees_75 : decode cX12_sees 75 = .ok (.iinc 5 1, 3) := by decide +kernel
theorem dX12_sees_78 : decode cX12_sees 78 = .ok (.iload 8, 2) := by decide +kernel
theorem dX12_sees_80 : decode cX12_sees 80 = .ok (.ifCond .ne 12, 3) := by decide +kernel
theorem dX12_sees_83 : decode cX12_sees 83 = .ok (.aload_n 0, 1) := by decide +kernel
theorem dX12_sees_84 : decode cX12_sees 84 = .ok (.getfield 320, 3) := by decide +kernel
theorem dX12_sees_87 : decode cX12_sees 87 = .ok (.iconst 1, 1) := by decide +kernel
theorem dX12_sees_88 : decode cX12_sees 88 = .ok (.isub, 1) := by decide +kernel
theorem dX12_sees_89 : decode cX12_sees 89 = .ok (.goto 7, 3) := by decide +kernel
theorem dX12_sees_92 : decode cX12_sees 92 = .ok (.iload 8, 2) := by decide +kernel
theorem dX12_sees_94 : decode cX12_sees 94 = .ok (.iconst 1, 1) := by decide +kernel
theorem dX12_sees_95 : decode cX12_sees 95 = .ok (.isub, 1) := by decide +kernel
theorem dX12_sees_96 : decode cX12_sees 96 = .ok (.istore 9, 2) := by decide +kernel
theorem dX12_sees_98 : decode cX12_sees 98 = .ok (.aload_n 0, 1) := by decide +kernel
theorem dX12_sees_99 : decode cX12_sees 99 = .ok (.iload 9, 2) := by decide +kernel
theorem dX12_sees_101 : decode cX12_sees 101 = .ok (.iload_n 2, 1) := by decide +kernel
theorem dX12_sees_102 : decode cX12_sees 102 = .ok (.iload_n 3, 1) := by decide +kernel
theorem dX12_sees_103 : decode cX12_sees 103 = .ok (.invokevirtual 429, 3) := by decide +kernel
theorem dX12_sees_106 : decode cX12_sees 106 = .ok (.ifCond .ne 17, 3) := by decide +kernel
theorem dX12_sees_109 : decode cX12_sees 109 = .ok (.aload_n 0, 1) := by decide +kernel
theorem dX12_sees_110 : decode cX12_sees 110 = .ok (.getfield 39, 3) := by decide +kernel
theorem dX12_sees_113 : decode cX12_sees 113 = .ok (.aload_n 0, 1) := by decide +kernel
theorem dX12_sees_114 : decode cX12_sees 114 = .ok (.getfield 54, 3) := by decide +kernel
theorem dX12_sees_117 : decode cX12_sees 117 = .ok (.iload 8, 2) := by decide +kernel
theorem dX12_sees_119 : decode cX12_sees 119 = .ok (.iaload, 1) := by decide +kernel
theorem dX12_sees_120 : decode cX12_sees 120 = .ok (.iaload, 1) := by decide +kernel
theorem dX12_sees_121 : decode cX12_sees 121 = .ok (.istore 6, 2) := by decide +kernel
theorem dX12_sees_123 : decode cX12_sees 123 = .ok (.aload_n 0, 1) := by decide +kernel
theorem dX12_sees_124 : decode cX12_sees 124 = .ok (.aload_n 0, 1) := by decide +kernel
theorem dX12_sees_125 : decode cX12_sees 125 = .ok (.iload 8, 2) := by decide +kernel
theorem dX12_sees_127 : decode cX12_sees 127 = .ok (.invokevirtual 332, 3) := by decide +kernel
theorem dX12_sees_130 : decode cX12_sees 130 = .ok (.iload_n 2, 1) := by decide +kernel
theorem dX12_sees_131 : decode cX12_sees 131 = .ok (.iload_n 3, 1) := by decide +kernel
theorem dX12_sees_132 : decode cX12_sees 132 = .ok (.invokevirtual 429, 3) := by decide +kernel
theorem dX12_sees_135 : decode cX12_sees 135 = .ok (.ifCond .ne 21, 3) := by decide +kernel
theorem dX12_sees_138 : decode cX12_sees 138 = .ok (.aload_n 0, 1) := by decide +kernel
theorem dX12_sees_139 : decode cX12_sees 139 = .ok (.getfield 39, 3) := by decide +kernel
theorem dX12_sees_142 : decode cX12_sees 142 = .ok (.aload_n 0, 1) := by decide +kernel
theorem dX12_sees_143 : decode cX12_sees 143 = .ok (.getfield 54, 3) := by decide +kernel
theorem dX12_sees_146 : decode cX12_sees 146 = .ok (.aload_n 0, 1) := by decide +kernel
theorem dX12_sees_147 : decode cX12_sees 147 = .ok (.iload 8, 2) := by decide +kernel
theorem dX12_sees_149 : decode cX12_sees 149 = .ok (.invokevirtual 332, 3) := by decide +kernel
theorem dX12_sees_152 : decode cX12_sees 152 = .ok (.iaload, 1) := by decide +kernel
theorem dX12_sees_153 : decode cX12_sees 153 = .ok (.iaload, 1) := by decide +kernel
theorem dX12_sees_154 : decode cX12_sees 154 = .ok (.istore 7, 2) := by decide +kernel
theorem dX12_sees_156 : decode cX12_sees 156 = .ok (.iinc 8 1, 3) := by decide +kernel
theorem dX12_sees_159 : decode cX12_sees 159 = .ok (.goto (-107), 3) := by decide +kernel
theorem dX12_sees_162 : decode cX12_sees 162 = .ok (.iload 4, 2) := by decide +kernel
theorem dX12_sees_164 : decode cX12_sees 164 = .ok (.ifCond .ne 8, 3) := by decide +kernel
theorem dX12_sees_167 : decode cX12_sees 167 = .ok (.iload 5, 2) := by decide +kernel
theorem dX12_sees_169 : decode cX12_sees 169 = .ok (.goto 16, 3) := by decide +kernel
theorem dX12_sees_172 : decode cX12_sees 172 = .ok (.iload 4, 2) := by decide +kernel
theorem dX12_sees_174 : decode cX12_sees 174 = .ok (.iconst 1, 1) := by decide +kernel
theorem dX12_sees_175 : decode cX12_sees 175 = .ok (.if_icmp .ne 8, 3) := by decide +kernel
theorem dX12_sees_178 : decode cX12_sees 178 = .ok (.iload 6, 2) := by decide +kernel
theorem dX12_sees_180 : decode cX12_sees 180 = .ok (.goto 5, 3) := by decide +kernel
theorem dX12_sees_183 : decode cX12_sees 183 = .ok (.iload 7, 2) := by decide +kernel
theorem dX12_sees_185 : decode cX12_sees 185 = .ok (.ireturn, 1) := by decide +kernel
theorem dX12_deep_0 : decode cX12_deep 0 = .ok (.iload_n 2, 1) := by decide +kernel
theorem dX12_deep_1 : decode cX12_deep 1 = .ok (.sipush 300, 3) := by decide +kernel
theorem dX12_deep_4 : decode cX12_deep 4 = .ok (.invokestatic 293, 3) := by decide +kernel
theorem dX12_deep_7 : decode cX12_deep 7 = .ok (.ifCond .eq 21, 3) := by decide +kernel
theorem dX12_deep_10 : decode cX12_deep 10 = .ok (.iload_n 3, 1) := by decide +kernel
theorem dX12_deep_11 : decode cX12_deep 11 = .ok (.sipush 300, 3) := by decide +kernel
theorem dX12_deep_14 : decode cX12_deep 14 = .ok (.invokestatic 293, 3) := by decide +kernel
theorem dX12_deep_17 : decode cX12_deep 17 = .ok (.ifCond .eq 11, 3) := by decide +kernel
theorem dX12_deep_20 : decode cX12_deep 20 = .ok (.aload_n 0, 1) := by decide +kernel
theorem dX12_deep_21 : decode cX12_deep 21 = .ok (.iload_n 1, 1) := by decide +kernel
theorem dX12_deep_22 : decode cX12_deep 22 = .ok (.invokevirtual 173, 3) := by decide +kernel
theorem dX12_deep_25 : decode cX12_deep 25 = .ok (.ifCond .ne 5, 3) := by decide +kernel
theorem dX12_deep_28 : decode cX12_deep 28 = .ok (.iconst (-1), 1) := by decide +kernel
theorem dX12_deep_29 : decode cX12_deep 29 = .ok (.ireturn, 1) := by decide +kernel
theorem dX12_deep_30 : decode cX12_deep 30 = .ok (.aload_n 0, 1) := by decide +kernel
theorem dX12_deep_31 : decode cX12_deep 31 = .ok (.iload_n 2, 1) := by decide +kernel
theorem dX12_deep_32 : decode cX12_deep 32 = .ok (.iload_n 3, 1) := by decide +kernel
theorem dX12_deep_33 : decode cX12_deep 33 = .ok (.invokevirtual 314, 3) := by decide +kernel
theorem dX12_deep_36 : decode cX12_deep 36 = .ok (.iconst (-1), 1) := by decide +kernel
theorem dX12_deep_37 : decode cX12_deep 37 = .ok (.if_icmp .ne 7, 3) := by decide +kernel
theorem dX12_deep_40 : decode cX12_deep 40 = .ok (.iconst 0, 1) := by decide +kernel
theorem dX12_deep_41 : decode cX12_deep 41 = .ok (.goto 4, 3) := by decide +kernel
theorem dX12_deep_44 : decode cX12_deep 44 = .ok (.iconst 1, 1) := by decide +kernel
theorem dX12_deep_45 : decode cX12_deep 45 = .ok (.istore 4, 2) := by decide +kernel
theorem dX12_deep_47 : decode cX12_deep 47 = .ok (.aload_n 0, 1) := by decide +kernel
theorem dX12_deep_48 : decode cX12_deep 48 = .ok (.getfield 157, 3) := by decide +kernel
theorem dX12_deep_51 : decode cX12_deep 51 = .ok (.iload 4, 2) := by decide +kernel
theorem dX12_deep_53 : decode cX12_deep 53 = .ok (.isub, 1) := by decide +kernel
theorem dX12_deep_54 : decode cX12_deep 54 = .ok (.istore 5, 2) := by decide +kernel
theorem dX12_deep_56 : decode cX12_deep 56 = .ok (.iconst 0, 1) := by decide +kernel
theorem dX12_deep_57 : decode cX12_deep 57 = .ok (.istore 6, 2) := by decide +kernel
theorem dX12_deep_59 : decode cX12_deep 59 = .ok (.iload 6, 2) := by decide +kernel
theorem dX12_deep_61 : decode cX12_deep 61 = .ok (.aload_n 0, 1) := by decide +kernel
theorem dX12_deep_62 : decode cX12_deep 62 = .ok (.getfield 157, 3) := by decide +kernel
theorem dX12_deep_65 : decode cX12_deep 65 = .ok (.if_icmp .ge 254, 3) := by decide +kernel
theorem dX12_deep_68 : decode cX12_deep 68 = .ok (.aload_n 0, 1) := by decide +kernel
theorem dX12_deep_69 : decode cX12_deep 69 = .ok (.getfield 33, 3) := by decide +kernel
theorem dX12_deep_72 : decode cX12_deep 72 = .ok (.iload 6, 2) := by decide +kernel
theorem dX12_deep_74 : decode cX12_deep 74 = .ok (.iaload, 1) := by decide +kernel
theorem dX12_deep_75 : decode cX12_deep 75 = .ok (.iload_n 2, 1) := by decide +kernel
theorem dX12_deep_76 : decode cX12_deep 76 = .ok (.isub, 1) := by decide +kernel
theorem dX12_deep_77 : decode cX12_deep 77 = .ok (.i2l, 1) := by decide +kernel
theorem dX12_deep_78 : decode cX12_deep 78 = .ok (.lstore 7, 2) := by decide +kernel
theorem dX12_deep_80 : decode cX12_deep 80 = .ok (.aload_n 0, 1) := by decide +kernel
theorem dX12_deep_81 : decode cX12_deep 81 = .ok (.getfield 36, 3) := by decide +kernel
theorem dX12_deep_84 : decode cX12_deep 84 = .ok (.iload 6, 2) := by decide +kernel
theorem dX12_deep_86 : decode cX12_deep 86 = .ok (.iaload, 1) := by decide +kernel
theorem dX12_deep_87 : decode cX12_deep 87 = .ok (.iload_n 3, 1) := by decide +kernel
theorem dX12_deep_88 : decode cX12_deep 88 = .ok (.isub, 1) := by decide +kernel
theorem dX12_deep_89 : decode cX12_deep 89 = .ok (.i2l, 1) := by decide +kernel
theorem dX12_deep_90 : decode cX12_deep 90 = .ok (.lstore 9, 2) := by decide +kernel
theorem dX12_deep_92 : decode cX12_deep 92 = .ok (.lload 7, 2) := by decide +kernel
theorem dX12_deep_94 : decode cX12_deep 94 = .ok (.lconst 0, 1) := by decide +kernel
theorem dX12_deep_95 : decode cX12_deep 95 = .ok (.lcmp, 1) := by decide +kernel
theorem dX12_deep_96 : decode cX12_deep 96 = .ok (.ifCond .ne 13, 3) := by decide +kernel
theorem dX12_deep_99 : decode cX12_deep 99 = .ok (.lload 9, 2) := by decide +kernel
theorem dX12_deep_101 : decode cX12_deep 101 = .ok (.lconst 0, 1) := by decide +kernel
theorem dX12_deep_102 : decode cX12_deep 102 = .ok (.lcmp, 1) := by decide +kernel
theorem dX12_deep_103 : decode cX12_deep 103 = .ok (.ifCond .ne 6, 3) := by decide +kernel
theorem dX12_deep_106 : decode cX12_deep 106 = .ok (.goto 207, 3) := by decide +kernel
theorem dX12_deep_109 : decode cX12_deep 109 = .ok (.iconst 0, 1) := by decide +kernel
theorem dX12_deep_110 : decode cX12_deep 110 = .ok (.istore 11, 2) := by decide +kernel
theorem dX12_deep_112 : decode cX12_deep 112 = .ok (.iconst 0, 1) := by decide +kernel
theorem dX12_deep_113 : decode cX12_deep 113 = .ok (.istore 12, 2) := by decide +kernel
theorem dX12_deep_115 : decode cX12_deep 115 = .ok (.iconst 0, 1) := by decide +kernel
theorem dX12_deep_116 : decode cX12_deep 116 = .ok (.istore 13, 2) := by decide +kernel
theorem dX12_deep_118 : decode cX12_deep 118 = .ok (.iconst 0, 1) := by decide +kernel
theorem dX12_deep_119 : decode cX12_deep 119 = .ok (.istore 14, 2) := by decide +kernel
theorem dX12_deep_121 : decode cX12_deep 121 = .ok (.iload 14, 2) := by decide +kernel
theorem dX12_deep_123 : decode cX12_deep 123 = .ok (.aload_n 0, 1) := by decide +kernel
theorem dX12_deep_124 : decode cX12_deep 124 = .ok (.getfield 157, 3) := by decide +kernel
theorem dX12_deep_127 : decode cX12_deep 127 = .ok (.if_icmp .ge 121, 3) := by decide +kernel
theorem dX12_deep_130 : decode cX12_deep 130 = .ok (.lload 7, 2) := by decide +kernel
theorem dX12_deep_132 : decode cX12_deep 132 = .ok (.aload_n 0, 1) := by decide +kernel
theorem dX12_deep_133 : decode cX12_deep 133 = .ok (.getfield 36, 3) := by decide +kernel
theorem dX12_deep_136 : decode cX12_deep 136 = .ok (.iload 14, 2) := by decide +kernel
theorem dX12_deep_138 : decode cX12_deep 138 = .ok (.iaload, 1) := by decide +kernel
theorem dX12_deep_139 : decode cX12_deep 139 = .ok (.iload_n 3, 1) := by decide +kernel
theorem dX12_deep_140 : decode cX12_deep 140 = .ok (.isub, 1) := by decide +kernel
theorem dX12_deep_141 : decode cX12_deep 141 = .ok (.i2l, 1) := by decide +kernel
theorem dX12_deep_142 : decode cX12_deep 142 = .ok (.lmul, 1) := by decide +kernel
theorem dX12_deep_143 : decode cX12_deep 143 = .ok (.lload 9, 2) := by decide +kernel
theorem dX12_deep_145 : decode cX12_deep 145 = .ok (.aload_n 0, 1) := by decide +kernel
theorem dX12_deep_146 : decode cX12_deep 146 = .ok (.getfield 33, 3) := by decide +kernel
theorem dX12_deep_149 : decode cX12_deep 149 = .ok (.iload 14, 2) := by decide +kernel
theorem dX12_deep_151 : decode cX12_deep 151 = .ok (.iaload, 1) := by decide +kernel
theorem dX12_deep_152 : decode cX12_deep 152 = .ok (.iload_n 2, 1) := by decide +kernel
theorem dX12_deep_153 : decode cX12_deep 153 = .ok (.isub, 1) := by decide +kernel
theorem dX12_deep_154 : decode cX12_deep 154 = .ok (.i2l, 1) := by decide +kernel
theorem dX12_deep_155 : decode cX12_deep 155 = .ok (.lmul, 1) := by decide +kernel
theorem dX12_deep_156 : decode cX12_deep 156 = .ok (.lsub, 1) := by decide +kernel
theorem dX12_deep_157 : decode cX12_deep 157 = .ok (.lstore 15, 2) := by decide +kernel
theorem dX12_deep_159 : decode cX12_deep 159 = .ok (.iload 11, 2) := by decide +kernel
theorem dX12_deep_161 : decode cX12_deep 161 = .ok (.lload 15, 2) := by decide +kernel
theorem dX12_deep_163 : decode cX12_deep 163 = .ok (.lconst 0, 1) := by decide +kernel
theorem dX12_deep_164 : decode cX12_deep 164 = .ok (.lcmp, 1) := by decide +kernel
theorem dX12_deep_165 : decode cX12_deep 165 = .ok (.ifCond .le 7, 3) := by decide +kernel
theorem dX12_deep_168 : decode cX12_deep 168 = .ok (.iconst 1, 1) := by decide +kernel
theorem dX12_deep_169 : decode cX12_deep 169 = .ok (.goto 4, 3) := by decide +kernel
theorem dX12_deep_172 : decode cX12_deep 172 = .ok (.iconst 0, 1) := by decide +kernel
theorem dX12_deep_173 : decode cX12_deep 173 = .ok (.iadd, 1) := by decide +kernel
theorem dX12_deep_174 : decode cX12_deep 174 = .ok (.istore 11, 2) := by decide +kernel
theorem dX12_deep_176 : decode cX12_deep 176 = .ok (.iload 12, 2) := by decide +kernel
theorem dX12_deep_178 : decode cX12_deep 178 = .ok (.lload 15, 2) := by decide +kernel
theorem dX12_deep_180 : decode cX12_deep 180 = .ok (.lconst 0, 1) := by decide +kernel
theorem dX12_deep_181 : decode cX12_deep 181 = .ok (.lcmp, 1) := by decide +kernel
theorem dX12_deep_182 : decode cX12_deep 182 = .ok (.ifCond .ge 7, 3) := by decide +kernel
theorem dX12_deep_185 : decode cX12_deep 185 = .ok (.iconst 1, 1) := by decide +kernel
theorem dX12_deep_186 : decode cX12_deep 186 = .ok (.goto 4, 3) := by decide +kernel
theorem dX12_deep_189 : decode cX12_deep 189 = .ok (.iconst 0, 1) := by decide +kernel
theorem dX12_deep_190 : decode cX12_deep 190 = .ok (.iadd, 1) := by decide +kernel
theorem dX12_deep_191 : decode cX12_deep 191 = .ok (.istore 12, 2) := by decide +kernel
theorem dX12_deep_193 : decode cX12_deep 193 = .ok (.iload 13, 2) := by decide +kernel
theorem dX12_deep_195 : decode cX12_deep 195 = .ok (.lload 15, 2) := by decide +kernel
theorem dX12_deep_197 : decode cX12_deep 197 = .ok (.lconst 0, 1) := by decide +kernel
theorem dX12_deep_198 : decode cX12_deep 198 = .ok (.lcmp, 1) := by decide +kernel
theorem dX12_deep_199 : decode cX12_deep 199 = .ok (.ifCond .ne 39, 3) := by decide +kernel
theorem dX12_deep_202 : decode cX12_deep 202 = .ok (.lload 7, 2) := by decide +kernel
theorem dX12_deep_204 : decode cX12_deep 204 = .ok (.aload_n 0, 1) := by decide +kernel
theorem dX12_deep_205 : decode cX12_deep 205 = .ok (.getfield 33, 3) := by decide +kernel
theorem dX12_deep_208 : decode cX12_deep 208 = .ok (.iload 14, 2) := by decide +kernel
theorem dX12_deep_210 : decode cX12_deep 210 = .ok (.iaload, 1) := by decide +kernel
theorem dX12_deep_211 : decode cX12_deep 211 = .ok (.iload_n 2, 1) := by decide +kernel
theorem dX12_deep_212 : decode cX12_deep 212 = .ok (.isub, 1) := by decide +kernel
theorem dX12_deep_213 : decode cX12_deep 213 = .ok (.i2l, 1) := by decide +kernel
theorem dX12_deep_214 : decode cX12_deep 214 = .ok (.lmul, 1) := by decide +kernel
theorem dX12_deep_215 : decode cX12_deep 215 = .ok (.lload 9, 2) := by decide +kernel
theorem dX12_deep_217 : decode cX12_deep 217 = .ok (.aload_n 0, 1) := by decide +kernel
theorem dX12_deep_218 : decode cX12_deep 218 = .ok (.getfield 36, 3) := by decide +kernel
theorem dX12_deep_221 : decode cX12_deep 221 = .ok (.iload 14, 2) := by decide +kernel
theorem dX12_deep_223 : decode cX12_deep 223 = .ok (.iaload, 1) := by decide +kernel
theorem dX12_deep_224 : decode cX12_deep 224 = .ok (.iload_n 3, 1) := by decide +kernel
theorem dX12_deep_225 : decode cX12_deep 225 = .ok (.isub, 1) := by decide +kernel
theorem dX12_deep_226 : decode cX12_deep 226 = .ok (.i2l, 1) := by decide +kernel
theorem dX12_deep_227 : decode cX12_deep 227 = .ok (.lmul, 1) := by decide +kernel
theorem dX12_deep_228 : decode cX12_deep 228 = .ok (.ladd, 1) := by decide +kernel
theorem dX12_deep_229 : decode cX12_deep 229 = .ok (.lconst 0, 1) := by decide +kernel
theorem dX12_deep_230 : decode cX12_deep 230 = .ok (.lcmp, 1) := by decide +kernel
theorem dX12_deep_231 : decode cX12_deep 231 = .ok (.ifCond .le 7, 3) := by decide +kernel
theorem dX12_deep_234 : decode cX12_deep 234 = .ok (.iconst 1, 1) := by decide +kernel
theorem dX12_deep_235 : decode cX12_deep 235 = .ok (.goto 4, 3) := by decide +kernel
theorem dX12_deep_238 : decode cX12_deep 238 = .ok (.iconst 0, 1) := by decide +kernel
theorem dX12_deep_239 : decode cX12_deep 239 = .ok (.iadd, 1) := by decide +kernel
theorem dX12_deep_240 : decode cX12_deep 240 = .ok (.istore 13, 2) := by decide +kernel
theorem dX12_deep_242 : decode cX12_deep 242 = .ok (.iinc 14 1, 3) := by decide +kernel
theorem dX12_deep_245 : decode cX12_deep 245 = .ok (.goto (-124), 3) := by decide +kernel
theorem dX12_deep_248 : decode cX12_deep 248 = .ok (.aload_n 0, 1) := by decide +kernel
theorem dX12_deep_249 : decode cX12_deep 249 = .ok (.getfield 157, 3) := by decide +kernel
theorem dX12_deep_252 : decode cX12_deep 252 = .ok (.iload 4, 2) := by decide +kernel
theorem dX12_deep_254 : decode cX12_deep 254 = .ok (.isub, 1) := by decide +kernel
theorem dX12_deep_255 : decode cX12_deep 255 = .ok (.iload 11, 2) := by decide +kernel
theorem dX12_deep_257 : decode cX12_deep 257 = .ok (.isub, 1) := by decide +kernel
theorem dX12_deep_258 : decode cX12_deep 258 = .ok (.iload 12, 2) := by decide +kernel
theorem dX12_deep_260 : decode cX12_deep 260 = .ok (.isub, 1) := by decide +kernel
theorem dX12_deep_261 : decode cX12_deep 261 = .ok (.iload 13, 2) := by decide +kernel
theorem dX12_deep_263 : decode cX12_deep 263 = .ok (.isub, 1) := by decide +kernel
theorem dX12_deep_264 : decode cX12_deep 264 = .ok (.istore 14, 2) := by decide +kernel
theorem dX12_deep_266 : decode cX12_deep 266 = .ok (.iload 11, 2) := by decide +kernel
theorem dX12_deep_268 : decode cX12_deep 268 = .ok (.iload 12, 2) := by decide +kernel
theorem dX12_deep_270 : decode cX12_deep 270 = .ok (.if_icmp .ge 8, 3) := by decide +kernel
theorem dX12_deep_273 : decode cX12_deep 273 = .ok (.iload 11, 2) := by decide +kernel
theorem dX12_deep_275 : decode cX12_deep 275 = .ok (.goto 5, 3) := by decide +kernel
theorem dX12_deep_278 : decode cX12_deep 278 = .ok (.iload 12, 2) := by decide +kernel
theorem dX12_deep_280 : decode cX12_deep 280 = .ok (.iload 13, 2) := by decide +kernel
theorem dX12_deep_282 : decode cX12_deep 282 = .ok (.iload 14, 2) := by decide +kernel
theorem dX12_deep_284 : decode cX12_deep 284 = .ok (.if_icmp .ge 8, 3) := by decide +kernel
theorem dX12_deep_287 : decode cX12_deep 287 = .ok (.iload 13, 2) := by decide +kernel
theorem dX12_deep_289 : decode cX12_deep 289 = .ok (.goto 5, 3) := by decide +kernel
theorem dX12_deep_292 : decode cX12_deep 292 = .ok (.iload 14, 2) := by decide +kernel
theorem dX12_deep_294 : decode cX12_deep 294 = .ok (.iadd, 1) := by decide +kernel
theorem dX12_deep_295 : decode cX12_deep 295 = .ok (.istore 15, 2) := by decide +kernel
theorem dX12_deep_297 : decode cX12_deep 297 = .ok (.iload 15, 2) := by decide +kernel
theorem dX12_deep_299 : decode cX12_deep 299 = .ok (.iload 5, 2) := by decide +kernel
theorem dX12_deep_301 : decode cX12_deep 301 = .ok (.if_icmp .ge 8, 3) := by decide +kernel
theorem dX12_deep_304 : decode cX12_deep 304 = .ok (.iload 15, 2) := by decide +kernel
theorem dX12_deep_306 : decode cX12_deep 306 = .ok (.goto 5, 3) := by decide +kernel
theorem dX12_deep_309 : decode cX12_deep 309 = .ok (.iload 5, 2) := by decide +kernel
theorem dX12_deep_311 : decode cX12_deep 311 = .ok (.istore 5, 2) := by decide +kernel
theorem dX12_deep_313 : decode cX12_deep 313 = .ok (.iinc 6 1, 3) := by decide +kernel
theorem dX12_deep_316 : decode cX12_deep 316 = .ok (.goto (-257), 3) := by decide +kernel
theorem dX12_deep_319 : decode cX12_deep 319 = .ok (.iload 5, 2) := by decide +kernel
theorem dX12_deep_321 : decode cX12_deep 321 = .ok (.iload 4, 2) := by decide +kernel
theorem dX12_deep_323 : decode cX12_deep 323 = .ok (.iadd, 1) := by decide +kernel
theorem dX12_deep_324 : decode cX12_deep 324 = .ok (.ireturn, 1) := by decide +kernel
theorem dX12_meetsAt_0 : decode cX12_meetsAt 0 = .ok (.aload_n 0, 1) := by decide +kernel
theorem dX12_meetsAt_1 : decode cX12_meetsAt 1 = .ok (.getfield 7, 3) := by decide +kernel
theorem dX12_meetsAt_4 : decode cX12_meetsAt 4 = .ok (.sipush 168, 3) := by decide +kernel
theorem dX12_meetsAt_7 : decode cX12_meetsAt 7 = .ok (.iaload, 1) := by decide +kernel
theorem dX12_meetsAt_8 : decode cX12_meetsAt 8 = .ok (.istore_n 3, 1) := by decide +kernel
theorem dX12_meetsAt_9 : decode cX12_meetsAt 9 = .ok (.iconst (-1), 1) := by decide +kernel
theorem dX12_meetsAt_10 : decode cX12_meetsAt 10 = .ok (.istore 4, 2) := by decide +kernel
theorem dX12_meetsAt_12 : decode cX12_meetsAt 12 = .ok (.iconst 0, 1) := by decide +kernel
theorem dX12_meetsAt_13 : decode cX12_meetsAt 13 = .ok (.istore 5, 2) := by decide +kernel
theorem dX12_meetsAt_15 : decode cX12_meetsAt 15 = .ok (.iload 5, 2) := by decide +kernel
theorem dX12_meetsAt_17 : decode cX12_meetsAt 17 = .ok (.bipush 20, 2) := by decide +kernel
theorem dX12_meetsAt_19 : decode cX12_meetsAt 19 = .ok (.if_icmp .gt 39, 3) := by decide +kernel
theorem dX12_meetsAt_22 : decode cX12_meetsAt 22 = .ok (.iload 4, 2) := by decide +kernel
theorem dX12_meetsAt_24 : decode cX12_meetsAt 24 = .ok (.iconst (-1), 1) := by decide +kernel
theorem dX12_meetsAt_25 : decode cX12_meetsAt 25 = .ok (.if_icmp .ne 33, 3) := by decide +kernel
theorem dX12_meetsAt_28 : decode cX12_meetsAt 28 = .ok (.aload_n 0, 1) := by decide +kernel
theorem dX12_meetsAt_29 : decode cX12_meetsAt 29 = .ok (.getfield 7, 3) := by decide +kernel
theorem dX12_meetsAt_32 : decode cX12_meetsAt 32 = .ok (.sipush 168, 3) := by decide +kernel
theorem dX12_meetsAt_35 : decode cX12_meetsAt 35 = .ok (.iload 5, 2) := by decide +kernel
theorem dX12_meetsAt_37 : decode cX12_meetsAt 37 = .ok (.iastore, 1) := by decide +kernel
theorem dX12_meetsAt_38 : decode cX12_meetsAt 38 = .ok (.aload_n 0, 1) := by decide +kernel
theorem dX12_meetsAt_39 : decode cX12_meetsAt 39 = .ok (.iload_n 1, 1) := by decide +kernel
theorem dX12_meetsAt_40 : decode cX12_meetsAt 40 = .ok (.iload_n 2, 1) := by decide +kernel
theorem dX12_meetsAt_41 : decode cX12_meetsAt 41 = .ok (.invokevirtual 432, 3) := by decide +kernel
theorem dX12_meetsAt_44 : decode cX12_meetsAt 44 = .ok (.iconst 1, 1) := by decide +kernel
theorem dX12_meetsAt_45 : decode cX12_meetsAt 45 = .ok (.if_icmp .ne 7, 3) := by decide +kernel
theorem dX12_meetsAt_48 : decode cX12_meetsAt 48 = .ok (.iload 5, 2) := by decide +kernel
theorem dX12_meetsAt_50 : decode cX12_meetsAt 50 = .ok (.istore 4, 2) := by decide +kernel
theorem dX12_meetsAt_52 : decode cX12_meetsAt 52 = .ok (.iinc 5 1, 3) := by decide +kernel
theorem dX12_meetsAt_55 : decode cX12_meetsAt 55 = .ok (.goto (-40), 3) := by decide +kernel
theorem dX12_meetsAt_58 : decode cX12_meetsAt 58 = .ok (.aload_n 0, 1) := by decide +kernel
theorem dX12_meetsAt_59 : decode cX12_meetsAt 59 = .ok (.getfield 7, 3) := by decide +kernel
theorem dX12_meetsAt_62 : decode cX12_meetsAt 62 = .ok (.sipush 168, 3) := by decide +kernel
theorem dX12_meetsAt_65 : decode cX12_meetsAt 65 = .ok (.iload_n 3, 1) := by decide +kernel
theorem dX12_meetsAt_66 : decode cX12_meetsAt 66 = .ok (.iastore, 1) := by decide +kernel
theorem dX12_meetsAt_67 : decode cX12_meetsAt 67 = .ok (.iload 4, 2) := by decide +kernel
theorem dX12_meetsAt_69 : decode cX12_meetsAt 69 = .ok (.ireturn, 1) := by decide +kernel
theorem dX12_tightNow_0 : decode cX12_tightNow 0 = .ok (.aload_n 0, 1) := by decide +kernel
theorem dX12_tightNow_1 : decode cX12_tightNow 1 = .ok (.iload_n 1, 1) := by decide +kernel
theorem dX12_tightNow_2 : decode cX12_tightNow 2 = .ok (.invokevirtual 288, 3) := by decide +kernel
theorem dX12_tightNow_5 : decode cX12_tightNow 5 = .ok (.istore_n 2, 1) := by decide +kernel
theorem dX12_tightNow_6 : decode cX12_tightNow 6 = .ok (.aload_n 0, 1) := by decide +kernel
theorem dX12_tightNow_7 : decode cX12_tightNow 7 = .ok (.invokevirtual 308, 3) := by decide +kernel
theorem dX12_tightNow_10 : decode cX12_tightNow 10 = .ok (.lconst 0, 1) := by decide +kernel
theorem dX12_tightNow_11 : decode cX12_tightNow 11 = .ok (.lstore_n 3, 1) := by decide +kernel
theorem dX12_tightNow_12 : decode cX12_tightNow 12 = .ok (.iconst 0, 1) := by decide +kernel
theorem dX12_tightNow_13 : decode cX12_tightNow 13 = .ok (.istore 5, 2) := by decide +kernel
theorem dX12_tightNow_15 : decode cX12_tightNow 15 = .ok (.iload 5, 2) := by decide +kernel
theorem dX12_tightNow_17 : decode cX12_tightNow 17 = .ok (.aload_n 0, 1) := by decide +kernel
theorem dX12_tightNow_18 : decode cX12_tightNow 18 = .ok (.getfield 299, 3) := by decide +kernel
theorem dX12_tightNow_21 : decode cX12_tightNow 21 = .ok (.if_icmp .ge 26, 3) := by decide +kernel
theorem dX12_tightNow_24 : decode cX12_tightNow 24 = .ok (.lload_n 3, 1) := by decide +kernel
theorem dX12_tightNow_25 : decode cX12_tightNow 25 = .ok (.lconst 1, 1) := by decide +kernel
theorem dX12_tightNow_26 : decode cX12_tightNow 26 = .ok (.aload_n 0, 1) := by decide +kernel
theorem dX12_tightNow_27 : decode cX12_tightNow 27 = .ok (.getfield 39, 3) := by decide +kernel
theorem dX12_tightNow_30 : decode cX12_tightNow 30 = .ok (.aload_n 0, 1) := by decide +kernel
theorem dX12_tightNow_31 : decode cX12_tightNow 31 = .ok (.getfield 45, 3) := by decide +kernel
theorem dX12_tightNow_34 : decode cX12_tightNow 34 = .ok (.iload 5, 2) := by decide +kernel
theorem dX12_tightNow_36 : decode cX12_tightNow 36 = .ok (.iaload, 1) := by decide +kernel
theorem dX12_tightNow_37 : decode cX12_tightNow 37 = .ok (.iaload, 1) := by decide +kernel
theorem dX12_tightNow_38 : decode cX12_tightNow 38 = .ok (.lshl, 1) := by decide +kernel
theorem dX12_tightNow_39 : decode cX12_tightNow 39 = .ok (.lor, 1) := by decide +kernel
theorem dX12_tightNow_40 : decode cX12_tightNow 40 = .ok (.lstore_n 3, 1) := by decide +kernel
theorem dX12_tightNow_41 : decode cX12_tightNow 41 = .ok (.iinc 5 1, 3) := by decide +kernel
theorem dX12_tightNow_44 : decode cX12_tightNow 44 = .ok (.goto (-29), 3) := by decide +kernel
theorem dX12_tightNow_47 : decode cX12_tightNow 47 = .ok (.lload_n 3, 1) := by decide +kernel
theorem dX12_tightNow_48 : decode cX12_tightNow 48 = .ok (.lreturn, 1) := by decide +kernel
theorem dX12_changes_0 : decode cX12_changes 0 = .ok (.aload_n 0, 1) := by decide +kernel
theorem dX12_changes_1 : decode cX12_changes 1 = .ok (.iload_n 1, 1) := by decide +kernel
theorem dX12_changes_2 : decode cX12_changes 2 = .ok (.invokevirtual 173, 3) := by decide +kernel
theorem dX12_changes_5 : decode cX12_changes 5 = .ok (.ifCond .ne 5, 3) := by decide +kernel
theorem dX12_changes_8 : decode cX12_changes 8 = .ok (.iconst (-1), 1) := by decide +kernel
theorem dX12_changes_9 : decode cX12_changes 9 = .ok (.ireturn, 1) := by decide +kernel
theorem dX12_changes_10 : decode cX12_changes 10 = .ok (.aload_n 0, 1) := by decide +kernel
theorem dX12_changes_11 : decode cX12_changes 11 = .ok (.getfield 7, 3) := by decide +kernel
theorem dX12_changes_14 : decode cX12_changes 14 = .ok (.sipush 168, 3) := by decide +kernel
theorem dX12_changes_17 : decode cX12_changes 17 = .ok (.iaload, 1) := by decide +kernel
theorem dX12_changes_18 : decode cX12_changes 18 = .ok (.istore_n 2, 1) := by decide +kernel
theorem dX12_changes_19 : decode cX12_changes 19 = .ok (.iconst 0, 1) := by decide +kernel
theorem dX12_changes_20 : decode cX12_changes 20 = .ok (.istore_n 3, 1) := by decide +kernel
theorem dX12_changes_21 : decode cX12_changes 21 = .ok (.lconst 0, 1) := by decide +kernel
theorem dX12_changes_22 : decode cX12_changes 22 = .ok (.lstore 4, 2) := by decide +kernel
theorem dX12_changes_24 : decode cX12_changes 24 = .ok (.iconst 0, 1) := by decide +kernel
theorem dX12_changes_25 : decode cX12_changes 25 = .ok (.istore 6, 2) := by decide +kernel
theorem dX12_changes_27 : decode cX12_changes 27 = .ok (.iload 6, 2) := by decide +kernel
theorem dX12_changes_29 : decode cX12_changes 29 = .ok (.bipush 20, 2) := by decide +kernel
theorem dX12_changes_31 : decode cX12_changes 31 = .ok (.if_icmp .gt 51, 3) := by decide +kernel
theorem dX12_changes_34 : decode cX12_changes 34 = .ok (.aload_n 0, 1) := by decide +kernel
theorem dX12_changes_35 : decode cX12_changes 35 = .ok (.getfield 7, 3) := by decide +kernel
theorem dX12_changes_38 : decode cX12_changes 38 = .ok (.sipush 168, 3) := by decide +kernel
theorem dX12_changes_41 : decode cX12_changes 41 = .ok (.iload 6, 2) := by decide +kernel
theorem dX12_changes_43 : decode cX12_changes 43 = .ok (.iastore, 1) := by decide +kernel
theorem dX12_changes_44 : decode cX12_changes 44 = .ok (.aload_n 0, 1) := by decide +kernel
theorem dX12_changes_45 : decode cX12_changes 45 = .ok (.iload_n 1, 1) := by decide +kernel
theorem dX12_changes_46 : decode cX12_changes 46 = .ok (.invokevirtual 435, 3) := by decide +kernel
theorem dX12_changes_49 : decode cX12_changes 49 = .ok (.lstore 7, 2) := by decide +kernel
theorem dX12_changes_51 : decode cX12_changes 51 = .ok (.iload_n 3, 1) := by decide +kernel
theorem dX12_changes_52 : decode cX12_changes 52 = .ok (.iload 6, 2) := by decide +kernel
theorem dX12_changes_54 : decode cX12_changes 54 = .ok (.ifCond .le 15, 3) := by decide +kernel
theorem dX12_changes_57 : decode cX12_changes 57 = .ok (.lload 7, 2) := by decide +kernel
theorem dX12_changes_59 : decode cX12_changes 59 = .ok (.lload 4, 2) := by decide +kernel
theorem dX12_changes_61 : decode cX12_changes 61 = .ok (.lcmp, 1) := by decide +kernel
theorem dX12_changes_62 : decode cX12_changes 62 = .ok (.ifCond .eq 7, 3) := by decide +kernel
theorem dX12_changes_65 : decode cX12_changes 65 = .ok (.iconst 1, 1) := by decide +kernel
theorem dX12_changes_66 : decode cX12_changes 66 = .ok (.goto 4, 3) := by decide +kernel
theorem dX12_changes_69 : decode cX12_changes 69 = .ok (.iconst 0, 1) := by decide +kernel
theorem dX12_changes_70 : decode cX12_changes 70 = .ok (.iadd, 1) := by decide +kernel
theorem dX12_changes_71 : decode cX12_changes 71 = .ok (.istore_n 3, 1) := by decide +kernel
theorem dX12_changes_72 : decode cX12_changes 72 = .ok (.lload 7, 2) := by decide +kernel
theorem dX12_changes_74 : decode cX12_changes 74 = .ok (.lstore 4, 2) := by decide +kernel
theorem dX12_changes_76 : decode cX12_changes 76 = .ok (.iinc 6 1, 3) := by decide +kernel
theorem dX12_changes_79 : decode cX12_changes 79 = .ok (.goto (-52), 3) := by decide +kernel
theorem dX12_changes_82 : decode cX12_changes 82 = .ok (.aload_n 0, 1) := by decide +kernel
theorem dX12_changes_83 : decode cX12_changes 83 = .ok (.getfield 7, 3) := by decide +kernel
theorem dX12_changes_86 : decode cX12_changes 86 = .ok (.sipush 168, 3) := by decide +kernel
theorem dX12_changes_89 : decode cX12_changes 89 = .ok (.iload_n 2, 1) := by decide +kernel
theorem dX12_changes_90 : decode cX12_changes 90 = .ok (.iastore, 1) := by decide +kernel
theorem dX12_changes_91 : decode cX12_changes 91 = .ok (.iload_n 3, 1) := by decide +kernel
theorem dX12_changes_92 : decode cX12_changes 92 = .ok (.ireturn, 1) := by decide +kernel
theorem dX12_lay__0 : decode cX12_lay_ 0 = .ok (.aload_n 0, 1) := by decide +kernel
theorem dX12_lay__1 : decode cX12_lay_ 1 = .ok (.getfield 70, 3) := by decide +kernel
theorem dX12_lay__4 : decode cX12_lay_ 4 = .ok (.aload_n 0, 1) := by decide +kernel
theorem dX12_lay__5 : decode cX12_lay_ 5 = .ok (.getfield 438, 3) := by decide +kernel
theorem dX12_lay__8 : decode cX12_lay_ 8 = .ok (.iload_n 1, 1) := by decide +kernel
theorem dX12_lay__9 : decode cX12_lay_ 9 = .ok (.i2b, 1) := by decide +kernel
theorem dX12_lay__10 : decode cX12_lay_ 10 = .ok (.bastore, 1) := by decide +kernel
theorem dX12_lay__11 : decode cX12_lay_ 11 = .ok (.aload_n 0, 1) := by decide +kernel
theorem dX12_lay__12 : decode cX12_lay_ 12 = .ok (.dup, 1) := by decide +kernel
theorem dX12_lay__13 : decode cX12_lay_ 13 = .ok (.getfield 438, 3) := by decide +kernel
theorem dX12_lay__16 : decode cX12_lay_ 16 = .ok (.iconst 1, 1) := by decide +kernel
theorem dX12_lay__17 : decode cX12_lay_ 17 = .ok (.iadd, 1) := by decide +kernel
theorem dX12_lay__18 : decode cX12_lay_ 18 = .ok (.putfield 438, 3) := by decide +kernel
theorem dX12_lay__21 : decode cX12_lay_ 21 = .ok (.return_, 1) := by decide +kernel
theorem dX12_layNumber_0 : decode cX12_layNumber 0 = .ok (.iload_n 1, 1) := by decide +kernel
theorem dX12_layNumber_1 : decode cX12_layNumber 1 = .ok (.ifCond .ge 9, 3) := by decide +kernel
theorem dX12_layNumber_4 : decode cX12_layNumber 4 = .ok (.aload_n 0, 1) := by decide +kernel
theorem dX12_layNumber_5 : decode cX12_layNumber 5 = .ok (.bipush 45, 2) := by decide +kernel
theorem dX12_layNumber_7 : decode cX12_layNumber 7 = .ok (.invokevirtual 441, 3) := by decide +kernel
theorem dX12_layNumber_10 : decode cX12_layNumber 10 = .ok (.iload_n 1, 1) := by decide +kernel
theorem dX12_layNumber_11 : decode cX12_layNumber 11 = .ok (.ifCond .ge 8, 3) := by decide +kernel
theorem dX12_layNumber_14 : decode cX12_layNumber 14 = .ok (.iload_n 1, 1) := by decide +kernel
theorem dX12_layNumber_15 : decode cX12_layNumber 15 = .ok (.ineg, 1) := by decide +kernel
theorem dX12_layNumber_16 : decode cX12_layNumber 16 = .ok (.goto 4, 3) := by decide +kernel
theorem dX12_layNumber_19 : decode cX12_layNumber 19 = .ok (.iload_n 1, 1) := by decide +kernel
theorem dX12_layNumber_20 : decode cX12_layNumber 20 = .ok (.istore_n 2, 1) := by decide +kernel
theorem dX12_layNumber_21 : decode cX12_layNumber 21 = .ok (.iload_n 2, 1) := by decide +kernel
theorem dX12_layNumber_22 : decode cX12_layNumber 22 = .ok (.bipush 99, 2) := by decide +kernel
theorem dX12_layNumber_24 : decode cX12_layNumber 24 = .ok (.if_icmp .le 14, 3) := by decide +kernel
theorem dX12_layNumber_27 : decode cX12_layNumber 27 = .ok (.aload_n 0, 1) := by decide +kernel
theorem dX12_layNumber_28 : decode cX12_layNumber 28 = .ok (.bipush 48, 2) := by decide +kernel
theorem dX12_layNumber_30 : decode cX12_layNumber 30 = .ok (.iload_n 2, 1) := by decide +kernel
theorem dX12_layNumber_31 : decode cX12_layNumber 31 = .ok (.bipush 100, 2) := by decide +kernel
theorem dX12_layNumber_33 : decode cX12_layNumber 33 = .ok (.idiv, 1) := by decide +kernel
theorem dX12_layNumber_34 : decode cX12_layNumber 34 = .ok (.iadd, 1) := by decide +kernel
theorem dX12_layNumber_35 : decode cX12_layNumber 35 = .ok (.invokevirtual 441, 3) := by decide +kernel
theorem dX12_layNumber_38 : decode cX12_layNumber 38 = .ok (.iload_n 2, 1) := by decide +kernel
theorem dX12_layNumber_39 : decode cX12_layNumber 39 = .ok (.bipush 9, 2) := by decide +kernel
theorem dX12_layNumber_41 : decode cX12_layNumber 41 = .ok (.if_icmp .le 17, 3) := by decide +kernel
theorem dX12_layNumber_44 : decode cX12_layNumber 44 = .ok (.aload_n 0, 1) := by decide +kernel
theorem dX12_layNumber_45 : decode cX12_layNumber 45 = .ok (.bipush 48, 2) := by decide +kernel
theorem dX12_layNumber_47 : decode cX12_layNumber 47 = .ok (.iload_n 2, 1) := by decide +kernel
theorem dX12_layNumber_48 : decode cX12_layNumber 48 = .ok (.bipush 10, 2) := by decide +kernel
theorem dX12_layNumber_50 : decode cX12_layNumber 50 = .ok (.idiv, 1) := by decide +kernel
theorem dX12_layNumber_51 : decode cX12_layNumber 51 = .ok (.bipush 10, 2) := by decide +kernel
theorem dX12_layNumber_53 : decode cX12_layNumber 53 = .ok (.irem, 1) := by decide +kernel
theorem dX12_layNumber_54 : decode cX12_layNumber 54 = .ok (.iadd, 1) := by decide +kernel
theorem dX12_layNumber_55 : decode cX12_layNumber 55 = .ok (.invokevirtual 441, 3) := by decide +kernel
theorem dX12_layNumber_58 : decode cX12_layNumber 58 = .ok (.aload_n 0, 1) := by decide +kernel
theorem dX12_layNumber_59 : decode cX12_layNumber 59 = .ok (.bipush 48, 2) := by decide +kernel
theorem dX12_layNumber_61 : decode cX12_layNumber 61 = .ok (.iload_n 2, 1) := by decide +kernel
theorem dX12_layNumber_62 : decode cX12_layNumber 62 = .ok (.bipush 10, 2) := by decide +kernel
theorem dX12_layNumber_64 : decode cX12_layNumber 64 = .ok (.irem, 1) := by decide +kernel
theorem dX12_layNumber_65 : decode cX12_layNumber 65 = .ok (.iadd, 1) := by decide +kernel
theorem dX12_layNumber_66 : decode cX12_layNumber 66 = .ok (.invokevirtual 441, 3) := by decide +kernel
theorem dX12_layNumber_69 : decode cX12_layNumber 69 = .ok (.return_, 1) := by decide +kernel
theorem dX12_write_0 : decode cX12_write 0 = .ok (.aload_n 0, 1) := by decide +kernel
theorem dX12_write_1 : decode cX12_write 1 = .ok (.iload_n 1, 1) := by decide +kernel
theorem dX12_write_2 : decode cX12_write 2 = .ok (.invokevirtual 326, 3) := by decide +kernel
theorem dX12_write_5 : decode cX12_write 5 = .ok (.ifCond .ne 5, 3) := by decide +kernel
theorem dX12_write_8 : decode cX12_write 8 = .ok (.iconst (-1), 1) := by decide +kernel
theorem dX12_write_9 : decode cX12_write 9 = .ok (.ireturn, 1) := by decide +kernel
theorem dX12_write_10 : decode cX12_write 10 = .ok (.aload_n 0, 1) := by decide +kernel
theorem dX12_write_11 : decode cX12_write 11 = .ok (.iconst 0, 1) := by decide +kernel
theorem dX12_write_12 : decode cX12_write 12 = .ok (.putfield 438, 3) := by decide +kernel
theorem dX12_write_15 : decode cX12_write 15 = .ok (.iconst 0, 1) := by decide +kernel
theorem dX12_write_16 : decode cX12_write 16 = .ok (.istore_n 2, 1) := by decide +kernel
theorem dX12_write_17 : decode cX12_write 17 = .ok (.iload_n 2, 1) := by decide +kernel
theorem dX12_write_18 : decode cX12_write 18 = .ok (.aload_n 0, 1) := by decide +kernel
theorem dX12_write_19 : decode cX12_write 19 = .ok (.getfield 320, 3) := by decide +kernel
theorem dX12_write_22 : decode cX12_write 22 = .ok (.if_icmp .ge 51, 3) := by decide +kernel
theorem dX12_write_25 : decode cX12_write 25 = .ok (.aload_n 0, 1) := by decide +kernel
theorem dX12_write_26 : decode cX12_write 26 = .ok (.aload_n 0, 1) := by decide +kernel
theorem dX12_write_27 : decode cX12_write 27 = .ok (.getfield 33, 3) := by decide +kernel
theorem dX12_write_30 : decode cX12_write 30 = .ok (.aload_n 0, 1) := by decide +kernel
theorem dX12_write_31 : decode cX12_write 31 = .ok (.getfield 54, 3) := by decide +kernel
theorem dX12_write_34 : decode cX12_write 34 = .ok (.iload_n 2, 1) := by decide +kernel
theorem dX12_write_35 : decode cX12_write 35 = .ok (.iaload, 1) := by decide +kernel
theorem dX12_write_36 : decode cX12_write 36 = .ok (.iaload, 1) := by decide +kernel
theorem dX12_write_37 : decode cX12_write 37 = .ok (.invokevirtual 443, 3) := by decide +kernel
theorem dX12_write_40 : decode cX12_write 40 = .ok (.aload_n 0, 1) := by decide +kernel
theorem dX12_write_41 : decode cX12_write 41 = .ok (.bipush 44, 2) := by decide +kernel
theorem dX12_write_43 : decode cX12_write 43 = .ok (.invokevirtual 441, 3) := by decide +kernel
theorem dX12_write_46 : decode cX12_write 46 = .ok (.aload_n 0, 1) := by decide +kernel
theorem dX12_write_47 : decode cX12_write 47 = .ok (.aload_n 0, 1) := by decide +kernel
theorem dX12_write_48 : decode cX12_write 48 = .ok (.getfield 36, 3) := by decide +kernel
theorem dX12_write_51 : decode cX12_write 51 = .ok (.aload_n 0, 1) := by decide +kernel
theorem dX12_write_52 : decode cX12_write 52 = .ok (.getfield 54, 3) := by decide +kernel
theorem dX12_write_55 : decode cX12_write 55 = .ok (.iload_n 2, 1) := by decide +kernel
theorem dX12_write_56 : decode cX12_write 56 = .ok (.iaload, 1) := by decide +kernel
theorem dX12_write_57 : decode cX12_write 57 = .ok (.iaload, 1) := by decide +kernel
theorem dX12_write_58 : decode cX12_write 58 = .ok (.invokevirtual 443, 3) := by decide +kernel
theorem dX12_write_61 : decode cX12_write 61 = .ok (.aload_n 0, 1) := by decide +kernel
theorem dX12_write_62 : decode cX12_write 62 = .ok (.bipush 59, 2) := by decide +kernel
theorem dX12_write_64 : decode cX12_write 64 = .ok (.invokevirtual 441, 3) := by decide +kernel
theorem dX12_write_67 : decode cX12_write 67 = .ok (.iinc 2 1, 3) := by decide +kernel
theorem dX12_write_70 : decode cX12_write 70 = .ok (.goto (-53), 3) := by decide +kernel
theorem dX12_write_73 : decode cX12_write 73 = .ok (.aload_n 0, 1) := by decide +kernel
theorem dX12_write_74 : decode cX12_write 74 = .ok (.getfield 438, 3) := by decide +kernel
theorem dX12_write_77 : decode cX12_write 77 = .ok (.ireturn, 1) := by decide +kernel
theorem dX12_octet_0 : decode cX12_octet 0 = .ok (.iload_n 1, 1) := by decide +kernel
theorem dX12_octet_1 : decode cX12_octet 1 = .ok (.iconst 0, 1) := by decide +kernel
theorem dX12_octet_2 : decode cX12_octet 2 = .ok (.aload_n 0, 1) := by decide +kernel
theorem dX12_octet_3 : decode cX12_octet 3 = .ok (.getfield 438, 3) := by decide +kernel
theorem dX12_octet_6 : decode cX12_octet 6 = .ok (.iconst 1, 1) := by decide +kernel
theorem dX12_octet_7 : decode cX12_octet 7 = .ok (.isub, 1) := by decide +kernel
theorem dX12_octet_8 : decode cX12_octet 8 = .ok (.invokestatic 76, 3) := by decide +kernel
theorem dX12_octet_11 : decode cX12_octet 11 = .ok (.ifCond .eq 12, 3) := by decide +kernel
theorem dX12_octet_14 : decode cX12_octet 14 = .ok (.aload_n 0, 1) := by decide +kernel
theorem dX12_octet_15 : decode cX12_octet 15 = .ok (.getfield 70, 3) := by decide +kernel
theorem dX12_octet_18 : decode cX12_octet 18 = .ok (.iload_n 1, 1) := by decide +kernel
theorem dX12_octet_19 : decode cX12_octet 19 = .ok (.baload, 1) := by decide +kernel
theorem dX12_octet_20 : decode cX12_octet 20 = .ok (.goto 4, 3) := by decide +kernel
theorem dX12_octet_23 : decode cX12_octet 23 = .ok (.iconst (-1), 1) := by decide +kernel
theorem dX12_octet_24 : decode cX12_octet 24 = .ok (.ireturn, 1) := by decide +kernel
