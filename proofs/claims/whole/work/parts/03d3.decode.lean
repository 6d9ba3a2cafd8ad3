theorem dX9_init_145 : decode cX9_init 145 = .ok (.newarray .int, 2) := by decide +kernel
theorem dX9_init_147 : decode cX9_init 147 = .ok (.putfield 74, 3) := by decide +kernel
theorem dX9_init_150 : decode cX9_init 150 = .ok (.aload_n 0, 1) := by decide +kernel
theorem dX9_init_151 : decode cX9_init 151 = .ok (.sipush 300, 3) := by decide +kernel
theorem dX9_init_154 : decode cX9_init 154 = .ok (.newarray .boolean, 2) := by decide +kernel
theorem dX9_init_156 : decode cX9_init 156 = .ok (.putfield 77, 3) := by decide +kernel
theorem dX9_init_159 : decode cX9_init 159 = .ok (.aload_n 0, 1) := by decide +kernel
theorem dX9_init_160 : decode cX9_init 160 = .ok (.sipush 300, 3) := by decide +kernel
theorem dX9_init_163 : decode cX9_init 163 = .ok (.newarray .int, 2) := by decide +kernel
theorem dX9_init_165 : decode cX9_init 165 = .ok (.putfield 80, 3) := by decide +kernel
theorem dX9_init_168 : decode cX9_init 168 = .ok (.aload_n 0, 1) := by decide +kernel
theorem dX9_init_169 : decode cX9_init 169 = .ok (.ldc 73, 2) := by decide +kernel
theorem dX9_init_171 : decode cX9_init 171 = .ok (.newarray .int, 2) := by decide +kernel
theorem dX9_init_173 : decode cX9_init 173 = .ok (.putfield 83, 3) := by decide +kernel
theorem dX9_init_176 : decode cX9_init 176 = .ok (.aload_n 0, 1) := by decide +kernel
theorem dX9_init_177 : decode cX9_init 177 = .ok (.sipush 300, 3) := by decide +kernel
theorem dX9_init_180 : decode cX9_init 180 = .ok (.newarray .int, 2) := by decide +kernel
theorem dX9_init_182 : decode cX9_init 182 = .ok (.putfield 86, 3) := by decide +kernel
theorem dX9_init_185 : decode cX9_init 185 = .ok (.aload_n 0, 1) := by decide +kernel
theorem dX9_init_186 : decode cX9_init 186 = .ok (.sipush 300, 3) := by decide +kernel
theorem dX9_init_189 : decode cX9_init 189 = .ok (.newarray .int, 2) := by decide +kernel
theorem dX9_init_191 : decode cX9_init 191 = .ok (.putfield 89, 3) := by decide +kernel
theorem dX9_init_194 : decode cX9_init 194 = .ok (.aload_n 0, 1) := by decide +kernel
theorem dX9_init_195 : decode cX9_init 195 = .ok (.sipush 300, 3) := by decide +kernel
theorem dX9_init_198 : decode cX9_init 198 = .ok (.newarray .int, 2) := by decide +kernel
theorem dX9_init_200 : decode cX9_init 200 = .ok (.putfield 92, 3) := by decide +kernel
theorem dX9_init_203 : decode cX9_init 203 = .ok (.aload_n 0, 1) := by decide +kernel
theorem dX9_init_204 : decode cX9_init 204 = .ok (.sipush 300, 3) := by decide +kernel
theorem dX9_init_207 : decode cX9_init 207 = .ok (.newarray .int, 2) := by decide +kernel
theorem dX9_init_209 : decode cX9_init 209 = .ok (.putfield 95, 3) := by decide +kernel
theorem dX9_init_212 : decode cX9_init 212 = .ok (.aload_n 0, 1) := by decide +kernel
theorem dX9_init_213 : decode cX9_init 213 = .ok (.sipush 300, 3) := by decide +kernel
theorem dX9_init_216 : decode cX9_init 216 = .ok (.newarray .boolean, 2) := by decide +kernel
theorem dX9_init_218 : decode cX9_init 218 = .ok (.putfield 98, 3) := by decide +kernel
theorem dX9_init_221 : decode cX9_init 221 = .ok (.aload_n 0, 1) := by decide +kernel
theorem dX9_init_222 : decode cX9_init 222 = .ok (.sipush 300, 3) := by decide +kernel
theorem dX9_init_225 : decode cX9_init 225 = .ok (.newarray .boolean, 2) := by decide +kernel
theorem dX9_init_227 : decode cX9_init 227 = .ok (.putfield 101, 3) := by decide +kernel
theorem dX9_init_230 : decode cX9_init 230 = .ok (.aload_n 0, 1) := by decide +kernel
theorem dX9_init_231 : decode cX9_init 231 = .ok (.sipush 300, 3) := by decide +kernel
theorem dX9_init_234 : decode cX9_init 234 = .ok (.newarray .boolean, 2) := by decide +kernel
theorem dX9_init_236 : decode cX9_init 236 = .ok (.putfield 104, 3) := by decide +kernel
theorem dX9_init_239 : decode cX9_init 239 = .ok (.aload_n 0, 1) := by decide +kernel
theorem dX9_init_240 : decode cX9_init 240 = .ok (.sipush 300, 3) := by decide +kernel
theorem dX9_init_243 : decode cX9_init 243 = .ok (.newarray .boolean, 2) := by decide +kernel
theorem dX9_init_245 : decode cX9_init 245 = .ok (.putfield 107, 3) := by decide +kernel
theorem dX9_init_248 : decode cX9_init 248 = .ok (.aload_n 0, 1) := by decide +kernel
theorem dX9_init_249 : decode cX9_init 249 = .ok (.bipush 100, 2) := by decide +kernel
theorem dX9_init_251 : decode cX9_init 251 = .ok (.putfield 110, 3) := by decide +kernel
theorem dX9_init_254 : decode cX9_init 254 = .ok (.aload_n 0, 1) := by decide +kernel
theorem dX9_init_255 : decode cX9_init 255 = .ok (.sipush 400, 3) := by decide +kernel
theorem dX9_init_258 : decode cX9_init 258 = .ok (.putfield 113, 3) := by decide +kernel
theorem dX9_init_261 : decode cX9_init 261 = .ok (.aload_n 0, 1) := by decide +kernel
theorem dX9_init_262 : decode cX9_init 262 = .ok (.bipush 8, 2) := by decide +kernel
theorem dX9_init_264 : decode cX9_init 264 = .ok (.putfield 116, 3) := by decide +kernel
theorem dX9_init_267 : decode cX9_init 267 = .ok (.return_, 1) := by decide +kernel
theorem dX9_isLetter_0 : decode cX9_isLetter 0 = .ok (.iload_n 0, 1) := by decide +kernel
theorem dX9_isLetter_1 : decode cX9_isLetter 1 = .ok (.bipush 97, 2) := by decide +kernel
theorem dX9_isLetter_3 : decode cX9_isLetter 3 = .ok (.if_icmp .lt 13, 3) := by decide +kernel
theorem dX9_isLetter_6 : decode cX9_isLetter 6 = .ok (.iload_n 0, 1) := by decide +kernel
theorem dX9_isLetter_7 : decode cX9_isLetter 7 = .ok (.bipush 122, 2) := by decide +kernel
theorem dX9_isLetter_9 : decode cX9_isLetter 9 = .ok (.if_icmp .gt 7, 3) := by decide +kernel
theorem dX9_isLetter_12 : decode cX9_isLetter 12 = .ok (.iconst 1, 1) := by decide +kernel
theorem dX9_isLetter_13 : decode cX9_isLetter 13 = .ok (.goto 4, 3) := by decide +kernel
theorem dX9_isLetter_16 : decode cX9_isLetter 16 = .ok (.iconst 0, 1) := by decide +kernel
theorem dX9_isLetter_17 : decode cX9_isLetter 17 = .ok (.ireturn, 1) := by decide +kernel
theorem dX9_isDigit_0 : decode cX9_isDigit 0 = .ok (.iload_n 0, 1) := by decide +kernel
theorem dX9_isDigit_1 : decode cX9_isDigit 1 = .ok (.bipush 48, 2) := by decide +kernel
theorem dX9_isDigit_3 : decode cX9_isDigit 3 = .ok (.if_icmp .lt 13, 3) := by decide +kernel
theorem dX9_isDigit_6 : decode cX9_isDigit 6 = .ok (.iload_n 0, 1) := by decide +kernel
theorem dX9_isDigit_7 : decode cX9_isDigit 7 = .ok (.bipush 57, 2) := by decide +kernel
theorem dX9_isDigit_9 : decode cX9_isDigit 9 = .ok (.if_icmp .gt 7, 3) := by decide +kernel
theorem dX9_isDigit_12 : decode cX9_isDigit 12 = .ok (.iconst 1, 1) := by decide +kernel
theorem dX9_isDigit_13 : decode cX9_isDigit 13 = .ok (.goto 4, 3) := by decide +kernel
theorem dX9_isDigit_16 : decode cX9_isDigit 16 = .ok (.iconst 0, 1) := by decide +kernel
theorem dX9_isDigit_17 : decode cX9_isDigit 17 = .ok (.ireturn, 1) := by decide +kernel
theorem dX9_rank_0 : decode cX9_rank 0 = .ok (.iload_n 0, 1) := by decide +kernel
theorem dX9_rank_1 : decode cX9_rank 1 = .ok (.invokestatic 119, 3) := by decide +kernel
theorem dX9_rank_4 : decode cX9_rank 4 = .ok (.ifCond .eq 10, 3) := by decide +kernel
theorem dX9_rank_7 : decode cX9_rank 7 = .ok (.iload_n 0, 1) := by decide +kernel
theorem dX9_rank_8 : decode cX9_rank 8 = .ok (.bipush 96, 2) := by decide +kernel
theorem dX9_rank_10 : decode cX9_rank 10 = .ok (.isub, 1) := by decide +kernel
theorem dX9_rank_11 : decode cX9_rank 11 = .ok (.goto 7, 3) := by decide +kernel
theorem dX9_rank_14 : decode cX9_rank 14 = .ok (.iload_n 0, 1) := by decide +kernel
theorem dX9_rank_15 : decode cX9_rank 15 = .ok (.bipush 21, 2) := by decide +kernel
theorem dX9_rank_17 : decode cX9_rank 17 = .ok (.isub, 1) := by decide +kernel
theorem dX9_rank_18 : decode cX9_rank 18 = .ok (.ireturn, 1) := by decide +kernel
theorem dX9_isSignOf_0 : decode cX9_isSignOf 0 = .ok (.iload_n 0, 1) := by decide +kernel
theorem dX9_isSignOf_1 : decode cX9_isSignOf 1 = .ok (.bipush 59, 2) := by decide +kernel
theorem dX9_isSignOf_3 : decode cX9_isSignOf 3 = .ok (.if_icmp .eq 15, 3) := by decide +kernel
theorem dX9_isSignOf_6 : decode cX9_isSignOf 6 = .ok (.iload_n 0, 1) := by decide +kernel
theorem dX9_isSignOf_7 : decode cX9_isSignOf 7 = .ok (.bipush 43, 2) := by decide +kernel
theorem dX9_isSignOf_9 : decode cX9_isSignOf 9 = .ok (.if_icmp .eq 9, 3) := by decide +kernel
theorem dX9_isSignOf_12 : decode cX9_isSignOf 12 = .ok (.iload_n 0, 1) := by decide +kernel
theorem dX9_isSignOf_13 : decode cX9_isSignOf 13 = .ok (.bipush 45, 2) := by decide +kernel
theorem dX9_isSignOf_15 : decode cX9_isSignOf 15 = .ok (.if_icmp .ne 7, 3) := by decide +kernel
theorem dX9_isSignOf_18 : decode cX9_isSignOf 18 = .ok (.iconst 1, 1) := by decide +kernel
theorem dX9_isSignOf_19 : decode cX9_isSignOf 19 = .ok (.goto 4, 3) := by decide +kernel
theorem dX9_isSignOf_22 : decode cX9_isSignOf 22 = .ok (.iconst 0, 1) := by decide +kernel
theorem dX9_isSignOf_23 : decode cX9_isSignOf 23 = .ok (.ireturn, 1) := by decide +kernel
theorem dX9_cutAll_0 : decode cX9_cutAll 0 = .ok (.aload_n 0, 1) := by decide +kernel
theorem dX9_cutAll_1 : decode cX9_cutAll 1 = .ok (.aload_n 0, 1) := by decide +kernel
theorem dX9_cutAll_2 : decode cX9_cutAll 2 = .ok (.getfield 11, 3) := by decide +kernel
theorem dX9_cutAll_5 : decode cX9_cutAll 5 = .ok (.putfield 123, 3) := by decide +kernel
theorem dX9_cutAll_8 : decode cX9_cutAll 8 = .ok (.aload_n 0, 1) := by decide +kernel
theorem dX9_cutAll_9 : decode cX9_cutAll 9 = .ok (.iconst 0, 1) := by decide +kernel
theorem dX9_cutAll_10 : decode cX9_cutAll 10 = .ok (.putfield 11, 3) := by decide +kernel
theorem dX9_cutAll_13 : decode cX9_cutAll 13 = .ok (.iconst 0, 1) := by decide +kernel
theorem dX9_cutAll_14 : decode cX9_cutAll 14 = .ok (.istore_n 1, 1) := by decide +kernel
theorem dX9_cutAll_15 : decode cX9_cutAll 15 = .ok (.iconst 0, 1) := by decide +kernel
theorem dX9_cutAll_16 : decode cX9_cutAll 16 = .ok (.istore_n 2, 1) := by decide +kernel
theorem dX9_cutAll_17 : decode cX9_cutAll 17 = .ok (.iload_n 2, 1) := by decide +kernel
theorem dX9_cutAll_18 : decode cX9_cutAll 18 = .ok (.aload_n 0, 1) := by decide +kernel
theorem dX9_cutAll_19 : decode cX9_cutAll 19 = .ok (.getfield 123, 3) := by decide +kernel
theorem dX9_cutAll_22 : decode cX9_cutAll 22 = .ok (.if_icmp .ge 257, 3) := by decide +kernel
theorem dX9_cutAll_25 : decode cX9_cutAll 25 = .ok (.aload_n 0, 1) := by decide +kernel
theorem dX9_cutAll_26 : decode cX9_cutAll 26 = .ok (.getfield 14, 3) := by decide +kernel
theorem dX9_cutAll_29 : decode cX9_cutAll 29 = .ok (.iload_n 2, 1) := by decide +kernel
theorem dX9_cutAll_30 : decode cX9_cutAll 30 = .ok (.iaload, 1) := by decide +kernel
theorem dX9_cutAll_31 : decode cX9_cutAll 31 = .ok (.istore_n 3, 1) := by decide +kernel
theorem dX9_cutAll_32 : decode cX9_cutAll 32 = .ok (.iload_n 3, 1) := by decide +kernel
theorem dX9_cutAll_33 : decode cX9_cutAll 33 = .ok (.bipush 10, 2) := by decide +kernel
theorem dX9_cutAll_35 : decode cX9_cutAll 35 = .ok (.if_icmp .eq 9, 3) := by decide +kernel
theorem dX9_cutAll_38 : decode cX9_cutAll 38 = .ok (.iload_n 3, 1) := by decide +kernel
theorem dX9_cutAll_39 : decode cX9_cutAll 39 = .ok (.bipush 32, 2) := by decide +kernel
theorem dX9_cutAll_41 : decode cX9_cutAll 41 = .ok (.if_icmp .ne 9, 3) := by decide +kernel
theorem dX9_cutAll_44 : decode cX9_cutAll 44 = .ok (.iinc 2 1, 3) := by decide +kernel
theorem dX9_cutAll_47 : decode cX9_cutAll 47 = .ok (.goto (-30), 3) := by decide +kernel
theorem dX9_cutAll_50 : decode cX9_cutAll 50 = .ok (.iload_n 2, 1) := by decide +kernel
theorem dX9_cutAll_51 : decode cX9_cutAll 51 = .ok (.istore 4, 2) := by decide +kernel
theorem dX9_cutAll_53 : decode cX9_cutAll 53 = .ok (.lconst 0, 1) := by decide +kernel
theorem dX9_cutAll_54 : decode cX9_cutAll 54 = .ok (.lstore 5, 2) := by decide +kernel
theorem dX9_cutAll_56 : decode cX9_cutAll 56 = .ok (.aload_n 0, 1) := by decide +kernel
theorem dX9_cutAll_57 : decode cX9_cutAll 57 = .ok (.getfield 27, 3) := by decide +kernel
theorem dX9_cutAll_60 : decode cX9_cutAll 60 = .ok (.iload_n 1, 1) := by decide +kernel
theorem dX9_cutAll_61 : decode cX9_cutAll 61 = .ok (.iload_n 2, 1) := by decide +kernel
theorem dX9_cutAll_62 : decode cX9_cutAll 62 = .ok (.iastore, 1) := by decide +kernel
theorem dX9_cutAll_63 : decode cX9_cutAll 63 = .ok (.iload_n 3, 1) := by decide +kernel
theorem dX9_cutAll_64 : decode cX9_cutAll 64 = .ok (.invokestatic 119, 3) := by decide +kernel
theorem dX9_cutAll_67 : decode cX9_cutAll 67 = .ok (.ifCond .eq 85, 3) := by decide +kernel
theorem dX9_cutAll_70 : decode cX9_cutAll 70 = .ok (.iload_n 2, 1) := by decide +kernel
theorem dX9_cutAll_71 : decode cX9_cutAll 71 = .ok (.aload_n 0, 1) := by decide +kernel
theorem dX9_cutAll_72 : decode cX9_cutAll 72 = .ok (.getfield 123, 3) := by decide +kernel
theorem dX9_cutAll_75 : decode cX9_cutAll 75 = .ok (.if_icmp .ge 54, 3) := by decide +kernel
theorem dX9_cutAll_78 : decode cX9_cutAll 78 = .ok (.aload_n 0, 1) := by decide +kernel
theorem dX9_cutAll_79 : decode cX9_cutAll 79 = .ok (.getfield 14, 3) := by decide +kernel
theorem dX9_cutAll_82 : decode cX9_cutAll 82 = .ok (.iload_n 2, 1) := by decide +kernel
theorem dX9_cutAll_83 : decode cX9_cutAll 83 = .ok (.iaload, 1) := by decide +kernel
theorem dX9_cutAll_84 : decode cX9_cutAll 84 = .ok (.invokestatic 119, 3) := by decide +kernel
theorem dX9_cutAll_87 : decode cX9_cutAll 87 = .ok (.ifCond .eq 42, 3) := by decide +kernel
theorem dX9_cutAll_90 : decode cX9_cutAll 90 = .ok (.iload_n 2, 1) := by decide +kernel
theorem dX9_cutAll_91 : decode cX9_cutAll 91 = .ok (.iload 4, 2) := by decide +kernel
theorem dX9_cutAll_93 : decode cX9_cutAll 93 = .ok (.isub, 1) := by decide +kernel
theorem dX9_cutAll_94 : decode cX9_cutAll 94 = .ok (.bipush 8, 2) := by decide +kernel
theorem dX9_cutAll_96 : decode cX9_cutAll 96 = .ok (.if_icmp .ge 23, 3) := by decide +kernel
theorem dX9_cutAll_99 : decode cX9_cutAll 99 = .ok (.ldc2_w 126, 3) := by decide +kernel
theorem dX9_cutAll_102 : decode cX9_cutAll 102 = .ok (.lload 5, 2) := by decide +kernel
theorem dX9_cutAll_104 : decode cX9_cutAll 104 = .ok (.lmul, 1) := by decide +kernel
theorem dX9_cutAll_105 : decode cX9_cutAll 105 = .ok (.aload_n 0, 1) := by decide +kernel
theorem dX9_cutAll_106 : decode cX9_cutAll 106 = .ok (.getfield 14, 3) := by decide +kernel
theorem dX9_cutAll_109 : decode cX9_cutAll 109 = .ok (.iload_n 2, 1) := by decide +kernel
theorem dX9_cutAll_110 : decode cX9_cutAll 110 = .ok (.iaload, 1) := by decide +kernel
theorem dX9_cutAll_111 : decode cX9_cutAll 111 = .ok (.invokestatic 128, 3) := by decide +kernel
theorem dX9_cutAll_114 : decode cX9_cutAll 114 = .ok (.i2l, 1) := by decide +kernel
theorem dX9_cutAll_115 : decode cX9_cutAll 115 = .ok (.ladd, 1) := by decide +kernel
theorem dX9_cutAll_116 : decode cX9_cutAll 116 = .ok (.goto 5, 3) := by decide +kernel
theorem dX9_cutAll_119 : decode cX9_cutAll 119 = .ok (.lload 5, 2) := by decide +kernel
theorem dX9_cutAll_121 : decode cX9_cutAll 121 = .ok (.lstore 5, 2) := by decide +kernel
theorem dX9_cutAll_123 : decode cX9_cutAll 123 = .ok (.iinc 2 1, 3) := by decide +kernel
theorem dX9_cutAll_126 : decode cX9_cutAll 126 = .ok (.goto (-56), 3) := by decide +kernel
theorem dX9_cutAll_129 : decode cX9_cutAll 129 = .ok (.aload_n 0, 1) := by decide +kernel
theorem dX9_cutAll_130 : decode cX9_cutAll 130 = .ok (.getfield 24, 3) := by decide +kernel
theorem dX9_cutAll_133 : decode cX9_cutAll 133 = .ok (.iload_n 1, 1) := by decide +kernel
theorem dX9_cutAll_134 : decode cX9_cutAll 134 = .ok (.iload_n 2, 1) := by decide +kernel
theorem dX9_cutAll_135 : decode cX9_cutAll 135 = .ok (.iload 4, 2) := by decide +kernel
theorem dX9_cutAll_137 : decode cX9_cutAll 137 = .ok (.isub, 1) := by decide +kernel
theorem dX9_cutAll_138 : decode cX9_cutAll 138 = .ok (.bipush 8, 2) := by decide +kernel
theorem dX9_cutAll_140 : decode cX9_cutAll 140 = .ok (.if_icmp .le 7, 3) := by decide +kernel
theorem dX9_cutAll_143 : decode cX9_cutAll 143 = .ok (.iconst 4, 1) := by decide +kernel
theorem dX9_cutAll_144 : decode cX9_cutAll 144 = .ok (.goto 4, 3) := by decide +kernel
theorem dX9_cutAll_147 : decode cX9_cutAll 147 = .ok (.iconst 1, 1) := by decide +kernel
theorem dX9_cutAll_148 : decode cX9_cutAll 148 = .ok (.iastore, 1) := by decide +kernel
theorem dX9_cutAll_149 : decode cX9_cutAll 149 = .ok (.goto 116, 3) := by decide +kernel
theorem dX9_cutAll_152 : decode cX9_cutAll 152 = .ok (.iload_n 3, 1) := by decide +kernel
theorem dX9_cutAll_153 : decode cX9_cutAll 153 = .ok (.invokestatic 132, 3) := by decide +kernel
theorem dX9_cutAll_156 : decode cX9_cutAll 156 = .ok (.ifCond .eq 84, 3) := by decide +kernel
theorem dX9_cutAll_159 : decode cX9_cutAll 159 = .ok (.iload_n 2, 1) := by decide +kernel
theorem dX9_cutAll_160 : decode cX9_cutAll 160 = .ok (.aload_n 0, 1) := by decide +kernel
theorem dX9_cutAll_161 : decode cX9_cutAll 161 = .ok (.getfield 123, 3) := by decide +kernel
theorem dX9_cutAll_164 : decode cX9_cutAll 164 = .ok (.if_icmp .ge 54, 3) := by decide +kernel
theorem dX9_cutAll_167 : decode cX9_cutAll 167 = .ok (.aload_n 0, 1) := by decide +kernel
theorem dX9_cutAll_168 : decode cX9_cutAll 168 = .ok (.getfield 14, 3) := by decide +kernel
theorem dX9_cutAll_171 : decode cX9_cutAll 171 = .ok (.iload_n 2, 1) := by decide +kernel
theorem dX9_cutAll_172 : decode cX9_cutAll 172 = .ok (.iaload, 1) := by decide +kernel
theorem dX9_cutAll_173 : decode cX9_cutAll 173 = .ok (.invokestatic 132, 3) := by decide +kernel
theorem dX9_cutAll_176 : decode cX9_cutAll 176 = .ok (.ifCond .eq 42, 3) := by decide +kernel
theorem dX9_cutAll_179 : decode cX9_cutAll 179 = .ok (.iload_n 2, 1) := by decide +kernel
theorem dX9_cutAll_180 : decode cX9_cutAll 180 = .ok (.iload 4, 2) := by decide +kernel
theorem dX9_cutAll_182 : decode cX9_cutAll 182 = .ok (.isub, 1) := by decide +kernel
theorem dX9_cutAll_183 : decode cX9_cutAll 183 = .ok (.iconst 4, 1) := by decide +kernel
theorem dX9_cutAll_184 : decode cX9_cutAll 184 = .ok (.if_icmp .ge 24, 3) := by decide +kernel
theorem dX9_cutAll_187 : decode cX9_cutAll 187 = .ok (.ldc2_w 135, 3) := by decide +kernel
theorem dX9_cutAll_190 : decode cX9_cutAll 190 = .ok (.lload 5, 2) := by decide +kernel
theorem dX9_cutAll_192 : decode cX9_cutAll 192 = .ok (.lmul, 1) := by decide +kernel
theorem dX9_cutAll_193 : decode cX9_cutAll 193 = .ok (.aload_n 0, 1) := by decide +kernel
theorem dX9_cutAll_194 : decode cX9_cutAll 194 = .ok (.getfield 14, 3) := by decide +kernel
theorem dX9_cutAll_197 : decode cX9_cutAll 197 = .ok (.iload_n 2, 1) := by decide +kernel
theorem dX9_cutAll_198 : decode cX9_cutAll 198 = .ok (.iaload, 1) := by decide +kernel
theorem dX9_cutAll_199 : decode cX9_cutAll 199 = .ok (.i2l, 1) := by decide +kernel
theorem dX9_cutAll_200 : decode cX9_cutAll 200 = .ok (.ladd, 1) := by decide +kernel
theorem dX9_cutAll_201 : decode cX9_cutAll 201 = .ok (.ldc2_w 137, 3) := by decide +kernel
theorem dX9_cutAll_204 : decode cX9_cutAll 204 = .ok (.lsub, 1) := by decide +kernel
theorem dX9_cutAll_205 : decode cX9_cutAll 205 = .ok (.goto 5, 3) := by decide +kernel
theorem dX9_cutAll_208 : decode cX9_cutAll 208 = .ok (.lload 5, 2) := by decide +kernel
theorem dX9_cutAll_210 : decode cX9_cutAll 210 = .ok (.lstore 5, 2) := by decide +kernel
theorem dX9_cutAll_212 : decode cX9_cutAll 212 = .ok (.iinc 2 1, 3) := by decide +kernel
theorem dX9_cutAll_215 : decode cX9_cutAll 215 = .ok (.goto (-56), 3) := by decide +kernel
theorem dX9_cutAll_218 : decode cX9_cutAll 218 = .ok (.aload_n 0, 1) := by decide +kernel
theorem dX9_cutAll_219 : decode cX9_cutAll 219 = .ok (.getfield 24, 3) := by decide +kernel
theorem dX9_cutAll_222 : decode cX9_cutAll 222 = .ok (.iload_n 1, 1) := by decide +kernel
theorem dX9_cutAll_223 : decode cX9_cutAll 223 = .ok (.iload_n 2, 1) := by decide +kernel
theorem dX9_cutAll_224 : decode cX9_cutAll 224 = .ok (.iload 4, 2) := by decide +kernel
theorem dX9_cutAll_226 : decode cX9_cutAll 226 = .ok (.isub, 1) := by decide +kernel
theorem dX9_cutAll_227 : decode cX9_cutAll 227 = .ok (.iconst 4, 1) := by decide +kernel
theorem dX9_cutAll_228 : decode cX9_cutAll 228 = .ok (.if_icmp .le 7, 3) := by decide +kernel
theorem dX9_cutAll_231 : decode cX9_cutAll 231 = .ok (.iconst 4, 1) := by decide +kernel
theorem dX9_cutAll_232 : decode cX9_cutAll 232 = .ok (.goto 4, 3) := by decide +kernel
theorem dX9_cutAll_235 : decode cX9_cutAll 235 = .ok (.iconst 2, 1) := by decide +kernel
theorem dX9_cutAll_236 : decode cX9_cutAll 236 = .ok (.iastore, 1) := by decide +kernel
theorem dX9_cutAll_237 : decode cX9_cutAll 237 = .ok (.goto 28, 3) := by decide +kernel
theorem dX9_cutAll_240 : decode cX9_cutAll 240 = .ok (.iload_n 3, 1) := by decide +kernel
theorem dX9_cutAll_241 : decode cX9_cutAll 241 = .ok (.i2l, 1) := by decide +kernel
theorem dX9_cutAll_242 : decode cX9_cutAll 242 = .ok (.lstore 5, 2) := by decide +kernel
theorem dX9_cutAll_244 : decode cX9_cutAll 244 = .ok (.aload_n 0, 1) := by decide +kernel
theorem dX9_cutAll_245 : decode cX9_cutAll 245 = .ok (.getfield 24, 3) := by decide +kernel
theorem dX9_cutAll_248 : decode cX9_cutAll 248 = .ok (.iload_n 1, 1) := by decide +kernel
theorem dX9_cutAll_249 : decode cX9_cutAll 249 = .ok (.iload_n 3, 1) := by decide +kernel
theorem dX9_cutAll_250 : decode cX9_cutAll 250 = .ok (.invokestatic 139, 3) := by decide +kernel
theorem dX9_cutAll_253 : decode cX9_cutAll 253 = .ok (.ifCond .eq 7, 3) := by decide +kernel
theorem dX9_cutAll_256 : decode cX9_cutAll 256 = .ok (.iconst 3, 1) := by decide +kernel
theorem dX9_cutAll_257 : decode cX9_cutAll 257 = .ok (.goto 4, 3) := by decide +kernel
theorem dX9_cutAll_260 : decode cX9_cutAll 260 = .ok (.iconst 4, 1) := by decide +kernel
theorem dX9_cutAll_261 : decode cX9_cutAll 261 = .ok (.iastore, 1) := by decide +kernel
theorem dX9_cutAll_262 : decode cX9_cutAll 262 = .ok (.iinc 2 1, 3) := by decide +kernel
theorem dX9_cutAll_265 : decode cX9_cutAll 265 = .ok (.aload_n 0, 1) := by decide +kernel
theorem dX9_cutAll_266 : decode cX9_cutAll 266 = .ok (.getfield 30, 3) := by decide +kernel
theorem dX9_cutAll_269 : decode cX9_cutAll 269 = .ok (.iload_n 1, 1) := by decide +kernel
theorem dX9_cutAll_270 : decode cX9_cutAll 270 = .ok (.lload 5, 2) := by decide +kernel
theorem dX9_cutAll_272 : decode cX9_cutAll 272 = .ok (.lastore, 1) := by decide +kernel
theorem dX9_cutAll_273 : decode cX9_cutAll 273 = .ok (.iinc 1 1, 3) := by decide +kernel
theorem dX9_cutAll_276 : decode cX9_cutAll 276 = .ok (.goto (-259), 3) := by decide +kernel
theorem dX9_cutAll_279 : decode cX9_cutAll 279 = .ok (.aload_n 0, 1) := by decide +kernel
theorem dX9_cutAll_280 : decode cX9_cutAll 280 = .ok (.getfield 24, 3) := by decide +kernel
theorem dX9_cutAll_283 : decode cX9_cutAll 283 = .ok (.iload_n 1, 1) := by decide +kernel
theorem dX9_cutAll_284 : decode cX9_cutAll 284 = .ok (.iconst 0, 1) := by decide +kernel
theorem dX9_cutAll_285 : decode cX9_cutAll 285 = .ok (.iastore, 1) := by decide +kernel
theorem dX9_cutAll_286 : decode cX9_cutAll 286 = .ok (.aload_n 0, 1) := by decide +kernel
theorem dX9_cutAll_287 : decode cX9_cutAll 287 = .ok (.getfield 27, 3) := by decide +kernel
theorem dX9_cutAll_290 : decode cX9_cutAll 290 = .ok (.iload_n 1, 1) := by decide +kernel
theorem dX9_cutAll_291 : decode cX9_cutAll 291 = .ok (.aload_n 0, 1) := by decide +kernel
theorem dX9_cutAll_292 : decode cX9_cutAll 292 = .ok (.getfield 123, 3) := by decide +kernel
theorem dX9_cutAll_295 : decode cX9_cutAll 295 = .ok (.iastore, 1) := by decide +kernel
theorem dX9_cutAll_296 : decode cX9_cutAll 296 = .ok (.aload_n 0, 1) := by decide +kernel
theorem dX9_cutAll_297 : decode cX9_cutAll 297 = .ok (.iconst 0, 1) := by decide +kernel
theorem dX9_cutAll_298 : decode cX9_cutAll 298 = .ok (.putfield 142, 3) := by decide +kernel
theorem dX9_cutAll_301 : decode cX9_cutAll 301 = .ok (.aload_n 0, 1) := by decide +kernel
theorem dX9_cutAll_302 : decode cX9_cutAll 302 = .ok (.iconst 0, 1) := by decide +kernel
theorem dX9_cutAll_303 : decode cX9_cutAll 303 = .ok (.putfield 145, 3) := by decide +kernel
theorem dX9_cutAll_306 : decode cX9_cutAll 306 = .ok (.return_, 1) := by decide +kernel
theorem dX9_wrong_0 : decode cX9_wrong 0 = .ok (.aload_n 0, 1) := by decide +kernel
theorem dX9_wrong_1 : decode cX9_wrong 1 = .ok (.getfield 145, 3) := by decide +kernel
theorem dX9_wrong_4 : decode cX9_wrong 4 = .ok (.ifCond .ne 21, 3) := by decide +kernel
theorem dX9_wrong_7 : decode cX9_wrong 7 = .ok (.aload_n 0, 1) := by decide +kernel
theorem dX9_wrong_8 : decode cX9_wrong 8 = .ok (.iload_n 1, 1) := by decide +kernel
theorem dX9_wrong_9 : decode cX9_wrong 9 = .ok (.bipush 16, 2) := by decide +kernel
theorem dX9_wrong_11 : decode cX9_wrong 11 = .ok (.aload_n 0, 1) := by decide +kernel
theorem dX9_wrong_12 : decode cX9_wrong 12 = .ok (.getfield 27, 3) := by decide +kernel
theorem dX9_wrong_15 : decode cX9_wrong 15 = .ok (.aload_n 0, 1) := by decide +kernel
theorem dX9_wrong_16 : decode cX9_wrong 16 = .ok (.getfield 142, 3) := by decide +kernel
theorem dX9_wrong_19 : decode cX9_wrong 19 = .ok (.iaload, 1) := by decide +kernel
theorem dX9_wrong_20 : decode cX9_wrong 20 = .ok (.imul, 1) := by decide +kernel
theorem dX9_wrong_21 : decode cX9_wrong 21 = .ok (.iadd, 1) := by decide +kernel
theorem dX9_wrong_22 : decode cX9_wrong 22 = .ok (.putfield 145, 3) := by decide +kernel
theorem dX9_wrong_25 : decode cX9_wrong 25 = .ok (.return_, 1) := by decide +kernel
theorem dX9_isSign_0 : decode cX9_isSign 0 = .ok (.aload_n 0, 1) := by decide +kernel
theorem dX9_isSign_1 : decode cX9_isSign 1 = .ok (.getfield 145, 3) := by decide +kernel
theorem dX9_isSign_4 : decode cX9_isSign 4 = .ok (.ifCond .ne 35, 3) := by decide +kernel
theorem dX9_isSign_7 : decode cX9_isSign 7 = .ok (.aload_n 0, 1) := by decide +kernel
theorem dX9_isSign_8 : decode cX9_isSign 8 = .ok (.getfield 24, 3) := by decide +kernel
theorem dX9_isSign_11 : decode cX9_isSign 11 = .ok (.aload_n 0, 1) := by decide +kernel
theorem dX9_isSign_12 : decode cX9_isSign 12 = .ok (.getfield 142, 3) := by decide +kernel
theorem dX9_isSign_15 : decode cX9_isSign 15 = .ok (.iaload, 1) := by decide +kernel
theorem dX9_isSign_16 : decode cX9_isSign 16 = .ok (.iconst 3, 1) := by decide +kernel
theorem dX9_isSign_17 : decode cX9_isSign 17 = .ok (.if_icmp .ne 22, 3) := by decide +kernel
theorem dX9_isSign_20 : decode cX9_isSign 20 = .ok (.aload_n 0, 1) := by decide +kernel
theorem dX9_isSign_21 : decode cX9_isSign 21 = .ok (.getfield 30, 3) := by decide +kernel
theorem dX9_isSign_24 : decode cX9_isSign 24 = .ok (.aload_n 0, 1) := by decide +kernel
theorem dX9_isSign_25 : decode cX9_isSign 25 = .ok (.getfield 142, 3) := by decide +kernel
theorem dX9_isSign_28 : decode cX9_isSign 28 = .ok (.laload, 1) := by decide +kernel
theorem dX9_isSign_29 : decode cX9_isSign 29 = .ok (.iload_n 1, 1) := by decide +kernel
theorem dX9_isSign_30 : decode cX9_isSign 30 = .ok (.i2l, 1) := by decide +kernel
theorem dX9_isSign_31 : decode cX9_isSign 31 = .ok (.lcmp, 1) := by decide +kernel
theorem dX9_isSign_32 : decode cX9_isSign 32 = .ok (.ifCond .ne 7, 3) := by decide +kernel
theorem dX9_isSign_35 : decode cX9_isSign 35 = .ok (.iconst 1, 1) := by decide +kernel
theorem dX9_isSign_36 : decode cX9_isSign 36 = .ok (.goto 4, 3) := by decide +kernel
theorem dX9_isSign_39 : decode cX9_isSign 39 = .ok (.iconst 0, 1) := by decide +kernel
theorem dX9_isSign_40 : decode cX9_isSign 40 = .ok (.ireturn, 1) := by decide +kernel
theorem dX9_isWord_0 : decode cX9_isWord 0 = .ok (.aload_n 0, 1) := by decide +kernel
theorem dX9_isWord_1 : decode cX9_isWord 1 = .ok (.getfield 145, 3) := by decide +kernel
theorem dX9_isWord_4 : decode cX9_isWord 4 = .ok (.ifCond .ne 39, 3) := by decide +kernel
theorem dX9_isWord_7 : decode cX9_isWord 7 = .ok (.aload_n 0, 1) := by decide +kernel
theorem dX9_isWord_8 : decode cX9_isWord 8 = .ok (.getfield 24, 3) := by decide +kernel
theorem dX9_isWord_11 : decode cX9_isWord 11 = .ok (.aload_n 0, 1) := by decide +kernel
theorem dX9_isWord_12 : decode cX9_isWord 12 = .ok (.getfield 142, 3) := by decide +kernel
theorem dX9_isWord_15 : decode cX9_isWord 15 = .ok (.iaload, 1) := by decide +kernel
theorem dX9_isWord_16 : decode cX9_isWord 16 = .ok (.iconst 1, 1) := by decide +kernel
theorem dX9_isWord_17 : decode cX9_isWord 17 = .ok (.if_icmp .ne 26, 3) := by decide +kernel
theorem dX9_isWord_20 : decode cX9_isWord 20 = .ok (.aload_n 0, 1) := by decide +kernel
theorem dX9_isWord_21 : decode cX9_isWord 21 = .ok (.getfield 30, 3) := by decide +kernel
theorem dX9_isWord_24 : decode cX9_isWord 24 = .ok (.aload_n 0, 1) := by decide +kernel
theorem dX9_isWord_25 : decode cX9_isWord 25 = .ok (.getfield 142, 3) := by decide +kernel
theorem dX9_isWord_28 : decode cX9_isWord 28 = .ok (.laload, 1) := by decide +kernel
theorem dX9_isWord_29 : decode cX9_isWord 29 = .ok (.aload_n 0, 1) := by decide +kernel
theorem dX9_isWord_30 : decode cX9_isWord 30 = .ok (.getfield 42, 3) := by decide +kernel
theorem dX9_isWord_33 : decode cX9_isWord 33 = .ok (.iload_n 1, 1) := by decide +kernel
theorem dX9_isWord_34 : decode cX9_isWord 34 = .ok (.laload, 1) := by decide +kernel
theorem dX9_isWord_35 : decode cX9_isWord 35 = .ok (.lcmp, 1) := by decide +kernel
theorem dX9_isWord_36 : decode cX9_isWord 36 = .ok (.ifCond .ne 7, 3) := by decide +kernel
theorem dX9_isWord_39 : decode cX9_isWord 39 = .ok (.iconst 1, 1) := by decide +kernel
theorem dX9_isWord_40 : decode cX9_isWord 40 = .ok (.goto 4, 3) := by decide +kernel
theorem dX9_isWord_43 : decode cX9_isWord 43 = .ok (.iconst 0, 1) := by decide +kernel
theorem dX9_isWord_44 : decode cX9_isWord 44 = .ok (.ireturn, 1) := by decide +kernel
theorem dX9_takeSign_0 : decode cX9_takeSign 0 = .ok (.aload_n 0, 1) := by decide +kernel
theorem dX9_takeSign_1 : decode cX9_takeSign 1 = .ok (.iload_n 1, 1) := by decide +kernel
theorem dX9_takeSign_2 : decode cX9_takeSign 2 = .ok (.invokevirtual 148, 3) := by decide +kernel
theorem dX9_takeSign_5 : decode cX9_takeSign 5 = .ok (.ifCond .eq 16, 3) := by decide +kernel
theorem dX9_takeSign_8 : decode cX9_takeSign 8 = .ok (.aload_n 0, 1) := by decide +kernel
theorem dX9_takeSign_9 : decode cX9_takeSign 9 = .ok (.dup, 1) := by decide +kernel
theorem dX9_takeSign_10 : decode cX9_takeSign 10 = .ok (.getfield 142, 3) := by decide +kernel
theorem dX9_takeSign_13 : decode cX9_takeSign 13 = .ok (.iconst 1, 1) := by decide +kernel
theorem dX9_takeSign_14 : decode cX9_takeSign 14 = .ok (.iadd, 1) := by decide +kernel
theorem dX9_takeSign_15 : decode cX9_takeSign 15 = .ok (.putfield 142, 3) := by decide +kernel
theorem dX9_takeSign_18 : decode cX9_takeSign 18 = .ok (.goto 8, 3) := by decide +kernel
theorem dX9_takeSign_21 : decode cX9_takeSign 21 = .ok (.aload_n 0, 1) := by decide +kernel
theorem dX9_takeSign_22 : decode cX9_takeSign 22 = .ok (.iconst 1, 1) := by decide +kernel
theorem dX9_takeSign_23 : decode cX9_takeSign 23 = .ok (.invokevirtual 151, 3) := by decide +kernel
theorem dX9_takeSign_26 : decode cX9_takeSign 26 = .ok (.return_, 1) := by decide +kernel
theorem dX9_hasSign_0 : decode cX9_hasSign 0 = .ok (.aload_n 0, 1) := by decide +kernel
theorem dX9_hasSign_1 : decode cX9_hasSign 1 = .ok (.iload_n 1, 1) := by decide +kernel
theorem dX9_hasSign_2 : decode cX9_hasSign 2 = .ok (.invokevirtual 148, 3) := by decide +kernel
theorem dX9_hasSign_5 : decode cX9_hasSign 5 = .ok (.istore_n 2, 1) := by decide +kernel
theorem dX9_hasSign_6 : decode cX9_hasSign 6 = .ok (.aload_n 0, 1) := by decide +kernel
theorem dX9_hasSign_7 : decode cX9_hasSign 7 = .ok (.dup, 1) := by decide +kernel
theorem dX9_hasSign_8 : decode cX9_hasSign 8 = .ok (.getfield 142, 3) := by decide +kernel
theorem dX9_hasSign_11 : decode cX9_hasSign 11 = .ok (.iload_n 2, 1) := by decide +kernel
theorem dX9_hasSign_12 : decode cX9_hasSign 12 = .ok (.ifCond .eq 7, 3) := by decide +kernel
theorem dX9_hasSign_15 : decode cX9_hasSign 15 = .ok (.iconst 1, 1) := by decide +kernel
theorem dX9_hasSign_16 : decode cX9_hasSign 16 = .ok (.goto 4, 3) := by decide +kernel
theorem dX9_hasSign_19 : decode cX9_hasSign 19 = .ok (.iconst 0, 1) := by decide +kernel
theorem dX9_hasSign_20 : decode cX9_hasSign 20 = .ok (.iadd, 1) := by decide +kernel
theorem dX9_hasSign_21 : decode cX9_hasSign 21 = .ok (.putfield 142, 3) := by decide +kernel
theorem dX9_hasSign_24 : decode cX9_hasSign 24 = .ok (.iload_n 2, 1) := by decide +kernel
theorem dX9_hasSign_25 : decode cX9_hasSign 25 = .ok (.ireturn, 1) := by decide +kernel
theorem dX9_isName_0 : decode cX9_isName 0 = .ok (.aload_n 0, 1) := by decide +kernel
theorem dX9_isName_1 : decode cX9_isName 1 = .ok (.getfield 145, 3) := by decide +kernel
theorem dX9_isName_4 : decode cX9_isName 4 = .ok (.ifCond .ne 20, 3) := by decide +kernel
theorem dX9_isName_7 : decode cX9_isName 7 = .ok (.aload_n 0, 1) := by decide +kernel
theorem dX9_isName_8 : decode cX9_isName 8 = .ok (.getfield 24, 3) := by decide +kernel
theorem dX9_isName_11 : decode cX9_isName 11 = .ok (.aload_n 0, 1) := by decide +kernel
theorem dX9_isName_12 : decode cX9_isName 12 = .ok (.getfield 142, 3) := by decide +kernel
theorem dX9_isName_15 : decode cX9_isName 15 = .ok (.iaload, 1) := by decide +kernel
theorem dX9_isName_16 : decode cX9_isName 16 = .ok (.iconst 1, 1) := by decide +kernel
theorem dX9_isName_17 : decode cX9_isName 17 = .ok (.if_icmp .ne 7, 3) := by decide +kernel
theorem dX9_isName_20 : decode cX9_isName 20 = .ok (.iconst 1, 1) := by decide +kernel
theorem dX9_isName_21 : decode cX9_isName 21 = .ok (.goto 4, 3) := by decide +kernel
theorem dX9_isName_24 : decode cX9_isName 24 = .ok (.iconst 0, 1) := by decide +kernel
theorem dX9_isName_25 : decode cX9_isName 25 = .ok (.istore_n 1, 1) := by decide +kernel
theorem dX9_isName_26 : decode cX9_isName 26 = .ok (.iconst 0, 1) := by decide +kernel
theorem dX9_isName_27 : decode cX9_isName 27 = .ok (.istore_n 2, 1) := by decide +kernel
theorem dX9_isName_28 : decode cX9_isName 28 = .ok (.iload_n 2, 1) := by decide +kernel
theorem dX9_isName_29 : decode cX9_isName 29 = .ok (.iconst 4, 1) := by decide +kernel
theorem dX9_isName_30 : decode cX9_isName 30 = .ok (.if_icmp .ge 38, 3) := by decide +kernel
theorem dX9_isName_33 : decode cX9_isName 33 = .ok (.iload_n 1, 1) := by decide +kernel
theorem dX9_isName_34 : decode cX9_isName 34 = .ok (.ifCond .eq 26, 3) := by decide +kernel
theorem dX9_isName_37 : decode cX9_isName 37 = .ok (.aload_n 0, 1) := by decide +kernel
theorem dX9_isName_38 : decode cX9_isName 38 = .ok (.getfield 30, 3) := by decide +kernel
theorem dX9_isName_41 : decode cX9_isName 41 = .ok (.aload_n 0, 1) := by decide +kernel
theorem dX9_isName_42 : decode cX9_isName 42 = .ok (.getfield 142, 3) := by decide +kernel
theorem dX9_isName_45 : decode cX9_isName 45 = .ok (.laload, 1) := by decide +kernel
theorem dX9_isName_46 : decode cX9_isName 46 = .ok (.aload_n 0, 1) := by decide +kernel
theorem dX9_isName_47 : decode cX9_isName 47 = .ok (.getfield 42, 3) := by decide +kernel
theorem dX9_isName_50 : decode cX9_isName 50 = .ok (.iload_n 2, 1) := by decide +kernel
theorem dX9_isName_51 : decode cX9_isName 51 = .ok (.laload, 1) := by decide +kernel
theorem dX9_isName_52 : decode cX9_isName 52 = .ok (.lcmp, 1) := by decide +kernel
theorem dX9_isName_53 : decode cX9_isName 53 = .ok (.ifCond .eq 7, 3) := by decide +kernel
theorem dX9_isName_56 : decode cX9_isName 56 = .ok (.iconst 1, 1) := by decide +kernel
theorem dX9_isName_57 : decode cX9_isName 57 = .ok (.goto 4, 3) := by decide +kernel
theorem dX9_isName_60 : decode cX9_isName 60 = .ok (.iconst 0, 1) := by decide +kernel
theorem dX9_isName_61 : decode cX9_isName 61 = .ok (.istore_n 1, 1) := by decide +kernel
theorem dX9_isName_62 : decode cX9_isName 62 = .ok (.iinc 2 1, 3) := by decide +kernel
theorem dX9_isName_65 : decode cX9_isName 65 = .ok (.goto (-37), 3) := by decide +kernel
theorem dX9_isName_68 : decode cX9_isName 68 = .ok (.iload_n 1, 1) := by decide +kernel
theorem dX9_isName_69 : decode cX9_isName 69 = .ok (.ireturn, 1) := by decide +kernel
theorem dX9_findRing_0 : decode cX9_findRing 0 = .ok (.iconst (-1), 1) := by decide +kernel
theorem dX9_findRing_1 : decode cX9_findRing 1 = .ok (.istore_n 3, 1) := by decide +kernel
theorem dX9_findRing_2 : decode cX9_findRing 2 = .ok (.iconst 0, 1) := by decide +kernel
theorem dX9_findRing_3 : decode cX9_findRing 3 = .ok (.istore 4, 2) := by decide +kernel
theorem dX9_findRing_5 : decode cX9_findRing 5 = .ok (.iload 4, 2) := by decide +kernel
theorem dX9_findRing_7 : decode cX9_findRing 7 = .ok (.aload_n 0, 1) := by decide +kernel
theorem dX9_findRing_8 : decode cX9_findRing 8 = .ok (.getfield 45, 3) := by decide +kernel
theorem dX9_findRing_11 : decode cX9_findRing 11 = .ok (.iconst 1, 1) := by decide +kernel
theorem dX9_findRing_12 : decode cX9_findRing 12 = .ok (.iaload, 1) := by decide +kernel
theorem dX9_findRing_13 : decode cX9_findRing 13 = .ok (.if_icmp .ge 30, 3) := by decide +kernel
theorem dX9_findRing_16 : decode cX9_findRing 16 = .ok (.aload_n 0, 1) := by decide +kernel
theorem dX9_findRing_17 : decode cX9_findRing 17 = .ok (.getfield 48, 3) := by decide +kernel
theorem dX9_findRing_20 : decode cX9_findRing 20 = .ok (.iconst 4, 1) := by decide +kernel
theorem dX9_findRing_21 : decode cX9_findRing 21 = .ok (.iload 4, 2) := by decide +kernel
theorem dX9_findRing_23 : decode cX9_findRing 23 = .ok (.iadd, 1) := by decide +kernel
theorem dX9_findRing_24 : decode cX9_findRing 24 = .ok (.laload, 1) := by decide +kernel
theorem dX9_findRing_25 : decode cX9_findRing 25 = .ok (.lload_n 1, 1) := by decide +kernel
theorem dX9_findRing_26 : decode cX9_findRing 26 = .ok (.lcmp, 1) := by decide +kernel
theorem dX9_findRing_27 : decode cX9_findRing 27 = .ok (.ifCond .ne 8, 3) := by decide +kernel
theorem dX9_findRing_30 : decode cX9_findRing 30 = .ok (.iload 4, 2) := by decide +kernel
theorem dX9_findRing_32 : decode cX9_findRing 32 = .ok (.goto 4, 3) := by decide +kernel
theorem dX9_findRing_35 : decode cX9_findRing 35 = .ok (.iload_n 3, 1) := by decide +kernel
theorem dX9_findRing_36 : decode cX9_findRing 36 = .ok (.istore_n 3, 1) := by decide +kernel
theorem dX9_findRing_37 : decode cX9_findRing 37 = .ok (.iinc 4 1, 3) := by decide +kernel
theorem dX9_findRing_40 : decode cX9_findRing 40 = .ok (.goto (-35), 3) := by decide +kernel
theorem dX9_findRing_43 : decode cX9_findRing 43 = .ok (.iload_n 3, 1) := by decide +kernel
theorem dX9_findRing_44 : decode cX9_findRing 44 = .ok (.ireturn, 1) := by decide +kernel
theorem dX9_weave_0 : decode cX9_weave 0 = .ok (.aload_n 0, 1) := by decide +kernel
theorem dX9_weave_1 : decode cX9_weave 1 = .ok (.iconst 0, 1) := by decide +kernel
theorem dX9_weave_2 : decode cX9_weave 2 = .ok (.putfield 1, 3) := by decide +kernel
theorem dX9_weave_5 : decode cX9_weave 5 = .ok (.aload_n 0, 1) := by decide +kernel
theorem dX9_weave_6 : decode cX9_weave 6 = .ok (.invokevirtual 161, 3) := by decide +kernel
theorem dX9_weave_9 : decode cX9_weave 9 = .ok (.aload_n 0, 1) := by decide +kernel
theorem dX9_weave_10 : decode cX9_weave 10 = .ok (.getfield 45, 3) := by decide +kernel
theorem dX9_weave_13 : decode cX9_weave 13 = .ok (.iconst 1, 1) := by decide +kernel
theorem dX9_weave_14 : decode cX9_weave 14 = .ok (.iconst 0, 1) := by decide +kernel
theorem dX9_weave_15 : decode cX9_weave 15 = .ok (.iastore, 1) := by decide +kernel
theorem dX9_weave_16 : decode cX9_weave 16 = .ok (.aload_n 0, 1) := by decide +kernel
theorem dX9_weave_17 : decode cX9_weave 17 = .ok (.getfield 51, 3) := by decide +kernel
theorem dX9_weave_20 : decode cX9_weave 20 = .ok (.iconst 1, 1) := by decide +kernel
theorem dX9_weave_21 : decode cX9_weave 21 = .ok (.iconst 0, 1) := by decide +kernel
theorem dX9_weave_22 : decode cX9_weave 22 = .ok (.iastore, 1) := by decide +kernel
theorem dX9_weave_23 : decode cX9_weave 23 = .ok (.aload_n 0, 1) := by decide +kernel
theorem dX9_weave_24 : decode cX9_weave 24 = .ok (.iconst 0, 1) := by decide +kernel
theorem dX9_weave_25 : decode cX9_weave 25 = .ok (.invokevirtual 155, 3) := by decide +kernel
theorem dX9_weave_28 : decode cX9_weave 28 = .ok (.ifCond .ne 8, 3) := by decide +kernel
theorem dX9_weave_31 : decode cX9_weave 31 = .ok (.aload_n 0, 1) := by decide +kernel
theorem dX9_weave_32 : decode cX9_weave 32 = .ok (.iconst 1, 1) := by decide +kernel
theorem dX9_weave_33 : decode cX9_weave 33 = .ok (.invokevirtual 151, 3) := by decide +kernel
theorem dX9_weave_36 : decode cX9_weave 36 = .ok (.aload_n 0, 1) := by decide +kernel
theorem dX9_weave_37 : decode cX9_weave 37 = .ok (.iconst 0, 1) := by decide +kernel
theorem dX9_weave_38 : decode cX9_weave 38 = .ok (.invokevirtual 155, 3) := by decide +kernel
theorem dX9_weave_41 : decode cX9_weave 41 = .ok (.ifCond .eq 10, 3) := by decide +kernel
theorem dX9_weave_44 : decode cX9_weave 44 = .ok (.aload_n 0, 1) := by decide +kernel
theorem dX9_weave_45 : decode cX9_weave 45 = .ok (.invokevirtual 164, 3) := by decide +kernel
theorem dX9_weave_48 : decode cX9_weave 48 = .ok (.goto (-12), 3) := by decide +kernel
theorem dX9_weave_51 : decode cX9_weave 51 = .ok (.aload_n 0, 1) := by decide +kernel
theorem dX9_weave_52 : decode cX9_weave 52 = .ok (.iconst 1, 1) := by decide +kernel
theorem dX9_weave_53 : decode cX9_weave 53 = .ok (.invokevirtual 155, 3) := by decide +kernel
theorem dX9_weave_56 : decode cX9_weave 56 = .ok (.ifCond .eq 10, 3) := by decide +kernel
theorem dX9_weave_59 : decode cX9_weave 59 = .ok (.aload_n 0, 1) := by decide +kernel
theorem dX9_weave_60 : decode cX9_weave 60 = .ok (.invokevirtual 167, 3) := by decide +kernel
theorem dX9_weave_63 : decode cX9_weave 63 = .ok (.goto (-12), 3) := by decide +kernel
theorem dX9_weave_66 : decode cX9_weave 66 = .ok (.aload_n 0, 1) := by decide +kernel
theorem dX9_weave_67 : decode cX9_weave 67 = .ok (.getfield 145, 3) := by decide +kernel
theorem dX9_weave_70 : decode cX9_weave 70 = .ok (.ifCond .ne 20, 3) := by decide +kernel
theorem dX9_weave_73 : decode cX9_weave 73 = .ok (.aload_n 0, 1) := by decide +kernel
theorem dX9_weave_74 : decode cX9_weave 74 = .ok (.getfield 24, 3) := by decide +kernel
theorem dX9_weave_77 : decode cX9_weave 77 = .ok (.aload_n 0, 1) := by decide +kernel
theorem dX9_weave_78 : decode cX9_weave 78 = .ok (.getfield 142, 3) := by decide +kernel
theorem dX9_weave_81 : decode cX9_weave 81 = .ok (.iaload, 1) := by decide +kernel
theorem dX9_weave_82 : decode cX9_weave 82 = .ok (.ifCond .eq 8, 3) := by decide +kernel
theorem dX9_weave_85 : decode cX9_weave 85 = .ok (.aload_n 0, 1) := by decide +kernel
theorem dX9_weave_86 : decode cX9_weave 86 = .ok (.iconst 1, 1) := by decide +kernel
theorem dX9_weave_87 : decode cX9_weave 87 = .ok (.invokevirtual 151, 3) := by decide +kernel
theorem dX9_weave_90 : decode cX9_weave 90 = .ok (.aload_n 0, 1) := by decide +kernel
theorem dX9_weave_91 : decode cX9_weave 91 = .ok (.getfield 145, 3) := by decide +kernel
theorem dX9_weave_94 : decode cX9_weave 94 = .ok (.ifCond .ne 9, 3) := by decide +kernel
theorem dX9_weave_97 : decode cX9_weave 97 = .ok (.aload_n 0, 1) := by decide +kernel
theorem dX9_weave_98 : decode cX9_weave 98 = .ok (.iconst 1, 1) := by decide +kernel
theorem dX9_weave_99 : decode cX9_weave 99 = .ok (.iconst 0, 1) := by decide +kernel
theorem dX9_weave_100 : decode cX9_weave 100 = .ok (.invokevirtual 170, 3) := by decide +kernel
theorem dX9_weave_103 : decode cX9_weave 103 = .ok (.aload_n 0, 1) := by decide +kernel
theorem dX9_weave_104 : decode cX9_weave 104 = .ok (.getfield 145, 3) := by decide +kernel
theorem dX9_weave_107 : decode cX9_weave 107 = .ok (.ireturn, 1) := by decide +kernel
theorem dX9_copies_0 : decode cX9_copies 0 = .ok (.aload_n 0, 1) := by decide +kernel
theorem dX9_copies_1 : decode cX9_copies 1 = .ok (.getfield 45, 3) := by decide +kernel
theorem dX9_copies_4 : decode cX9_copies 4 = .ok (.iload_n 2, 1) := by decide +kernel
theorem dX9_copies_5 : decode cX9_copies 5 = .ok (.aload_n 0, 1) := by decide +kernel
theorem dX9_copies_6 : decode cX9_copies 6 = .ok (.getfield 45, 3) := by decide +kernel
theorem dX9_copies_9 : decode cX9_copies 9 = .ok (.iload_n 1, 1) := by decide +kernel
theorem dX9_copies_10 : decode cX9_copies 10 = .ok (.iaload, 1) := by decide +kernel
theorem dX9_copies_11 : decode cX9_copies 11 = .ok (.iastore, 1) := by decide +kernel
theorem dX9_copies_12 : decode cX9_copies 12 = .ok (.aload_n 0, 1) := by decide +kernel
theorem dX9_copies_13 : decode cX9_copies 13 = .ok (.getfield 51, 3) := by decide +kernel
theorem dX9_copies_16 : decode cX9_copies 16 = .ok (.iload_n 2, 1) := by decide +kernel
theorem dX9_copies_17 : decode cX9_copies 17 = .ok (.aload_n 0, 1) := by decide +kernel
theorem dX9_copies_18 : decode cX9_copies 18 = .ok (.getfield 51, 3) := by decide +kernel
theorem dX9_copies_21 : decode cX9_copies 21 = .ok (.iload_n 1, 1) := by decide +kernel
theorem dX9_copies_22 : decode cX9_copies 22 = .ok (.iaload, 1) := by decide +kernel
theorem dX9_copies_23 : decode cX9_copies 23 = .ok (.iastore, 1) := by decide +kernel
theorem dX9_copies_24 : decode cX9_copies 24 = .ok (.iconst 0, 1) := by decide +kernel
theorem dX9_copies_25 : decode cX9_copies 25 = .ok (.istore_n 3, 1) := by decide +kernel
theorem dX9_copies_26 : decode cX9_copies 26 = .ok (.iload_n 3, 1) := by decide +kernel
theorem dX9_copies_27 : decode cX9_copies 27 = .ok (.aload_n 0, 1) := by decide +kernel
theorem dX9_copies_28 : decode cX9_copies 28 = .ok (.getfield 51, 3) := by decide +kernel
theorem dX9_copies_31 : decode cX9_copies 31 = .ok (.iload_n 1, 1) := by decide +kernel
theorem dX9_copies_32 : decode cX9_copies 32 = .ok (.iaload, 1) := by decide +kernel
theorem dX9_copies_33 : decode cX9_copies 33 = .ok (.if_icmp .ge 119, 3) := by decide +kernel
theorem dX9_copies_36 : decode cX9_copies 36 = .ok (.aload_n 0, 1) := by decide +kernel
theorem dX9_copies_37 : decode cX9_copies 37 = .ok (.getfield 54, 3) := by decide +kernel
theorem dX9_copies_40 : decode cX9_copies 40 = .ok (.bipush 24, 2) := by decide +kernel
theorem dX9_copies_42 : decode cX9_copies 42 = .ok (.iload_n 2, 1) := by decide +kernel
theorem dX9_copies_43 : decode cX9_copies 43 = .ok (.imul, 1) := by decide +kernel
theorem dX9_copies_44 : decode cX9_copies 44 = .ok (.iload_n 3, 1) := by decide +kernel
theorem dX9_copies_45 : decode cX9_copies 45 = .ok (.iadd, 1) := by decide +kernel
theorem dX9_copies_46 : decode cX9_copies 46 = .ok (.aload_n 0, 1) := by decide +kernel
theorem dX9_copies_47 : decode cX9_copies 47 = .ok (.getfield 54, 3) := by decide +kernel
theorem dX9_copies_50 : decode cX9_copies 50 = .ok (.bipush 24, 2) := by decide +kernel
theorem dX9_copies_52 : decode cX9_copies 52 = .ok (.iload_n 1, 1) := by decide +kernel
theorem dX9_copies_53 : decode cX9_copies 53 = .ok (.imul, 1) := by decide +kernel
theorem dX9_copies_54 : decode cX9_copies 54 = .ok (.iload_n 3, 1) := by decide +kernel
theorem dX9_copies_55 : decode cX9_copies 55 = .ok (.iadd, 1) := by decide +kernel
theorem dX9_copies_56 : decode cX9_copies 56 = .ok (.iaload, 1) := by decide +kernel
theorem dX9_copies_57 : decode cX9_copies 57 = .ok (.iastore, 1) := by decide +kernel
theorem dX9_copies_58 : decode cX9_copies 58 = .ok (.aload_n 0, 1) := by decide +kernel
theorem dX9_copies_59 : decode cX9_copies 59 = .ok (.getfield 57, 3) := by decide +kernel
theorem dX9_copies_62 : decode cX9_copies 62 = .ok (.bipush 24, 2) := by decide +kernel
theorem dX9_copies_64 : decode cX9_copies 64 = .ok (.iload_n 2, 1) := by decide +kernel
theorem dX9_copies_65 : decode cX9_copies 65 = .ok (.imul, 1) := by decide +kernel
theorem dX9_copies_66 : decode cX9_copies 66 = .ok (.iload_n 3, 1) := by decide +kernel
theorem dX9_copies_67 : decode cX9_copies 67 = .ok (.iadd, 1) := by decide +kernel
theorem dX9_copies_68 : decode cX9_copies 68 = .ok (.aload_n 0, 1) := by decide +kernel
theorem dX9_copies_69 : decode cX9_copies 69 = .ok (.getfield 57, 3) := by decide +kernel
theorem dX9_copies_72 : decode cX9_copies 72 = .ok (.bipush 24, 2) := by decide +kernel
theorem dX9_copies_74 : decode cX9_copies 74 = .ok (.iload_n 1, 1) := by decide +kernel
theorem dX9_copies_75 : decode cX9_copies 75 = .ok (.imul, 1) := by decide +kernel
theorem dX9_copies_76 : decode cX9_copies 76 = .ok (.iload_n 3, 1) := by decide +kernel
theorem dX9_copies_77 : decode cX9_copies 77 = .ok (.iadd, 1) := by decide +kernel
theorem dX9_copies_78 : decode cX9_copies 78 = .ok (.iaload, 1) := by decide +kernel
theorem dX9_copies_79 : decode cX9_copies 79 = .ok (.iastore, 1) := by decide +kernel
theorem dX9_copies_80 : decode cX9_copies 80 = .ok (.aload_n 0, 1) := by decide +kernel
theorem dX9_copies_81 : decode cX9_copies 81 = .ok (.getfield 60, 3) := by decide +kernel
theorem dX9_copies_84 : decode cX9_copies 84 = .ok (.bipush 24, 2) := by decide +kernel
theorem dX9_copies_86 : decode cX9_copies 86 = .ok (.iload_n 2, 1) := by decide +kernel
theorem dX9_copies_87 : decode cX9_copies 87 = .ok (.imul, 1) := by decide +kernel
theorem dX9_copies_88 : decode cX9_copies 88 = .ok (.iload_n 3, 1) := by decide +kernel
theorem dX9_copies_89 : decode cX9_copies 89 = .ok (.iadd, 1) := by decide +kernel
theorem dX9_copies_90 : decode cX9_copies 90 = .ok (.aload_n 0, 1) := by decide +kernel
theorem dX9_copies_91 : decode cX9_copies 91 = .ok (.getfield 60, 3) := by decide +kernel
theorem dX9_copies_94 : decode cX9_copies 94 = .ok (.bipush 24, 2) := by decide +kernel
theorem dX9_copies_96 : decode cX9_copies 96 = .ok (.iload_n 1, 1) := by decide +kernel
theorem dX9_copies_97 : decode cX9_copies 97 = .ok (.imul, 1) := by decide +kernel
theorem dX9_copies_98 : decode cX9_copies 98 = .ok (.iload_n 3, 1) := by decide +kernel
theorem dX9_copies_99 : decode cX9_copies 99 = .ok (.iadd, 1) := by decide +kernel
theorem dX9_copies_100 : decode cX9_copies 100 = .ok (.iaload, 1) := by decide +kernel
theorem dX9_copies_101 : decode cX9_copies 101 = .ok (.iastore, 1) := by decide +kernel
theorem dX9_copies_102 : decode cX9_copies 102 = .ok (.aload_n 0, 1) := by decide +kernel
theorem dX9_copies_103 : decode cX9_copies 103 = .ok (.getfield 63, 3) := by decide +kernel
theorem dX9_copies_106 : decode cX9_copies 106 = .ok (.bipush 24, 2) := by decide +kernel
theorem dX9_copies_108 : decode cX9_copies 108 = .ok (.iload_n 2, 1) := by decide +kernel
theorem dX9_copies_109 : decode cX9_copies 109 = .ok (.imul, 1) := by decide +kernel
theorem dX9_copies_110 : decode cX9_copies 110 = .ok (.iload_n 3, 1) := by decide +kernel
theorem dX9_copies_111 : decode cX9_copies 111 = .ok (.iadd, 1) := by decide +kernel
theorem dX9_copies_112 : decode cX9_copies 112 = .ok (.aload_n 0, 1) := by decide +kernel
theorem dX9_copies_113 : decode cX9_copies 113 = .ok (.getfield 63, 3) := by decide +kernel
theorem dX9_copies_116 : decode cX9_copies 116 = .ok (.bipush 24, 2) := by decide +kernel
theorem dX9_copies_118 : decode cX9_copies 118 = .ok (.iload_n 1, 1) := by decide +kernel
theorem dX9_copies_119 : decode cX9_copies 119 = .ok (.imul, 1) := by decide +kernel
theorem dX9_copies_120 : decode cX9_copies 120 = .ok (.iload_n 3, 1) := by decide +kernel
theorem dX9_copies_121 : decode cX9_copies 121 = .ok (.iadd, 1) := by decide +kernel
theorem dX9_copies_122 : decode cX9_copies 122 = .ok (.iaload, 1) := by decide +kernel
theorem dX9_copies_123 : decode cX9_copies 123 = .ok (.iastore, 1) := by decide +kernel
theorem dX9_copies_124 : decode cX9_copies 124 = .ok (.aload_n 0, 1) := by decide +kernel
theorem dX9_copies_125 : decode cX9_copies 125 = .ok (.getfield 66, 3) := by decide +kernel
theorem dX9_copies_128 : decode cX9_copies 128 = .ok (.bipush 24, 2) := by decide +kernel
theorem dX9_copies_130 : decode cX9_copies 130 = .ok (.iload_n 2, 1) := by decide +kernel
theorem dX9_copies_131 : decode cX9_copies 131 = .ok (.imul, 1) := by decide +kernel
theorem dX9_copies_132 : decode cX9_copies 132 = .ok (.iload_n 3, 1) := by decide +kernel
theorem dX9_copies_133 : decode cX9_copies 133 = .ok (.iadd, 1) := by decide +kernel
theorem dX9_copies_134 : decode cX9_copies 134 = .ok (.aload_n 0, 1) := by decide +kernel
theorem dX9_copies_135 : decode cX9_copies 135 = .ok (.getfield 66, 3) := by decide +kernel
theorem dX9_copies_138 : decode cX9_copies 138 = .ok (.bipush 24, 2) := by decide +kernel
theorem dX9_copies_140 : decode cX9_copies 140 = .ok (.iload_n 1, 1) := by decide +kernel
theorem dX9_copies_141 : decode cX9_copies 141 = .ok (.imul, 1) := by decide +kernel
theorem dX9_copies_142 : decode cX9_copies 142 = .ok (.iload_n 3, 1) := by decide +kernel
theorem dX9_copies_143 : decode cX9_copies 143 = .ok (.iadd, 1) := by decide +kernel
theorem dX9_copies_144 : decode cX9_copies 144 = .ok (.baload, 1) := by decide +kernel
theorem dX9_copies_145 : decode cX9_copies 145 = .ok (.bastore, 1) := by decide +kernel
theorem dX9_copies_146 : decode cX9_copies 146 = .ok (.iinc 3 1, 3) := by decide +kernel
theorem dX9_copies_149 : decode cX9_copies 149 = .ok (.goto (-123), 3) := by decide +kernel
theorem dX9_copies_152 : decode cX9_copies 152 = .ok (.return_, 1) := by decide +kernel
theorem dX9_readRing_0 : decode cX9_readRing 0 = .ok (.aload_n 0, 1) := by decide +kernel
theorem dX9_readRing_1 : decode cX9_readRing 1 = .ok (.getfield 45, 3) := by decide +kernel
theorem dX9_readRing_4 : decode cX9_readRing 4 = .ok (.iconst 1, 1) := by decide +kernel
theorem dX9_readRing_5 : decode cX9_readRing 5 = .ok (.iaload, 1) := by decide +kernel
theorem dX9_readRing_6 : decode cX9_readRing 6 = .ok (.iconst 4, 1) := by decide +kernel
theorem dX9_readRing_7 : decode cX9_readRing 7 = .ok (.if_icmp .ne 9, 3) := by decide +kernel
theorem dX9_readRing_10 : decode cX9_readRing 10 = .ok (.aload_n 0, 1) := by decide +kernel
theorem dX9_readRing_11 : decode cX9_readRing 11 = .ok (.iconst 5, 1) := by decide +kernel
theorem dX9_readRing_12 : decode cX9_readRing 12 = .ok (.invokevirtual 151, 3) := by decide +kernel
theorem dX9_readRing_15 : decode cX9_readRing 15 = .ok (.return_, 1) := by decide +kernel
theorem dX9_readRing_16 : decode cX9_readRing 16 = .ok (.aload_n 0, 1) := by decide +kernel
theorem dX9_readRing_17 : decode cX9_readRing 17 = .ok (.dup, 1) := by decide +kernel
theorem dX9_readRing_18 : decode cX9_readRing 18 = .ok (.getfield 142, 3) := by decide +kernel
theorem dX9_readRing_21 : decode cX9_readRing 21 = .ok (.iconst 1, 1) := by decide +kernel
theorem dX9_readRing_22 : decode cX9_readRing 22 = .ok (.iadd, 1) := by decide +kernel
theorem dX9_readRing_23 : decode cX9_readRing 23 = .ok (.putfield 142, 3) := by decide +kernel
theorem dX9_readRing_26 : decode cX9_readRing 26 = .ok (.aload_n 0, 1) := by decide +kernel
theorem dX9_readRing_27 : decode cX9_readRing 27 = .ok (.invokevirtual 174, 3) := by decide +kernel
theorem dX9_readRing_30 : decode cX9_readRing 30 = .ok (.ifCond .ne 11, 3) := by decide +kernel
theorem dX9_readRing_33 : decode cX9_readRing 33 = .ok (.aload_n 0, 1) := by decide +kernel
theorem dX9_readRing_34 : decode cX9_readRing 34 = .ok (.iconst 1, 1) := by decide +kernel
theorem dX9_readRing_35 : decode cX9_readRing 35 = .ok (.invokevirtual 151, 3) := by decide +kernel
theorem dX9_readRing_38 : decode cX9_readRing 38 = .ok (.goto 24, 3) := by decide +kernel
theorem dX9_readRing_41 : decode cX9_readRing 41 = .ok (.aload_n 0, 1) := by decide +kernel
theorem dX9_readRing_42 : decode cX9_readRing 42 = .ok (.aload_n 0, 1) := by decide +kernel
theorem dX9_readRing_43 : decode cX9_readRing 43 = .ok (.getfield 30, 3) := by decide +kernel
theorem dX9_readRing_46 : decode cX9_readRing 46 = .ok (.aload_n 0, 1) := by decide +kernel
theorem dX9_readRing_47 : decode cX9_readRing 47 = .ok (.getfield 142, 3) := by decide +kernel
theorem dX9_readRing_50 : decode cX9_readRing 50 = .ok (.laload, 1) := by decide +kernel
theorem dX9_readRing_51 : decode cX9_readRing 51 = .ok (.invokevirtual 178, 3) := by decide +kernel
theorem dX9_readRing_54 : decode cX9_readRing 54 = .ok (.ifCond .lt 8, 3) := by decide +kernel
theorem dX9_readRing_57 : decode cX9_readRing 57 = .ok (.aload_n 0, 1) := by decide +kernel
theorem dX9_readRing_58 : decode cX9_readRing 58 = .ok (.iconst 3, 1) := by decide +kernel
theorem dX9_readRing_59 : decode cX9_readRing 59 = .ok (.invokevirtual 151, 3) := by decide +kernel
theorem dX9_readRing_62 : decode cX9_readRing 62 = .ok (.aload_n 0, 1) := by decide +kernel
theorem dX9_readRing_63 : decode cX9_readRing 63 = .ok (.getfield 145, 3) := by decide +kernel
theorem dX9_readRing_66 : decode cX9_readRing 66 = .ok (.ifCond .le 4, 3) := by decide +kernel
theorem dX9_readRing_69 : decode cX9_readRing 69 = .ok (.return_, 1) := by decide +kernel
theorem dX9_readRing_70 : decode cX9_readRing 70 = .ok (.aload_n 0, 1) := by decide +kernel
theorem dX9_readRing_71 : decode cX9_readRing 71 = .ok (.getfield 48, 3) := by decide +kernel
theorem dX9_readRing_74 : decode cX9_readRing 74 = .ok (.iconst 4, 1) := by decide +kernel
theorem dX9_readRing_75 : decode cX9_readRing 75 = .ok (.aload_n 0, 1) := by decide +kernel
theorem dX9_readRing_76 : decode cX9_readRing 76 = .ok (.getfield 45, 3) := by decide +kernel
theorem dX9_readRing_79 : decode cX9_readRing 79 = .ok (.iconst 1, 1) := by decide +kernel
theorem dX9_readRing_80 : decode cX9_readRing 80 = .ok (.iaload, 1) := by decide +kernel
theorem dX9_readRing_81 : decode cX9_readRing 81 = .ok (.iadd, 1) := by decide +kernel
theorem dX9_readRing_82 : decode cX9_readRing 82 = .ok (.aload_n 0, 1) := by decide +kernel
theorem dX9_readRing_83 : decode cX9_readRing 83 = .ok (.getfield 30, 3) := by decide +kernel
theorem dX9_readRing_86 : decode cX9_readRing 86 = .ok (.aload_n 0, 1) := by decide +kernel
theorem dX9_readRing_87 : decode cX9_readRing 87 = .ok (.getfield 142, 3) := by decide +kernel
theorem dX9_readRing_90 : decode cX9_readRing 90 = .ok (.laload, 1) := by decide +kernel
theorem dX9_readRing_91 : decode cX9_readRing 91 = .ok (.lastore, 1) := by decide +kernel
theorem dX9_readRing_92 : decode cX9_readRing 92 = .ok (.aload_n 0, 1) := by decide +kernel
theorem dX9_readRing_93 : decode cX9_readRing 93 = .ok (.dup, 1) := by decide +kernel
theorem dX9_readRing_94 : decode cX9_readRing 94 = .ok (.getfield 142, 3) := by decide +kernel
theorem dX9_readRing_97 : decode cX9_readRing 97 = .ok (.iconst 1, 1) := by decide +kernel
theorem dX9_readRing_98 : decode cX9_readRing 98 = .ok (.iadd, 1) := by decide +kernel
theorem dX9_readRing_99 : decode cX9_readRing 99 = .ok (.putfield 142, 3) := by decide +kernel
theorem dX9_readRing_102 : decode cX9_readRing 102 = .ok (.aload_n 0, 1) := by decide +kernel
theorem dX9_readRing_103 : decode cX9_readRing 103 = .ok (.bipush 59, 2) := by decide +kernel
theorem dX9_readRing_105 : decode cX9_readRing 105 = .ok (.invokevirtual 182, 3) := by decide +kernel
theorem dX9_readRing_108 : decode cX9_readRing 108 = .ok (.aload_n 0, 1) := by decide +kernel
theorem dX9_readRing_109 : decode cX9_readRing 109 = .ok (.getfield 45, 3) := by decide +kernel
theorem dX9_readRing_112 : decode cX9_readRing 112 = .ok (.iconst 1, 1) := by decide +kernel
theorem dX9_readRing_113 : decode cX9_readRing 113 = .ok (.dup2, 1) := by decide +kernel
theorem dX9_readRing_114 : decode cX9_readRing 114 = .ok (.iaload, 1) := by decide +kernel
theorem dX9_readRing_115 : decode cX9_readRing 115 = .ok (.iconst 1, 1) := by decide +kernel
theorem dX9_readRing_116 : decode cX9_readRing 116 = .ok (.iadd, 1) := by decide +kernel
theorem dX9_readRing_117 : decode cX9_readRing 117 = .ok (.iastore, 1) := by decide +kernel
theorem dX9_readRing_118 : decode cX9_readRing 118 = .ok (.return_, 1) := by decide +kernel
theorem dX9_takeRing_0 : decode cX9_takeRing 0 = .ok (.aload_n 0, 1) := by decide +kernel
theorem dX9_takeRing_1 : decode cX9_takeRing 1 = .ok (.invokevirtual 174, 3) := by decide +kernel
theorem dX9_takeRing_4 : decode cX9_takeRing 4 = .ok (.ifCond .eq 19, 3) := by decide +kernel
theorem dX9_takeRing_7 : decode cX9_takeRing 7 = .ok (.aload_n 0, 1) := by decide +kernel
theorem dX9_takeRing_8 : decode cX9_takeRing 8 = .ok (.aload_n 0, 1) := by decide +kernel
theorem dX9_takeRing_9 : decode cX9_takeRing 9 = .ok (.getfield 30, 3) := by decide +kernel
theorem dX9_takeRing_12 : decode cX9_takeRing 12 = .ok (.aload_n 0, 1) := by decide +kernel
theorem dX9_takeRing_13 : decode cX9_takeRing 13 = .ok (.getfield 142, 3) := by decide +kernel
theorem dX9_takeRing_16 : decode cX9_takeRing 16 = .ok (.laload, 1) := by decide +kernel
theorem dX9_takeRing_17 : decode cX9_takeRing 17 = .ok (.invokevirtual 178, 3) := by decide +kernel
theorem dX9_takeRing_20 : decode cX9_takeRing 20 = .ok (.goto 4, 3) := by decide +kernel
theorem dX9_takeRing_23 : decode cX9_takeRing 23 = .ok (.iconst (-1), 1) := by decide +kernel
theorem dX9_takeRing_24 : decode cX9_takeRing 24 = .ok (.istore_n 1, 1) := by decide +kernel
theorem dX9_takeRing_25 : decode cX9_takeRing 25 = .ok (.aload_n 0, 1) := by decide +kernel
theorem dX9_takeRing_26 : decode cX9_takeRing 26 = .ok (.invokevirtual 174, 3) := by decide +kernel
theorem dX9_takeRing_29 : decode cX9_takeRing 29 = .ok (.ifCond .ne 11, 3) := by decide +kernel
theorem dX9_takeRing_32 : decode cX9_takeRing 32 = .ok (.aload_n 0, 1) := by decide +kernel
theorem dX9_takeRing_33 : decode cX9_takeRing 33 = .ok (.iconst 1, 1) := by decide +kernel
theorem dX9_takeRing_34 : decode cX9_takeRing 34 = .ok (.invokevirtual 151, 3) := by decide +kernel
theorem dX9_takeRing_37 : decode cX9_takeRing 37 = .ok (.goto 12, 3) := by decide +kernel
theorem dX9_takeRing_40 : decode cX9_takeRing 40 = .ok (.iload_n 1, 1) := by decide +kernel
theorem dX9_takeRing_41 : decode cX9_takeRing 41 = .ok (.ifCond .ge 8, 3) := by decide +kernel
theorem dX9_takeRing_44 : decode cX9_takeRing 44 = .ok (.aload_n 0, 1) := by decide +kernel
theorem dX9_takeRing_45 : decode cX9_takeRing 45 = .ok (.iconst 2, 1) := by decide +kernel
theorem dX9_takeRing_46 : decode cX9_takeRing 46 = .ok (.invokevirtual 151, 3) := by decide +kernel
theorem dX9_takeRing_49 : decode cX9_takeRing 49 = .ok (.aload_n 0, 1) := by decide +kernel
theorem dX9_takeRing_50 : decode cX9_takeRing 50 = .ok (.dup, 1) := by decide +kernel
theorem dX9_takeRing_51 : decode cX9_takeRing 51 = .ok (.getfield 142, 3) := by decide +kernel
theorem dX9_takeRing_54 : decode cX9_takeRing 54 = .ok (.aload_n 0, 1) := by decide +kernel
theorem dX9_takeRing_55 : decode cX9_takeRing 55 = .ok (.getfield 145, 3) := by decide +kernel
theorem dX9_takeRing_58 : decode cX9_takeRing 58 = .ok (.ifCond .ne 7, 3) := by decide +kernel
theorem dX9_takeRing_61 : decode cX9_takeRing 61 = .ok (.iconst 1, 1) := by decide +kernel
theorem dX9_takeRing_62 : decode cX9_takeRing 62 = .ok (.goto 4, 3) := by decide +kernel
theorem dX9_takeRing_65 : decode cX9_takeRing 65 = .ok (.iconst 0, 1) := by decide +kernel
theorem dX9_takeRing_66 : decode cX9_takeRing 66 = .ok (.iadd, 1) := by decide +kernel
theorem dX9_takeRing_67 : decode cX9_takeRing 67 = .ok (.putfield 142, 3) := by decide +kernel
theorem dX9_takeRing_70 : decode cX9_takeRing 70 = .ok (.aload_n 0, 1) := by decide +kernel
theorem dX9_takeRing_71 : decode cX9_takeRing 71 = .ok (.getfield 145, 3) := by decide +kernel
theorem dX9_takeRing_74 : decode cX9_takeRing 74 = .ok (.ifCond .le 7, 3) := by decide +kernel
theorem dX9_takeRing_77 : decode cX9_takeRing 77 = .ok (.iconst 0, 1) := by decide +kernel
theorem dX9_takeRing_78 : decode cX9_takeRing 78 = .ok (.goto 4, 3) := by decide +kernel
theorem dX9_takeRing_81 : decode cX9_takeRing 81 = .ok (.iload_n 1, 1) := by decide +kernel
theorem dX9_takeRing_82 : decode cX9_takeRing 82 = .ok (.ireturn, 1) := by decide +kernel
theorem dX9_takeAway_0 : decode cX9_takeAway 0 = .ok (.aload_n 0, 1) := by decide +kernel
theorem dX9_takeAway_1 : decode cX9_takeAway 1 = .ok (.bipush 45, 2) := by decide +kernel
theorem dX9_takeAway_3 : decode cX9_takeAway 3 = .ok (.invokevirtual 148, 3) := by decide +kernel
theorem dX9_takeAway_6 : decode cX9_takeAway 6 = .ok (.istore_n 1, 1) := by decide +kernel
theorem dX9_takeAway_7 : decode cX9_takeAway 7 = .ok (.aload_n 0, 1) := by decide +kernel
theorem dX9_takeAway_8 : decode cX9_takeAway 8 = .ok (.bipush 45, 2) := by decide +kernel
theorem dX9_takeAway_10 : decode cX9_takeAway 10 = .ok (.invokevirtual 185, 3) := by decide +kernel
theorem dX9_takeAway_13 : decode cX9_takeAway 13 = .ok (.ifCond .ne 10, 3) := by decide +kernel
theorem dX9_takeAway_16 : decode cX9_takeAway 16 = .ok (.aload_n 0, 1) := by decide +kernel
theorem dX9_takeAway_17 : decode cX9_takeAway 17 = .ok (.bipush 43, 2) := by decide +kernel
theorem dX9_takeAway_19 : decode cX9_takeAway 19 = .ok (.invokevirtual 185, 3) := by decide +kernel
theorem dX9_takeAway_22 : decode cX9_takeAway 22 = .ok (.istore_n 2, 1) := by decide +kernel
theorem dX9_takeAway_23 : decode cX9_takeAway 23 = .ok (.aload_n 0, 1) := by decide +kernel
theorem dX9_takeAway_24 : decode cX9_takeAway 24 = .ok (.getfield 145, 3) := by decide +kernel
theorem dX9_takeAway_27 : decode cX9_takeAway 27 = .ok (.ifCond .ne 24, 3) := by decide +kernel
theorem dX9_takeAway_30 : decode cX9_takeAway 30 = .ok (.aload_n 0, 1) := by decide +kernel
theorem dX9_takeAway_31 : decode cX9_takeAway 31 = .ok (.getfield 24, 3) := by decide +kernel
theorem dX9_takeAway_34 : decode cX9_takeAway 34 = .ok (.aload_n 0, 1) := by decide +kernel
theorem dX9_takeAway_35 : decode cX9_takeAway 35 = .ok (.getfield 142, 3) := by decide +kernel
theorem dX9_takeAway_38 : decode cX9_takeAway 38 = .ok (.iaload, 1) := by decide +kernel
theorem dX9_takeAway_39 : decode cX9_takeAway 39 = .ok (.iconst 2, 1) := by decide +kernel
theorem dX9_takeAway_40 : decode cX9_takeAway 40 = .ok (.if_icmp .eq 11, 3) := by decide +kernel
theorem dX9_takeAway_43 : decode cX9_takeAway 43 = .ok (.aload_n 0, 1) := by decide +kernel
theorem dX9_takeAway_44 : decode cX9_takeAway 44 = .ok (.iconst 1, 1) := by decide +kernel
theorem dX9_takeAway_45 : decode cX9_takeAway 45 = .ok (.invokevirtual 151, 3) := by decide +kernel
theorem dX9_takeAway_48 : decode cX9_takeAway 48 = .ok (.goto 31, 3) := by decide +kernel
theorem dX9_takeAway_51 : decode cX9_takeAway 51 = .ok (.aload_n 0, 1) := by decide +kernel
theorem dX9_takeAway_52 : decode cX9_takeAway 52 = .ok (.getfield 145, 3) := by decide +kernel
theorem dX9_takeAway_55 : decode cX9_takeAway 55 = .ok (.ifCond .ne 24, 3) := by decide +kernel
theorem dX9_takeAway_58 : decode cX9_takeAway 58 = .ok (.aload_n 0, 1) := by decide +kernel
theorem dX9_takeAway_59 : decode cX9_takeAway 59 = .ok (.getfield 30, 3) := by decide +kernel
theorem dX9_takeAway_62 : decode cX9_takeAway 62 = .ok (.aload_n 0, 1) := by decide +kernel
theorem dX9_takeAway_63 : decode cX9_takeAway 63 = .ok (.getfield 142, 3) := by decide +kernel
theorem dX9_takeAway_66 : decode cX9_takeAway 66 = .ok (.laload, 1) := by decide +kernel
theorem dX9_takeAway_67 : decode cX9_takeAway 67 = .ok (.ldc2_w 188, 3) := by decide +kernel
theorem dX9_takeAway_70 : decode cX9_takeAway 70 = .ok (.lcmp, 1) := by decide +kernel
theorem dX9_takeAway_71 : decode cX9_takeAway 71 = .ok (.ifCond .le 8, 3) := by decide +kernel
theorem dX9_takeAway_74 : decode cX9_takeAway 74 = .ok (.aload_n 0, 1) := by decide +kernel
theorem dX9_takeAway_75 : decode cX9_takeAway 75 = .ok (.iconst 4, 1) := by decide +kernel
theorem dX9_takeAway_76 : decode cX9_takeAway 76 = .ok (.invokevirtual 151, 3) := by decide +kernel
theorem dX9_takeAway_79 : decode cX9_takeAway 79 = .ok (.aload_n 0, 1) := by decide +kernel
theorem dX9_takeAway_80 : decode cX9_takeAway 80 = .ok (.getfield 145, 3) := by decide +kernel
theorem dX9_takeAway_83 : decode cX9_takeAway 83 = .ok (.ifCond .le 5, 3) := by decide +kernel
theorem dX9_takeAway_86 : decode cX9_takeAway 86 = .ok (.iconst 0, 1) := by decide +kernel
theorem dX9_takeAway_87 : decode cX9_takeAway 87 = .ok (.ireturn, 1) := by decide +kernel
theorem dX9_takeAway_88 : decode cX9_takeAway 88 = .ok (.aload_n 0, 1) := by decide +kernel
theorem dX9_takeAway_89 : decode cX9_takeAway 89 = .ok (.dup, 1) := by decide +kernel
theorem dX9_takeAway_90 : decode cX9_takeAway 90 = .ok (.getfield 142, 3) := by decide +kernel
theorem dX9_takeAway_93 : decode cX9_takeAway 93 = .ok (.iconst 1, 1) := by decide +kernel
theorem dX9_takeAway_94 : decode cX9_takeAway 94 = .ok (.iadd, 1) := by decide +kernel
theorem dX9_takeAway_95 : decode cX9_takeAway 95 = .ok (.putfield 142, 3) := by decide +kernel
theorem dX9_takeAway_98 : decode cX9_takeAway 98 = .ok (.iload_n 1, 1) := by decide +kernel
theorem dX9_takeAway_99 : decode cX9_takeAway 99 = .ok (.ifCond .eq 18, 3) := by decide +kernel
theorem dX9_takeAway_102 : decode cX9_takeAway 102 = .ok (.aload_n 0, 1) := by decide +kernel
theorem dX9_takeAway_103 : decode cX9_takeAway 103 = .ok (.getfield 30, 3) := by decide +kernel
theorem dX9_takeAway_106 : decode cX9_takeAway 106 = .ok (.aload_n 0, 1) := by decide +kernel
theorem dX9_takeAway_107 : decode cX9_takeAway 107 = .ok (.getfield 142, 3) := by decide +kernel
theorem dX9_takeAway_110 : decode cX9_takeAway 110 = .ok (.iconst 1, 1) := by decide +kernel
theorem dX9_takeAway_111 : decode cX9_takeAway 111 = .ok (.isub, 1) := by decide +kernel
theorem dX9_takeAway_112 : decode cX9_takeAway 112 = .ok (.laload, 1) := by decide +kernel
theorem dX9_takeAway_113 : decode cX9_takeAway 113 = .ok (.lneg, 1) := by decide +kernel
theorem dX9_takeAway_114 : decode cX9_takeAway 114 = .ok (.goto 14, 3) := by decide +kernel
theorem dX9_takeAway_117 : decode cX9_takeAway 117 = .ok (.aload_n 0, 1) := by decide +kernel
theorem dX9_takeAway_118 : decode cX9_takeAway 118 = .ok (.getfield 30, 3) := by decide +kernel
theorem dX9_takeAway_121 : decode cX9_takeAway 121 = .ok (.aload_n 0, 1) := by decide +kernel
theorem dX9_takeAway_122 : decode cX9_takeAway 122 = .ok (.getfield 142, 3) := by decide +kernel
theorem dX9_takeAway_125 : decode cX9_takeAway 125 = .ok (.iconst 1, 1) := by decide +kernel
theorem dX9_takeAway_126 : decode cX9_takeAway 126 = .ok (.isub, 1) := by decide +kernel
theorem dX9_takeAway_127 : decode cX9_takeAway 127 = .ok (.laload, 1) := by decide +kernel
theorem dX9_takeAway_128 : decode cX9_takeAway 128 = .ok (.l2i, 1) := by decide +kernel
theorem dX9_takeAway_129 : decode cX9_takeAway 129 = .ok (.ireturn, 1) := by decide +kernel
theorem dX9_isLinkTold_0 : decode cX9_isLinkTold 0 = .ok (.iconst 0, 1) := by decide +kernel
theorem dX9_isLinkTold_1 : decode cX9_isLinkTold 1 = .ok (.istore 5, 2) := by decide +kernel
theorem dX9_isLinkTold_3 : decode cX9_isLinkTold 3 = .ok (.bipush 24, 2) := by decide +kernel
theorem dX9_isLinkTold_5 : decode cX9_isLinkTold 5 = .ok (.istore 6, 2) := by decide +kernel
theorem dX9_isLinkTold_7 : decode cX9_isLinkTold 7 = .ok (.iload 6, 2) := by decide +kernel
theorem dX9_isLinkTold_9 : decode cX9_isLinkTold 9 = .ok (.bipush 24, 2) := by decide +kernel
theorem dX9_isLinkTold_11 : decode cX9_isLinkTold 11 = .ok (.aload_n 0, 1) := by decide +kernel
theorem dX9_isLinkTold_12 : decode cX9_isLinkTold 12 = .ok (.getfield 51, 3) := by decide +kernel
theorem dX9_isLinkTold_15 : decode cX9_isLinkTold 15 = .ok (.iconst 1, 1) := by decide +kernel
theorem dX9_isLinkTold_16 : decode cX9_isLinkTold 16 = .ok (.iaload, 1) := by decide +kernel
theorem dX9_isLinkTold_17 : decode cX9_isLinkTold 17 = .ok (.iadd, 1) := by decide +kernel
theorem dX9_isLinkTold_18 : decode cX9_isLinkTold 18 = .ok (.if_icmp .ge 113, 3) := by decide +kernel
theorem dX9_isLinkTold_21 : decode cX9_isLinkTold 21 = .ok (.iload 5, 2) := by decide +kernel
theorem dX9_isLinkTold_23 : decode cX9_isLinkTold 23 = .ok (.ifCond .ne 95, 3) := by decide +kernel
theorem dX9_isLinkTold_26 : decode cX9_isLinkTold 26 = .ok (.aload_n 0, 1) := by decide +kernel
theorem dX9_isLinkTold_27 : decode cX9_isLinkTold 27 = .ok (.getfield 54, 3) := by decide +kernel
theorem dX9_isLinkTold_30 : decode cX9_isLinkTold 30 = .ok (.iload 6, 2) := by decide +kernel
theorem dX9_isLinkTold_32 : decode cX9_isLinkTold 32 = .ok (.iaload, 1) := by decide +kernel
theorem dX9_isLinkTold_33 : decode cX9_isLinkTold 33 = .ok (.iload_n 1, 1) := by decide +kernel
theorem dX9_isLinkTold_34 : decode cX9_isLinkTold 34 = .ok (.if_icmp .ne 37, 3) := by decide +kernel
theorem dX9_isLinkTold_37 : decode cX9_isLinkTold 37 = .ok (.aload_n 0, 1) := by decide +kernel
theorem dX9_isLinkTold_38 : decode cX9_isLinkTold 38 = .ok (.getfield 57, 3) := by decide +kernel
theorem dX9_isLinkTold_41 : decode cX9_isLinkTold 41 = .ok (.iload 6, 2) := by decide +kernel
theorem dX9_isLinkTold_43 : decode cX9_isLinkTold 43 = .ok (.iaload, 1) := by decide +kernel
theorem dX9_isLinkTold_44 : decode cX9_isLinkTold 44 = .ok (.iload_n 2, 1) := by decide +kernel
theorem dX9_isLinkTold_45 : decode cX9_isLinkTold 45 = .ok (.if_icmp .ne 26, 3) := by decide +kernel
theorem dX9_isLinkTold_48 : decode cX9_isLinkTold 48 = .ok (.aload_n 0, 1) := by decide +kernel
theorem dX9_isLinkTold_49 : decode cX9_isLinkTold 49 = .ok (.getfield 60, 3) := by decide +kernel
theorem dX9_isLinkTold_52 : decode cX9_isLinkTold 52 = .ok (.iload 6, 2) := by decide +kernel
theorem dX9_isLinkTold_54 : decode cX9_isLinkTold 54 = .ok (.iaload, 1) := by decide +kernel
theorem dX9_isLinkTold_55 : decode cX9_isLinkTold 55 = .ok (.iload_n 3, 1) := by decide +kernel
theorem dX9_isLinkTold_56 : decode cX9_isLinkTold 56 = .ok (.if_icmp .ne 15, 3) := by decide +kernel
theorem dX9_isLinkTold_59 : decode cX9_isLinkTold 59 = .ok (.aload_n 0, 1) := by decide +kernel
theorem dX9_isLinkTold_60 : decode cX9_isLinkTold 60 = .ok (.getfield 63, 3) := by decide +kernel
theorem dX9_isLinkTold_63 : decode cX9_isLinkTold 63 = .ok (.iload 6, 2) := by decide +kernel
theorem dX9_isLinkTold_65 : decode cX9_isLinkTold 65 = .ok (.iaload, 1) := by decide +kernel
theorem dX9_isLinkTold_66 : decode cX9_isLinkTold 66 = .ok (.iload 4, 2) := by decide +kernel
theorem dX9_isLinkTold_68 : decode cX9_isLinkTold 68 = .ok (.if_icmp .eq 50, 3) := by decide +kernel
theorem dX9_isLinkTold_71 : decode cX9_isLinkTold 71 = .ok (.aload_n 0, 1) := by decide +kernel
theorem dX9_isLinkTold_72 : decode cX9_isLinkTold 72 = .ok (.getfield 54, 3) := by decide +kernel
theorem dX9_isLinkTold_75 : decode cX9_isLinkTold 75 = .ok (.iload 6, 2) := by decide +kernel
theorem dX9_isLinkTold_77 : decode cX9_isLinkTold 77 = .ok (.iaload, 1) := by decide +kernel
theorem dX9_isLinkTold_78 : decode cX9_isLinkTold 78 = .ok (.iload_n 2, 1) := by decide +kernel
theorem dX9_isLinkTold_79 : decode cX9_isLinkTold 79 = .ok (.if_icmp .ne 43, 3) := by decide +kernel
theorem dX9_isLinkTold_82 : decode cX9_isLinkTold 82 = .ok (.aload_n 0, 1) := by decide +kernel
theorem dX9_isLinkTold_83 : decode cX9_isLinkTold 83 = .ok (.getfield 57, 3) := by decide +kernel
theorem dX9_isLinkTold_86 : decode cX9_isLinkTold 86 = .ok (.iload 6, 2) := by decide +kernel
theorem dX9_isLinkTold_88 : decode cX9_isLinkTold 88 = .ok (.iaload, 1) := by decide +kernel
theorem dX9_isLinkTold_89 : decode cX9_isLinkTold 89 = .ok (.iload_n 1, 1) := by decide +kernel
theorem dX9_isLinkTold_90 : decode cX9_isLinkTold 90 = .ok (.if_icmp .ne 32, 3) := by decide +kernel
theorem dX9_isLinkTold_93 : decode cX9_isLinkTold 93 = .ok (.aload_n 0, 1) := by decide +kernel
theorem dX9_isLinkTold_94 : decode cX9_isLinkTold 94 = .ok (.getfield 60, 3) := by decide +kernel
theorem dX9_isLinkTold_97 : decode cX9_isLinkTold 97 = .ok (.iload 6, 2) := by decide +kernel
theorem dX9_isLinkTold_99 : decode cX9_isLinkTold 99 = .ok (.iaload, 1) := by decide +kernel
theorem dX9_isLinkTold_100 : decode cX9_isLinkTold 100 = .ok (.iload_n 3, 1) := by decide +kernel
theorem dX9_isLinkTold_101 : decode cX9_isLinkTold 101 = .ok (.ineg, 1) := by decide +kernel
theorem dX9_isLinkTold_102 : decode cX9_isLinkTold 102 = .ok (.if_icmp .ne 20, 3) := by decide +kernel
theorem dX9_isLinkTold_105 : decode cX9_isLinkTold 105 = .ok (.aload_n 0, 1) := by decide +kernel
theorem dX9_isLinkTold_106 : decode cX9_isLinkTold 106 = .ok (.getfield 63, 3) := by decide +kernel
theorem dX9_isLinkTold_109 : decode cX9_isLinkTold 109 = .ok (.iload 6, 2) := by decide +kernel
theorem dX9_isLinkTold_111 : decode cX9_isLinkTold 111 = .ok (.iaload, 1) := by decide +kernel
theorem dX9_isLinkTold_112 : decode cX9_isLinkTold 112 = .ok (.iload 4, 2) := by decide +kernel
theorem dX9_isLinkTold_114 : decode cX9_isLinkTold 114 = .ok (.ineg, 1) := by decide +kernel
theorem dX9_isLinkTold_115 : decode cX9_isLinkTold 115 = .ok (.if_icmp .ne 7, 3) := by decide +kernel
theorem dX9_isLinkTold_118 : decode cX9_isLinkTold 118 = .ok (.iconst 1, 1) := by decide +kernel
theorem dX9_isLinkTold_119 : decode cX9_isLinkTold 119 = .ok (.goto 4, 3) := by decide +kernel
theorem dX9_isLinkTold_122 : decode cX9_isLinkTold 122 = .ok (.iconst 0, 1) := by decide +kernel
theorem dX9_isLinkTold_123 : decode cX9_isLinkTold 123 = .ok (.istore 5, 2) := by decide +kernel
theorem dX9_isLinkTold_125 : decode cX9_isLinkTold 125 = .ok (.iinc 6 1, 3) := by decide +kernel
theorem dX9_isLinkTold_128 : decode cX9_isLinkTold 128 = .ok (.goto (-121), 3) := by decide +kernel
theorem dX9_isLinkTold_131 : decode cX9_isLinkTold 131 = .ok (.iload 5, 2) := by decide +kernel
theorem dX9_isLinkTold_133 : decode cX9_isLinkTold 133 = .ok (.ireturn, 1) := by decide +kernel
theorem dX9_readLink_0 : decode cX9_readLink 0 = .ok (.aload_n 0, 1) := by decide +kernel
theorem dX9_readLink_1 : decode cX9_readLink 1 = .ok (.getfield 51, 3) := by decide +kernel
theorem dX9_readLink_4 : decode cX9_readLink 4 = .ok (.iconst 1, 1) := by decide +kernel
theorem dX9_readLink_5 : decode cX9_readLink 5 = .ok (.iaload, 1) := by decide +kernel
theorem dX9_readLink_6 : decode cX9_readLink 6 = .ok (.bipush 24, 2) := by decide +kernel
theorem dX9_readLink_8 : decode cX9_readLink 8 = .ok (.if_icmp .ne 9, 3) := by decide +kernel
theorem dX9_readLink_11 : decode cX9_readLink 11 = .ok (.aload_n 0, 1) := by decide +kernel
theorem dX9_readLink_12 : decode cX9_readLink 12 = .ok (.iconst 5, 1) := by decide +kernel
theorem dX9_readLink_13 : decode cX9_readLink 13 = .ok (.invokevirtual 151, 3) := by decide +kernel
theorem dX9_readLink_16 : decode cX9_readLink 16 = .ok (.return_, 1) := by decide +kernel
theorem dX9_readLink_17 : decode cX9_readLink 17 = .ok (.aload_n 0, 1) := by decide +kernel
theorem dX9_readLink_18 : decode cX9_readLink 18 = .ok (.dup, 1) := by decide +kernel
theorem dX9_readLink_19 : decode cX9_readLink 19 = .ok (.getfield 142, 3) := by decide +kernel
theorem dX9_readLink_22 : decode cX9_readLink 22 = .ok (.iconst 1, 1) := by decide +kernel
theorem dX9_readLink_23 : decode cX9_readLink 23 = .ok (.iadd, 1) := by decide +kernel
theorem dX9_readLink_24 : decode cX9_readLink 24 = .ok (.putfield 142, 3) := by decide +kernel
theorem dX9_readLink_27 : decode cX9_readLink 27 = .ok (.aload_n 0, 1) := by decide +kernel
theorem dX9_readLink_28 : decode cX9_readLink 28 = .ok (.invokevirtual 190, 3) := by decide +kernel
theorem dX9_readLink_31 : decode cX9_readLink 31 = .ok (.istore_n 1, 1) := by decide +kernel
theorem dX9_readLink_32 : decode cX9_readLink 32 = .ok (.aload_n 0, 1) := by decide +kernel
theorem dX9_readLink_33 : decode cX9_readLink 33 = .ok (.invokevirtual 190, 3) := by decide +kernel
theorem dX9_readLink_36 : decode cX9_readLink 36 = .ok (.istore_n 2, 1) := by decide +kernel
theorem dX9_readLink_37 : decode cX9_readLink 37 = .ok (.aload_n 0, 1) := by decide +kernel
theorem dX9_readLink_38 : decode cX9_readLink 38 = .ok (.invokevirtual 194, 3) := by decide +kernel
theorem dX9_readLink_41 : decode cX9_readLink 41 = .ok (.istore_n 3, 1) := by decide +kernel
theorem dX9_readLink_42 : decode cX9_readLink 42 = .ok (.aload_n 0, 1) := by decide +kernel
theorem dX9_readLink_43 : decode cX9_readLink 43 = .ok (.invokevirtual 194, 3) := by decide +kernel
theorem dX9_readLink_46 : decode cX9_readLink 46 = .ok (.istore 4, 2) := by decide +kernel
theorem dX9_readLink_48 : decode cX9_readLink 48 = .ok (.aload_n 0, 1) := by decide +kernel
theorem dX9_readLink_49 : decode cX9_readLink 49 = .ok (.iconst 2, 1) := by decide +kernel
theorem dX9_readLink_50 : decode cX9_readLink 50 = .ok (.invokevirtual 155, 3) := by decide +kernel
theorem dX9_readLink_53 : decode cX9_readLink 53 = .ok (.istore 5, 2) := by decide +kernel
theorem dX9_readLink_55 : decode cX9_readLink 55 = .ok (.iload 5, 2) := by decide +kernel
theorem dX9_readLink_57 : decode cX9_readLink 57 = .ok (.ifCond .ne 19, 3) := by decide +kernel
theorem dX9_readLink_60 : decode cX9_readLink 60 = .ok (.aload_n 0, 1) := by decide +kernel
theorem dX9_readLink_61 : decode cX9_readLink 61 = .ok (.iconst 3, 1) := by decide +kernel
theorem dX9_readLink_62 : decode cX9_readLink 62 = .ok (.invokevirtual 155, 3) := by decide +kernel
theorem dX9_readLink_65 : decode cX9_readLink 65 = .ok (.ifCond .ne 11, 3) := by decide +kernel
theorem dX9_readLink_68 : decode cX9_readLink 68 = .ok (.aload_n 0, 1) := by decide +kernel
theorem dX9_readLink_69 : decode cX9_readLink 69 = .ok (.iconst 1, 1) := by decide +kernel
theorem dX9_readLink_70 : decode cX9_readLink 70 = .ok (.invokevirtual 151, 3) := by decide +kernel
theorem dX9_readLink_73 : decode cX9_readLink 73 = .ok (.goto 35, 3) := by decide +kernel
theorem dX9_readLink_76 : decode cX9_readLink 76 = .ok (.iload_n 1, 1) := by decide +kernel
theorem dX9_readLink_77 : decode cX9_readLink 77 = .ok (.iload_n 2, 1) := by decide +kernel
theorem dX9_readLink_78 : decode cX9_readLink 78 = .ok (.if_icmp .ne 12, 3) := by decide +kernel
theorem dX9_readLink_81 : decode cX9_readLink 81 = .ok (.iload_n 3, 1) := by decide +kernel
theorem dX9_readLink_82 : decode cX9_readLink 82 = .ok (.ifCond .ne 8, 3) := by decide +kernel
theorem dX9_readLink_85 : decode cX9_readLink 85 = .ok (.iload 4, 2) := by decide +kernel
theorem dX9_readLink_87 : decode cX9_readLink 87 = .ok (.ifCond .eq 15, 3) := by decide +kernel
theorem dX9_readLink_90 : decode cX9_readLink 90 = .ok (.aload_n 0, 1) := by decide +kernel
theorem dX9_readLink_91 : decode cX9_readLink 91 = .ok (.iload_n 1, 1) := by decide +kernel
theorem dX9_readLink_92 : decode cX9_readLink 92 = .ok (.iload_n 2, 1) := by decide +kernel
theorem dX9_readLink_93 : decode cX9_readLink 93 = .ok (.iload_n 3, 1) := by decide +kernel
theorem dX9_readLink_94 : decode cX9_readLink 94 = .ok (.iload 4, 2) := by decide +kernel
theorem dX9_readLink_96 : decode cX9_readLink 96 = .ok (.invokevirtual 197, 3) := by decide +kernel
theorem dX9_readLink_99 : decode cX9_readLink 99 = .ok (.ifCond .eq 9, 3) := by decide +kernel
theorem dX9_readLink_102 : decode cX9_readLink 102 = .ok (.aload_n 0, 1) := by decide +kernel
theorem dX9_readLink_103 : decode cX9_readLink 103 = .ok (.bipush 6, 2) := by decide +kernel
theorem dX9_readLink_105 : decode cX9_readLink 105 = .ok (.invokevirtual 151, 3) := by decide +kernel
theorem dX9_readLink_108 : decode cX9_readLink 108 = .ok (.aload_n 0, 1) := by decide +kernel
theorem dX9_readLink_109 : decode cX9_readLink 109 = .ok (.getfield 145, 3) := by decide +kernel
theorem dX9_readLink_112 : decode cX9_readLink 112 = .ok (.ifCond .le 4, 3) := by decide +kernel
theorem dX9_readLink_115 : decode cX9_readLink 115 = .ok (.return_, 1) := by decide +kernel
theorem dX9_readLink_116 : decode cX9_readLink 116 = .ok (.aload_n 0, 1) := by decide +kernel
theorem dX9_readLink_117 : decode cX9_readLink 117 = .ok (.dup, 1) := by decide +kernel
theorem dX9_readLink_118 : decode cX9_readLink 118 = .ok (.getfield 142, 3) := by decide +kernel
theorem dX9_readLink_121 : decode cX9_readLink 121 = .ok (.iconst 1, 1) := by decide +kernel
theorem dX9_readLink_122 : decode cX9_readLink 122 = .ok (.iadd, 1) := by decide +kernel
theorem dX9_readLink_123 : decode cX9_readLink 123 = .ok (.putfield 142, 3) := by decide +kernel
theorem dX9_readLink_126 : decode cX9_readLink 126 = .ok (.aload_n 0, 1) := by decide +kernel
theorem dX9_readLink_127 : decode cX9_readLink 127 = .ok (.bipush 59, 2) := by decide +kernel
theorem dX9_readLink_129 : decode cX9_readLink 129 = .ok (.invokevirtual 182, 3) := by decide +kernel
theorem dX9_readLink_132 : decode cX9_readLink 132 = .ok (.bipush 24, 2) := by decide +kernel
theorem dX9_readLink_134 : decode cX9_readLink 134 = .ok (.aload_n 0, 1) := by decide +kernel
theorem dX9_readLink_135 : decode cX9_readLink 135 = .ok (.getfield 51, 3) := by decide +kernel
theorem dX9_readLink_138 : decode cX9_readLink 138 = .ok (.iconst 1, 1) := by decide +kernel
theorem dX9_readLink_139 : decode cX9_readLink 139 = .ok (.iaload, 1) := by decide +kernel
theorem dX9_readLink_140 : decode cX9_readLink 140 = .ok (.iadd, 1) := by decide +kernel
theorem dX9_readLink_141 : decode cX9_readLink 141 = .ok (.istore 6, 2) := by decide +kernel
theorem dX9_readLink_143 : decode cX9_readLink 143 = .ok (.aload_n 0, 1) := by decide +kernel
theorem dX9_readLink_144 : decode cX9_readLink 144 = .ok (.getfield 54, 3) := by decide +kernel
theorem dX9_readLink_147 : decode cX9_readLink 147 = .ok (.iload 6, 2) := by decide +kernel
theorem dX9_readLink_149 : decode cX9_readLink 149 = .ok (.iload_n 1, 1) := by decide +kernel
theorem dX9_readLink_150 : decode cX9_readLink 150 = .ok (.iastore, 1) := by decide +kernel
theorem dX9_readLink_151 : decode cX9_readLink 151 = .ok (.aload_n 0, 1) := by decide +kernel
theorem dX9_readLink_152 : decode cX9_readLink 152 = .ok (.getfield 57, 3) := by decide +kernel
theorem dX9_readLink_155 : decode cX9_readLink 155 = .ok (.iload 6, 2) := by decide +kernel
theorem dX9_readLink_157 : decode cX9_readLink 157 = .ok (.iload_n 2, 1) := by decide +kernel
theorem dX9_readLink_158 : decode cX9_readLink 158 = .ok (.iastore, 1) := by decide +kernel
theorem dX9_readLink_159 : decode cX9_readLink 159 = .ok (.aload_n 0, 1) := by decide +kernel
theorem dX9_readLink_160 : decode cX9_readLink 160 = .ok (.getfield 60, 3) := by decide +kernel
theorem dX9_readLink_163 : decode cX9_readLink 163 = .ok (.iload 6, 2) := by decide +kernel
theorem dX9_readLink_165 : decode cX9_readLink 165 = .ok (.iload_n 3, 1) := by decide +kernel
theorem dX9_readLink_166 : decode cX9_readLink 166 = .ok (.iastore, 1) := by decide +kernel
theorem dX9_readLink_167 : decode cX9_readLink 167 = .ok (.aload_n 0, 1) := by decide +kernel
theorem dX9_readLink_168 : decode cX9_readLink 168 = .ok (.getfield 63, 3) := by decide +kernel
theorem dX9_readLink_171 : decode cX9_readLink 171 = .ok (.iload 6, 2) := by decide +kernel
theorem dX9_readLink_173 : decode cX9_readLink 173 = .ok (.iload 4, 2) := by decide +kernel
theorem dX9_readLink_175 : decode cX9_readLink 175 = .ok (.iastore, 1) := by decide +kernel
theorem dX9_readLink_176 : decode cX9_readLink 176 = .ok (.aload_n 0, 1) := by decide +kernel
theorem dX9_readLink_177 : decode cX9_readLink 177 = .ok (.getfield 66, 3) := by decide +kernel
theorem dX9_readLink_180 : decode cX9_readLink 180 = .ok (.iload 6, 2) := by decide +kernel
theorem dX9_readLink_182 : decode cX9_readLink 182 = .ok (.iload 5, 2) := by decide +kernel
theorem dX9_readLink_184 : decode cX9_readLink 184 = .ok (.bastore, 1) := by decide +kernel
theorem dX9_readLink_185 : decode cX9_readLink 185 = .ok (.aload_n 0, 1) := by decide +kernel
theorem dX9_readLink_186 : decode cX9_readLink 186 = .ok (.getfield 51, 3) := by decide +kernel
theorem dX9_readLink_189 : decode cX9_readLink 189 = .ok (.iconst 1, 1) := by decide +kernel
theorem dX9_readLink_190 : decode cX9_readLink 190 = .ok (.dup2, 1) := by decide +kernel
theorem dX9_readLink_191 : decode cX9_readLink 191 = .ok (.iaload, 1) := by decide +kernel
theorem dX9_readLink_192 : decode cX9_readLink 192 = .ok (.iconst 1, 1) := by decide +kernel
theorem dX9_readLink_193 : decode cX9_readLink 193 = .ok (.iadd, 1) := by decide +kernel
theorem dX9_readLink_194 : decode cX9_readLink 194 = .ok (.iastore, 1) := by decide +kernel
theorem dX9_readLink_195 : decode cX9_readLink 195 = .ok (.return_, 1) := by decide +kernel
theorem dX9_isRing_0 : decode cX9_isRing 0 = .ok (.iload_n 1, 1) := by decide +kernel
theorem dX9_isRing_1 : decode cX9_isRing 1 = .ok (.ifCond .lt 24, 3) := by decide +kernel
theorem dX9_isRing_4 : decode cX9_isRing 4 = .ok (.iload_n 1, 1) := by decide +kernel
theorem dX9_isRing_5 : decode cX9_isRing 5 = .ok (.aload_n 0, 1) := by decide +kernel
theorem dX9_isRing_6 : decode cX9_isRing 6 = .ok (.getfield 201, 3) := by decide +kernel
theorem dX9_isRing_9 : decode cX9_isRing 9 = .ok (.if_icmp .ge 16, 3) := by decide +kernel
theorem dX9_isRing_12 : decode cX9_isRing 12 = .ok (.aload_n 0, 1) := by decide +kernel
theorem dX9_isRing_13 : decode cX9_isRing 13 = .ok (.getfield 70, 3) := by decide +kernel
theorem dX9_isRing_16 : decode cX9_isRing 16 = .ok (.iload_n 1, 1) := by decide +kernel
theorem dX9_isRing_17 : decode cX9_isRing 17 = .ok (.baload, 1) := by decide +kernel
theorem dX9_isRing_18 : decode cX9_isRing 18 = .ok (.ifCond .eq 7, 3) := by decide +kernel
theorem dX9_isRing_21 : decode cX9_isRing 21 = .ok (.iconst 1, 1) := by decide +kernel
theorem dX9_isRing_22 : decode cX9_isRing 22 = .ok (.goto 4, 3) := by decide +kernel
theorem dX9_isRing_25 : decode cX9_isRing 25 = .ok (.iconst 0, 1) := by decide +kernel
theorem dX9_isRing_26 : decode cX9_isRing 26 = .ok (.ireturn, 1) := by decide +kernel
theorem dX9_sets_0 : decode cX9_sets 0 = .ok (.aload_n 0, 1) := by decide +kernel
theorem dX9_sets_1 : decode cX9_sets 1 = .ok (.getfield 74, 3) := by decide +kernel
theorem dX9_sets_4 : decode cX9_sets 4 = .ok (.sipush 300, 3) := by decide +kernel
theorem dX9_sets_7 : decode cX9_sets 7 = .ok (.iload_n 1, 1) := by decide +kernel
theorem dX9_sets_8 : decode cX9_sets 8 = .ok (.imul, 1) := by decide +kernel
theorem dX9_sets_9 : decode cX9_sets 9 = .ok (.iload_n 2, 1) := by decide +kernel
theorem dX9_sets_10 : decode cX9_sets 10 = .ok (.iadd, 1) := by decide +kernel
theorem dX9_sets_11 : decode cX9_sets 11 = .ok (.iload_n 3, 1) := by decide +kernel
theorem dX9_sets_12 : decode cX9_sets 12 = .ok (.iastore, 1) := by decide +kernel
theorem dX9_sets_13 : decode cX9_sets 13 = .ok (.aload_n 0, 1) := by decide +kernel
theorem dX9_sets_14 : decode cX9_sets 14 = .ok (.getfield 74, 3) := by decide +kernel
theorem dX9_sets_17 : decode cX9_sets 17 = .ok (.sipush 300, 3) := by decide +kernel
theorem dX9_sets_20 : decode cX9_sets 20 = .ok (.iload_n 2, 1) := by decide +kernel
theorem dX9_sets_21 : decode cX9_sets 21 = .ok (.imul, 1) := by decide +kernel
theorem dX9_sets_22 : decode cX9_sets 22 = .ok (.iload_n 1, 1) := by decide +kernel
theorem dX9_sets_23 : decode cX9_sets 23 = .ok (.iadd, 1) := by decide +kernel
theorem dX9_sets_24 : decode cX9_sets 24 = .ok (.iload_n 3, 1) := by decide +kernel
theorem dX9_sets_25 : decode cX9_sets 25 = .ok (.ineg, 1) := by decide +kernel
theorem dX9_sets_26 : decode cX9_sets 26 = .ok (.iastore, 1) := by decide +kernel
theorem dX9_sets_27 : decode cX9_sets 27 = .ok (.return_, 1) := by decide +kernel
theorem dX9_partner_0 : decode cX9_partner 0 = .ok (.bipush 48, 2) := by decide +kernel
theorem dX9_partner_2 : decode cX9_partner 2 = .ok (.iload_n 2, 1) := by decide +kernel
theorem dX9_partner_3 : decode cX9_partner 3 = .ok (.iadd, 1) := by decide +kernel
theorem dX9_partner_4 : decode cX9_partner 4 = .ok (.istore 4, 2) := by decide +kernel
theorem dX9_partner_6 : decode cX9_partner 6 = .ok (.aload_n 0, 1) := by decide +kernel
theorem dX9_partner_7 : decode cX9_partner 7 = .ok (.getfield 45, 3) := by decide +kernel
theorem dX9_partner_10 : decode cX9_partner 10 = .ok (.iconst 2, 1) := by decide +kernel
theorem dX9_partner_11 : decode cX9_partner 11 = .ok (.iaload, 1) := by decide +kernel
theorem dX9_partner_12 : decode cX9_partner 12 = .ok (.istore 5, 2) := by decide +kernel
theorem dX9_partner_14 : decode cX9_partner 14 = .ok (.iload_n 1, 1) := by decide +kernel
theorem dX9_partner_15 : decode cX9_partner 15 = .ok (.iload 5, 2) := by decide +kernel
theorem dX9_partner_17 : decode cX9_partner 17 = .ok (.irem, 1) := by decide +kernel
theorem dX9_partner_18 : decode cX9_partner 18 = .ok (.iload_n 3, 1) := by decide +kernel
theorem dX9_partner_19 : decode cX9_partner 19 = .ok (.ifCond .eq 13, 3) := by decide +kernel
theorem dX9_partner_22 : decode cX9_partner 22 = .ok (.aload_n 0, 1) := by decide +kernel
theorem dX9_partner_23 : decode cX9_partner 23 = .ok (.getfield 54, 3) := by decide +kernel
theorem dX9_partner_26 : decode cX9_partner 26 = .ok (.iload 4, 2) := by decide +kernel
theorem dX9_partner_28 : decode cX9_partner 28 = .ok (.iaload, 1) := by decide +kernel
theorem dX9_partner_29 : decode cX9_partner 29 = .ok (.goto 10, 3) := by decide +kernel
theorem dX9_partner_32 : decode cX9_partner 32 = .ok (.aload_n 0, 1) := by decide +kernel
theorem dX9_partner_33 : decode cX9_partner 33 = .ok (.getfield 57, 3) := by decide +kernel
theorem dX9_partner_36 : decode cX9_partner 36 = .ok (.iload 4, 2) := by decide +kernel
theorem dX9_partner_38 : decode cX9_partner 38 = .ok (.iaload, 1) := by decide +kernel
theorem dX9_partner_39 : decode cX9_partner 39 = .ok (.if_icmp .eq 5, 3) := by decide +kernel
theorem dX9_partner_42 : decode cX9_partner 42 = .ok (.iconst (-1), 1) := by decide +kernel
theorem dX9_partner_43 : decode cX9_partner 43 = .ok (.ireturn, 1) := by decide +kernel
theorem dX9_partner_44 : decode cX9_partner 44 = .ok (.iload_n 1, 1) := by decide +kernel
theorem dX9_partner_45 : decode cX9_partner 45 = .ok (.iload 5, 2) := by decide +kernel
theorem dX9_partner_47 : decode cX9_partner 47 = .ok (.idiv, 1) := by decide +kernel
theorem dX9_partner_48 : decode cX9_partner 48 = .ok (.aload_n 0, 1) := by decide +kernel
theorem dX9_partner_49 : decode cX9_partner 49 = .ok (.getfield 204, 3) := by decide +kernel
theorem dX9_partner_52 : decode cX9_partner 52 = .ok (.irem, 1) := by decide +kernel
theorem dX9_partner_53 : decode cX9_partner 53 = .ok (.iload_n 3, 1) := by decide +kernel
theorem dX9_partner_54 : decode cX9_partner 54 = .ok (.ifCond .eq 13, 3) := by decide +kernel
theorem dX9_partner_57 : decode cX9_partner 57 = .ok (.aload_n 0, 1) := by decide +kernel
theorem dX9_partner_58 : decode cX9_partner 58 = .ok (.getfield 60, 3) := by decide +kernel
theorem dX9_partner_61 : decode cX9_partner 61 = .ok (.iload 4, 2) := by decide +kernel
theorem dX9_partner_63 : decode cX9_partner 63 = .ok (.iaload, 1) := by decide +kernel
theorem dX9_partner_64 : decode cX9_partner 64 = .ok (.goto 11, 3) := by decide +kernel
theorem dX9_partner_67 : decode cX9_partner 67 = .ok (.aload_n 0, 1) := by decide +kernel
theorem dX9_partner_68 : decode cX9_partner 68 = .ok (.getfield 60, 3) := by decide +kernel
theorem dX9_partner_71 : decode cX9_partner 71 = .ok (.iload 4, 2) := by decide +kernel
theorem dX9_partner_73 : decode cX9_partner 73 = .ok (.iaload, 1) := by decide +kernel
theorem dX9_partner_74 : decode cX9_partner 74 = .ok (.ineg, 1) := by decide +kernel
theorem dX9_partner_75 : decode cX9_partner 75 = .ok (.iadd, 1) := by decide +kernel
theorem dX9_partner_76 : decode cX9_partner 76 = .ok (.istore 6, 2) := by decide +kernel
theorem dX9_partner_78 : decode cX9_partner 78 = .ok (.iload_n 1, 1) := by decide +kernel
theorem dX9_partner_79 : decode cX9_partner 79 = .ok (.iload 5, 2) := by decide +kernel
theorem dX9_partner_81 : decode cX9_partner 81 = .ok (.idiv, 1) := by decide +kernel
theorem dX9_partner_82 : decode cX9_partner 82 = .ok (.aload_n 0, 1) := by decide +kernel
theorem dX9_partner_83 : decode cX9_partner 83 = .ok (.getfield 204, 3) := by decide +kernel
theorem dX9_partner_86 : decode cX9_partner 86 = .ok (.idiv, 1) := by decide +kernel
theorem dX9_partner_87 : decode cX9_partner 87 = .ok (.iload_n 3, 1) := by decide +kernel
theorem dX9_partner_88 : decode cX9_partner 88 = .ok (.ifCond .eq 13, 3) := by decide +kernel
theorem dX9_partner_91 : decode cX9_partner 91 = .ok (.aload_n 0, 1) := by decide +kernel
theorem dX9_partner_92 : decode cX9_partner 92 = .ok (.getfield 63, 3) := by decide +kernel
theorem dX9_partner_95 : decode cX9_partner 95 = .ok (.iload 4, 2) := by decide +kernel
theorem dX9_partner_97 : decode cX9_partner 97 = .ok (.iaload, 1) := by decide +kernel
theorem dX9_partner_98 : decode cX9_partner 98 = .ok (.goto 11, 3) := by decide +kernel
theorem dX9_partner_101 : decode cX9_partner 101 = .ok (.aload_n 0, 1) := by decide +kernel
theorem dX9_partner_102 : decode cX9_partner 102 = .ok (.getfield 63, 3) := by decide +kernel
theorem dX9_partner_105 : decode cX9_partner 105 = .ok (.iload 4, 2) := by decide +kernel
theorem dX9_partner_107 : decode cX9_partner 107 = .ok (.iaload, 1) := by decide +kernel
theorem dX9_partner_108 : decode cX9_partner 108 = .ok (.ineg, 1) := by decide +kernel
theorem dX9_partner_109 : decode cX9_partner 109 = .ok (.iadd, 1) := by decide +kernel
theorem dX9_partner_110 : decode cX9_partner 110 = .ok (.istore 7, 2) := by decide +kernel
theorem dX9_partner_112 : decode cX9_partner 112 = .ok (.iload 6, 2) := by decide +kernel
theorem dX9_partner_114 : decode cX9_partner 114 = .ok (.ifCond .lt 26, 3) := by decide +kernel
theorem dX9_partner_117 : decode cX9_partner 117 = .ok (.iload 7, 2) := by decide +kernel
theorem dX9_partner_119 : decode cX9_partner 119 = .ok (.ifCond .lt 21, 3) := by decide +kernel
theorem dX9_partner_122 : decode cX9_partner 122 = .ok (.iload 6, 2) := by decide +kernel
theorem dX9_partner_124 : decode cX9_partner 124 = .ok (.aload_n 0, 1) := by decide +kernel
theorem dX9_partner_125 : decode cX9_partner 125 = .ok (.getfield 204, 3) := by decide +kernel
theorem dX9_partner_128 : decode cX9_partner 128 = .ok (.if_icmp .ge 12, 3) := by decide +kernel
theorem dX9_partner_131 : decode cX9_partner 131 = .ok (.iload 7, 2) := by decide +kernel
theorem dX9_partner_133 : decode cX9_partner 133 = .ok (.aload_n 0, 1) := by decide +kernel
theorem dX9_partner_134 : decode cX9_partner 134 = .ok (.getfield 207, 3) := by decide +kernel
theorem dX9_partner_137 : decode cX9_partner 137 = .ok (.if_icmp .lt 7, 3) := by decide +kernel
theorem dX9_partner_140 : decode cX9_partner 140 = .ok (.iconst (-1), 1) := by decide +kernel
theorem dX9_partner_141 : decode cX9_partner 141 = .ok (.goto 38, 3) := by decide +kernel
theorem dX9_partner_144 : decode cX9_partner 144 = .ok (.iload 7, 2) := by decide +kernel
theorem dX9_partner_146 : decode cX9_partner 146 = .ok (.aload_n 0, 1) := by decide +kernel
theorem dX9_partner_147 : decode cX9_partner 147 = .ok (.getfield 204, 3) := by decide +kernel
theorem dX9_partner_150 : decode cX9_partner 150 = .ok (.imul, 1) := by decide +kernel
theorem dX9_partner_151 : decode cX9_partner 151 = .ok (.iload 6, 2) := by decide +kernel
theorem dX9_partner_153 : decode cX9_partner 153 = .ok (.iadd, 1) := by decide +kernel
theorem dX9_partner_154 : decode cX9_partner 154 = .ok (.iload 5, 2) := by decide +kernel
theorem dX9_partner_156 : decode cX9_partner 156 = .ok (.imul, 1) := by decide +kernel
theorem dX9_partner_157 : decode cX9_partner 157 = .ok (.iload_n 3, 1) := by decide +kernel
theorem dX9_partner_158 : decode cX9_partner 158 = .ok (.ifCond .eq 13, 3) := by decide +kernel
theorem dX9_partner_161 : decode cX9_partner 161 = .ok (.aload_n 0, 1) := by decide +kernel
theorem dX9_partner_162 : decode cX9_partner 162 = .ok (.getfield 57, 3) := by decide +kernel
theorem dX9_partner_165 : decode cX9_partner 165 = .ok (.iload 4, 2) := by decide +kernel
theorem dX9_partner_167 : decode cX9_partner 167 = .ok (.iaload, 1) := by decide +kernel
theorem dX9_partner_168 : decode cX9_partner 168 = .ok (.goto 10, 3) := by decide +kernel
theorem dX9_partner_171 : decode cX9_partner 171 = .ok (.aload_n 0, 1) := by decide +kernel
theorem dX9_partner_172 : decode cX9_partner 172 = .ok (.getfield 54, 3) := by decide +kernel
theorem dX9_partner_175 : decode cX9_partner 175 = .ok (.iload 4, 2) := by decide +kernel
theorem dX9_partner_177 : decode cX9_partner 177 = .ok (.iaload, 1) := by decide +kernel
theorem dX9_partner_178 : decode cX9_partner 178 = .ok (.iadd, 1) := by decide +kernel
theorem dX9_partner_179 : decode cX9_partner 179 = .ok (.ireturn, 1) := by decide +kernel
