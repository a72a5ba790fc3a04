theorem dX6_canBeMore_6 : decode cX6_canBeMore 6 = .ok (.iload_n 1, 1) := by decide +kernel
theorem dX6_canBeMore_7 : decode cX6_canBeMore 7 = .ok (.bipush 59, 2) := by decide +kernel
theorem dX6_canBeMore_9 : decode cX6_canBeMore 9 = .ok (.if_icmp .le 5, 3) := by decide +kernel
theorem dX6_canBeMore_12 : decode cX6_canBeMore 12 = .ok (.iconst 0, 1) := by decide +kernel
theorem dX6_canBeMore_13 : decode cX6_canBeMore 13 = .ok (.ireturn, 1) := by decide +kernel
theorem dX6_canBeMore_14 : decode cX6_canBeMore 14 = .ok (.aload_n 0, 1) := by decide +kernel
theorem dX6_canBeMore_15 : decode cX6_canBeMore 15 = .ok (.getfield 116, 3) := by decide +kernel
theorem dX6_canBeMore_18 : decode cX6_canBeMore 18 = .ok (.iload_n 1, 1) := by decide +kernel
theorem dX6_canBeMore_19 : decode cX6_canBeMore 19 = .ok (.iadd, 1) := by decide +kernel
theorem dX6_canBeMore_20 : decode cX6_canBeMore 20 = .ok (.istore_n 2, 1) := by decide +kernel
theorem dX6_canBeMore_21 : decode cX6_canBeMore 21 = .ok (.iload_n 2, 1) := by decide +kernel
theorem dX6_canBeMore_22 : decode cX6_canBeMore 22 = .ok (.iconst 1, 1) := by decide +kernel
theorem dX6_canBeMore_23 : decode cX6_canBeMore 23 = .ok (.if_icmp .lt 13, 3) := by decide +kernel
theorem dX6_canBeMore_26 : decode cX6_canBeMore 26 = .ok (.iload_n 2, 1) := by decide +kernel
theorem dX6_canBeMore_27 : decode cX6_canBeMore 27 = .ok (.bipush 60, 2) := by decide +kernel
theorem dX6_canBeMore_29 : decode cX6_canBeMore 29 = .ok (.if_icmp .gt 7, 3) := by decide +kernel
theorem dX6_canBeMore_32 : decode cX6_canBeMore 32 = .ok (.iconst 1, 1) := by decide +kernel
theorem dX6_canBeMore_33 : decode cX6_canBeMore 33 = .ok (.goto 4, 3) := by decide +kernel
theorem dX6_canBeMore_36 : decode cX6_canBeMore 36 = .ok (.iconst 0, 1) := by decide +kernel
theorem dX6_canBeMore_37 : decode cX6_canBeMore 37 = .ok (.ireturn, 1) := by decide +kernel
theorem dX6_isStop_0 : decode cX6_isStop 0 = .ok (.iload_n 0, 1) := by decide +kernel
theorem dX6_isStop_1 : decode cX6_isStop 1 = .ok (.ifCond .lt 13, 3) := by decide +kernel
theorem dX6_isStop_4 : decode cX6_isStop 4 = .ok (.iload_n 0, 1) := by decide +kernel
theorem dX6_isStop_5 : decode cX6_isStop 5 = .ok (.bipush 10, 2) := by decide +kernel
theorem dX6_isStop_7 : decode cX6_isStop 7 = .ok (.if_icmp .ge 7, 3) := by decide +kernel
theorem dX6_isStop_10 : decode cX6_isStop 10 = .ok (.iconst 1, 1) := by decide +kernel
theorem dX6_isStop_11 : decode cX6_isStop 11 = .ok (.goto 4, 3) := by decide +kernel
theorem dX6_isStop_14 : decode cX6_isStop 14 = .ok (.iconst 0, 1) := by decide +kernel
theorem dX6_isStop_15 : decode cX6_isStop 15 = .ok (.ireturn, 1) := by decide +kernel
theorem dX6_isStart_0 : decode cX6_isStart 0 = .ok (.iload_n 0, 1) := by decide +kernel
theorem dX6_isStart_1 : decode cX6_isStart 1 = .ok (.ifCond .lt 14, 3) := by decide +kernel
theorem dX6_isStart_4 : decode cX6_isStart 4 = .ok (.iload_n 0, 1) := by decide +kernel
theorem dX6_isStart_5 : decode cX6_isStart 5 = .ok (.ldc_w 352, 3) := by decide +kernel
theorem dX6_isStart_8 : decode cX6_isStart 8 = .ok (.if_icmp .gt 7, 3) := by decide +kernel
theorem dX6_isStart_11 : decode cX6_isStart 11 = .ok (.iconst 1, 1) := by decide +kernel
theorem dX6_isStart_12 : decode cX6_isStart 12 = .ok (.goto 4, 3) := by decide +kernel
theorem dX6_isStart_15 : decode cX6_isStart 15 = .ok (.iconst 0, 1) := by decide +kernel
theorem dX6_isStart_16 : decode cX6_isStart 16 = .ok (.ireturn, 1) := by decide +kernel
theorem dX6_bit_0 : decode cX6_bit 0 = .ok (.iload_n 0, 1) := by decide +kernel
theorem dX6_bit_1 : decode cX6_bit 1 = .ok (.ifCond .eq 7, 3) := by decide +kernel
theorem dX6_bit_4 : decode cX6_bit 4 = .ok (.iconst 1, 1) := by decide +kernel
theorem dX6_bit_5 : decode cX6_bit 5 = .ok (.goto 4, 3) := by decide +kernel
theorem dX6_bit_8 : decode cX6_bit 8 = .ok (.iconst 0, 1) := by decide +kernel
theorem dX6_bit_9 : decode cX6_bit 9 = .ok (.ireturn, 1) := by decide +kernel
theorem dX6_parts_0 : decode cX6_parts 0 = .ok (.lload_n 2, 1) := by decide +kernel
theorem dX6_parts_1 : decode cX6_parts 1 = .ok (.lconst 1, 1) := by decide +kernel
theorem dX6_parts_2 : decode cX6_parts 2 = .ok (.lcmp, 1) := by decide +kernel
theorem dX6_parts_3 : decode cX6_parts 3 = .ok (.ifCond .ge 7, 3) := by decide +kernel
theorem dX6_parts_6 : decode cX6_parts 6 = .ok (.lconst 0, 1) := by decide +kernel
theorem dX6_parts_7 : decode cX6_parts 7 = .ok (.goto 6, 3) := by decide +kernel
theorem dX6_parts_10 : decode cX6_parts 10 = .ok (.lload_n 0, 1) := by decide +kernel
theorem dX6_parts_11 : decode cX6_parts 11 = .ok (.lload_n 2, 1) := by decide +kernel
theorem dX6_parts_12 : decode cX6_parts 12 = .ok (.ldiv, 1) := by decide +kernel
theorem dX6_parts_13 : decode cX6_parts 13 = .ok (.lreturn, 1) := by decide +kernel
theorem dX6_newLines_0 : decode cX6_newLines 0 = .ok (.bipush 12, 2) := by decide +kernel
theorem dX6_newLines_2 : decode cX6_newLines 2 = .ok (.anewarray 95, 3) := by decide +kernel
theorem dX6_newLines_5 : decode cX6_newLines 5 = .ok (.astore_n 0, 1) := by decide +kernel
theorem dX6_newLines_6 : decode cX6_newLines 6 = .ok (.iconst 0, 1) := by decide +kernel
theorem dX6_newLines_7 : decode cX6_newLines 7 = .ok (.istore_n 1, 1) := by decide +kernel
theorem dX6_newLines_8 : decode cX6_newLines 8 = .ok (.iload_n 1, 1) := by decide +kernel
theorem dX6_newLines_9 : decode cX6_newLines 9 = .ok (.bipush 12, 2) := by decide +kernel
theorem dX6_newLines_11 : decode cX6_newLines 11 = .ok (.if_icmp .ge 19, 3) := by decide +kernel
theorem dX6_newLines_14 : decode cX6_newLines 14 = .ok (.aload_n 0, 1) := by decide +kernel
theorem dX6_newLines_15 : decode cX6_newLines 15 = .ok (.iload_n 1, 1) := by decide +kernel
theorem dX6_newLines_16 : decode cX6_newLines 16 = .ok (.new 95, 3) := by decide +kernel
theorem dX6_newLines_19 : decode cX6_newLines 19 = .ok (.dup, 1) := by decide +kernel
theorem dX6_newLines_20 : decode cX6_newLines 20 = .ok (.invokespecial 353, 3) := by decide +kernel
theorem dX6_newLines_23 : decode cX6_newLines 23 = .ok (.aastore, 1) := by decide +kernel
theorem dX6_newLines_24 : decode cX6_newLines 24 = .ok (.iinc 1 1, 3) := by decide +kernel
theorem dX6_newLines_27 : decode cX6_newLines 27 = .ok (.goto (-19), 3) := by decide +kernel
theorem dX6_newLines_30 : decode cX6_newLines 30 = .ok (.aload_n 0, 1) := by decide +kernel
theorem dX6_newLines_31 : decode cX6_newLines 31 = .ok (.areturn, 1) := by decide +kernel
theorem dX7_init_0 : decode cX7_init 0 = .ok (.aload_n 0, 1) := by decide +kernel
theorem dX7_init_1 : decode cX7_init 1 = .ok (.invokespecial 1, 3) := by decide +kernel
theorem dX7_init_4 : decode cX7_init 4 = .ok (.aload_n 0, 1) := by decide +kernel
theorem dX7_init_5 : decode cX7_init 5 = .ok (.bipush 12, 2) := by decide +kernel
theorem dX7_init_7 : decode cX7_init 7 = .ok (.newarray .int, 2) := by decide +kernel
theorem dX7_init_9 : decode cX7_init 9 = .ok (.putfield 9, 3) := by decide +kernel
theorem dX7_init_12 : decode cX7_init 12 = .ok (.aload_n 0, 1) := by decide +kernel
theorem dX7_init_13 : decode cX7_init 13 = .ok (.bipush 12, 2) := by decide +kernel
theorem dX7_init_15 : decode cX7_init 15 = .ok (.newarray .int, 2) := by decide +kernel
theorem dX7_init_17 : decode cX7_init 17 = .ok (.putfield 13, 3) := by decide +kernel
theorem dX7_init_20 : decode cX7_init 20 = .ok (.aload_n 0, 1) := by decide +kernel
theorem dX7_init_21 : decode cX7_init 21 = .ok (.bipush 96, 2) := by decide +kernel
theorem dX7_init_23 : decode cX7_init 23 = .ok (.newarray .int, 2) := by decide +kernel
theorem dX7_init_25 : decode cX7_init 25 = .ok (.putfield 16, 3) := by decide +kernel
theorem dX7_init_28 : decode cX7_init 28 = .ok (.aload_n 0, 1) := by decide +kernel
theorem dX7_init_29 : decode cX7_init 29 = .ok (.bipush 96, 2) := by decide +kernel
theorem dX7_init_31 : decode cX7_init 31 = .ok (.newarray .int, 2) := by decide +kernel
theorem dX7_init_33 : decode cX7_init 33 = .ok (.putfield 19, 3) := by decide +kernel
theorem dX7_init_36 : decode cX7_init 36 = .ok (.aload_n 0, 1) := by decide +kernel
theorem dX7_init_37 : decode cX7_init 37 = .ok (.bipush 96, 2) := by decide +kernel
theorem dX7_init_39 : decode cX7_init 39 = .ok (.newarray .long, 2) := by decide +kernel
theorem dX7_init_41 : decode cX7_init 41 = .ok (.putfield 22, 3) := by decide +kernel
theorem dX7_init_44 : decode cX7_init 44 = .ok (.aload_n 0, 1) := by decide +kernel
theorem dX7_init_45 : decode cX7_init 45 = .ok (.bipush 96, 2) := by decide +kernel
theorem dX7_init_47 : decode cX7_init 47 = .ok (.newarray .long, 2) := by decide +kernel
theorem dX7_init_49 : decode cX7_init 49 = .ok (.putfield 26, 3) := by decide +kernel
theorem dX7_init_52 : decode cX7_init 52 = .ok (.aload_n 0, 1) := by decide +kernel
theorem dX7_init_53 : decode cX7_init 53 = .ok (.bipush 12, 2) := by decide +kernel
theorem dX7_init_55 : decode cX7_init 55 = .ok (.newarray .int, 2) := by decide +kernel
theorem dX7_init_57 : decode cX7_init 57 = .ok (.putfield 29, 3) := by decide +kernel
theorem dX7_init_60 : decode cX7_init 60 = .ok (.aload_n 0, 1) := by decide +kernel
theorem dX7_init_61 : decode cX7_init 61 = .ok (.bipush 12, 2) := by decide +kernel
theorem dX7_init_63 : decode cX7_init 63 = .ok (.newarray .int, 2) := by decide +kernel
theorem dX7_init_65 : decode cX7_init 65 = .ok (.putfield 32, 3) := by decide +kernel
theorem dX7_init_68 : decode cX7_init 68 = .ok (.aload_n 0, 1) := by decide +kernel
theorem dX7_init_69 : decode cX7_init 69 = .ok (.bipush 12, 2) := by decide +kernel
theorem dX7_init_71 : decode cX7_init 71 = .ok (.newarray .boolean, 2) := by decide +kernel
theorem dX7_init_73 : decode cX7_init 73 = .ok (.putfield 35, 3) := by decide +kernel
theorem dX7_init_76 : decode cX7_init 76 = .ok (.aload_n 0, 1) := by decide +kernel
theorem dX7_init_77 : decode cX7_init 77 = .ok (.bipush 50, 2) := by decide +kernel
theorem dX7_init_79 : decode cX7_init 79 = .ok (.putfield 39, 3) := by decide +kernel
theorem dX7_init_82 : decode cX7_init 82 = .ok (.aload_n 0, 1) := by decide +kernel
theorem dX7_init_83 : decode cX7_init 83 = .ok (.bipush 10, 2) := by decide +kernel
theorem dX7_init_85 : decode cX7_init 85 = .ok (.newarray .int, 2) := by decide +kernel
theorem dX7_init_87 : decode cX7_init 87 = .ok (.putfield 43, 3) := by decide +kernel
theorem dX7_init_90 : decode cX7_init 90 = .ok (.aload_n 0, 1) := by decide +kernel
theorem dX7_init_91 : decode cX7_init 91 = .ok (.bipush 10, 2) := by decide +kernel
theorem dX7_init_93 : decode cX7_init 93 = .ok (.newarray .boolean, 2) := by decide +kernel
theorem dX7_init_95 : decode cX7_init 95 = .ok (.putfield 46, 3) := by decide +kernel
theorem dX7_init_98 : decode cX7_init 98 = .ok (.aload_n 0, 1) := by decide +kernel
theorem dX7_init_99 : decode cX7_init 99 = .ok (.sipush 400, 3) := by decide +kernel
theorem dX7_init_102 : decode cX7_init 102 = .ok (.newarray .byte, 2) := by decide +kernel
theorem dX7_init_104 : decode cX7_init 104 = .ok (.putfield 49, 3) := by decide +kernel
theorem dX7_init_107 : decode cX7_init 107 = .ok (.aload_n 0, 1) := by decide +kernel
theorem dX7_init_108 : decode cX7_init 108 = .ok (.bipush 32, 2) := by decide +kernel
theorem dX7_init_110 : decode cX7_init 110 = .ok (.newarray .long, 2) := by decide +kernel
theorem dX7_init_112 : decode cX7_init 112 = .ok (.putfield 53, 3) := by decide +kernel
theorem dX7_init_115 : decode cX7_init 115 = .ok (.aload_n 0, 1) := by decide +kernel
theorem dX7_init_116 : decode cX7_init 116 = .ok (.bipush 12, 2) := by decide +kernel
theorem dX7_init_118 : decode cX7_init 118 = .ok (.newarray .int, 2) := by decide +kernel
theorem dX7_init_120 : decode cX7_init 120 = .ok (.putfield 56, 3) := by decide +kernel
theorem dX7_init_123 : decode cX7_init 123 = .ok (.aload_n 0, 1) := by decide +kernel
theorem dX7_init_124 : decode cX7_init 124 = .ok (.bipush 12, 2) := by decide +kernel
theorem dX7_init_126 : decode cX7_init 126 = .ok (.newarray .int, 2) := by decide +kernel
theorem dX7_init_128 : decode cX7_init 128 = .ok (.putfield 59, 3) := by decide +kernel
theorem dX7_init_131 : decode cX7_init 131 = .ok (.aload_n 0, 1) := by decide +kernel
theorem dX7_init_132 : decode cX7_init 132 = .ok (.bipush 96, 2) := by decide +kernel
theorem dX7_init_134 : decode cX7_init 134 = .ok (.newarray .int, 2) := by decide +kernel
theorem dX7_init_136 : decode cX7_init 136 = .ok (.putfield 62, 3) := by decide +kernel
theorem dX7_init_139 : decode cX7_init 139 = .ok (.aload_n 0, 1) := by decide +kernel
theorem dX7_init_140 : decode cX7_init 140 = .ok (.bipush 96, 2) := by decide +kernel
theorem dX7_init_142 : decode cX7_init 142 = .ok (.newarray .int, 2) := by decide +kernel
theorem dX7_init_144 : decode cX7_init 144 = .ok (.putfield 65, 3) := by decide +kernel
theorem dX7_init_147 : decode cX7_init 147 = .ok (.aload_n 0, 1) := by decide +kernel
theorem dX7_init_148 : decode cX7_init 148 = .ok (.bipush 10, 2) := by decide +kernel
theorem dX7_init_150 : decode cX7_init 150 = .ok (.newarray .long, 2) := by decide +kernel
theorem dX7_init_152 : decode cX7_init 152 = .ok (.putfield 68, 3) := by decide +kernel
theorem dX7_init_155 : decode cX7_init 155 = .ok (.aload_n 0, 1) := by decide +kernel
theorem dX7_init_156 : decode cX7_init 156 = .ok (.bipush 10, 2) := by decide +kernel
theorem dX7_init_158 : decode cX7_init 158 = .ok (.newarray .long, 2) := by decide +kernel
theorem dX7_init_160 : decode cX7_init 160 = .ok (.putfield 71, 3) := by decide +kernel
theorem dX7_init_163 : decode cX7_init 163 = .ok (.aload_n 0, 1) := by decide +kernel
theorem dX7_init_164 : decode cX7_init 164 = .ok (.bipush 96, 2) := by decide +kernel
theorem dX7_init_166 : decode cX7_init 166 = .ok (.newarray .long, 2) := by decide +kernel
theorem dX7_init_168 : decode cX7_init 168 = .ok (.putfield 74, 3) := by decide +kernel
theorem dX7_init_171 : decode cX7_init 171 = .ok (.aload_n 0, 1) := by decide +kernel
theorem dX7_init_172 : decode cX7_init 172 = .ok (.bipush 96, 2) := by decide +kernel
theorem dX7_init_174 : decode cX7_init 174 = .ok (.newarray .boolean, 2) := by decide +kernel
theorem dX7_init_176 : decode cX7_init 176 = .ok (.putfield 77, 3) := by decide +kernel
theorem dX7_init_179 : decode cX7_init 179 = .ok (.aload_n 0, 1) := by decide +kernel
theorem dX7_init_180 : decode cX7_init 180 = .ok (.bipush 10, 2) := by decide +kernel
theorem dX7_init_182 : decode cX7_init 182 = .ok (.newarray .int, 2) := by decide +kernel
theorem dX7_init_184 : decode cX7_init 184 = .ok (.putfield 80, 3) := by decide +kernel
theorem dX7_init_187 : decode cX7_init 187 = .ok (.aload_n 0, 1) := by decide +kernel
theorem dX7_init_188 : decode cX7_init 188 = .ok (.bipush 120, 2) := by decide +kernel
theorem dX7_init_190 : decode cX7_init 190 = .ok (.newarray .int, 2) := by decide +kernel
theorem dX7_init_192 : decode cX7_init 192 = .ok (.putfield 83, 3) := by decide +kernel
theorem dX7_init_195 : decode cX7_init 195 = .ok (.aload_n 0, 1) := by decide +kernel
theorem dX7_init_196 : decode cX7_init 196 = .ok (.bipush 10, 2) := by decide +kernel
theorem dX7_init_198 : decode cX7_init 198 = .ok (.newarray .int, 2) := by decide +kernel
theorem dX7_init_200 : decode cX7_init 200 = .ok (.putfield 86, 3) := by decide +kernel
theorem dX7_init_203 : decode cX7_init 203 = .ok (.aload_n 0, 1) := by decide +kernel
theorem dX7_init_204 : decode cX7_init 204 = .ok (.iconst (-1), 1) := by decide +kernel
theorem dX7_init_205 : decode cX7_init 205 = .ok (.putfield 89, 3) := by decide +kernel
theorem dX7_init_208 : decode cX7_init 208 = .ok (.aload_n 0, 1) := by decide +kernel
theorem dX7_init_209 : decode cX7_init 209 = .ok (.bipush 12, 2) := by decide +kernel
theorem dX7_init_211 : decode cX7_init 211 = .ok (.newarray .boolean, 2) := by decide +kernel
theorem dX7_init_213 : decode cX7_init 213 = .ok (.putfield 92, 3) := by decide +kernel
theorem dX7_init_216 : decode cX7_init 216 = .ok (.aload_n 0, 1) := by decide +kernel
theorem dX7_init_217 : decode cX7_init 217 = .ok (.bipush 10, 2) := by decide +kernel
theorem dX7_init_219 : decode cX7_init 219 = .ok (.newarray .int, 2) := by decide +kernel
theorem dX7_init_221 : decode cX7_init 221 = .ok (.putfield 95, 3) := by decide +kernel
theorem dX7_init_224 : decode cX7_init 224 = .ok (.aload_n 0, 1) := by decide +kernel
theorem dX7_init_225 : decode cX7_init 225 = .ok (.bipush 10, 2) := by decide +kernel
theorem dX7_init_227 : decode cX7_init 227 = .ok (.newarray .long, 2) := by decide +kernel
theorem dX7_init_229 : decode cX7_init 229 = .ok (.putfield 98, 3) := by decide +kernel
theorem dX7_init_232 : decode cX7_init 232 = .ok (.aload_n 0, 1) := by decide +kernel
theorem dX7_init_233 : decode cX7_init 233 = .ok (.bipush 96, 2) := by decide +kernel
theorem dX7_init_235 : decode cX7_init 235 = .ok (.newarray .long, 2) := by decide +kernel
theorem dX7_init_237 : decode cX7_init 237 = .ok (.putfield 101, 3) := by decide +kernel
theorem dX7_init_240 : decode cX7_init 240 = .ok (.aload_n 0, 1) := by decide +kernel
theorem dX7_init_241 : decode cX7_init 241 = .ok (.bipush 96, 2) := by decide +kernel
theorem dX7_init_243 : decode cX7_init 243 = .ok (.newarray .long, 2) := by decide +kernel
theorem dX7_init_245 : decode cX7_init 245 = .ok (.putfield 104, 3) := by decide +kernel
theorem dX7_init_248 : decode cX7_init 248 = .ok (.aload_n 0, 1) := by decide +kernel
theorem dX7_init_249 : decode cX7_init 249 = .ok (.bipush 96, 2) := by decide +kernel
theorem dX7_init_251 : decode cX7_init 251 = .ok (.newarray .long, 2) := by decide +kernel
theorem dX7_init_253 : decode cX7_init 253 = .ok (.putfield 107, 3) := by decide +kernel
theorem dX7_init_256 : decode cX7_init 256 = .ok (.aload_n 0, 1) := by decide +kernel
theorem dX7_init_257 : decode cX7_init 257 = .ok (.bipush 10, 2) := by decide +kernel
theorem dX7_init_259 : decode cX7_init 259 = .ok (.newarray .long, 2) := by decide +kernel
theorem dX7_init_261 : decode cX7_init 261 = .ok (.putfield 110, 3) := by decide +kernel
theorem dX7_init_264 : decode cX7_init 264 = .ok (.aload_n 0, 1) := by decide +kernel
theorem dX7_init_265 : decode cX7_init 265 = .ok (.bipush 10, 2) := by decide +kernel
theorem dX7_init_267 : decode cX7_init 267 = .ok (.newarray .int, 2) := by decide +kernel
theorem dX7_init_269 : decode cX7_init 269 = .ok (.putfield 113, 3) := by decide +kernel
theorem dX7_init_272 : decode cX7_init 272 = .ok (.return_, 1) := by decide +kernel
theorem dX7_thrown_0 : decode cX7_thrown 0 = .ok (.aload_n 0, 1) := by decide +kernel
theorem dX7_thrown_1 : decode cX7_thrown 1 = .ok (.getfield 116, 3) := by decide +kernel
theorem dX7_thrown_4 : decode cX7_thrown 4 = .ok (.ireturn, 1) := by decide +kernel
theorem dX7_in_0 : decode cX7_in 0 = .ok (.lload_n 0, 1) := by decide +kernel
theorem dX7_in_1 : decode cX7_in 1 = .ok (.lload_n 2, 1) := by decide +kernel
theorem dX7_in_2 : decode cX7_in 2 = .ok (.lcmp, 1) := by decide +kernel
theorem dX7_in_3 : decode cX7_in 3 = .ok (.ifCond .lt 14, 3) := by decide +kernel
theorem dX7_in_6 : decode cX7_in 6 = .ok (.lload_n 0, 1) := by decide +kernel
theorem dX7_in_7 : decode cX7_in 7 = .ok (.lload 4, 2) := by decide +kernel
theorem dX7_in_9 : decode cX7_in 9 = .ok (.lcmp, 1) := by decide +kernel
theorem dX7_in_10 : decode cX7_in 10 = .ok (.ifCond .gt 7, 3) := by decide +kernel
theorem dX7_in_13 : decode cX7_in 13 = .ok (.iconst 1, 1) := by decide +kernel
theorem dX7_in_14 : decode cX7_in 14 = .ok (.goto 4, 3) := by decide +kernel
theorem dX7_in_17 : decode cX7_in 17 = .ok (.iconst 0, 1) := by decide +kernel
theorem dX7_in_18 : decode cX7_in 18 = .ok (.ireturn, 1) := by decide +kernel
theorem dX7_lost_0 : decode cX7_lost 0 = .ok (.aload_n 0, 1) := by decide +kernel
theorem dX7_lost_1 : decode cX7_lost 1 = .ok (.iconst 1, 1) := by decide +kernel
theorem dX7_lost_2 : decode cX7_lost 2 = .ok (.putfield 116, 3) := by decide +kernel
theorem dX7_lost_5 : decode cX7_lost 5 = .ok (.iconst 0, 1) := by decide +kernel
theorem dX7_lost_6 : decode cX7_lost 6 = .ok (.ireturn, 1) := by decide +kernel
theorem dX7_tell_0 : decode cX7_tell 0 = .ok (.aload_n 0, 1) := by decide +kernel
theorem dX7_tell_1 : decode cX7_tell 1 = .ok (.getfield 53, 3) := by decide +kernel
theorem dX7_tell_4 : decode cX7_tell 4 = .ok (.aload_n 0, 1) := by decide +kernel
theorem dX7_tell_5 : decode cX7_tell 5 = .ok (.getfield 119, 3) := by decide +kernel
theorem dX7_tell_8 : decode cX7_tell 8 = .ok (.lload_n 1, 1) := by decide +kernel
theorem dX7_tell_9 : decode cX7_tell 9 = .ok (.lastore, 1) := by decide +kernel
theorem dX7_tell_10 : decode cX7_tell 10 = .ok (.aload_n 0, 1) := by decide +kernel
theorem dX7_tell_11 : decode cX7_tell 11 = .ok (.dup, 1) := by decide +kernel
theorem dX7_tell_12 : decode cX7_tell 12 = .ok (.getfield 119, 3) := by decide +kernel
theorem dX7_tell_15 : decode cX7_tell 15 = .ok (.iconst 1, 1) := by decide +kernel
theorem dX7_tell_16 : decode cX7_tell 16 = .ok (.iadd, 1) := by decide +kernel
theorem dX7_tell_17 : decode cX7_tell 17 = .ok (.putfield 119, 3) := by decide +kernel
theorem dX7_tell_20 : decode cX7_tell 20 = .ok (.return_, 1) := by decide +kernel
theorem dX7_sign_0 : decode cX7_sign 0 = .ok (.aload_n 0, 1) := by decide +kernel
theorem dX7_sign_1 : decode cX7_sign 1 = .ok (.iconst 0, 1) := by decide +kernel
theorem dX7_sign_2 : decode cX7_sign 2 = .ok (.putfield 116, 3) := by decide +kernel
theorem dX7_sign_5 : decode cX7_sign 5 = .ok (.aload_n 0, 1) := by decide +kernel
theorem dX7_sign_6 : decode cX7_sign 6 = .ok (.getfield 122, 3) := by decide +kernel
theorem dX7_sign_9 : decode cX7_sign 9 = .ok (.iconst 4, 1) := by decide +kernel
theorem dX7_sign_10 : decode cX7_sign 10 = .ok (.iadd, 1) := by decide +kernel
theorem dX7_sign_11 : decode cX7_sign 11 = .ok (.sipush 400, 3) := by decide +kernel
theorem dX7_sign_14 : decode cX7_sign 14 = .ok (.if_icmp .le 5, 3) := by decide +kernel
theorem dX7_sign_17 : decode cX7_sign 17 = .ok (.iconst (-1), 1) := by decide +kernel
theorem dX7_sign_18 : decode cX7_sign 18 = .ok (.ireturn, 1) := by decide +kernel
theorem dX7_sign_19 : decode cX7_sign 19 = .ok (.iconst 3, 1) := by decide +kernel
theorem dX7_sign_20 : decode cX7_sign 20 = .ok (.istore_n 2, 1) := by decide +kernel
theorem dX7_sign_21 : decode cX7_sign 21 = .ok (.iload_n 2, 1) := by decide +kernel
theorem dX7_sign_22 : decode cX7_sign 22 = .ok (.ifCond .lt 32, 3) := by decide +kernel
theorem dX7_sign_25 : decode cX7_sign 25 = .ok (.aload_n 0, 1) := by decide +kernel
theorem dX7_sign_26 : decode cX7_sign 26 = .ok (.getfield 49, 3) := by decide +kernel
theorem dX7_sign_29 : decode cX7_sign 29 = .ok (.aload_n 0, 1) := by decide +kernel
theorem dX7_sign_30 : decode cX7_sign 30 = .ok (.dup, 1) := by decide +kernel
theorem dX7_sign_31 : decode cX7_sign 31 = .ok (.getfield 122, 3) := by decide +kernel
theorem dX7_sign_34 : decode cX7_sign 34 = .ok (.dup_x1, 1) := by decide +kernel
theorem dX7_sign_35 : decode cX7_sign 35 = .ok (.iconst 1, 1) := by decide +kernel
theorem dX7_sign_36 : decode cX7_sign 36 = .ok (.iadd, 1) := by decide +kernel
theorem dX7_sign_37 : decode cX7_sign 37 = .ok (.putfield 122, 3) := by decide +kernel
theorem dX7_sign_40 : decode cX7_sign 40 = .ok (.iload_n 1, 1) := by decide +kernel
theorem dX7_sign_41 : decode cX7_sign 41 = .ok (.bipush 8, 2) := by decide +kernel
theorem dX7_sign_43 : decode cX7_sign 43 = .ok (.iload_n 2, 1) := by decide +kernel
theorem dX7_sign_44 : decode cX7_sign 44 = .ok (.imul, 1) := by decide +kernel
theorem dX7_sign_45 : decode cX7_sign 45 = .ok (.ishr, 1) := by decide +kernel
theorem dX7_sign_46 : decode cX7_sign 46 = .ok (.i2b, 1) := by decide +kernel
theorem dX7_sign_47 : decode cX7_sign 47 = .ok (.bastore, 1) := by decide +kernel
theorem dX7_sign_48 : decode cX7_sign 48 = .ok (.iinc 2 (-1), 3) := by decide +kernel
theorem dX7_sign_51 : decode cX7_sign 51 = .ok (.goto (-30), 3) := by decide +kernel
theorem dX7_sign_54 : decode cX7_sign 54 = .ok (.aload_n 0, 1) := by decide +kernel
theorem dX7_sign_55 : decode cX7_sign 55 = .ok (.getfield 122, 3) := by decide +kernel
theorem dX7_sign_58 : decode cX7_sign 58 = .ok (.ireturn, 1) := by decide +kernel
theorem dX7_end_0 : decode cX7_end 0 = .ok (.aload_n 0, 1) := by decide +kernel
theorem dX7_end_1 : decode cX7_end 1 = .ok (.iconst 0, 1) := by decide +kernel
theorem dX7_end_2 : decode cX7_end 2 = .ok (.putfield 116, 3) := by decide +kernel
theorem dX7_end_5 : decode cX7_end 5 = .ok (.iload_n 1, 1) := by decide +kernel
theorem dX7_end_6 : decode cX7_end 6 = .ok (.i2l, 1) := by decide +kernel
theorem dX7_end_7 : decode cX7_end 7 = .ok (.lconst 0, 1) := by decide +kernel
theorem dX7_end_8 : decode cX7_end 8 = .ok (.aload_n 0, 1) := by decide +kernel
theorem dX7_end_9 : decode cX7_end 9 = .ok (.getfield 122, 3) := by decide +kernel
theorem dX7_end_12 : decode cX7_end 12 = .ok (.i2l, 1) := by decide +kernel
theorem dX7_end_13 : decode cX7_end 13 = .ok (.invokestatic 125, 3) := by decide +kernel
theorem dX7_end_16 : decode cX7_end 16 = .ok (.ifCond .ne 5, 3) := by decide +kernel
theorem dX7_end_19 : decode cX7_end 19 = .ok (.iconst 0, 1) := by decide +kernel
theorem dX7_end_20 : decode cX7_end 20 = .ok (.ireturn, 1) := by decide +kernel
theorem dX7_end_21 : decode cX7_end 21 = .ok (.aload_n 0, 1) := by decide +kernel
theorem dX7_end_22 : decode cX7_end 22 = .ok (.iload_n 1, 1) := by decide +kernel
theorem dX7_end_23 : decode cX7_end 23 = .ok (.putfield 122, 3) := by decide +kernel
theorem dX7_end_26 : decode cX7_end 26 = .ok (.iconst 1, 1) := by decide +kernel
theorem dX7_end_27 : decode cX7_end 27 = .ok (.ireturn, 1) := by decide +kernel
theorem dX7_isLine_0 : decode cX7_isLine 0 = .ok (.iload_n 1, 1) := by decide +kernel
theorem dX7_isLine_1 : decode cX7_isLine 1 = .ok (.i2l, 1) := by decide +kernel
theorem dX7_isLine_2 : decode cX7_isLine 2 = .ok (.lconst 0, 1) := by decide +kernel
theorem dX7_isLine_3 : decode cX7_isLine 3 = .ok (.aload_n 0, 1) := by decide +kernel
theorem dX7_isLine_4 : decode cX7_isLine 4 = .ok (.getfield 129, 3) := by decide +kernel
theorem dX7_isLine_7 : decode cX7_isLine 7 = .ok (.iconst 1, 1) := by decide +kernel
theorem dX7_isLine_8 : decode cX7_isLine 8 = .ok (.isub, 1) := by decide +kernel
theorem dX7_isLine_9 : decode cX7_isLine 9 = .ok (.i2l, 1) := by decide +kernel
theorem dX7_isLine_10 : decode cX7_isLine 10 = .ok (.invokestatic 125, 3) := by decide +kernel
theorem dX7_isLine_13 : decode cX7_isLine 13 = .ok (.ireturn, 1) := by decide +kernel
theorem dX7_isStop_0 : decode cX7_isStop 0 = .ok (.iload_n 0, 1) := by decide +kernel
theorem dX7_isStop_1 : decode cX7_isStop 1 = .ok (.i2l, 1) := by decide +kernel
theorem dX7_isStop_2 : decode cX7_isStop 2 = .ok (.lconst 0, 1) := by decide +kernel
theorem dX7_isStop_3 : decode cX7_isStop 3 = .ok (.ldc2_w 132, 3) := by decide +kernel
theorem dX7_isStop_6 : decode cX7_isStop 6 = .ok (.invokestatic 125, 3) := by decide +kernel
theorem dX7_isStop_9 : decode cX7_isStop 9 = .ok (.ireturn, 1) := by decide +kernel
theorem dX7_at_0 : decode cX7_at 0 = .ok (.bipush 8, 2) := by decide +kernel
theorem dX7_at_2 : decode cX7_at 2 = .ok (.iload_n 0, 1) := by decide +kernel
theorem dX7_at_3 : decode cX7_at 3 = .ok (.imul, 1) := by decide +kernel
theorem dX7_at_4 : decode cX7_at 4 = .ok (.iload_n 1, 1) := by decide +kernel
theorem dX7_at_5 : decode cX7_at 5 = .ok (.iadd, 1) := by decide +kernel
theorem dX7_at_6 : decode cX7_at 6 = .ok (.ireturn, 1) := by decide +kernel
theorem dX7_isHalt_0 : decode cX7_isHalt 0 = .ok (.aload_n 0, 1) := by decide +kernel
theorem dX7_isHalt_1 : decode cX7_isHalt 1 = .ok (.iload_n 1, 1) := by decide +kernel
theorem dX7_isHalt_2 : decode cX7_isHalt 2 = .ok (.invokevirtual 134, 3) := by decide +kernel
theorem dX7_isHalt_5 : decode cX7_isHalt 5 = .ok (.ifCond .eq 25, 3) := by decide +kernel
theorem dX7_isHalt_8 : decode cX7_isHalt 8 = .ok (.iload_n 2, 1) := by decide +kernel
theorem dX7_isHalt_9 : decode cX7_isHalt 9 = .ok (.i2l, 1) := by decide +kernel
theorem dX7_isHalt_10 : decode cX7_isHalt 10 = .ok (.lconst 0, 1) := by decide +kernel
theorem dX7_isHalt_11 : decode cX7_isHalt 11 = .ok (.aload_n 0, 1) := by decide +kernel
theorem dX7_isHalt_12 : decode cX7_isHalt 12 = .ok (.getfield 13, 3) := by decide +kernel
theorem dX7_isHalt_15 : decode cX7_isHalt 15 = .ok (.iload_n 1, 1) := by decide +kernel
theorem dX7_isHalt_16 : decode cX7_isHalt 16 = .ok (.iaload, 1) := by decide +kernel
theorem dX7_isHalt_17 : decode cX7_isHalt 17 = .ok (.iconst 1, 1) := by decide +kernel
theorem dX7_isHalt_18 : decode cX7_isHalt 18 = .ok (.isub, 1) := by decide +kernel
theorem dX7_isHalt_19 : decode cX7_isHalt 19 = .ok (.i2l, 1) := by decide +kernel
theorem dX7_isHalt_20 : decode cX7_isHalt 20 = .ok (.invokestatic 125, 3) := by decide +kernel
theorem dX7_isHalt_23 : decode cX7_isHalt 23 = .ok (.ifCond .eq 7, 3) := by decide +kernel
theorem dX7_isHalt_26 : decode cX7_isHalt 26 = .ok (.iconst 1, 1) := by decide +kernel
theorem dX7_isHalt_27 : decode cX7_isHalt 27 = .ok (.goto 4, 3) := by decide +kernel
theorem dX7_isHalt_30 : decode cX7_isHalt 30 = .ok (.iconst 0, 1) := by decide +kernel
theorem dX7_isHalt_31 : decode cX7_isHalt 31 = .ok (.ireturn, 1) := by decide +kernel
theorem dX7_isStep_0 : decode cX7_isStep 0 = .ok (.aload_n 0, 1) := by decide +kernel
theorem dX7_isStep_1 : decode cX7_isStep 1 = .ok (.iload_n 1, 1) := by decide +kernel
theorem dX7_isStep_2 : decode cX7_isStep 2 = .ok (.invokevirtual 134, 3) := by decide +kernel
theorem dX7_isStep_5 : decode cX7_isStep 5 = .ok (.ifCond .eq 25, 3) := by decide +kernel
theorem dX7_isStep_8 : decode cX7_isStep 8 = .ok (.iload_n 2, 1) := by decide +kernel
theorem dX7_isStep_9 : decode cX7_isStep 9 = .ok (.i2l, 1) := by decide +kernel
theorem dX7_isStep_10 : decode cX7_isStep 10 = .ok (.lconst 0, 1) := by decide +kernel
theorem dX7_isStep_11 : decode cX7_isStep 11 = .ok (.aload_n 0, 1) := by decide +kernel
theorem dX7_isStep_12 : decode cX7_isStep 12 = .ok (.getfield 13, 3) := by decide +kernel
theorem dX7_isStep_15 : decode cX7_isStep 15 = .ok (.iload_n 1, 1) := by decide +kernel
theorem dX7_isStep_16 : decode cX7_isStep 16 = .ok (.iaload, 1) := by decide +kernel
theorem dX7_isStep_17 : decode cX7_isStep 17 = .ok (.iconst 2, 1) := by decide +kernel
theorem dX7_isStep_18 : decode cX7_isStep 18 = .ok (.isub, 1) := by decide +kernel
theorem dX7_isStep_19 : decode cX7_isStep 19 = .ok (.i2l, 1) := by decide +kernel
theorem dX7_isStep_20 : decode cX7_isStep 20 = .ok (.invokestatic 125, 3) := by decide +kernel
theorem dX7_isStep_23 : decode cX7_isStep 23 = .ok (.ifCond .eq 7, 3) := by decide +kernel
theorem dX7_isStep_26 : decode cX7_isStep 26 = .ok (.iconst 1, 1) := by decide +kernel
theorem dX7_isStep_27 : decode cX7_isStep 27 = .ok (.goto 4, 3) := by decide +kernel
theorem dX7_isStep_30 : decode cX7_isStep 30 = .ok (.iconst 0, 1) := by decide +kernel
theorem dX7_isStep_31 : decode cX7_isStep 31 = .ok (.ireturn, 1) := by decide +kernel
theorem dX7_begin_0 : decode cX7_begin 0 = .ok (.aload_n 0, 1) := by decide +kernel
theorem dX7_begin_1 : decode cX7_begin 1 = .ok (.aload_n 0, 1) := by decide +kernel
theorem dX7_begin_2 : decode cX7_begin 2 = .ok (.getfield 122, 3) := by decide +kernel
theorem dX7_begin_5 : decode cX7_begin 5 = .ok (.putfield 138, 3) := by decide +kernel
theorem dX7_begin_8 : decode cX7_begin 8 = .ok (.aload_n 0, 1) := by decide +kernel
theorem dX7_begin_9 : decode cX7_begin 9 = .ok (.iconst 0, 1) := by decide +kernel
theorem dX7_begin_10 : decode cX7_begin 10 = .ok (.putfield 122, 3) := by decide +kernel
theorem dX7_begin_13 : decode cX7_begin 13 = .ok (.aload_n 0, 1) := by decide +kernel
theorem dX7_begin_14 : decode cX7_begin 14 = .ok (.iconst 0, 1) := by decide +kernel
theorem dX7_begin_15 : decode cX7_begin 15 = .ok (.putfield 141, 3) := by decide +kernel
theorem dX7_begin_18 : decode cX7_begin 18 = .ok (.aload_n 0, 1) := by decide +kernel
theorem dX7_begin_19 : decode cX7_begin 19 = .ok (.iconst (-1), 1) := by decide +kernel
theorem dX7_begin_20 : decode cX7_begin 20 = .ok (.putfield 144, 3) := by decide +kernel
theorem dX7_begin_23 : decode cX7_begin 23 = .ok (.aload_n 0, 1) := by decide +kernel
theorem dX7_begin_24 : decode cX7_begin 24 = .ok (.iconst 0, 1) := by decide +kernel
theorem dX7_begin_25 : decode cX7_begin 25 = .ok (.putfield 147, 3) := by decide +kernel
theorem dX7_begin_28 : decode cX7_begin 28 = .ok (.return_, 1) := by decide +kernel
theorem dX7_sees_0 : decode cX7_sees 0 = .ok (.aload_n 0, 1) := by decide +kernel
theorem dX7_sees_1 : decode cX7_sees 1 = .ok (.getfield 141, 3) := by decide +kernel
theorem dX7_sees_4 : decode cX7_sees 4 = .ok (.aload_n 0, 1) := by decide +kernel
theorem dX7_sees_5 : decode cX7_sees 5 = .ok (.getfield 138, 3) := by decide +kernel
theorem dX7_sees_8 : decode cX7_sees 8 = .ok (.if_icmp .ge 19, 3) := by decide +kernel
theorem dX7_sees_11 : decode cX7_sees 11 = .ok (.aload_n 0, 1) := by decide +kernel
theorem dX7_sees_12 : decode cX7_sees 12 = .ok (.getfield 49, 3) := by decide +kernel
theorem dX7_sees_15 : decode cX7_sees 15 = .ok (.aload_n 0, 1) := by decide +kernel
theorem dX7_sees_16 : decode cX7_sees 16 = .ok (.getfield 141, 3) := by decide +kernel
theorem dX7_sees_19 : decode cX7_sees 19 = .ok (.baload, 1) := by decide +kernel
theorem dX7_sees_20 : decode cX7_sees 20 = .ok (.sipush 255, 3) := by decide +kernel
theorem dX7_sees_23 : decode cX7_sees 23 = .ok (.iand, 1) := by decide +kernel
theorem dX7_sees_24 : decode cX7_sees 24 = .ok (.goto 4, 3) := by decide +kernel
theorem dX7_sees_27 : decode cX7_sees 27 = .ok (.iconst (-1), 1) := by decide +kernel
theorem dX7_sees_28 : decode cX7_sees 28 = .ok (.ireturn, 1) := by decide +kernel
theorem dX7_fault_0 : decode cX7_fault 0 = .ok (.aload_n 0, 1) := by decide +kernel
theorem dX7_fault_1 : decode cX7_fault 1 = .ok (.getfield 144, 3) := by decide +kernel
theorem dX7_fault_4 : decode cX7_fault 4 = .ok (.iconst (-1), 1) := by decide +kernel
theorem dX7_fault_5 : decode cX7_fault 5 = .ok (.if_icmp .ne 8, 3) := by decide +kernel
theorem dX7_fault_8 : decode cX7_fault 8 = .ok (.aload_n 0, 1) := by decide +kernel
theorem dX7_fault_9 : decode cX7_fault 9 = .ok (.iload_n 1, 1) := by decide +kernel
theorem dX7_fault_10 : decode cX7_fault 10 = .ok (.putfield 144, 3) := by decide +kernel
theorem dX7_fault_13 : decode cX7_fault 13 = .ok (.return_, 1) := by decide +kernel
theorem dX7_readNumber_0 : decode cX7_readNumber 0 = .ok (.iconst 0, 1) := by decide +kernel
theorem dX7_readNumber_1 : decode cX7_readNumber 1 = .ok (.istore_n 2, 1) := by decide +kernel
theorem dX7_readNumber_2 : decode cX7_readNumber 2 = .ok (.iconst 0, 1) := by decide +kernel
theorem dX7_readNumber_3 : decode cX7_readNumber 3 = .ok (.istore_n 3, 1) := by decide +kernel
theorem dX7_readNumber_4 : decode cX7_readNumber 4 = .ok (.iload_n 3, 1) := by decide +kernel
theorem dX7_readNumber_5 : decode cX7_readNumber 5 = .ok (.iconst 2, 1) := by decide +kernel
theorem dX7_readNumber_6 : decode cX7_readNumber 6 = .ok (.if_icmp .ge 49, 3) := by decide +kernel
theorem dX7_readNumber_9 : decode cX7_readNumber 9 = .ok (.aload_n 0, 1) := by decide +kernel
theorem dX7_readNumber_10 : decode cX7_readNumber 10 = .ok (.invokevirtual 150, 3) := by decide +kernel
theorem dX7_readNumber_13 : decode cX7_readNumber 13 = .ok (.i2l, 1) := by decide +kernel
theorem dX7_readNumber_14 : decode cX7_readNumber 14 = .ok (.ldc2_w 154, 3) := by decide +kernel
theorem dX7_readNumber_17 : decode cX7_readNumber 17 = .ok (.ldc2_w 156, 3) := by decide +kernel
theorem dX7_readNumber_20 : decode cX7_readNumber 20 = .ok (.invokestatic 125, 3) := by decide +kernel
theorem dX7_readNumber_23 : decode cX7_readNumber 23 = .ok (.ifCond .eq 32, 3) := by decide +kernel
theorem dX7_readNumber_26 : decode cX7_readNumber 26 = .ok (.bipush 10, 2) := by decide +kernel
theorem dX7_readNumber_28 : decode cX7_readNumber 28 = .ok (.iload_n 2, 1) := by decide +kernel
theorem dX7_readNumber_29 : decode cX7_readNumber 29 = .ok (.imul, 1) := by decide +kernel
theorem dX7_readNumber_30 : decode cX7_readNumber 30 = .ok (.aload_n 0, 1) := by decide +kernel
theorem dX7_readNumber_31 : decode cX7_readNumber 31 = .ok (.invokevirtual 150, 3) := by decide +kernel
theorem dX7_readNumber_34 : decode cX7_readNumber 34 = .ok (.iadd, 1) := by decide +kernel
theorem dX7_readNumber_35 : decode cX7_readNumber 35 = .ok (.bipush 48, 2) := by decide +kernel
theorem dX7_readNumber_37 : decode cX7_readNumber 37 = .ok (.isub, 1) := by decide +kernel
theorem dX7_readNumber_38 : decode cX7_readNumber 38 = .ok (.istore_n 2, 1) := by decide +kernel
theorem dX7_readNumber_39 : decode cX7_readNumber 39 = .ok (.iinc 3 1, 3) := by decide +kernel
theorem dX7_readNumber_42 : decode cX7_readNumber 42 = .ok (.aload_n 0, 1) := by decide +kernel
theorem dX7_readNumber_43 : decode cX7_readNumber 43 = .ok (.dup, 1) := by decide +kernel
theorem dX7_readNumber_44 : decode cX7_readNumber 44 = .ok (.getfield 141, 3) := by decide +kernel
theorem dX7_readNumber_47 : decode cX7_readNumber 47 = .ok (.iconst 1, 1) := by decide +kernel
theorem dX7_readNumber_48 : decode cX7_readNumber 48 = .ok (.iadd, 1) := by decide +kernel
theorem dX7_readNumber_49 : decode cX7_readNumber 49 = .ok (.putfield 141, 3) := by decide +kernel
theorem dX7_readNumber_52 : decode cX7_readNumber 52 = .ok (.goto (-48), 3) := by decide +kernel
theorem dX7_readNumber_55 : decode cX7_readNumber 55 = .ok (.iload_n 3, 1) := by decide +kernel
theorem dX7_readNumber_56 : decode cX7_readNumber 56 = .ok (.ifCond .ne 14, 3) := by decide +kernel
theorem dX7_readNumber_59 : decode cX7_readNumber 59 = .ok (.aload_n 0, 1) := by decide +kernel
theorem dX7_readNumber_60 : decode cX7_readNumber 60 = .ok (.aload_n 0, 1) := by decide +kernel
theorem dX7_readNumber_61 : decode cX7_readNumber 61 = .ok (.getfield 141, 3) := by decide +kernel
theorem dX7_readNumber_64 : decode cX7_readNumber 64 = .ok (.invokevirtual 158, 3) := by decide +kernel
theorem dX7_readNumber_67 : decode cX7_readNumber 67 = .ok (.goto 24, 3) := by decide +kernel
theorem dX7_readNumber_70 : decode cX7_readNumber 70 = .ok (.iload_n 2, 1) := by decide +kernel
theorem dX7_readNumber_71 : decode cX7_readNumber 71 = .ok (.i2l, 1) := by decide +kernel
theorem dX7_readNumber_72 : decode cX7_readNumber 72 = .ok (.lconst 1, 1) := by decide +kernel
theorem dX7_readNumber_73 : decode cX7_readNumber 73 = .ok (.iload_n 1, 1) := by decide +kernel
theorem dX7_readNumber_74 : decode cX7_readNumber 74 = .ok (.i2l, 1) := by decide +kernel
theorem dX7_readNumber_75 : decode cX7_readNumber 75 = .ok (.invokestatic 125, 3) := by decide +kernel
theorem dX7_readNumber_78 : decode cX7_readNumber 78 = .ok (.ifCond .ne 13, 3) := by decide +kernel
theorem dX7_readNumber_81 : decode cX7_readNumber 81 = .ok (.aload_n 0, 1) := by decide +kernel
theorem dX7_readNumber_82 : decode cX7_readNumber 82 = .ok (.aload_n 0, 1) := by decide +kernel
theorem dX7_readNumber_83 : decode cX7_readNumber 83 = .ok (.getfield 141, 3) := by decide +kernel
theorem dX7_readNumber_86 : decode cX7_readNumber 86 = .ok (.iconst 1, 1) := by decide +kernel
theorem dX7_readNumber_87 : decode cX7_readNumber 87 = .ok (.isub, 1) := by decide +kernel
theorem dX7_readNumber_88 : decode cX7_readNumber 88 = .ok (.invokevirtual 158, 3) := by decide +kernel
theorem dX7_readNumber_91 : decode cX7_readNumber 91 = .ok (.iload_n 2, 1) := by decide +kernel
theorem dX7_readNumber_92 : decode cX7_readNumber 92 = .ok (.ireturn, 1) := by decide +kernel
theorem dX7_readStop_0 : decode cX7_readStop 0 = .ok (.aload_n 0, 1) := by decide +kernel
theorem dX7_readStop_1 : decode cX7_readStop 1 = .ok (.getfield 144, 3) := by decide +kernel
theorem dX7_readStop_4 : decode cX7_readStop 4 = .ok (.iconst (-1), 1) := by decide +kernel
theorem dX7_readStop_5 : decode cX7_readStop 5 = .ok (.if_icmp .eq 4, 3) := by decide +kernel
theorem dX7_readStop_8 : decode cX7_readStop 8 = .ok (.return_, 1) := by decide +kernel
theorem dX7_readStop_9 : decode cX7_readStop 9 = .ok (.aload_n 0, 1) := by decide +kernel
theorem dX7_readStop_10 : decode cX7_readStop 10 = .ok (.invokevirtual 150, 3) := by decide +kernel
theorem dX7_readStop_13 : decode cX7_readStop 13 = .ok (.bipush 48, 2) := by decide +kernel
theorem dX7_readStop_15 : decode cX7_readStop 15 = .ok (.isub, 1) := by decide +kernel
theorem dX7_readStop_16 : decode cX7_readStop 16 = .ok (.istore_n 1, 1) := by decide +kernel
theorem dX7_readStop_17 : decode cX7_readStop 17 = .ok (.iload_n 1, 1) := by decide +kernel
theorem dX7_readStop_18 : decode cX7_readStop 18 = .ok (.invokestatic 162, 3) := by decide +kernel
theorem dX7_readStop_21 : decode cX7_readStop 21 = .ok (.istore_n 2, 1) := by decide +kernel
theorem dX7_readStop_22 : decode cX7_readStop 22 = .ok (.iconst 0, 1) := by decide +kernel
theorem dX7_readStop_23 : decode cX7_readStop 23 = .ok (.istore_n 3, 1) := by decide +kernel
theorem dX7_readStop_24 : decode cX7_readStop 24 = .ok (.iload_n 3, 1) := by decide +kernel
theorem dX7_readStop_25 : decode cX7_readStop 25 = .ok (.aload_n 0, 1) := by decide +kernel
theorem dX7_readStop_26 : decode cX7_readStop 26 = .ok (.getfield 59, 3) := by decide +kernel
theorem dX7_readStop_29 : decode cX7_readStop 29 = .ok (.aload_n 0, 1) := by decide +kernel
theorem dX7_readStop_30 : decode cX7_readStop 30 = .ok (.getfield 147, 3) := by decide +kernel
theorem dX7_readStop_33 : decode cX7_readStop 33 = .ok (.iaload, 1) := by decide +kernel
theorem dX7_readStop_34 : decode cX7_readStop 34 = .ok (.if_icmp .ge 36, 3) := by decide +kernel
theorem dX7_readStop_37 : decode cX7_readStop 37 = .ok (.iload_n 2, 1) := by decide +kernel
theorem dX7_readStop_38 : decode cX7_readStop 38 = .ok (.ifCond .eq 32, 3) := by decide +kernel
theorem dX7_readStop_41 : decode cX7_readStop 41 = .ok (.aload_n 0, 1) := by decide +kernel
theorem dX7_readStop_42 : decode cX7_readStop 42 = .ok (.getfield 62, 3) := by decide +kernel
theorem dX7_readStop_45 : decode cX7_readStop 45 = .ok (.aload_n 0, 1) := by decide +kernel
theorem dX7_readStop_46 : decode cX7_readStop 46 = .ok (.getfield 147, 3) := by decide +kernel
theorem dX7_readStop_49 : decode cX7_readStop 49 = .ok (.iload_n 3, 1) := by decide +kernel
theorem dX7_readStop_50 : decode cX7_readStop 50 = .ok (.invokestatic 165, 3) := by decide +kernel
theorem dX7_readStop_53 : decode cX7_readStop 53 = .ok (.iaload, 1) := by decide +kernel
theorem dX7_readStop_54 : decode cX7_readStop 54 = .ok (.iload_n 1, 1) := by decide +kernel
theorem dX7_readStop_55 : decode cX7_readStop 55 = .ok (.if_icmp .eq 7, 3) := by decide +kernel
theorem dX7_readStop_58 : decode cX7_readStop 58 = .ok (.iconst 1, 1) := by decide +kernel
theorem dX7_readStop_59 : decode cX7_readStop 59 = .ok (.goto 4, 3) := by decide +kernel
theorem dX7_readStop_62 : decode cX7_readStop 62 = .ok (.iconst 0, 1) := by decide +kernel
theorem dX7_readStop_63 : decode cX7_readStop 63 = .ok (.istore_n 2, 1) := by decide +kernel
theorem dX7_readStop_64 : decode cX7_readStop 64 = .ok (.iinc 3 1, 3) := by decide +kernel
theorem dX7_readStop_67 : decode cX7_readStop 67 = .ok (.goto (-43), 3) := by decide +kernel
theorem dX7_readStop_70 : decode cX7_readStop 70 = .ok (.iload_n 2, 1) := by decide +kernel
theorem dX7_readStop_71 : decode cX7_readStop 71 = .ok (.ifCond .ne 12, 3) := by decide +kernel
theorem dX7_readStop_74 : decode cX7_readStop 74 = .ok (.aload_n 0, 1) := by decide +kernel
theorem dX7_readStop_75 : decode cX7_readStop 75 = .ok (.aload_n 0, 1) := by decide +kernel
theorem dX7_readStop_76 : decode cX7_readStop 76 = .ok (.getfield 141, 3) := by decide +kernel
theorem dX7_readStop_79 : decode cX7_readStop 79 = .ok (.invokevirtual 158, 3) := by decide +kernel
theorem dX7_readStop_82 : decode cX7_readStop 82 = .ok (.return_, 1) := by decide +kernel
theorem dX7_readStop_83 : decode cX7_readStop 83 = .ok (.aload_n 0, 1) := by decide +kernel
theorem dX7_readStop_84 : decode cX7_readStop 84 = .ok (.dup, 1) := by decide +kernel
theorem dX7_readStop_85 : decode cX7_readStop 85 = .ok (.getfield 141, 3) := by decide +kernel
theorem dX7_readStop_88 : decode cX7_readStop 88 = .ok (.iconst 1, 1) := by decide +kernel
theorem dX7_readStop_89 : decode cX7_readStop 89 = .ok (.iadd, 1) := by decide +kernel
theorem dX7_readStop_90 : decode cX7_readStop 90 = .ok (.putfield 141, 3) := by decide +kernel
theorem dX7_readStop_93 : decode cX7_readStop 93 = .ok (.aload_n 0, 1) := by decide +kernel
theorem dX7_readStop_94 : decode cX7_readStop 94 = .ok (.getfield 62, 3) := by decide +kernel
theorem dX7_readStop_97 : decode cX7_readStop 97 = .ok (.aload_n 0, 1) := by decide +kernel
theorem dX7_readStop_98 : decode cX7_readStop 98 = .ok (.getfield 147, 3) := by decide +kernel
theorem dX7_readStop_101 : decode cX7_readStop 101 = .ok (.aload_n 0, 1) := by decide +kernel
theorem dX7_readStop_102 : decode cX7_readStop 102 = .ok (.getfield 59, 3) := by decide +kernel
theorem dX7_readStop_105 : decode cX7_readStop 105 = .ok (.aload_n 0, 1) := by decide +kernel
theorem dX7_readStop_106 : decode cX7_readStop 106 = .ok (.getfield 147, 3) := by decide +kernel
theorem dX7_readStop_109 : decode cX7_readStop 109 = .ok (.iaload, 1) := by decide +kernel
theorem dX7_readStop_110 : decode cX7_readStop 110 = .ok (.invokestatic 165, 3) := by decide +kernel
theorem dX7_readStop_113 : decode cX7_readStop 113 = .ok (.iload_n 1, 1) := by decide +kernel
theorem dX7_readStop_114 : decode cX7_readStop 114 = .ok (.iastore, 1) := by decide +kernel
theorem dX7_readStop_115 : decode cX7_readStop 115 = .ok (.aload_n 0, 1) := by decide +kernel
theorem dX7_readStop_116 : decode cX7_readStop 116 = .ok (.getfield 59, 3) := by decide +kernel
theorem dX7_readStop_119 : decode cX7_readStop 119 = .ok (.aload_n 0, 1) := by decide +kernel
theorem dX7_readStop_120 : decode cX7_readStop 120 = .ok (.getfield 147, 3) := by decide +kernel
theorem dX7_readStop_123 : decode cX7_readStop 123 = .ok (.dup2, 1) := by decide +kernel
theorem dX7_readStop_124 : decode cX7_readStop 124 = .ok (.iaload, 1) := by decide +kernel
theorem dX7_readStop_125 : decode cX7_readStop 125 = .ok (.iconst 1, 1) := by decide +kernel
theorem dX7_readStop_126 : decode cX7_readStop 126 = .ok (.iadd, 1) := by decide +kernel
theorem dX7_readStop_127 : decode cX7_readStop 127 = .ok (.iastore, 1) := by decide +kernel
theorem dX7_readStop_128 : decode cX7_readStop 128 = .ok (.return_, 1) := by decide +kernel
theorem dX7_expect_0 : decode cX7_expect 0 = .ok (.aload_n 0, 1) := by decide +kernel
theorem dX7_expect_1 : decode cX7_expect 1 = .ok (.getfield 144, 3) := by decide +kernel
theorem dX7_expect_4 : decode cX7_expect 4 = .ok (.iconst (-1), 1) := by decide +kernel
theorem dX7_expect_5 : decode cX7_expect 5 = .ok (.if_icmp .eq 4, 3) := by decide +kernel
theorem dX7_expect_8 : decode cX7_expect 8 = .ok (.return_, 1) := by decide +kernel
theorem dX7_expect_9 : decode cX7_expect 9 = .ok (.aload_n 0, 1) := by decide +kernel
theorem dX7_expect_10 : decode cX7_expect 10 = .ok (.invokevirtual 150, 3) := by decide +kernel
theorem dX7_expect_13 : decode cX7_expect 13 = .ok (.iload_n 1, 1) := by decide +kernel
theorem dX7_expect_14 : decode cX7_expect 14 = .ok (.if_icmp .ne 16, 3) := by decide +kernel
theorem dX7_expect_17 : decode cX7_expect 17 = .ok (.aload_n 0, 1) := by decide +kernel
theorem dX7_expect_18 : decode cX7_expect 18 = .ok (.dup, 1) := by decide +kernel
theorem dX7_expect_19 : decode cX7_expect 19 = .ok (.getfield 141, 3) := by decide +kernel
theorem dX7_expect_22 : decode cX7_expect 22 = .ok (.iconst 1, 1) := by decide +kernel
theorem dX7_expect_23 : decode cX7_expect 23 = .ok (.iadd, 1) := by decide +kernel
theorem dX7_expect_24 : decode cX7_expect 24 = .ok (.putfield 141, 3) := by decide +kernel
theorem dX7_expect_27 : decode cX7_expect 27 = .ok (.goto 11, 3) := by decide +kernel
theorem dX7_expect_30 : decode cX7_expect 30 = .ok (.aload_n 0, 1) := by decide +kernel
theorem dX7_expect_31 : decode cX7_expect 31 = .ok (.aload_n 0, 1) := by decide +kernel
theorem dX7_expect_32 : decode cX7_expect 32 = .ok (.getfield 141, 3) := by decide +kernel
theorem dX7_expect_35 : decode cX7_expect 35 = .ok (.invokevirtual 158, 3) := by decide +kernel
theorem dX7_expect_38 : decode cX7_expect 38 = .ok (.return_, 1) := by decide +kernel
theorem dX7_readLine_0 : decode cX7_readLine 0 = .ok (.aload_n 0, 1) := by decide +kernel
theorem dX7_readLine_1 : decode cX7_readLine 1 = .ok (.getfield 141, 3) := by decide +kernel
theorem dX7_readLine_4 : decode cX7_readLine 4 = .ok (.istore_n 2, 1) := by decide +kernel
theorem dX7_readLine_5 : decode cX7_readLine 5 = .ok (.iload_n 1, 1) := by decide +kernel
theorem dX7_readLine_6 : decode cX7_readLine 6 = .ok (.aload_n 0, 1) := by decide +kernel
theorem dX7_readLine_7 : decode cX7_readLine 7 = .ok (.getfield 147, 3) := by decide +kernel
theorem dX7_readLine_10 : decode cX7_readLine 10 = .ok (.iadd, 1) := by decide +kernel
theorem dX7_readLine_11 : decode cX7_readLine 11 = .ok (.bipush 12, 2) := by decide +kernel
theorem dX7_readLine_13 : decode cX7_readLine 13 = .ok (.if_icmp .ne 12, 3) := by decide +kernel
theorem dX7_readLine_16 : decode cX7_readLine 16 = .ok (.aload_n 0, 1) := by decide +kernel
theorem dX7_readLine_17 : decode cX7_readLine 17 = .ok (.aload_n 0, 1) := by decide +kernel
theorem dX7_readLine_18 : decode cX7_readLine 18 = .ok (.getfield 141, 3) := by decide +kernel
theorem dX7_readLine_21 : decode cX7_readLine 21 = .ok (.invokevirtual 158, 3) := by decide +kernel
theorem dX7_readLine_24 : decode cX7_readLine 24 = .ok (.return_, 1) := by decide +kernel
theorem dX7_readLine_25 : decode cX7_readLine 25 = .ok (.aload_n 0, 1) := by decide +kernel
theorem dX7_readLine_26 : decode cX7_readLine 26 = .ok (.getfield 59, 3) := by decide +kernel
theorem dX7_readLine_29 : decode cX7_readLine 29 = .ok (.aload_n 0, 1) := by decide +kernel
theorem dX7_readLine_30 : decode cX7_readLine 30 = .ok (.getfield 147, 3) := by decide +kernel
theorem dX7_readLine_33 : decode cX7_readLine 33 = .ok (.iconst 0, 1) := by decide +kernel
theorem dX7_readLine_34 : decode cX7_readLine 34 = .ok (.iastore, 1) := by decide +kernel
theorem dX7_readLine_35 : decode cX7_readLine 35 = .ok (.aload_n 0, 1) := by decide +kernel
theorem dX7_readLine_36 : decode cX7_readLine 36 = .ok (.getfield 56, 3) := by decide +kernel
theorem dX7_readLine_39 : decode cX7_readLine 39 = .ok (.aload_n 0, 1) := by decide +kernel
theorem dX7_readLine_40 : decode cX7_readLine 40 = .ok (.getfield 147, 3) := by decide +kernel
theorem dX7_readLine_43 : decode cX7_readLine 43 = .ok (.aload_n 0, 1) := by decide +kernel
theorem dX7_readLine_44 : decode cX7_readLine 44 = .ok (.bipush 60, 2) := by decide +kernel
theorem dX7_readLine_46 : decode cX7_readLine 46 = .ok (.invokevirtual 169, 3) := by decide +kernel
theorem dX7_readLine_49 : decode cX7_readLine 49 = .ok (.iastore, 1) := by decide +kernel
theorem dX7_readLine_50 : decode cX7_readLine 50 = .ok (.aload_n 0, 1) := by decide +kernel
theorem dX7_readLine_51 : decode cX7_readLine 51 = .ok (.invokevirtual 150, 3) := by decide +kernel
theorem dX7_readLine_54 : decode cX7_readLine 54 = .ok (.bipush 61, 2) := by decide +kernel
theorem dX7_readLine_56 : decode cX7_readLine 56 = .ok (.if_icmp .ne 7, 3) := by decide +kernel
theorem dX7_readLine_59 : decode cX7_readLine 59 = .ok (.iconst 1, 1) := by decide +kernel
theorem dX7_readLine_60 : decode cX7_readLine 60 = .ok (.goto 4, 3) := by decide +kernel
theorem dX7_readLine_63 : decode cX7_readLine 63 = .ok (.iconst 0, 1) := by decide +kernel
theorem dX7_readLine_64 : decode cX7_readLine 64 = .ok (.istore_n 3, 1) := by decide +kernel
theorem dX7_readLine_65 : decode cX7_readLine 65 = .ok (.aload_n 0, 1) := by decide +kernel
theorem dX7_readLine_66 : decode cX7_readLine 66 = .ok (.getfield 144, 3) := by decide +kernel
theorem dX7_readLine_69 : decode cX7_readLine 69 = .ok (.iconst (-1), 1) := by decide +kernel
theorem dX7_readLine_70 : decode cX7_readLine 70 = .ok (.if_icmp .ne 24, 3) := by decide +kernel
theorem dX7_readLine_73 : decode cX7_readLine 73 = .ok (.iload_n 3, 1) := by decide +kernel
theorem dX7_readLine_74 : decode cX7_readLine 74 = .ok (.ifCond .eq 20, 3) := by decide +kernel
theorem dX7_readLine_77 : decode cX7_readLine 77 = .ok (.iload_n 1, 1) := by decide +kernel
theorem dX7_readLine_78 : decode cX7_readLine 78 = .ok (.aload_n 0, 1) := by decide +kernel
theorem dX7_readLine_79 : decode cX7_readLine 79 = .ok (.getfield 147, 3) := by decide +kernel
theorem dX7_readLine_82 : decode cX7_readLine 82 = .ok (.iadd, 1) := by decide +kernel
theorem dX7_readLine_83 : decode cX7_readLine 83 = .ok (.bipush 11, 2) := by decide +kernel
theorem dX7_readLine_85 : decode cX7_readLine 85 = .ok (.if_icmp .ne 9, 3) := by decide +kernel
theorem dX7_readLine_88 : decode cX7_readLine 88 = .ok (.aload_n 0, 1) := by decide +kernel
theorem dX7_readLine_89 : decode cX7_readLine 89 = .ok (.iload_n 2, 1) := by decide +kernel
theorem dX7_readLine_90 : decode cX7_readLine 90 = .ok (.invokevirtual 158, 3) := by decide +kernel
theorem dX7_readLine_93 : decode cX7_readLine 93 = .ok (.return_, 1) := by decide +kernel
theorem dX7_readLine_94 : decode cX7_readLine 94 = .ok (.iload_n 3, 1) := by decide +kernel
theorem dX7_readLine_95 : decode cX7_readLine 95 = .ok (.ifCond .eq 16, 3) := by decide +kernel
theorem dX7_readLine_98 : decode cX7_readLine 98 = .ok (.aload_n 0, 1) := by decide +kernel
theorem dX7_readLine_99 : decode cX7_readLine 99 = .ok (.dup, 1) := by decide +kernel
theorem dX7_readLine_100 : decode cX7_readLine 100 = .ok (.getfield 141, 3) := by decide +kernel
theorem dX7_readLine_103 : decode cX7_readLine 103 = .ok (.iconst 1, 1) := by decide +kernel
theorem dX7_readLine_104 : decode cX7_readLine 104 = .ok (.iadd, 1) := by decide +kernel
theorem dX7_readLine_105 : decode cX7_readLine 105 = .ok (.putfield 141, 3) := by decide +kernel
theorem dX7_readLine_108 : decode cX7_readLine 108 = .ok (.goto 9, 3) := by decide +kernel
theorem dX7_readLine_111 : decode cX7_readLine 111 = .ok (.aload_n 0, 1) := by decide +kernel
theorem dX7_readLine_112 : decode cX7_readLine 112 = .ok (.bipush 58, 2) := by decide +kernel
theorem dX7_readLine_114 : decode cX7_readLine 114 = .ok (.invokevirtual 173, 3) := by decide +kernel
theorem dX7_readLine_117 : decode cX7_readLine 117 = .ok (.aload_n 0, 1) := by decide +kernel
theorem dX7_readLine_118 : decode cX7_readLine 118 = .ok (.invokevirtual 177, 3) := by decide +kernel
theorem dX7_readLine_121 : decode cX7_readLine 121 = .ok (.aload_n 0, 1) := by decide +kernel
theorem dX7_readLine_122 : decode cX7_readLine 122 = .ok (.bipush 45, 2) := by decide +kernel
theorem dX7_readLine_124 : decode cX7_readLine 124 = .ok (.invokevirtual 173, 3) := by decide +kernel
theorem dX7_readLine_127 : decode cX7_readLine 127 = .ok (.aload_n 0, 1) := by decide +kernel
theorem dX7_readLine_128 : decode cX7_readLine 128 = .ok (.getfield 144, 3) := by decide +kernel
theorem dX7_readLine_131 : decode cX7_readLine 131 = .ok (.iconst (-1), 1) := by decide +kernel
theorem dX7_readLine_132 : decode cX7_readLine 132 = .ok (.if_icmp .eq 4, 3) := by decide +kernel
theorem dX7_readLine_135 : decode cX7_readLine 135 = .ok (.return_, 1) := by decide +kernel
theorem dX7_readLine_136 : decode cX7_readLine 136 = .ok (.aload_n 0, 1) := by decide +kernel
theorem dX7_readLine_137 : decode cX7_readLine 137 = .ok (.bipush 99, 2) := by decide +kernel
theorem dX7_readLine_139 : decode cX7_readLine 139 = .ok (.invokevirtual 169, 3) := by decide +kernel
theorem dX7_readLine_142 : decode cX7_readLine 142 = .ok (.istore 4, 2) := by decide +kernel
theorem dX7_readLine_144 : decode cX7_readLine 144 = .ok (.aload_n 0, 1) := by decide +kernel
theorem dX7_readLine_145 : decode cX7_readLine 145 = .ok (.bipush 45, 2) := by decide +kernel
theorem dX7_readLine_147 : decode cX7_readLine 147 = .ok (.invokevirtual 173, 3) := by decide +kernel
theorem dX7_readLine_150 : decode cX7_readLine 150 = .ok (.aload_n 0, 1) := by decide +kernel
theorem dX7_readLine_151 : decode cX7_readLine 151 = .ok (.getfield 65, 3) := by decide +kernel
theorem dX7_readLine_154 : decode cX7_readLine 154 = .ok (.aload_n 0, 1) := by decide +kernel
theorem dX7_readLine_155 : decode cX7_readLine 155 = .ok (.getfield 147, 3) := by decide +kernel
theorem dX7_readLine_158 : decode cX7_readLine 158 = .ok (.aload_n 0, 1) := by decide +kernel
theorem dX7_readLine_159 : decode cX7_readLine 159 = .ok (.getfield 59, 3) := by decide +kernel
theorem dX7_readLine_162 : decode cX7_readLine 162 = .ok (.aload_n 0, 1) := by decide +kernel
theorem dX7_readLine_163 : decode cX7_readLine 163 = .ok (.getfield 147, 3) := by decide +kernel
theorem dX7_readLine_166 : decode cX7_readLine 166 = .ok (.iaload, 1) := by decide +kernel
theorem dX7_readLine_167 : decode cX7_readLine 167 = .ok (.iconst 1, 1) := by decide +kernel
theorem dX7_readLine_168 : decode cX7_readLine 168 = .ok (.isub, 1) := by decide +kernel
theorem dX7_readLine_169 : decode cX7_readLine 169 = .ok (.invokestatic 165, 3) := by decide +kernel
theorem dX7_readLine_172 : decode cX7_readLine 172 = .ok (.iload 4, 2) := by decide +kernel
theorem dX7_readLine_174 : decode cX7_readLine 174 = .ok (.iastore, 1) := by decide +kernel
theorem dX7_readLine_175 : decode cX7_readLine 175 = .ok (.aload_n 0, 1) := by decide +kernel
theorem dX7_readLine_176 : decode cX7_readLine 176 = .ok (.invokevirtual 177, 3) := by decide +kernel
theorem dX7_readLine_179 : decode cX7_readLine 179 = .ok (.aload_n 0, 1) := by decide +kernel
theorem dX7_readLine_180 : decode cX7_readLine 180 = .ok (.getfield 144, 3) := by decide +kernel
theorem dX7_readLine_183 : decode cX7_readLine 183 = .ok (.iconst (-1), 1) := by decide +kernel
theorem dX7_readLine_184 : decode cX7_readLine 184 = .ok (.if_icmp .ne 26, 3) := by decide +kernel
theorem dX7_readLine_187 : decode cX7_readLine 187 = .ok (.aload_n 0, 1) := by decide +kernel
theorem dX7_readLine_188 : decode cX7_readLine 188 = .ok (.invokevirtual 150, 3) := by decide +kernel
theorem dX7_readLine_191 : decode cX7_readLine 191 = .ok (.bipush 45, 2) := by decide +kernel
theorem dX7_readLine_193 : decode cX7_readLine 193 = .ok (.if_icmp .ne 17, 3) := by decide +kernel
theorem dX7_readLine_196 : decode cX7_readLine 196 = .ok (.aload_n 0, 1) := by decide +kernel
theorem dX7_readLine_197 : decode cX7_readLine 197 = .ok (.getfield 59, 3) := by decide +kernel
theorem dX7_readLine_200 : decode cX7_readLine 200 = .ok (.aload_n 0, 1) := by decide +kernel
theorem dX7_readLine_201 : decode cX7_readLine 201 = .ok (.getfield 147, 3) := by decide +kernel
theorem dX7_readLine_204 : decode cX7_readLine 204 = .ok (.iaload, 1) := by decide +kernel
theorem dX7_readLine_205 : decode cX7_readLine 205 = .ok (.bipush 8, 2) := by decide +kernel
theorem dX7_readLine_207 : decode cX7_readLine 207 = .ok (.if_icmp .lt (-86), 3) := by decide +kernel
theorem dX7_readLine_210 : decode cX7_readLine 210 = .ok (.aload_n 0, 1) := by decide +kernel
theorem dX7_readLine_211 : decode cX7_readLine 211 = .ok (.dup, 1) := by decide +kernel
theorem dX7_readLine_212 : decode cX7_readLine 212 = .ok (.getfield 147, 3) := by decide +kernel
theorem dX7_readLine_215 : decode cX7_readLine 215 = .ok (.iconst 1, 1) := by decide +kernel
theorem dX7_readLine_216 : decode cX7_readLine 216 = .ok (.iadd, 1) := by decide +kernel
theorem dX7_readLine_217 : decode cX7_readLine 217 = .ok (.putfield 147, 3) := by decide +kernel
theorem dX7_readLine_220 : decode cX7_readLine 220 = .ok (.iload_n 3, 1) := by decide +kernel
theorem dX7_readLine_221 : decode cX7_readLine 221 = .ok (.ifCond .eq 7, 3) := by decide +kernel
theorem dX7_readLine_224 : decode cX7_readLine 224 = .ok (.aload_n 0, 1) := by decide +kernel
theorem dX7_readLine_225 : decode cX7_readLine 225 = .ok (.invokevirtual 180, 3) := by decide +kernel
theorem dX7_readLine_228 : decode cX7_readLine 228 = .ok (.return_, 1) := by decide +kernel
theorem dX7_readsBack_0 : decode cX7_readsBack 0 = .ok (.aload_n 0, 1) := by decide +kernel
theorem dX7_readsBack_1 : decode cX7_readsBack 1 = .ok (.getfield 147, 3) := by decide +kernel
theorem dX7_readsBack_4 : decode cX7_readsBack 4 = .ok (.iconst 1, 1) := by decide +kernel
theorem dX7_readsBack_5 : decode cX7_readsBack 5 = .ok (.isub, 1) := by decide +kernel
theorem dX7_readsBack_6 : decode cX7_readsBack 6 = .ok (.istore_n 1, 1) := by decide +kernel
theorem dX7_readsBack_7 : decode cX7_readsBack 7 = .ok (.aload_n 0, 1) := by decide +kernel
theorem dX7_readsBack_8 : decode cX7_readsBack 8 = .ok (.getfield 59, 3) := by decide +kernel
theorem dX7_readsBack_11 : decode cX7_readsBack 11 = .ok (.iload_n 1, 1) := by decide +kernel
theorem dX7_readsBack_12 : decode cX7_readsBack 12 = .ok (.iaload, 1) := by decide +kernel
theorem dX7_readsBack_13 : decode cX7_readsBack 13 = .ok (.istore_n 2, 1) := by decide +kernel
theorem dX7_readsBack_14 : decode cX7_readsBack 14 = .ok (.aload_n 0, 1) := by decide +kernel
theorem dX7_readsBack_15 : decode cX7_readsBack 15 = .ok (.getfield 56, 3) := by decide +kernel
theorem dX7_readsBack_18 : decode cX7_readsBack 18 = .ok (.aload_n 0, 1) := by decide +kernel
theorem dX7_readsBack_19 : decode cX7_readsBack 19 = .ok (.getfield 147, 3) := by decide +kernel
theorem dX7_readsBack_22 : decode cX7_readsBack 22 = .ok (.aload_n 0, 1) := by decide +kernel
theorem dX7_readsBack_23 : decode cX7_readsBack 23 = .ok (.getfield 56, 3) := by decide +kernel
theorem dX7_readsBack_26 : decode cX7_readsBack 26 = .ok (.iload_n 1, 1) := by decide +kernel
theorem dX7_readsBack_27 : decode cX7_readsBack 27 = .ok (.iaload, 1) := by decide +kernel
theorem dX7_readsBack_28 : decode cX7_readsBack 28 = .ok (.iastore, 1) := by decide +kernel
theorem dX7_readsBack_29 : decode cX7_readsBack 29 = .ok (.aload_n 0, 1) := by decide +kernel
theorem dX7_readsBack_30 : decode cX7_readsBack 30 = .ok (.getfield 59, 3) := by decide +kernel
theorem dX7_readsBack_33 : decode cX7_readsBack 33 = .ok (.aload_n 0, 1) := by decide +kernel
theorem dX7_readsBack_34 : decode cX7_readsBack 34 = .ok (.getfield 147, 3) := by decide +kernel
theorem dX7_readsBack_37 : decode cX7_readsBack 37 = .ok (.iload_n 2, 1) := by decide +kernel
theorem dX7_readsBack_38 : decode cX7_readsBack 38 = .ok (.iastore, 1) := by decide +kernel
theorem dX7_readsBack_39 : decode cX7_readsBack 39 = .ok (.iconst 0, 1) := by decide +kernel
theorem dX7_readsBack_40 : decode cX7_readsBack 40 = .ok (.istore_n 3, 1) := by decide +kernel
theorem dX7_readsBack_41 : decode cX7_readsBack 41 = .ok (.iload_n 3, 1) := by decide +kernel
theorem dX7_readsBack_42 : decode cX7_readsBack 42 = .ok (.iload_n 2, 1) := by decide +kernel
theorem dX7_readsBack_43 : decode cX7_readsBack 43 = .ok (.if_icmp .ge 36, 3) := by decide +kernel
theorem dX7_readsBack_46 : decode cX7_readsBack 46 = .ok (.aload_n 0, 1) := by decide +kernel
theorem dX7_readsBack_47 : decode cX7_readsBack 47 = .ok (.getfield 62, 3) := by decide +kernel
theorem dX7_readsBack_50 : decode cX7_readsBack 50 = .ok (.aload_n 0, 1) := by decide +kernel
theorem dX7_readsBack_51 : decode cX7_readsBack 51 = .ok (.getfield 147, 3) := by decide +kernel
theorem dX7_readsBack_54 : decode cX7_readsBack 54 = .ok (.iload_n 3, 1) := by decide +kernel
theorem dX7_readsBack_55 : decode cX7_readsBack 55 = .ok (.invokestatic 165, 3) := by decide +kernel
theorem dX7_readsBack_58 : decode cX7_readsBack 58 = .ok (.aload_n 0, 1) := by decide +kernel
theorem dX7_readsBack_59 : decode cX7_readsBack 59 = .ok (.getfield 62, 3) := by decide +kernel
theorem dX7_readsBack_62 : decode cX7_readsBack 62 = .ok (.iload_n 1, 1) := by decide +kernel
theorem dX7_readsBack_63 : decode cX7_readsBack 63 = .ok (.iload_n 2, 1) := by decide +kernel
theorem dX7_readsBack_64 : decode cX7_readsBack 64 = .ok (.iconst 1, 1) := by decide +kernel
theorem dX7_readsBack_65 : decode cX7_readsBack 65 = .ok (.isub, 1) := by decide +kernel
theorem dX7_readsBack_66 : decode cX7_readsBack 66 = .ok (.iload_n 3, 1) := by decide +kernel
theorem dX7_readsBack_67 : decode cX7_readsBack 67 = .ok (.isub, 1) := by decide +kernel
theorem dX7_readsBack_68 : decode cX7_readsBack 68 = .ok (.invokestatic 165, 3) := by decide +kernel
theorem dX7_readsBack_71 : decode cX7_readsBack 71 = .ok (.iaload, 1) := by decide +kernel
theorem dX7_readsBack_72 : decode cX7_readsBack 72 = .ok (.iastore, 1) := by decide +kernel
theorem dX7_readsBack_73 : decode cX7_readsBack 73 = .ok (.iinc 3 1, 3) := by decide +kernel
theorem dX7_readsBack_76 : decode cX7_readsBack 76 = .ok (.goto (-35), 3) := by decide +kernel
theorem dX7_readsBack_79 : decode cX7_readsBack 79 = .ok (.iconst 0, 1) := by decide +kernel
theorem dX7_readsBack_80 : decode cX7_readsBack 80 = .ok (.istore_n 3, 1) := by decide +kernel
theorem dX7_readsBack_81 : decode cX7_readsBack 81 = .ok (.iload_n 3, 1) := by decide +kernel
theorem dX7_readsBack_82 : decode cX7_readsBack 82 = .ok (.iload_n 2, 1) := by decide +kernel
theorem dX7_readsBack_83 : decode cX7_readsBack 83 = .ok (.iconst 1, 1) := by decide +kernel
theorem dX7_readsBack_84 : decode cX7_readsBack 84 = .ok (.isub, 1) := by decide +kernel
theorem dX7_readsBack_85 : decode cX7_readsBack 85 = .ok (.if_icmp .ge 36, 3) := by decide +kernel
theorem dX7_readsBack_88 : decode cX7_readsBack 88 = .ok (.aload_n 0, 1) := by decide +kernel
theorem dX7_readsBack_89 : decode cX7_readsBack 89 = .ok (.getfield 65, 3) := by decide +kernel
theorem dX7_readsBack_92 : decode cX7_readsBack 92 = .ok (.aload_n 0, 1) := by decide +kernel
theorem dX7_readsBack_93 : decode cX7_readsBack 93 = .ok (.getfield 147, 3) := by decide +kernel
theorem dX7_readsBack_96 : decode cX7_readsBack 96 = .ok (.iload_n 3, 1) := by decide +kernel
theorem dX7_readsBack_97 : decode cX7_readsBack 97 = .ok (.invokestatic 165, 3) := by decide +kernel
theorem dX7_readsBack_100 : decode cX7_readsBack 100 = .ok (.aload_n 0, 1) := by decide +kernel
theorem dX7_readsBack_101 : decode cX7_readsBack 101 = .ok (.getfield 65, 3) := by decide +kernel
theorem dX7_readsBack_104 : decode cX7_readsBack 104 = .ok (.iload_n 1, 1) := by decide +kernel
theorem dX7_readsBack_105 : decode cX7_readsBack 105 = .ok (.iload_n 2, 1) := by decide +kernel
theorem dX7_readsBack_106 : decode cX7_readsBack 106 = .ok (.iconst 2, 1) := by decide +kernel
theorem dX7_readsBack_107 : decode cX7_readsBack 107 = .ok (.isub, 1) := by decide +kernel
theorem dX7_readsBack_108 : decode cX7_readsBack 108 = .ok (.iload_n 3, 1) := by decide +kernel
theorem dX7_readsBack_109 : decode cX7_readsBack 109 = .ok (.isub, 1) := by decide +kernel
theorem dX7_readsBack_110 : decode cX7_readsBack 110 = .ok (.invokestatic 165, 3) := by decide +kernel
theorem dX7_readsBack_113 : decode cX7_readsBack 113 = .ok (.iaload, 1) := by decide +kernel
theorem dX7_readsBack_114 : decode cX7_readsBack 114 = .ok (.iastore, 1) := by decide +kernel
theorem dX7_readsBack_115 : decode cX7_readsBack 115 = .ok (.iinc 3 1, 3) := by decide +kernel
theorem dX7_readsBack_118 : decode cX7_readsBack 118 = .ok (.goto (-37), 3) := by decide +kernel
theorem dX7_readsBack_121 : decode cX7_readsBack 121 = .ok (.aload_n 0, 1) := by decide +kernel
theorem dX7_readsBack_122 : decode cX7_readsBack 122 = .ok (.dup, 1) := by decide +kernel
theorem dX7_readsBack_123 : decode cX7_readsBack 123 = .ok (.getfield 147, 3) := by decide +kernel
theorem dX7_readsBack_126 : decode cX7_readsBack 126 = .ok (.iconst 1, 1) := by decide +kernel
theorem dX7_readsBack_127 : decode cX7_readsBack 127 = .ok (.iadd, 1) := by decide +kernel
theorem dX7_readsBack_128 : decode cX7_readsBack 128 = .ok (.putfield 147, 3) := by decide +kernel
theorem dX7_readsBack_131 : decode cX7_readsBack 131 = .ok (.return_, 1) := by decide +kernel
theorem dX7_takesRead_0 : decode cX7_takesRead 0 = .ok (.iconst 0, 1) := by decide +kernel
theorem dX7_takesRead_1 : decode cX7_takesRead 1 = .ok (.istore_n 1, 1) := by decide +kernel
theorem dX7_takesRead_2 : decode cX7_takesRead 2 = .ok (.iload_n 1, 1) := by decide +kernel
theorem dX7_takesRead_3 : decode cX7_takesRead 3 = .ok (.aload_n 0, 1) := by decide +kernel
theorem dX7_takesRead_4 : decode cX7_takesRead 4 = .ok (.getfield 147, 3) := by decide +kernel
theorem dX7_takesRead_7 : decode cX7_takesRead 7 = .ok (.if_icmp .ge 146, 3) := by decide +kernel
theorem dX7_takesRead_10 : decode cX7_takesRead 10 = .ok (.aload_n 0, 1) := by decide +kernel
theorem dX7_takesRead_11 : decode cX7_takesRead 11 = .ok (.getfield 129, 3) := by decide +kernel
theorem dX7_takesRead_14 : decode cX7_takesRead 14 = .ok (.istore_n 2, 1) := by decide +kernel
theorem dX7_takesRead_15 : decode cX7_takesRead 15 = .ok (.aload_n 0, 1) := by decide +kernel
theorem dX7_takesRead_16 : decode cX7_takesRead 16 = .ok (.getfield 9, 3) := by decide +kernel
theorem dX7_takesRead_19 : decode cX7_takesRead 19 = .ok (.iload_n 2, 1) := by decide +kernel
theorem dX7_takesRead_20 : decode cX7_takesRead 20 = .ok (.aload_n 0, 1) := by decide +kernel
theorem dX7_takesRead_21 : decode cX7_takesRead 21 = .ok (.getfield 56, 3) := by decide +kernel
theorem dX7_takesRead_24 : decode cX7_takesRead 24 = .ok (.iload_n 1, 1) := by decide +kernel
theorem dX7_takesRead_25 : decode cX7_takesRead 25 = .ok (.iaload, 1) := by decide +kernel
theorem dX7_takesRead_26 : decode cX7_takesRead 26 = .ok (.iastore, 1) := by decide +kernel
theorem dX7_takesRead_27 : decode cX7_takesRead 27 = .ok (.aload_n 0, 1) := by decide +kernel
theorem dX7_takesRead_28 : decode cX7_takesRead 28 = .ok (.getfield 13, 3) := by decide +kernel
theorem dX7_takesRead_31 : decode cX7_takesRead 31 = .ok (.iload_n 2, 1) := by decide +kernel
theorem dX7_takesRead_32 : decode cX7_takesRead 32 = .ok (.aload_n 0, 1) := by decide +kernel
theorem dX7_takesRead_33 : decode cX7_takesRead 33 = .ok (.getfield 59, 3) := by decide +kernel
theorem dX7_takesRead_36 : decode cX7_takesRead 36 = .ok (.iload_n 1, 1) := by decide +kernel
theorem dX7_takesRead_37 : decode cX7_takesRead 37 = .ok (.iaload, 1) := by decide +kernel
theorem dX7_takesRead_38 : decode cX7_takesRead 38 = .ok (.iastore, 1) := by decide +kernel
theorem dX7_takesRead_39 : decode cX7_takesRead 39 = .ok (.aload_n 0, 1) := by decide +kernel
theorem dX7_takesRead_40 : decode cX7_takesRead 40 = .ok (.getfield 29, 3) := by decide +kernel
theorem dX7_takesRead_43 : decode cX7_takesRead 43 = .ok (.iload_n 2, 1) := by decide +kernel
theorem dX7_takesRead_44 : decode cX7_takesRead 44 = .ok (.bipush 50, 2) := by decide +kernel
theorem dX7_takesRead_46 : decode cX7_takesRead 46 = .ok (.iastore, 1) := by decide +kernel
theorem dX7_takesRead_47 : decode cX7_takesRead 47 = .ok (.aload_n 0, 1) := by decide +kernel
theorem dX7_takesRead_48 : decode cX7_takesRead 48 = .ok (.getfield 32, 3) := by decide +kernel
theorem dX7_takesRead_51 : decode cX7_takesRead 51 = .ok (.iload_n 2, 1) := by decide +kernel
theorem dX7_takesRead_52 : decode cX7_takesRead 52 = .ok (.iconst 0, 1) := by decide +kernel
theorem dX7_takesRead_53 : decode cX7_takesRead 53 = .ok (.iastore, 1) := by decide +kernel
theorem dX7_takesRead_54 : decode cX7_takesRead 54 = .ok (.aload_n 0, 1) := by decide +kernel
theorem dX7_takesRead_55 : decode cX7_takesRead 55 = .ok (.getfield 35, 3) := by decide +kernel
theorem dX7_takesRead_58 : decode cX7_takesRead 58 = .ok (.iload_n 2, 1) := by decide +kernel
theorem dX7_takesRead_59 : decode cX7_takesRead 59 = .ok (.iconst 0, 1) := by decide +kernel
theorem dX7_takesRead_60 : decode cX7_takesRead 60 = .ok (.bastore, 1) := by decide +kernel
theorem dX7_takesRead_61 : decode cX7_takesRead 61 = .ok (.iconst 0, 1) := by decide +kernel
theorem dX7_takesRead_62 : decode cX7_takesRead 62 = .ok (.istore_n 3, 1) := by decide +kernel
theorem dX7_takesRead_63 : decode cX7_takesRead 63 = .ok (.iload_n 3, 1) := by decide +kernel
theorem dX7_takesRead_64 : decode cX7_takesRead 64 = .ok (.bipush 8, 2) := by decide +kernel
theorem dX7_takesRead_66 : decode cX7_takesRead 66 = .ok (.if_icmp .ge 71, 3) := by decide +kernel
theorem dX7_takesRead_69 : decode cX7_takesRead 69 = .ok (.aload_n 0, 1) := by decide +kernel
theorem dX7_takesRead_70 : decode cX7_takesRead 70 = .ok (.getfield 16, 3) := by decide +kernel
theorem dX7_takesRead_73 : decode cX7_takesRead 73 = .ok (.iload_n 2, 1) := by decide +kernel
theorem dX7_takesRead_74 : decode cX7_takesRead 74 = .ok (.iload_n 3, 1) := by decide +kernel
theorem dX7_takesRead_75 : decode cX7_takesRead 75 = .ok (.invokestatic 165, 3) := by decide +kernel
theorem dX7_takesRead_78 : decode cX7_takesRead 78 = .ok (.aload_n 0, 1) := by decide +kernel
theorem dX7_takesRead_79 : decode cX7_takesRead 79 = .ok (.getfield 62, 3) := by decide +kernel
theorem dX7_takesRead_82 : decode cX7_takesRead 82 = .ok (.iload_n 1, 1) := by decide +kernel
theorem dX7_takesRead_83 : decode cX7_takesRead 83 = .ok (.iload_n 3, 1) := by decide +kernel
theorem dX7_takesRead_84 : decode cX7_takesRead 84 = .ok (.invokestatic 165, 3) := by decide +kernel
theorem dX7_takesRead_87 : decode cX7_takesRead 87 = .ok (.iaload, 1) := by decide +kernel
theorem dX7_takesRead_88 : decode cX7_takesRead 88 = .ok (.iastore, 1) := by decide +kernel
theorem dX7_takesRead_89 : decode cX7_takesRead 89 = .ok (.aload_n 0, 1) := by decide +kernel
theorem dX7_takesRead_90 : decode cX7_takesRead 90 = .ok (.getfield 19, 3) := by decide +kernel
theorem dX7_takesRead_93 : decode cX7_takesRead 93 = .ok (.iload_n 2, 1) := by decide +kernel
theorem dX7_takesRead_94 : decode cX7_takesRead 94 = .ok (.iload_n 3, 1) := by decide +kernel
theorem dX7_takesRead_95 : decode cX7_takesRead 95 = .ok (.invokestatic 165, 3) := by decide +kernel
theorem dX7_takesRead_98 : decode cX7_takesRead 98 = .ok (.aload_n 0, 1) := by decide +kernel
theorem dX7_takesRead_99 : decode cX7_takesRead 99 = .ok (.getfield 65, 3) := by decide +kernel
theorem dX7_takesRead_102 : decode cX7_takesRead 102 = .ok (.iload_n 1, 1) := by decide +kernel
theorem dX7_takesRead_103 : decode cX7_takesRead 103 = .ok (.iload_n 3, 1) := by decide +kernel
theorem dX7_takesRead_104 : decode cX7_takesRead 104 = .ok (.invokestatic 165, 3) := by decide +kernel
theorem dX7_takesRead_107 : decode cX7_takesRead 107 = .ok (.iaload, 1) := by decide +kernel
theorem dX7_takesRead_108 : decode cX7_takesRead 108 = .ok (.iastore, 1) := by decide +kernel
theorem dX7_takesRead_109 : decode cX7_takesRead 109 = .ok (.aload_n 0, 1) := by decide +kernel
theorem dX7_takesRead_110 : decode cX7_takesRead 110 = .ok (.getfield 22, 3) := by decide +kernel
theorem dX7_takesRead_113 : decode cX7_takesRead 113 = .ok (.iload_n 2, 1) := by decide +kernel
theorem dX7_takesRead_114 : decode cX7_takesRead 114 = .ok (.iload_n 3, 1) := by decide +kernel
theorem dX7_takesRead_115 : decode cX7_takesRead 115 = .ok (.invokestatic 165, 3) := by decide +kernel
theorem dX7_takesRead_118 : decode cX7_takesRead 118 = .ok (.lconst 0, 1) := by decide +kernel
theorem dX7_takesRead_119 : decode cX7_takesRead 119 = .ok (.lastore, 1) := by decide +kernel
theorem dX7_takesRead_120 : decode cX7_takesRead 120 = .ok (.aload_n 0, 1) := by decide +kernel
theorem dX7_takesRead_121 : decode cX7_takesRead 121 = .ok (.getfield 26, 3) := by decide +kernel
theorem dX7_takesRead_124 : decode cX7_takesRead 124 = .ok (.iload_n 2, 1) := by decide +kernel
theorem dX7_takesRead_125 : decode cX7_takesRead 125 = .ok (.iload_n 3, 1) := by decide +kernel
theorem dX7_takesRead_126 : decode cX7_takesRead 126 = .ok (.invokestatic 165, 3) := by decide +kernel
theorem dX7_takesRead_129 : decode cX7_takesRead 129 = .ok (.lconst 0, 1) := by decide +kernel
theorem dX7_takesRead_130 : decode cX7_takesRead 130 = .ok (.lastore, 1) := by decide +kernel
theorem dX7_takesRead_131 : decode cX7_takesRead 131 = .ok (.iinc 3 1, 3) := by decide +kernel
theorem dX7_takesRead_134 : decode cX7_takesRead 134 = .ok (.goto (-71), 3) := by decide +kernel
theorem dX7_takesRead_137 : decode cX7_takesRead 137 = .ok (.aload_n 0, 1) := by decide +kernel
theorem dX7_takesRead_138 : decode cX7_takesRead 138 = .ok (.dup, 1) := by decide +kernel
theorem dX7_takesRead_139 : decode cX7_takesRead 139 = .ok (.getfield 129, 3) := by decide +kernel
theorem dX7_takesRead_142 : decode cX7_takesRead 142 = .ok (.iconst 1, 1) := by decide +kernel
theorem dX7_takesRead_143 : decode cX7_takesRead 143 = .ok (.iadd, 1) := by decide +kernel
theorem dX7_takesRead_144 : decode cX7_takesRead 144 = .ok (.putfield 129, 3) := by decide +kernel
theorem dX7_takesRead_147 : decode cX7_takesRead 147 = .ok (.iinc 1 1, 3) := by decide +kernel
theorem dX7_takesRead_150 : decode cX7_takesRead 150 = .ok (.goto (-148), 3) := by decide +kernel
theorem dX7_takesRead_153 : decode cX7_takesRead 153 = .ok (.return_, 1) := by decide +kernel
theorem dX7_net_0 : decode cX7_net 0 = .ok (.aload_n 0, 1) := by decide +kernel
theorem dX7_net_1 : decode cX7_net 1 = .ok (.iconst 0, 1) := by decide +kernel
theorem dX7_net_2 : decode cX7_net 2 = .ok (.putfield 116, 3) := by decide +kernel
theorem dX7_net_5 : decode cX7_net 5 = .ok (.aload_n 0, 1) := by decide +kernel
theorem dX7_net_6 : decode cX7_net 6 = .ok (.invokevirtual 183, 3) := by decide +kernel
theorem dX7_net_9 : decode cX7_net 9 = .ok (.aload_n 0, 1) := by decide +kernel
theorem dX7_net_10 : decode cX7_net 10 = .ok (.getfield 138, 3) := by decide +kernel
theorem dX7_net_13 : decode cX7_net 13 = .ok (.ifCond .le 8, 3) := by decide +kernel
theorem dX7_net_16 : decode cX7_net 16 = .ok (.aload_n 0, 1) := by decide +kernel
theorem dX7_net_17 : decode cX7_net 17 = .ok (.iconst 0, 1) := by decide +kernel
theorem dX7_net_18 : decode cX7_net 18 = .ok (.invokevirtual 186, 3) := by decide +kernel
theorem dX7_net_21 : decode cX7_net 21 = .ok (.aload_n 0, 1) := by decide +kernel
theorem dX7_net_22 : decode cX7_net 22 = .ok (.getfield 144, 3) := by decide +kernel
theorem dX7_net_25 : decode cX7_net 25 = .ok (.iconst (-1), 1) := by decide +kernel
theorem dX7_net_26 : decode cX7_net 26 = .ok (.if_icmp .ne 58, 3) := by decide +kernel
theorem dX7_net_29 : decode cX7_net 29 = .ok (.aload_n 0, 1) := by decide +kernel
theorem dX7_net_30 : decode cX7_net 30 = .ok (.invokevirtual 150, 3) := by decide +kernel
theorem dX7_net_33 : decode cX7_net 33 = .ok (.bipush 59, 2) := by decide +kernel
theorem dX7_net_35 : decode cX7_net 35 = .ok (.if_icmp .ne 49, 3) := by decide +kernel
theorem dX7_net_38 : decode cX7_net 38 = .ok (.aload_n 0, 1) := by decide +kernel
theorem dX7_net_39 : decode cX7_net 39 = .ok (.dup, 1) := by decide +kernel
theorem dX7_net_40 : decode cX7_net 40 = .ok (.getfield 141, 3) := by decide +kernel
theorem dX7_net_43 : decode cX7_net 43 = .ok (.iconst 1, 1) := by decide +kernel
theorem dX7_net_44 : decode cX7_net 44 = .ok (.iadd, 1) := by decide +kernel
theorem dX7_net_45 : decode cX7_net 45 = .ok (.putfield 141, 3) := by decide +kernel
theorem dX7_net_48 : decode cX7_net 48 = .ok (.aload_n 0, 1) := by decide +kernel
theorem dX7_net_49 : decode cX7_net 49 = .ok (.invokevirtual 150, 3) := by decide +kernel
theorem dX7_net_52 : decode cX7_net 52 = .ok (.i2l, 1) := by decide +kernel
theorem dX7_net_53 : decode cX7_net 53 = .ok (.ldc2_w 154, 3) := by decide +kernel
theorem dX7_net_56 : decode cX7_net 56 = .ok (.ldc2_w 156, 3) := by decide +kernel
theorem dX7_net_59 : decode cX7_net 59 = .ok (.invokestatic 125, 3) := by decide +kernel
theorem dX7_net_62 : decode cX7_net 62 = .ok (.ifCond .eq 11, 3) := by decide +kernel
theorem dX7_net_65 : decode cX7_net 65 = .ok (.aload_n 0, 1) := by decide +kernel
theorem dX7_net_66 : decode cX7_net 66 = .ok (.iconst 0, 1) := by decide +kernel
theorem dX7_net_67 : decode cX7_net 67 = .ok (.invokevirtual 186, 3) := by decide +kernel
theorem dX7_net_70 : decode cX7_net 70 = .ok (.goto (-49), 3) := by decide +kernel
theorem dX7_net_73 : decode cX7_net 73 = .ok (.aload_n 0, 1) := by decide +kernel
theorem dX7_net_74 : decode cX7_net 74 = .ok (.aload_n 0, 1) := by decide +kernel
theorem dX7_net_75 : decode cX7_net 75 = .ok (.getfield 141, 3) := by decide +kernel
theorem dX7_net_78 : decode cX7_net 78 = .ok (.invokevirtual 158, 3) := by decide +kernel
theorem dX7_net_81 : decode cX7_net 81 = .ok (.goto (-60), 3) := by decide +kernel
theorem dX7_net_84 : decode cX7_net 84 = .ok (.aload_n 0, 1) := by decide +kernel
theorem dX7_net_85 : decode cX7_net 85 = .ok (.getfield 144, 3) := by decide +kernel
theorem dX7_net_88 : decode cX7_net 88 = .ok (.iconst (-1), 1) := by decide +kernel
theorem dX7_net_89 : decode cX7_net 89 = .ok (.if_icmp .ne 22, 3) := by decide +kernel
theorem dX7_net_92 : decode cX7_net 92 = .ok (.aload_n 0, 1) := by decide +kernel
theorem dX7_net_93 : decode cX7_net 93 = .ok (.getfield 141, 3) := by decide +kernel
theorem dX7_net_96 : decode cX7_net 96 = .ok (.aload_n 0, 1) := by decide +kernel
theorem dX7_net_97 : decode cX7_net 97 = .ok (.getfield 138, 3) := by decide +kernel
theorem dX7_net_100 : decode cX7_net 100 = .ok (.if_icmp .ge 11, 3) := by decide +kernel
theorem dX7_net_103 : decode cX7_net 103 = .ok (.aload_n 0, 1) := by decide +kernel
theorem dX7_net_104 : decode cX7_net 104 = .ok (.aload_n 0, 1) := by decide +kernel
theorem dX7_net_105 : decode cX7_net 105 = .ok (.getfield 141, 3) := by decide +kernel
theorem dX7_net_108 : decode cX7_net 108 = .ok (.invokevirtual 158, 3) := by decide +kernel
theorem dX7_net_111 : decode cX7_net 111 = .ok (.aload_n 0, 1) := by decide +kernel
theorem dX7_net_112 : decode cX7_net 112 = .ok (.getfield 144, 3) := by decide +kernel
theorem dX7_net_115 : decode cX7_net 115 = .ok (.iconst (-1), 1) := by decide +kernel
theorem dX7_net_116 : decode cX7_net 116 = .ok (.if_icmp .eq 11, 3) := by decide +kernel
theorem dX7_net_119 : decode cX7_net 119 = .ok (.bipush (-21), 2) := by decide +kernel
theorem dX7_net_121 : decode cX7_net 121 = .ok (.aload_n 0, 1) := by decide +kernel
theorem dX7_net_122 : decode cX7_net 122 = .ok (.getfield 144, 3) := by decide +kernel
theorem dX7_net_125 : decode cX7_net 125 = .ok (.isub, 1) := by decide +kernel
theorem dX7_net_126 : decode cX7_net 126 = .ok (.ireturn, 1) := by decide +kernel
theorem dX7_net_127 : decode cX7_net 127 = .ok (.aload_n 0, 1) := by decide +kernel
theorem dX7_net_128 : decode cX7_net 128 = .ok (.iconst 0, 1) := by decide +kernel
theorem dX7_net_129 : decode cX7_net 129 = .ok (.putfield 129, 3) := by decide +kernel
theorem dX7_net_132 : decode cX7_net 132 = .ok (.aload_n 0, 1) := by decide +kernel
theorem dX7_net_133 : decode cX7_net 133 = .ok (.invokevirtual 189, 3) := by decide +kernel
theorem dX7_net_136 : decode cX7_net 136 = .ok (.aload_n 0, 1) := by decide +kernel
theorem dX7_net_137 : decode cX7_net 137 = .ok (.iconst 0, 1) := by decide +kernel
theorem dX7_net_138 : decode cX7_net 138 = .ok (.putfield 192, 3) := by decide +kernel
theorem dX7_net_141 : decode cX7_net 141 = .ok (.iconst 0, 1) := by decide +kernel
theorem dX7_net_142 : decode cX7_net 142 = .ok (.istore_n 1, 1) := by decide +kernel
theorem dX7_net_143 : decode cX7_net 143 = .ok (.iload_n 1, 1) := by decide +kernel
theorem dX7_net_144 : decode cX7_net 144 = .ok (.bipush 10, 2) := by decide +kernel
theorem dX7_net_146 : decode cX7_net 146 = .ok (.if_icmp .ge 16, 3) := by decide +kernel
theorem dX7_net_149 : decode cX7_net 149 = .ok (.aload_n 0, 1) := by decide +kernel
theorem dX7_net_150 : decode cX7_net 150 = .ok (.getfield 46, 3) := by decide +kernel
theorem dX7_net_153 : decode cX7_net 153 = .ok (.iload_n 1, 1) := by decide +kernel
theorem dX7_net_154 : decode cX7_net 154 = .ok (.iconst 0, 1) := by decide +kernel
theorem dX7_net_155 : decode cX7_net 155 = .ok (.bastore, 1) := by decide +kernel
theorem dX7_net_156 : decode cX7_net 156 = .ok (.iinc 1 1, 3) := by decide +kernel
theorem dX7_net_159 : decode cX7_net 159 = .ok (.goto (-16), 3) := by decide +kernel
theorem dX7_net_162 : decode cX7_net 162 = .ok (.aload_n 0, 1) := by decide +kernel
theorem dX7_net_163 : decode cX7_net 163 = .ok (.getfield 129, 3) := by decide +kernel
theorem dX7_net_166 : decode cX7_net 166 = .ok (.ireturn, 1) := by decide +kernel
theorem dX7_adds_0 : decode cX7_adds 0 = .ok (.aload_n 0, 1) := by decide +kernel
theorem dX7_adds_1 : decode cX7_adds 1 = .ok (.iconst 0, 1) := by decide +kernel
theorem dX7_adds_2 : decode cX7_adds 2 = .ok (.putfield 116, 3) := by decide +kernel
theorem dX7_adds_5 : decode cX7_adds 5 = .ok (.aload_n 0, 1) := by decide +kernel
theorem dX7_adds_6 : decode cX7_adds 6 = .ok (.invokevirtual 183, 3) := by decide +kernel
theorem dX7_adds_9 : decode cX7_adds 9 = .ok (.aload_n 0, 1) := by decide +kernel
theorem dX7_adds_10 : decode cX7_adds 10 = .ok (.getfield 129, 3) := by decide +kernel
theorem dX7_adds_13 : decode cX7_adds 13 = .ok (.bipush 12, 2) := by decide +kernel
theorem dX7_adds_15 : decode cX7_adds 15 = .ok (.if_icmp .ne 25, 3) := by decide +kernel
theorem dX7_adds_18 : decode cX7_adds 18 = .ok (.aload_n 0, 1) := by decide +kernel
theorem dX7_adds_19 : decode cX7_adds 19 = .ok (.invokevirtual 150, 3) := by decide +kernel
theorem dX7_adds_22 : decode cX7_adds 22 = .ok (.i2l, 1) := by decide +kernel
theorem dX7_adds_23 : decode cX7_adds 23 = .ok (.ldc2_w 154, 3) := by decide +kernel
theorem dX7_adds_26 : decode cX7_adds 26 = .ok (.ldc2_w 156, 3) := by decide +kernel
theorem dX7_adds_29 : decode cX7_adds 29 = .ok (.invokestatic 125, 3) := by decide +kernel
theorem dX7_adds_32 : decode cX7_adds 32 = .ok (.ifCond .eq 8, 3) := by decide +kernel
theorem dX7_adds_35 : decode cX7_adds 35 = .ok (.aload_n 0, 1) := by decide +kernel
theorem dX7_adds_36 : decode cX7_adds 36 = .ok (.iconst 0, 1) := by decide +kernel
theorem dX7_adds_37 : decode cX7_adds 37 = .ok (.invokevirtual 158, 3) := by decide +kernel
theorem dX7_adds_40 : decode cX7_adds 40 = .ok (.aload_n 0, 1) := by decide +kernel
theorem dX7_adds_41 : decode cX7_adds 41 = .ok (.getfield 144, 3) := by decide +kernel
theorem dX7_adds_44 : decode cX7_adds 44 = .ok (.iconst (-1), 1) := by decide +kernel
theorem dX7_adds_45 : decode cX7_adds 45 = .ok (.if_icmp .ne 11, 3) := by decide +kernel
theorem dX7_adds_48 : decode cX7_adds 48 = .ok (.aload_n 0, 1) := by decide +kernel
theorem dX7_adds_49 : decode cX7_adds 49 = .ok (.aload_n 0, 1) := by decide +kernel
theorem dX7_adds_50 : decode cX7_adds 50 = .ok (.getfield 129, 3) := by decide +kernel
theorem dX7_adds_53 : decode cX7_adds 53 = .ok (.invokevirtual 186, 3) := by decide +kernel
theorem dX7_adds_56 : decode cX7_adds 56 = .ok (.aload_n 0, 1) := by decide +kernel
theorem dX7_adds_57 : decode cX7_adds 57 = .ok (.getfield 144, 3) := by decide +kernel
theorem dX7_adds_60 : decode cX7_adds 60 = .ok (.iconst (-1), 1) := by decide +kernel
theorem dX7_adds_61 : decode cX7_adds 61 = .ok (.if_icmp .ne 22, 3) := by decide +kernel
theorem dX7_adds_64 : decode cX7_adds 64 = .ok (.aload_n 0, 1) := by decide +kernel
theorem dX7_adds_65 : decode cX7_adds 65 = .ok (.getfield 141, 3) := by decide +kernel
theorem dX7_adds_68 : decode cX7_adds 68 = .ok (.aload_n 0, 1) := by decide +kernel
theorem dX7_adds_69 : decode cX7_adds 69 = .ok (.getfield 138, 3) := by decide +kernel
theorem dX7_adds_72 : decode cX7_adds 72 = .ok (.if_icmp .ge 11, 3) := by decide +kernel
theorem dX7_adds_75 : decode cX7_adds 75 = .ok (.aload_n 0, 1) := by decide +kernel
theorem dX7_adds_76 : decode cX7_adds 76 = .ok (.aload_n 0, 1) := by decide +kernel
theorem dX7_adds_77 : decode cX7_adds 77 = .ok (.getfield 141, 3) := by decide +kernel
theorem dX7_adds_80 : decode cX7_adds 80 = .ok (.invokevirtual 158, 3) := by decide +kernel
theorem dX7_adds_83 : decode cX7_adds 83 = .ok (.aload_n 0, 1) := by decide +kernel
theorem dX7_adds_84 : decode cX7_adds 84 = .ok (.getfield 144, 3) := by decide +kernel
theorem dX7_adds_87 : decode cX7_adds 87 = .ok (.iconst (-1), 1) := by decide +kernel
theorem dX7_adds_88 : decode cX7_adds 88 = .ok (.if_icmp .eq 11, 3) := by decide +kernel
theorem dX7_adds_91 : decode cX7_adds 91 = .ok (.bipush (-21), 2) := by decide +kernel
theorem dX7_adds_93 : decode cX7_adds 93 = .ok (.aload_n 0, 1) := by decide +kernel
theorem dX7_adds_94 : decode cX7_adds 94 = .ok (.getfield 144, 3) := by decide +kernel
theorem dX7_adds_97 : decode cX7_adds 97 = .ok (.isub, 1) := by decide +kernel
theorem dX7_adds_98 : decode cX7_adds 98 = .ok (.ireturn, 1) := by decide +kernel
theorem dX7_adds_99 : decode cX7_adds 99 = .ok (.aload_n 0, 1) := by decide +kernel
theorem dX7_adds_100 : decode cX7_adds 100 = .ok (.invokevirtual 189, 3) := by decide +kernel
theorem dX7_adds_103 : decode cX7_adds 103 = .ok (.aload_n 0, 1) := by decide +kernel
theorem dX7_adds_104 : decode cX7_adds 104 = .ok (.getfield 129, 3) := by decide +kernel
theorem dX7_adds_107 : decode cX7_adds 107 = .ok (.ireturn, 1) := by decide +kernel
theorem dX7_drops_0 : decode cX7_drops 0 = .ok (.aload_n 0, 1) := by decide +kernel
theorem dX7_drops_1 : decode cX7_drops 1 = .ok (.iconst 0, 1) := by decide +kernel
theorem dX7_drops_2 : decode cX7_drops 2 = .ok (.putfield 116, 3) := by decide +kernel
theorem dX7_drops_5 : decode cX7_drops 5 = .ok (.aload_n 0, 1) := by decide +kernel
theorem dX7_drops_6 : decode cX7_drops 6 = .ok (.iload_n 1, 1) := by decide +kernel
theorem dX7_drops_7 : decode cX7_drops 7 = .ok (.invokevirtual 134, 3) := by decide +kernel
theorem dX7_drops_10 : decode cX7_drops 10 = .ok (.ifCond .ne 5, 3) := by decide +kernel
theorem dX7_drops_13 : decode cX7_drops 13 = .ok (.iconst (-1), 1) := by decide +kernel
theorem dX7_drops_14 : decode cX7_drops 14 = .ok (.ireturn, 1) := by decide +kernel
theorem dX7_drops_15 : decode cX7_drops 15 = .ok (.aload_n 0, 1) := by decide +kernel
theorem dX7_drops_16 : decode cX7_drops 16 = .ok (.dup, 1) := by decide +kernel
theorem dX7_drops_17 : decode cX7_drops 17 = .ok (.getfield 129, 3) := by decide +kernel
theorem dX7_drops_20 : decode cX7_drops 20 = .ok (.iconst 1, 1) := by decide +kernel
theorem dX7_drops_21 : decode cX7_drops 21 = .ok (.isub, 1) := by decide +kernel
theorem dX7_drops_22 : decode cX7_drops 22 = .ok (.putfield 129, 3) := by decide +kernel
theorem dX7_drops_25 : decode cX7_drops 25 = .ok (.iload_n 1, 1) := by decide +kernel
theorem dX7_drops_26 : decode cX7_drops 26 = .ok (.istore_n 2, 1) := by decide +kernel
theorem dX7_drops_27 : decode cX7_drops 27 = .ok (.iload_n 2, 1) := by decide +kernel
theorem dX7_drops_28 : decode cX7_drops 28 = .ok (.aload_n 0, 1) := by decide +kernel
theorem dX7_drops_29 : decode cX7_drops 29 = .ok (.getfield 129, 3) := by decide +kernel
theorem dX7_drops_32 : decode cX7_drops 32 = .ok (.if_icmp .ge 181, 3) := by decide +kernel
theorem dX7_drops_35 : decode cX7_drops 35 = .ok (.aload_n 0, 1) := by decide +kernel
theorem dX7_drops_36 : decode cX7_drops 36 = .ok (.getfield 9, 3) := by decide +kernel
theorem dX7_drops_39 : decode cX7_drops 39 = .ok (.iload_n 2, 1) := by decide +kernel
theorem dX7_drops_40 : decode cX7_drops 40 = .ok (.aload_n 0, 1) := by decide +kernel
theorem dX7_drops_41 : decode cX7_drops 41 = .ok (.getfield 9, 3) := by decide +kernel
theorem dX7_drops_44 : decode cX7_drops 44 = .ok (.iload_n 2, 1) := by decide +kernel
theorem dX7_drops_45 : decode cX7_drops 45 = .ok (.iconst 1, 1) := by decide +kernel
theorem dX7_drops_46 : decode cX7_drops 46 = .ok (.iadd, 1) := by decide +kernel
theorem dX7_drops_47 : decode cX7_drops 47 = .ok (.iaload, 1) := by decide +kernel
theorem dX7_drops_48 : decode cX7_drops 48 = .ok (.iastore, 1) := by decide +kernel
theorem dX7_drops_49 : decode cX7_drops 49 = .ok (.aload_n 0, 1) := by decide +kernel
theorem dX7_drops_50 : decode cX7_drops 50 = .ok (.getfield 13, 3) := by decide +kernel
theorem dX7_drops_53 : decode cX7_drops 53 = .ok (.iload_n 2, 1) := by decide +kernel
theorem dX7_drops_54 : decode cX7_drops 54 = .ok (.aload_n 0, 1) := by decide +kernel
theorem dX7_drops_55 : decode cX7_drops 55 = .ok (.getfield 13, 3) := by decide +kernel
theorem dX7_drops_58 : decode cX7_drops 58 = .ok (.iload_n 2, 1) := by decide +kernel
theorem dX7_drops_59 : decode cX7_drops 59 = .ok (.iconst 1, 1) := by decide +kernel
theorem dX7_drops_60 : decode cX7_drops 60 = .ok (.iadd, 1) := by decide +kernel
theorem dX7_drops_61 : decode cX7_drops 61 = .ok (.iaload, 1) := by decide +kernel
theorem dX7_drops_62 : decode cX7_drops 62 = .ok (.iastore, 1) := by decide +kernel
theorem dX7_drops_63 : decode cX7_drops 63 = .ok (.aload_n 0, 1) := by decide +kernel
theorem dX7_drops_64 : decode cX7_drops 64 = .ok (.getfield 29, 3) := by decide +kernel
theorem dX7_drops_67 : decode cX7_drops 67 = .ok (.iload_n 2, 1) := by decide +kernel
theorem dX7_drops_68 : decode cX7_drops 68 = .ok (.aload_n 0, 1) := by decide +kernel
theorem dX7_drops_69 : decode cX7_drops 69 = .ok (.getfield 29, 3) := by decide +kernel
theorem dX7_drops_72 : decode cX7_drops 72 = .ok (.iload_n 2, 1) := by decide +kernel
theorem dX7_drops_73 : decode cX7_drops 73 = .ok (.iconst 1, 1) := by decide +kernel
theorem dX7_drops_74 : decode cX7_drops 74 = .ok (.iadd, 1) := by decide +kernel
theorem dX7_drops_75 : decode cX7_drops 75 = .ok (.iaload, 1) := by decide +kernel
theorem dX7_drops_76 : decode cX7_drops 76 = .ok (.iastore, 1) := by decide +kernel
theorem dX7_drops_77 : decode cX7_drops 77 = .ok (.aload_n 0, 1) := by decide +kernel
theorem dX7_drops_78 : decode cX7_drops 78 = .ok (.getfield 32, 3) := by decide +kernel
theorem dX7_drops_81 : decode cX7_drops 81 = .ok (.iload_n 2, 1) := by decide +kernel
theorem dX7_drops_82 : decode cX7_drops 82 = .ok (.aload_n 0, 1) := by decide +kernel
theorem dX7_drops_83 : decode cX7_drops 83 = .ok (.getfield 32, 3) := by decide +kernel
theorem dX7_drops_86 : decode cX7_drops 86 = .ok (.iload_n 2, 1) := by decide +kernel
theorem dX7_drops_87 : decode cX7_drops 87 = .ok (.iconst 1, 1) := by decide +kernel
theorem dX7_drops_88 : decode cX7_drops 88 = .ok (.iadd, 1) := by decide +kernel
theorem dX7_drops_89 : decode cX7_drops 89 = .ok (.iaload, 1) := by decide +kernel
theorem dX7_drops_90 : decode cX7_drops 90 = .ok (.iastore, 1) := by decide +kernel
theorem dX7_drops_91 : decode cX7_drops 91 = .ok (.aload_n 0, 1) := by decide +kernel
theorem dX7_drops_92 : decode cX7_drops 92 = .ok (.getfield 35, 3) := by decide +kernel
theorem dX7_drops_95 : decode cX7_drops 95 = .ok (.iload_n 2, 1) := by decide +kernel
theorem dX7_drops_96 : decode cX7_drops 96 = .ok (.aload_n 0, 1) := by decide +kernel
theorem dX7_drops_97 : decode cX7_drops 97 = .ok (.getfield 35, 3) := by decide +kernel
theorem dX7_drops_100 : decode cX7_drops 100 = .ok (.iload_n 2, 1) := by decide +kernel
theorem dX7_drops_101 : decode cX7_drops 101 = .ok (.iconst 1, 1) := by decide +kernel
theorem dX7_drops_102 : decode cX7_drops 102 = .ok (.iadd, 1) := by decide +kernel
theorem dX7_drops_103 : decode cX7_drops 103 = .ok (.baload, 1) := by decide +kernel
theorem dX7_drops_104 : decode cX7_drops 104 = .ok (.bastore, 1) := by decide +kernel
theorem dX7_drops_105 : decode cX7_drops 105 = .ok (.iconst 0, 1) := by decide +kernel
theorem dX7_drops_106 : decode cX7_drops 106 = .ok (.istore_n 3, 1) := by decide +kernel
theorem dX7_drops_107 : decode cX7_drops 107 = .ok (.iload_n 3, 1) := by decide +kernel
theorem dX7_drops_108 : decode cX7_drops 108 = .ok (.bipush 8, 2) := by decide +kernel
theorem dX7_drops_110 : decode cX7_drops 110 = .ok (.if_icmp .ge 97, 3) := by decide +kernel
theorem dX7_drops_113 : decode cX7_drops 113 = .ok (.aload_n 0, 1) := by decide +kernel
theorem dX7_drops_114 : decode cX7_drops 114 = .ok (.getfield 16, 3) := by decide +kernel
theorem dX7_drops_117 : decode cX7_drops 117 = .ok (.iload_n 2, 1) := by decide +kernel
theorem dX7_drops_118 : decode cX7_drops 118 = .ok (.iload_n 3, 1) := by decide +kernel
theorem dX7_drops_119 : decode cX7_drops 119 = .ok (.invokestatic 165, 3) := by decide +kernel
theorem dX7_drops_122 : decode cX7_drops 122 = .ok (.aload_n 0, 1) := by decide +kernel
theorem dX7_drops_123 : decode cX7_drops 123 = .ok (.getfield 16, 3) := by decide +kernel
theorem dX7_drops_126 : decode cX7_drops 126 = .ok (.iload_n 2, 1) := by decide +kernel
theorem dX7_drops_127 : decode cX7_drops 127 = .ok (.iconst 1, 1) := by decide +kernel
theorem dX7_drops_128 : decode cX7_drops 128 = .ok (.iadd, 1) := by decide +kernel
theorem dX7_drops_129 : decode cX7_drops 129 = .ok (.iload_n 3, 1) := by decide +kernel
theorem dX7_drops_130 : decode cX7_drops 130 = .ok (.invokestatic 165, 3) := by decide +kernel
theorem dX7_drops_133 : decode cX7_drops 133 = .ok (.iaload, 1) := by decide +kernel
theorem dX7_drops_134 : decode cX7_drops 134 = .ok (.iastore, 1) := by decide +kernel
theorem dX7_drops_135 : decode cX7_drops 135 = .ok (.aload_n 0, 1) := by decide +kernel
theorem dX7_drops_136 : decode cX7_drops 136 = .ok (.getfield 19, 3) := by decide +kernel
theorem dX7_drops_139 : decode cX7_drops 139 = .ok (.iload_n 2, 1) := by decide +kernel
theorem dX7_drops_140 : decode cX7_drops 140 = .ok (.iload_n 3, 1) := by decide +kernel
theorem dX7_drops_141 : decode cX7_drops 141 = .ok (.invokestatic 165, 3) := by decide +kernel
theorem dX7_drops_144 : decode cX7_drops 144 = .ok (.aload_n 0, 1) := by decide +kernel
theorem dX7_drops_145 : decode cX7_drops 145 = .ok (.getfield 19, 3) := by decide +kernel
theorem dX7_drops_148 : decode cX7_drops 148 = .ok (.iload_n 2, 1) := by decide +kernel
theorem dX7_drops_149 : decode cX7_drops 149 = .ok (.iconst 1, 1) := by decide +kernel
theorem dX7_drops_150 : decode cX7_drops 150 = .ok (.iadd, 1) := by decide +kernel
theorem dX7_drops_151 : decode cX7_drops 151 = .ok (.iload_n 3, 1) := by decide +kernel
theorem dX7_drops_152 : decode cX7_drops 152 = .ok (.invokestatic 165, 3) := by decide +kernel
theorem dX7_drops_155 : decode cX7_drops 155 = .ok (.iaload, 1) := by decide +kernel
theorem dX7_drops_156 : decode cX7_drops 156 = .ok (.iastore, 1) := by decide +kernel
theorem dX7_drops_157 : decode cX7_drops 157 = .ok (.aload_n 0, 1) := by decide +kernel
theorem dX7_drops_158 : decode cX7_drops 158 = .ok (.getfield 22, 3) := by decide +kernel
theorem dX7_drops_161 : decode cX7_drops 161 = .ok (.iload_n 2, 1) := by decide +kernel
theorem dX7_drops_162 : decode cX7_drops 162 = .ok (.iload_n 3, 1) := by decide +kernel
theorem dX7_drops_163 : decode cX7_drops 163 = .ok (.invokestatic 165, 3) := by decide +kernel
theorem dX7_drops_166 : decode cX7_drops 166 = .ok (.aload_n 0, 1) := by decide +kernel
theorem dX7_drops_167 : decode cX7_drops 167 = .ok (.getfield 22, 3) := by decide +kernel
theorem dX7_drops_170 : decode cX7_drops 170 = .ok (.iload_n 2, 1) := by decide +kernel
theorem dX7_drops_171 : decode cX7_drops 171 = .ok (.iconst 1, 1) := by decide +kernel
theorem dX7_drops_172 : decode cX7_drops 172 = .ok (.iadd, 1) := by decide +kernel
theorem dX7_drops_173 : decode cX7_drops 173 = .ok (.iload_n 3, 1) := by decide +kernel
theorem dX7_drops_174 : decode cX7_drops 174 = .ok (.invokestatic 165, 3) := by decide +kernel
theorem dX7_drops_177 : decode cX7_drops 177 = .ok (.laload, 1) := by decide +kernel
theorem dX7_drops_178 : decode cX7_drops 178 = .ok (.lastore, 1) := by decide +kernel
theorem dX7_drops_179 : decode cX7_drops 179 = .ok (.aload_n 0, 1) := by decide +kernel
theorem dX7_drops_180 : decode cX7_drops 180 = .ok (.getfield 26, 3) := by decide +kernel
theorem dX7_drops_183 : decode cX7_drops 183 = .ok (.iload_n 2, 1) := by decide +kernel
theorem dX7_drops_184 : decode cX7_drops 184 = .ok (.iload_n 3, 1) := by decide +kernel
theorem dX7_drops_185 : decode cX7_drops 185 = .ok (.invokestatic 165, 3) := by decide +kernel
theorem dX7_drops_188 : decode cX7_drops 188 = .ok (.aload_n 0, 1) := by decide +kernel
theorem dX7_drops_189 : decode cX7_drops 189 = .ok (.getfield 26, 3) := by decide +kernel
theorem dX7_drops_192 : decode cX7_drops 192 = .ok (.iload_n 2, 1) := by decide +kernel
theorem dX7_drops_193 : decode cX7_drops 193 = .ok (.iconst 1, 1) := by decide +kernel
theorem dX7_drops_194 : decode cX7_drops 194 = .ok (.iadd, 1) := by decide +kernel
theorem dX7_drops_195 : decode cX7_drops 195 = .ok (.iload_n 3, 1) := by decide +kernel
theorem dX7_drops_196 : decode cX7_drops 196 = .ok (.invokestatic 165, 3) := by decide +kernel
theorem dX7_drops_199 : decode cX7_drops 199 = .ok (.laload, 1) := by decide +kernel
theorem dX7_drops_200 : decode cX7_drops 200 = .ok (.lastore, 1) := by decide +kernel
theorem dX7_drops_201 : decode cX7_drops 201 = .ok (.iinc 3 1, 3) := by decide +kernel
theorem dX7_drops_204 : decode cX7_drops 204 = .ok (.goto (-97), 3) := by decide +kernel
theorem dX7_drops_207 : decode cX7_drops 207 = .ok (.iinc 2 1, 3) := by decide +kernel
theorem dX7_drops_210 : decode cX7_drops 210 = .ok (.goto (-183), 3) := by decide +kernel
theorem dX7_drops_213 : decode cX7_drops 213 = .ok (.aload_n 0, 1) := by decide +kernel
theorem dX7_drops_214 : decode cX7_drops 214 = .ok (.getfield 129, 3) := by decide +kernel
theorem dX7_drops_217 : decode cX7_drops 217 = .ok (.ireturn, 1) := by decide +kernel
theorem dX7_waiting_0 : decode cX7_waiting 0 = .ok (.aload_n 0, 1) := by decide +kernel
theorem dX7_waiting_1 : decode cX7_waiting 1 = .ok (.iconst 0, 1) := by decide +kernel
theorem dX7_waiting_2 : decode cX7_waiting 2 = .ok (.putfield 116, 3) := by decide +kernel
theorem dX7_waiting_5 : decode cX7_waiting 5 = .ok (.iload_n 1, 1) := by decide +kernel
theorem dX7_waiting_6 : decode cX7_waiting 6 = .ok (.i2l, 1) := by decide +kernel
theorem dX7_waiting_7 : decode cX7_waiting 7 = .ok (.lconst 1, 1) := by decide +kernel
theorem dX7_waiting_8 : decode cX7_waiting 8 = .ok (.ldc2_w 195, 3) := by decide +kernel
theorem dX7_waiting_11 : decode cX7_waiting 11 = .ok (.invokestatic 125, 3) := by decide +kernel
theorem dX7_waiting_14 : decode cX7_waiting 14 = .ok (.ifCond .ne 5, 3) := by decide +kernel
theorem dX7_waiting_17 : decode cX7_waiting 17 = .ok (.iconst (-1), 1) := by decide +kernel
theorem dX7_waiting_18 : decode cX7_waiting 18 = .ok (.ireturn, 1) := by decide +kernel
theorem dX7_waiting_19 : decode cX7_waiting 19 = .ok (.aload_n 0, 1) := by decide +kernel
theorem dX7_waiting_20 : decode cX7_waiting 20 = .ok (.getfield 39, 3) := by decide +kernel
theorem dX7_waiting_23 : decode cX7_waiting 23 = .ok (.istore_n 2, 1) := by decide +kernel
theorem dX7_waiting_24 : decode cX7_waiting 24 = .ok (.aload_n 0, 1) := by decide +kernel
theorem dX7_waiting_25 : decode cX7_waiting 25 = .ok (.iload_n 1, 1) := by decide +kernel
theorem dX7_waiting_26 : decode cX7_waiting 26 = .ok (.putfield 39, 3) := by decide +kernel
theorem dX7_waiting_29 : decode cX7_waiting 29 = .ok (.iload_n 2, 1) := by decide +kernel
theorem dX7_waiting_30 : decode cX7_waiting 30 = .ok (.ireturn, 1) := by decide +kernel
theorem dX7_goal_0 : decode cX7_goal 0 = .ok (.aload_n 0, 1) := by decide +kernel
theorem dX7_goal_1 : decode cX7_goal 1 = .ok (.iconst 0, 1) := by decide +kernel
theorem dX7_goal_2 : decode cX7_goal 2 = .ok (.putfield 116, 3) := by decide +kernel
theorem dX7_goal_5 : decode cX7_goal 5 = .ok (.iload_n 1, 1) := by decide +kernel
theorem dX7_goal_6 : decode cX7_goal 6 = .ok (.invokestatic 162, 3) := by decide +kernel
theorem dX7_goal_9 : decode cX7_goal 9 = .ok (.ifCond .ne 5, 3) := by decide +kernel
theorem dX7_goal_12 : decode cX7_goal 12 = .ok (.iconst (-1), 1) := by decide +kernel
theorem dX7_goal_13 : decode cX7_goal 13 = .ok (.ireturn, 1) := by decide +kernel
theorem dX7_goal_14 : decode cX7_goal 14 = .ok (.aload_n 0, 1) := by decide +kernel
theorem dX7_goal_15 : decode cX7_goal 15 = .ok (.getfield 197, 3) := by decide +kernel
theorem dX7_goal_18 : decode cX7_goal 18 = .ok (.istore_n 2, 1) := by decide +kernel
theorem dX7_goal_19 : decode cX7_goal 19 = .ok (.aload_n 0, 1) := by decide +kernel
theorem dX7_goal_20 : decode cX7_goal 20 = .ok (.iload_n 1, 1) := by decide +kernel
theorem dX7_goal_21 : decode cX7_goal 21 = .ok (.putfield 197, 3) := by decide +kernel
theorem dX7_goal_24 : decode cX7_goal 24 = .ok (.iload_n 2, 1) := by decide +kernel
theorem dX7_goal_25 : decode cX7_goal 25 = .ok (.ireturn, 1) := by decide +kernel
theorem dX7_riders_0 : decode cX7_riders 0 = .ok (.aload_n 0, 1) := by decide +kernel
theorem dX7_riders_1 : decode cX7_riders 1 = .ok (.iconst 0, 1) := by decide +kernel
theorem dX7_riders_2 : decode cX7_riders 2 = .ok (.putfield 116, 3) := by decide +kernel
theorem dX7_riders_5 : decode cX7_riders 5 = .ok (.iload_n 1, 1) := by decide +kernel
theorem dX7_riders_6 : decode cX7_riders 6 = .ok (.invokestatic 162, 3) := by decide +kernel
theorem dX7_riders_9 : decode cX7_riders 9 = .ok (.ifCond .eq 15, 3) := by decide +kernel
theorem dX7_riders_12 : decode cX7_riders 12 = .ok (.iload_n 2, 1) := by decide +kernel
theorem dX7_riders_13 : decode cX7_riders 13 = .ok (.i2l, 1) := by decide +kernel
theorem dX7_riders_14 : decode cX7_riders 14 = .ok (.lconst 0, 1) := by decide +kernel
theorem dX7_riders_15 : decode cX7_riders 15 = .ok (.ldc2_w 200, 3) := by decide +kernel
theorem dX7_riders_18 : decode cX7_riders 18 = .ok (.invokestatic 125, 3) := by decide +kernel
theorem dX7_riders_21 : decode cX7_riders 21 = .ok (.ifCond .ne 5, 3) := by decide +kernel
theorem dX7_riders_24 : decode cX7_riders 24 = .ok (.iconst (-1), 1) := by decide +kernel
theorem dX7_riders_25 : decode cX7_riders 25 = .ok (.ireturn, 1) := by decide +kernel
theorem dX7_riders_26 : decode cX7_riders 26 = .ok (.aload_n 0, 1) := by decide +kernel
theorem dX7_riders_27 : decode cX7_riders 27 = .ok (.getfield 43, 3) := by decide +kernel
theorem dX7_riders_30 : decode cX7_riders 30 = .ok (.iload_n 1, 1) := by decide +kernel
theorem dX7_riders_31 : decode cX7_riders 31 = .ok (.iaload, 1) := by decide +kernel
theorem dX7_riders_32 : decode cX7_riders 32 = .ok (.istore_n 3, 1) := by decide +kernel
theorem dX7_riders_33 : decode cX7_riders 33 = .ok (.aload_n 0, 1) := by decide +kernel
theorem dX7_riders_34 : decode cX7_riders 34 = .ok (.getfield 43, 3) := by decide +kernel
theorem dX7_riders_37 : decode cX7_riders 37 = .ok (.iload_n 1, 1) := by decide +kernel
theorem dX7_riders_38 : decode cX7_riders 38 = .ok (.iload_n 2, 1) := by decide +kernel
theorem dX7_riders_39 : decode cX7_riders 39 = .ok (.iastore, 1) := by decide +kernel
theorem dX7_riders_40 : decode cX7_riders 40 = .ok (.iload_n 3, 1) := by decide +kernel
theorem dX7_riders_41 : decode cX7_riders 41 = .ok (.ireturn, 1) := by decide +kernel
theorem dX7_outMany_0 : decode cX7_outMany 0 = .ok (.iconst 0, 1) := by decide +kernel
theorem dX7_outMany_1 : decode cX7_outMany 1 = .ok (.istore_n 1, 1) := by decide +kernel
theorem dX7_outMany_2 : decode cX7_outMany 2 = .ok (.iconst 0, 1) := by decide +kernel
theorem dX7_outMany_3 : decode cX7_outMany 3 = .ok (.istore_n 2, 1) := by decide +kernel
theorem dX7_outMany_4 : decode cX7_outMany 4 = .ok (.iload_n 2, 1) := by decide +kernel
theorem dX7_outMany_5 : decode cX7_outMany 5 = .ok (.aload_n 0, 1) := by decide +kernel
theorem dX7_outMany_6 : decode cX7_outMany 6 = .ok (.getfield 129, 3) := by decide +kernel
theorem dX7_outMany_9 : decode cX7_outMany 9 = .ok (.if_icmp .ge 26, 3) := by decide +kernel
theorem dX7_outMany_12 : decode cX7_outMany 12 = .ok (.iload_n 1, 1) := by decide +kernel
theorem dX7_outMany_13 : decode cX7_outMany 13 = .ok (.aload_n 0, 1) := by decide +kernel
theorem dX7_outMany_14 : decode cX7_outMany 14 = .ok (.getfield 35, 3) := by decide +kernel
theorem dX7_outMany_17 : decode cX7_outMany 17 = .ok (.iload_n 2, 1) := by decide +kernel
theorem dX7_outMany_18 : decode cX7_outMany 18 = .ok (.baload, 1) := by decide +kernel
theorem dX7_outMany_19 : decode cX7_outMany 19 = .ok (.ifCond .eq 7, 3) := by decide +kernel
theorem dX7_outMany_22 : decode cX7_outMany 22 = .ok (.iconst 1, 1) := by decide +kernel
theorem dX7_outMany_23 : decode cX7_outMany 23 = .ok (.goto 4, 3) := by decide +kernel
theorem dX7_outMany_26 : decode cX7_outMany 26 = .ok (.iconst 0, 1) := by decide +kernel
theorem dX7_outMany_27 : decode cX7_outMany 27 = .ok (.iadd, 1) := by decide +kernel
theorem dX7_outMany_28 : decode cX7_outMany 28 = .ok (.istore_n 1, 1) := by decide +kernel
theorem dX7_outMany_29 : decode cX7_outMany 29 = .ok (.iinc 2 1, 3) := by decide +kernel
theorem dX7_outMany_32 : decode cX7_outMany 32 = .ok (.goto (-28), 3) := by decide +kernel
theorem dX7_outMany_35 : decode cX7_outMany 35 = .ok (.iload_n 1, 1) := by decide +kernel
theorem dX7_outMany_36 : decode cX7_outMany 36 = .ok (.ireturn, 1) := by decide +kernel
theorem dX7_out_0 : decode cX7_out 0 = .ok (.aload_n 0, 1) := by decide +kernel
theorem dX7_out_1 : decode cX7_out 1 = .ok (.iconst 0, 1) := by decide +kernel
theorem dX7_out_2 : decode cX7_out 2 = .ok (.putfield 116, 3) := by decide +kernel
theorem dX7_out_5 : decode cX7_out 5 = .ok (.aload_n 0, 1) := by decide +kernel
theorem dX7_out_6 : decode cX7_out 6 = .ok (.iload_n 1, 1) := by decide +kernel
theorem dX7_out_7 : decode cX7_out 7 = .ok (.invokevirtual 134, 3) := by decide +kernel
theorem dX7_out_10 : decode cX7_out 10 = .ok (.ifCond .ne 5, 3) := by decide +kernel
theorem dX7_out_13 : decode cX7_out 13 = .ok (.iconst (-1), 1) := by decide +kernel
theorem dX7_out_14 : decode cX7_out 14 = .ok (.ireturn, 1) := by decide +kernel
theorem dX7_out_15 : decode cX7_out 15 = .ok (.aload_n 0, 1) := by decide +kernel
theorem dX7_out_16 : decode cX7_out 16 = .ok (.getfield 35, 3) := by decide +kernel
theorem dX7_out_19 : decode cX7_out 19 = .ok (.iload_n 1, 1) := by decide +kernel
theorem dX7_out_20 : decode cX7_out 20 = .ok (.baload, 1) := by decide +kernel
theorem dX7_out_21 : decode cX7_out 21 = .ok (.iload_n 2, 1) := by decide +kernel
theorem dX7_out_22 : decode cX7_out 22 = .ok (.if_icmp .ne 6, 3) := by decide +kernel
theorem dX7_out_25 : decode cX7_out 25 = .ok (.bipush (-2), 2) := by decide +kernel
theorem dX7_out_27 : decode cX7_out 27 = .ok (.ireturn, 1) := by decide +kernel
theorem dX7_out_28 : decode cX7_out 28 = .ok (.aload_n 0, 1) := by decide +kernel
theorem dX7_out_29 : decode cX7_out 29 = .ok (.getfield 35, 3) := by decide +kernel
theorem dX7_out_32 : decode cX7_out 32 = .ok (.iload_n 1, 1) := by decide +kernel
theorem dX7_out_33 : decode cX7_out 33 = .ok (.iload_n 2, 1) := by decide +kernel
theorem dX7_out_34 : decode cX7_out 34 = .ok (.bastore, 1) := by decide +kernel
theorem dX7_out_35 : decode cX7_out 35 = .ok (.aload_n 0, 1) := by decide +kernel
theorem dX7_out_36 : decode cX7_out 36 = .ok (.invokevirtual 202, 3) := by decide +kernel
theorem dX7_out_39 : decode cX7_out 39 = .ok (.ireturn, 1) := by decide +kernel
theorem dX7_closes_0 : decode cX7_closes 0 = .ok (.aload_n 0, 1) := by decide +kernel
theorem dX7_closes_1 : decode cX7_closes 1 = .ok (.iconst 0, 1) := by decide +kernel
theorem dX7_closes_2 : decode cX7_closes 2 = .ok (.putfield 116, 3) := by decide +kernel
theorem dX7_closes_5 : decode cX7_closes 5 = .ok (.iload_n 1, 1) := by decide +kernel
theorem dX7_closes_6 : decode cX7_closes 6 = .ok (.invokestatic 162, 3) := by decide +kernel
theorem dX7_closes_9 : decode cX7_closes 9 = .ok (.ifCond .ne 5, 3) := by decide +kernel
theorem dX7_closes_12 : decode cX7_closes 12 = .ok (.iconst (-1), 1) := by decide +kernel
theorem dX7_closes_13 : decode cX7_closes 13 = .ok (.ireturn, 1) := by decide +kernel
theorem dX7_closes_14 : decode cX7_closes 14 = .ok (.aload_n 0, 1) := by decide +kernel
theorem dX7_closes_15 : decode cX7_closes 15 = .ok (.getfield 46, 3) := by decide +kernel
theorem dX7_closes_18 : decode cX7_closes 18 = .ok (.iload_n 1, 1) := by decide +kernel
theorem dX7_closes_19 : decode cX7_closes 19 = .ok (.baload, 1) := by decide +kernel
theorem dX7_closes_20 : decode cX7_closes 20 = .ok (.iload_n 2, 1) := by decide +kernel
theorem dX7_closes_21 : decode cX7_closes 21 = .ok (.if_icmp .ne 6, 3) := by decide +kernel
theorem dX7_closes_24 : decode cX7_closes 24 = .ok (.bipush (-2), 2) := by decide +kernel
theorem dX7_closes_26 : decode cX7_closes 26 = .ok (.ireturn, 1) := by decide +kernel
theorem dX7_closes_27 : decode cX7_closes 27 = .ok (.aload_n 0, 1) := by decide +kernel
theorem dX7_closes_28 : decode cX7_closes 28 = .ok (.getfield 46, 3) := by decide +kernel
theorem dX7_closes_31 : decode cX7_closes 31 = .ok (.iload_n 1, 1) := by decide +kernel
theorem dX7_closes_32 : decode cX7_closes 32 = .ok (.iload_n 2, 1) := by decide +kernel
theorem dX7_closes_33 : decode cX7_closes 33 = .ok (.bastore, 1) := by decide +kernel
theorem dX7_closes_34 : decode cX7_closes 34 = .ok (.iconst 0, 1) := by decide +kernel
theorem dX7_closes_35 : decode cX7_closes 35 = .ok (.istore_n 3, 1) := by decide +kernel
theorem dX7_closes_36 : decode cX7_closes 36 = .ok (.iconst 0, 1) := by decide +kernel
theorem dX7_closes_37 : decode cX7_closes 37 = .ok (.istore 4, 2) := by decide +kernel
theorem dX7_closes_39 : decode cX7_closes 39 = .ok (.iload 4, 2) := by decide +kernel
theorem dX7_closes_41 : decode cX7_closes 41 = .ok (.bipush 10, 2) := by decide +kernel
theorem dX7_closes_43 : decode cX7_closes 43 = .ok (.if_icmp .ge 27, 3) := by decide +kernel
theorem dX7_closes_46 : decode cX7_closes 46 = .ok (.iload_n 3, 1) := by decide +kernel
theorem dX7_closes_47 : decode cX7_closes 47 = .ok (.aload_n 0, 1) := by decide +kernel
theorem dX7_closes_48 : decode cX7_closes 48 = .ok (.getfield 46, 3) := by decide +kernel
theorem dX7_closes_51 : decode cX7_closes 51 = .ok (.iload 4, 2) := by decide +kernel
theorem dX7_closes_53 : decode cX7_closes 53 = .ok (.baload, 1) := by decide +kernel
theorem dX7_closes_54 : decode cX7_closes 54 = .ok (.ifCond .eq 7, 3) := by decide +kernel
theorem dX7_closes_57 : decode cX7_closes 57 = .ok (.iconst 1, 1) := by decide +kernel
theorem dX7_closes_58 : decode cX7_closes 58 = .ok (.goto 4, 3) := by decide +kernel
theorem dX7_closes_61 : decode cX7_closes 61 = .ok (.iconst 0, 1) := by decide +kernel
theorem dX7_closes_62 : decode cX7_closes 62 = .ok (.iadd, 1) := by decide +kernel
theorem dX7_closes_63 : decode cX7_closes 63 = .ok (.istore_n 3, 1) := by decide +kernel
theorem dX7_closes_64 : decode cX7_closes 64 = .ok (.iinc 4 1, 3) := by decide +kernel
theorem dX7_closes_67 : decode cX7_closes 67 = .ok (.goto (-28), 3) := by decide +kernel
theorem dX7_closes_70 : decode cX7_closes 70 = .ok (.iload_n 3, 1) := by decide +kernel
theorem dX7_closes_71 : decode cX7_closes 71 = .ok (.ireturn, 1) := by decide +kernel
theorem dX7_often_0 : decode cX7_often 0 = .ok (.aload_n 0, 1) := by decide +kernel
theorem dX7_often_1 : decode cX7_often 1 = .ok (.iconst 0, 1) := by decide +kernel
theorem dX7_often_2 : decode cX7_often 2 = .ok (.putfield 116, 3) := by decide +kernel
theorem dX7_often_5 : decode cX7_often 5 = .ok (.aload_n 0, 1) := by decide +kernel
theorem dX7_often_6 : decode cX7_often 6 = .ok (.iload_n 1, 1) := by decide +kernel
theorem dX7_often_7 : decode cX7_often 7 = .ok (.invokevirtual 134, 3) := by decide +kernel
theorem dX7_often_10 : decode cX7_often 10 = .ok (.ifCond .eq 15, 3) := by decide +kernel
theorem dX7_often_13 : decode cX7_often 13 = .ok (.iload_n 2, 1) := by decide +kernel
theorem dX7_often_14 : decode cX7_often 14 = .ok (.i2l, 1) := by decide +kernel
theorem dX7_often_15 : decode cX7_often 15 = .ok (.lconst 1, 1) := by decide +kernel
theorem dX7_often_16 : decode cX7_often 16 = .ok (.ldc2_w 205, 3) := by decide +kernel
theorem dX7_often_19 : decode cX7_often 19 = .ok (.invokestatic 125, 3) := by decide +kernel
theorem dX7_often_22 : decode cX7_often 22 = .ok (.ifCond .ne 5, 3) := by decide +kernel
theorem dX7_often_25 : decode cX7_often 25 = .ok (.iconst (-1), 1) := by decide +kernel
theorem dX7_often_26 : decode cX7_often 26 = .ok (.ireturn, 1) := by decide +kernel
theorem dX7_often_27 : decode cX7_often 27 = .ok (.aload_n 0, 1) := by decide +kernel
theorem dX7_often_28 : decode cX7_often 28 = .ok (.getfield 9, 3) := by decide +kernel
theorem dX7_often_31 : decode cX7_often 31 = .ok (.iload_n 1, 1) := by decide +kernel
theorem dX7_often_32 : decode cX7_often 32 = .ok (.iaload, 1) := by decide +kernel
theorem dX7_often_33 : decode cX7_often 33 = .ok (.istore_n 3, 1) := by decide +kernel
theorem dX7_often_34 : decode cX7_often 34 = .ok (.aload_n 0, 1) := by decide +kernel
theorem dX7_often_35 : decode cX7_often 35 = .ok (.getfield 9, 3) := by decide +kernel
theorem dX7_often_38 : decode cX7_often 38 = .ok (.iload_n 1, 1) := by decide +kernel
theorem dX7_often_39 : decode cX7_often 39 = .ok (.iload_n 2, 1) := by decide +kernel
theorem dX7_often_40 : decode cX7_often 40 = .ok (.iastore, 1) := by decide +kernel
theorem dX7_often_41 : decode cX7_often 41 = .ok (.iload_n 3, 1) := by decide +kernel
theorem dX7_often_42 : decode cX7_often 42 = .ok (.ireturn, 1) := by decide +kernel
theorem dX7_line_0 : decode cX7_line 0 = .ok (.aload_n 0, 1) := by decide +kernel
theorem dX7_line_1 : decode cX7_line 1 = .ok (.iconst 0, 1) := by decide +kernel
theorem dX7_line_2 : decode cX7_line 2 = .ok (.putfield 116, 3) := by decide +kernel
theorem dX7_line_5 : decode cX7_line 5 = .ok (.aload_n 0, 1) := by decide +kernel
theorem dX7_line_6 : decode cX7_line 6 = .ok (.iload_n 1, 1) := by decide +kernel
theorem dX7_line_7 : decode cX7_line 7 = .ok (.invokevirtual 134, 3) := by decide +kernel
theorem dX7_line_10 : decode cX7_line 10 = .ok (.ifCond .ne 5, 3) := by decide +kernel
theorem dX7_line_13 : decode cX7_line 13 = .ok (.iconst (-1), 1) := by decide +kernel
theorem dX7_line_14 : decode cX7_line 14 = .ok (.ireturn, 1) := by decide +kernel
theorem dX7_line_15 : decode cX7_line 15 = .ok (.iload_n 2, 1) := by decide +kernel
theorem dX7_line_16 : decode cX7_line 16 = .ok (.tableswitch 79 0 4 #[36, 43, 50, 57, 64], 36) := by decide +kernel
theorem dX7_line_52 : decode cX7_line 52 = .ok (.aload_n 0, 1) := by decide +kernel
theorem dX7_line_53 : decode cX7_line 53 = .ok (.getfield 9, 3) := by decide +kernel
theorem dX7_line_56 : decode cX7_line 56 = .ok (.iload_n 1, 1) := by decide +kernel
theorem dX7_line_57 : decode cX7_line 57 = .ok (.iaload, 1) := by decide +kernel
theorem dX7_line_58 : decode cX7_line 58 = .ok (.ireturn, 1) := by decide +kernel
theorem dX7_line_59 : decode cX7_line 59 = .ok (.aload_n 0, 1) := by decide +kernel
theorem dX7_line_60 : decode cX7_line 60 = .ok (.getfield 13, 3) := by decide +kernel
theorem dX7_line_63 : decode cX7_line 63 = .ok (.iload_n 1, 1) := by decide +kernel
theorem dX7_line_64 : decode cX7_line 64 = .ok (.iaload, 1) := by decide +kernel
theorem dX7_line_65 : decode cX7_line 65 = .ok (.ireturn, 1) := by decide +kernel
theorem dX7_line_66 : decode cX7_line 66 = .ok (.aload_n 0, 1) := by decide +kernel
theorem dX7_line_67 : decode cX7_line 67 = .ok (.getfield 29, 3) := by decide +kernel
theorem dX7_line_70 : decode cX7_line 70 = .ok (.iload_n 1, 1) := by decide +kernel
theorem dX7_line_71 : decode cX7_line 71 = .ok (.iaload, 1) := by decide +kernel
theorem dX7_line_72 : decode cX7_line 72 = .ok (.ireturn, 1) := by decide +kernel
theorem dX7_line_73 : decode cX7_line 73 = .ok (.aload_n 0, 1) := by decide +kernel
theorem dX7_line_74 : decode cX7_line 74 = .ok (.getfield 32, 3) := by decide +kernel
theorem dX7_line_77 : decode cX7_line 77 = .ok (.iload_n 1, 1) := by decide +kernel
theorem dX7_line_78 : decode cX7_line 78 = .ok (.iaload, 1) := by decide +kernel
theorem dX7_line_79 : decode cX7_line 79 = .ok (.ireturn, 1) := by decide +kernel
theorem dX7_line_80 : decode cX7_line 80 = .ok (.aload_n 0, 1) := by decide +kernel
theorem dX7_line_81 : decode cX7_line 81 = .ok (.getfield 35, 3) := by decide +kernel
theorem dX7_line_84 : decode cX7_line 84 = .ok (.iload_n 1, 1) := by decide +kernel
theorem dX7_line_85 : decode cX7_line 85 = .ok (.baload, 1) := by decide +kernel
theorem dX7_line_86 : decode cX7_line 86 = .ok (.ifCond .eq 7, 3) := by decide +kernel
theorem dX7_line_89 : decode cX7_line 89 = .ok (.iconst 1, 1) := by decide +kernel
theorem dX7_line_90 : decode cX7_line 90 = .ok (.goto 4, 3) := by decide +kernel
theorem dX7_line_93 : decode cX7_line 93 = .ok (.iconst 0, 1) := by decide +kernel
theorem dX7_line_94 : decode cX7_line 94 = .ok (.ireturn, 1) := by decide +kernel
theorem dX7_line_95 : decode cX7_line 95 = .ok (.iconst (-1), 1) := by decide +kernel
theorem dX7_line_96 : decode cX7_line 96 = .ok (.ireturn, 1) := by decide +kernel
theorem dX7_stop_0 : decode cX7_stop 0 = .ok (.aload_n 0, 1) := by decide +kernel
theorem dX7_stop_1 : decode cX7_stop 1 = .ok (.iconst 0, 1) := by decide +kernel
theorem dX7_stop_2 : decode cX7_stop 2 = .ok (.putfield 116, 3) := by decide +kernel
theorem dX7_stop_5 : decode cX7_stop 5 = .ok (.aload_n 0, 1) := by decide +kernel
theorem dX7_stop_6 : decode cX7_stop 6 = .ok (.iload_n 1, 1) := by decide +kernel
theorem dX7_stop_7 : decode cX7_stop 7 = .ok (.iload_n 2, 1) := by decide +kernel
theorem dX7_stop_8 : decode cX7_stop 8 = .ok (.invokevirtual 207, 3) := by decide +kernel
theorem dX7_stop_11 : decode cX7_stop 11 = .ok (.ifCond .ne 5, 3) := by decide +kernel
theorem dX7_stop_14 : decode cX7_stop 14 = .ok (.iconst (-1), 1) := by decide +kernel
theorem dX7_stop_15 : decode cX7_stop 15 = .ok (.ireturn, 1) := by decide +kernel
theorem dX7_stop_16 : decode cX7_stop 16 = .ok (.aload_n 0, 1) := by decide +kernel
theorem dX7_stop_17 : decode cX7_stop 17 = .ok (.iconst 0, 1) := by decide +kernel
theorem dX7_stop_18 : decode cX7_stop 18 = .ok (.putfield 119, 3) := by decide +kernel
theorem dX7_stop_21 : decode cX7_stop 21 = .ok (.iload_n 2, 1) := by decide +kernel
theorem dX7_stop_22 : decode cX7_stop 22 = .ok (.aload_n 0, 1) := by decide +kernel
theorem dX7_stop_23 : decode cX7_stop 23 = .ok (.getfield 13, 3) := by decide +kernel
theorem dX7_stop_26 : decode cX7_stop 26 = .ok (.iload_n 1, 1) := by decide +kernel
theorem dX7_stop_27 : decode cX7_stop 27 = .ok (.iaload, 1) := by decide +kernel
theorem dX7_stop_28 : decode cX7_stop 28 = .ok (.iconst 1, 1) := by decide +kernel
theorem dX7_stop_29 : decode cX7_stop 29 = .ok (.isub, 1) := by decide +kernel
theorem dX7_stop_30 : decode cX7_stop 30 = .ok (.if_icmp .ge 32, 3) := by decide +kernel
theorem dX7_stop_33 : decode cX7_stop 33 = .ok (.aload_n 0, 1) := by decide +kernel
theorem dX7_stop_34 : decode cX7_stop 34 = .ok (.aload_n 0, 1) := by decide +kernel
theorem dX7_stop_35 : decode cX7_stop 35 = .ok (.getfield 19, 3) := by decide +kernel
theorem dX7_stop_38 : decode cX7_stop 38 = .ok (.iload_n 1, 1) := by decide +kernel
theorem dX7_stop_39 : decode cX7_stop 39 = .ok (.iload_n 2, 1) := by decide +kernel
theorem dX7_stop_40 : decode cX7_stop 40 = .ok (.invokestatic 165, 3) := by decide +kernel
theorem dX7_stop_43 : decode cX7_stop 43 = .ok (.iaload, 1) := by decide +kernel
theorem dX7_stop_44 : decode cX7_stop 44 = .ok (.i2l, 1) := by decide +kernel
theorem dX7_stop_45 : decode cX7_stop 45 = .ok (.invokevirtual 211, 3) := by decide +kernel
theorem dX7_stop_48 : decode cX7_stop 48 = .ok (.aload_n 0, 1) := by decide +kernel
theorem dX7_stop_49 : decode cX7_stop 49 = .ok (.aload_n 0, 1) := by decide +kernel
theorem dX7_stop_50 : decode cX7_stop 50 = .ok (.getfield 22, 3) := by decide +kernel
theorem dX7_stop_53 : decode cX7_stop 53 = .ok (.iload_n 1, 1) := by decide +kernel
theorem dX7_stop_54 : decode cX7_stop 54 = .ok (.iload_n 2, 1) := by decide +kernel
theorem dX7_stop_55 : decode cX7_stop 55 = .ok (.invokestatic 165, 3) := by decide +kernel
theorem dX7_stop_58 : decode cX7_stop 58 = .ok (.laload, 1) := by decide +kernel
theorem dX7_stop_59 : decode cX7_stop 59 = .ok (.invokevirtual 211, 3) := by decide +kernel
theorem dX7_stop_62 : decode cX7_stop 62 = .ok (.aload_n 0, 1) := by decide +kernel
theorem dX7_stop_63 : decode cX7_stop 63 = .ok (.getfield 16, 3) := by decide +kernel
theorem dX7_stop_66 : decode cX7_stop 66 = .ok (.iload_n 1, 1) := by decide +kernel
theorem dX7_stop_67 : decode cX7_stop 67 = .ok (.iload_n 2, 1) := by decide +kernel
theorem dX7_stop_68 : decode cX7_stop 68 = .ok (.invokestatic 165, 3) := by decide +kernel
theorem dX7_stop_71 : decode cX7_stop 71 = .ok (.iaload, 1) := by decide +kernel
theorem dX7_stop_72 : decode cX7_stop 72 = .ok (.ireturn, 1) := by decide +kernel
theorem dX7_time_0 : decode cX7_time 0 = .ok (.ldc2_w 195, 3) := by decide +kernel
theorem dX7_time_3 : decode cX7_time 3 = .ok (.aload_n 0, 1) := by decide +kernel
theorem dX7_time_4 : decode cX7_time 4 = .ok (.getfield 19, 3) := by decide +kernel
theorem dX7_time_7 : decode cX7_time 7 = .ok (.iload_n 1, 1) := by decide +kernel
theorem dX7_time_8 : decode cX7_time 8 = .ok (.iload_n 2, 1) := by decide +kernel
theorem dX7_time_9 : decode cX7_time 9 = .ok (.invokestatic 165, 3) := by decide +kernel
theorem dX7_time_12 : decode cX7_time 12 = .ok (.iaload, 1) := by decide +kernel
theorem dX7_time_13 : decode cX7_time 13 = .ok (.i2l, 1) := by decide +kernel
theorem dX7_time_14 : decode cX7_time 14 = .ok (.lmul, 1) := by decide +kernel
theorem dX7_time_15 : decode cX7_time 15 = .ok (.aload_n 0, 1) := by decide +kernel
theorem dX7_time_16 : decode cX7_time 16 = .ok (.getfield 22, 3) := by decide +kernel
theorem dX7_time_19 : decode cX7_time 19 = .ok (.iload_n 1, 1) := by decide +kernel
theorem dX7_time_20 : decode cX7_time 20 = .ok (.iload_n 2, 1) := by decide +kernel
theorem dX7_time_21 : decode cX7_time 21 = .ok (.invokestatic 165, 3) := by decide +kernel
theorem dX7_time_24 : decode cX7_time 24 = .ok (.laload, 1) := by decide +kernel
theorem dX7_time_25 : decode cX7_time 25 = .ok (.ladd, 1) := by decide +kernel
theorem dX7_time_26 : decode cX7_time 26 = .ok (.lreturn, 1) := by decide +kernel
theorem dX7_boardingAt_0 : decode cX7_boardingAt 0 = .ok (.aload_n 0, 1) := by decide +kernel
theorem dX7_boardingAt_1 : decode cX7_boardingAt 1 = .ok (.getfield 74, 3) := by decide +kernel
theorem dX7_boardingAt_4 : decode cX7_boardingAt 4 = .ok (.iload_n 1, 1) := by decide +kernel
theorem dX7_boardingAt_5 : decode cX7_boardingAt 5 = .ok (.iload_n 2, 1) := by decide +kernel
theorem dX7_boardingAt_6 : decode cX7_boardingAt 6 = .ok (.iconst 1, 1) := by decide +kernel
theorem dX7_boardingAt_7 : decode cX7_boardingAt 7 = .ok (.iadd, 1) := by decide +kernel
theorem dX7_boardingAt_8 : decode cX7_boardingAt 8 = .ok (.invokestatic 165, 3) := by decide +kernel
theorem dX7_boardingAt_11 : decode cX7_boardingAt 11 = .ok (.laload, 1) := by decide +kernel
theorem dX7_boardingAt_12 : decode cX7_boardingAt 12 = .ok (.lstore_n 3, 1) := by decide +kernel
theorem dX7_boardingAt_13 : decode cX7_boardingAt 13 = .ok (.lload_n 3, 1) := by decide +kernel
theorem dX7_boardingAt_14 : decode cX7_boardingAt 14 = .ok (.lconst 0, 1) := by decide +kernel
theorem dX7_boardingAt_15 : decode cX7_boardingAt 15 = .ok (.lcmp, 1) := by decide +kernel
theorem dX7_boardingAt_16 : decode cX7_boardingAt 16 = .ok (.ifCond .ge 9, 3) := by decide +kernel
theorem dX7_boardingAt_19 : decode cX7_boardingAt 19 = .ok (.ldc2_w 215, 3) := by decide +kernel
theorem dX7_boardingAt_22 : decode cX7_boardingAt 22 = .ok (.goto 11, 3) := by decide +kernel
theorem dX7_boardingAt_25 : decode cX7_boardingAt 25 = .ok (.aload_n 0, 1) := by decide +kernel
theorem dX7_boardingAt_26 : decode cX7_boardingAt 26 = .ok (.iload_n 1, 1) := by decide +kernel
theorem dX7_boardingAt_27 : decode cX7_boardingAt 27 = .ok (.iload_n 2, 1) := by decide +kernel
theorem dX7_boardingAt_28 : decode cX7_boardingAt 28 = .ok (.invokevirtual 217, 3) := by decide +kernel
theorem dX7_boardingAt_31 : decode cX7_boardingAt 31 = .ok (.lload_n 3, 1) := by decide +kernel
theorem dX7_boardingAt_32 : decode cX7_boardingAt 32 = .ok (.ladd, 1) := by decide +kernel
theorem dX7_boardingAt_33 : decode cX7_boardingAt 33 = .ok (.lreturn, 1) := by decide +kernel
theorem dX7_laysAboard_0 : decode cX7_laysAboard 0 = .ok (.iconst 0, 1) := by decide +kernel
theorem dX7_laysAboard_1 : decode cX7_laysAboard 1 = .ok (.istore_n 1, 1) := by decide +kernel
theorem dX7_laysAboard_2 : decode cX7_laysAboard 2 = .ok (.iload_n 1, 1) := by decide +kernel
theorem dX7_laysAboard_3 : decode cX7_laysAboard 3 = .ok (.aload_n 0, 1) := by decide +kernel
theorem dX7_laysAboard_4 : decode cX7_laysAboard 4 = .ok (.getfield 129, 3) := by decide +kernel
theorem dX7_laysAboard_7 : decode cX7_laysAboard 7 = .ok (.if_icmp .ge 167, 3) := by decide +kernel
theorem dX7_laysAboard_10 : decode cX7_laysAboard 10 = .ok (.aload_n 0, 1) := by decide +kernel
theorem dX7_laysAboard_11 : decode cX7_laysAboard 11 = .ok (.getfield 13, 3) := by decide +kernel
theorem dX7_laysAboard_14 : decode cX7_laysAboard 14 = .ok (.iload_n 1, 1) := by decide +kernel
theorem dX7_laysAboard_15 : decode cX7_laysAboard 15 = .ok (.iaload, 1) := by decide +kernel
theorem dX7_laysAboard_16 : decode cX7_laysAboard 16 = .ok (.iconst 1, 1) := by decide +kernel
theorem dX7_laysAboard_17 : decode cX7_laysAboard 17 = .ok (.isub, 1) := by decide +kernel
theorem dX7_laysAboard_18 : decode cX7_laysAboard 18 = .ok (.istore_n 2, 1) := by decide +kernel
theorem dX7_laysAboard_19 : decode cX7_laysAboard 19 = .ok (.iload_n 2, 1) := by decide +kernel
theorem dX7_laysAboard_20 : decode cX7_laysAboard 20 = .ok (.ifCond .lt 148, 3) := by decide +kernel
theorem dX7_laysAboard_23 : decode cX7_laysAboard 23 = .ok (.aload_n 0, 1) := by decide +kernel
theorem dX7_laysAboard_24 : decode cX7_laysAboard 24 = .ok (.getfield 16, 3) := by decide +kernel
theorem dX7_laysAboard_27 : decode cX7_laysAboard 27 = .ok (.iload_n 1, 1) := by decide +kernel
theorem dX7_laysAboard_28 : decode cX7_laysAboard 28 = .ok (.iload_n 2, 1) := by decide +kernel
theorem dX7_laysAboard_29 : decode cX7_laysAboard 29 = .ok (.invokestatic 165, 3) := by decide +kernel
theorem dX7_laysAboard_32 : decode cX7_laysAboard 32 = .ok (.iaload, 1) := by decide +kernel
theorem dX7_laysAboard_33 : decode cX7_laysAboard 33 = .ok (.istore_n 3, 1) := by decide +kernel
theorem dX7_laysAboard_34 : decode cX7_laysAboard 34 = .ok (.aload_n 0, 1) := by decide +kernel
theorem dX7_laysAboard_35 : decode cX7_laysAboard 35 = .ok (.getfield 46, 3) := by decide +kernel
theorem dX7_laysAboard_38 : decode cX7_laysAboard 38 = .ok (.iload_n 3, 1) := by decide +kernel
theorem dX7_laysAboard_39 : decode cX7_laysAboard 39 = .ok (.baload, 1) := by decide +kernel
theorem dX7_laysAboard_40 : decode cX7_laysAboard 40 = .ok (.ifCond .ne 15, 3) := by decide +kernel
theorem dX7_laysAboard_43 : decode cX7_laysAboard 43 = .ok (.iload_n 1, 1) := by decide +kernel
theorem dX7_laysAboard_44 : decode cX7_laysAboard 44 = .ok (.iload_n 2, 1) := by decide +kernel
theorem dX7_laysAboard_45 : decode cX7_laysAboard 45 = .ok (.invokestatic 165, 3) := by decide +kernel
theorem dX7_laysAboard_48 : decode cX7_laysAboard 48 = .ok (.aload_n 0, 1) := by decide +kernel
theorem dX7_laysAboard_49 : decode cX7_laysAboard 49 = .ok (.getfield 89, 3) := by decide +kernel
theorem dX7_laysAboard_52 : decode cX7_laysAboard 52 = .ok (.if_icmp .ne 9, 3) := by decide +kernel
theorem dX7_laysAboard_55 : decode cX7_laysAboard 55 = .ok (.ldc2_w 215, 3) := by decide +kernel
theorem dX7_laysAboard_58 : decode cX7_laysAboard 58 = .ok (.goto 9, 3) := by decide +kernel
theorem dX7_laysAboard_61 : decode cX7_laysAboard 61 = .ok (.aload_n 0, 1) := by decide +kernel
theorem dX7_laysAboard_62 : decode cX7_laysAboard 62 = .ok (.getfield 71, 3) := by decide +kernel
theorem dX7_laysAboard_65 : decode cX7_laysAboard 65 = .ok (.iload_n 3, 1) := by decide +kernel
theorem dX7_laysAboard_66 : decode cX7_laysAboard 66 = .ok (.laload, 1) := by decide +kernel
theorem dX7_laysAboard_67 : decode cX7_laysAboard 67 = .ok (.lstore 4, 2) := by decide +kernel
theorem dX7_laysAboard_69 : decode cX7_laysAboard 69 = .ok (.iload_n 2, 1) := by decide +kernel
theorem dX7_laysAboard_70 : decode cX7_laysAboard 70 = .ok (.aload_n 0, 1) := by decide +kernel
theorem dX7_laysAboard_71 : decode cX7_laysAboard 71 = .ok (.getfield 13, 3) := by decide +kernel
theorem dX7_laysAboard_74 : decode cX7_laysAboard 74 = .ok (.iload_n 1, 1) := by decide +kernel
theorem dX7_laysAboard_75 : decode cX7_laysAboard 75 = .ok (.iaload, 1) := by decide +kernel
theorem dX7_laysAboard_76 : decode cX7_laysAboard 76 = .ok (.iconst 1, 1) := by decide +kernel
theorem dX7_laysAboard_77 : decode cX7_laysAboard 77 = .ok (.isub, 1) := by decide +kernel
theorem dX7_laysAboard_78 : decode cX7_laysAboard 78 = .ok (.if_icmp .ge 12, 3) := by decide +kernel
theorem dX7_laysAboard_81 : decode cX7_laysAboard 81 = .ok (.aload_n 0, 1) := by decide +kernel
theorem dX7_laysAboard_82 : decode cX7_laysAboard 82 = .ok (.iload_n 1, 1) := by decide +kernel
theorem dX7_laysAboard_83 : decode cX7_laysAboard 83 = .ok (.iload_n 2, 1) := by decide +kernel
theorem dX7_laysAboard_84 : decode cX7_laysAboard 84 = .ok (.invokevirtual 221, 3) := by decide +kernel
theorem dX7_laysAboard_87 : decode cX7_laysAboard 87 = .ok (.goto 6, 3) := by decide +kernel
theorem dX7_laysAboard_90 : decode cX7_laysAboard 90 = .ok (.ldc2_w 215, 3) := by decide +kernel
theorem dX7_laysAboard_93 : decode cX7_laysAboard 93 = .ok (.lstore 6, 2) := by decide +kernel
theorem dX7_laysAboard_95 : decode cX7_laysAboard 95 = .ok (.aload_n 0, 1) := by decide +kernel
theorem dX7_laysAboard_96 : decode cX7_laysAboard 96 = .ok (.getfield 77, 3) := by decide +kernel
theorem dX7_laysAboard_99 : decode cX7_laysAboard 99 = .ok (.iload_n 1, 1) := by decide +kernel
theorem dX7_laysAboard_100 : decode cX7_laysAboard 100 = .ok (.iload_n 2, 1) := by decide +kernel
theorem dX7_laysAboard_101 : decode cX7_laysAboard 101 = .ok (.invokestatic 165, 3) := by decide +kernel
theorem dX7_laysAboard_104 : decode cX7_laysAboard 104 = .ok (.lload 4, 2) := by decide +kernel
theorem dX7_laysAboard_106 : decode cX7_laysAboard 106 = .ok (.lconst 0, 1) := by decide +kernel
theorem dX7_laysAboard_107 : decode cX7_laysAboard 107 = .ok (.lcmp, 1) := by decide +kernel
theorem dX7_laysAboard_108 : decode cX7_laysAboard 108 = .ok (.ifCond .lt 22, 3) := by decide +kernel
theorem dX7_laysAboard_111 : decode cX7_laysAboard 111 = .ok (.lload 6, 2) := by decide +kernel
theorem dX7_laysAboard_113 : decode cX7_laysAboard 113 = .ok (.lconst 0, 1) := by decide +kernel
theorem dX7_laysAboard_114 : decode cX7_laysAboard 114 = .ok (.lcmp, 1) := by decide +kernel
theorem dX7_laysAboard_115 : decode cX7_laysAboard 115 = .ok (.ifCond .lt 11, 3) := by decide +kernel
theorem dX7_laysAboard_118 : decode cX7_laysAboard 118 = .ok (.lload 4, 2) := by decide +kernel
theorem dX7_laysAboard_120 : decode cX7_laysAboard 120 = .ok (.lload 6, 2) := by decide +kernel
theorem dX7_laysAboard_122 : decode cX7_laysAboard 122 = .ok (.lcmp, 1) := by decide +kernel
theorem dX7_laysAboard_123 : decode cX7_laysAboard 123 = .ok (.ifCond .gt 7, 3) := by decide +kernel
theorem dX7_laysAboard_126 : decode cX7_laysAboard 126 = .ok (.iconst 1, 1) := by decide +kernel
theorem dX7_laysAboard_127 : decode cX7_laysAboard 127 = .ok (.goto 4, 3) := by decide +kernel
theorem dX7_laysAboard_130 : decode cX7_laysAboard 130 = .ok (.iconst 0, 1) := by decide +kernel
theorem dX7_laysAboard_131 : decode cX7_laysAboard 131 = .ok (.bastore, 1) := by decide +kernel
theorem dX7_laysAboard_132 : decode cX7_laysAboard 132 = .ok (.aload_n 0, 1) := by decide +kernel
theorem dX7_laysAboard_133 : decode cX7_laysAboard 133 = .ok (.getfield 74, 3) := by decide +kernel
theorem dX7_laysAboard_136 : decode cX7_laysAboard 136 = .ok (.iload_n 1, 1) := by decide +kernel
theorem dX7_laysAboard_137 : decode cX7_laysAboard 137 = .ok (.iload_n 2, 1) := by decide +kernel
theorem dX7_laysAboard_138 : decode cX7_laysAboard 138 = .ok (.invokestatic 165, 3) := by decide +kernel
theorem dX7_laysAboard_141 : decode cX7_laysAboard 141 = .ok (.aload_n 0, 1) := by decide +kernel
theorem dX7_laysAboard_142 : decode cX7_laysAboard 142 = .ok (.getfield 77, 3) := by decide +kernel
theorem dX7_laysAboard_145 : decode cX7_laysAboard 145 = .ok (.iload_n 1, 1) := by decide +kernel
theorem dX7_laysAboard_146 : decode cX7_laysAboard 146 = .ok (.iload_n 2, 1) := by decide +kernel
theorem dX7_laysAboard_147 : decode cX7_laysAboard 147 = .ok (.invokestatic 165, 3) := by decide +kernel
theorem dX7_laysAboard_150 : decode cX7_laysAboard 150 = .ok (.baload, 1) := by decide +kernel
theorem dX7_laysAboard_151 : decode cX7_laysAboard 151 = .ok (.ifCond .eq 8, 3) := by decide +kernel
theorem dX7_laysAboard_154 : decode cX7_laysAboard 154 = .ok (.lload 4, 2) := by decide +kernel
theorem dX7_laysAboard_156 : decode cX7_laysAboard 156 = .ok (.goto 5, 3) := by decide +kernel
theorem dX7_laysAboard_159 : decode cX7_laysAboard 159 = .ok (.lload 6, 2) := by decide +kernel
theorem dX7_laysAboard_161 : decode cX7_laysAboard 161 = .ok (.lastore, 1) := by decide +kernel
theorem dX7_laysAboard_162 : decode cX7_laysAboard 162 = .ok (.iinc 2 (-1), 3) := by decide +kernel
theorem dX7_laysAboard_165 : decode cX7_laysAboard 165 = .ok (.goto (-146), 3) := by decide +kernel
theorem dX7_laysAboard_168 : decode cX7_laysAboard 168 = .ok (.iinc 1 1, 3) := by decide +kernel
theorem dX7_laysAboard_171 : decode cX7_laysAboard 171 = .ok (.goto (-169), 3) := by decide +kernel
theorem dX7_laysAboard_174 : decode cX7_laysAboard 174 = .ok (.return_, 1) := by decide +kernel
theorem dX7_placeOf_0 : decode cX7_placeOf 0 = .ok (.iconst 0, 1) := by decide +kernel
theorem dX7_placeOf_1 : decode cX7_placeOf 1 = .ok (.istore_n 3, 1) := by decide +kernel
theorem dX7_placeOf_2 : decode cX7_placeOf 2 = .ok (.iload_n 3, 1) := by decide +kernel
theorem dX7_placeOf_3 : decode cX7_placeOf 3 = .ok (.aload_n 0, 1) := by decide +kernel
theorem dX7_placeOf_4 : decode cX7_placeOf 4 = .ok (.getfield 13, 3) := by decide +kernel
theorem dX7_placeOf_7 : decode cX7_placeOf 7 = .ok (.iload_n 1, 1) := by decide +kernel
theorem dX7_placeOf_8 : decode cX7_placeOf 8 = .ok (.iaload, 1) := by decide +kernel
theorem dX7_placeOf_9 : decode cX7_placeOf 9 = .ok (.if_icmp .ge 25, 3) := by decide +kernel
theorem dX7_placeOf_12 : decode cX7_placeOf 12 = .ok (.aload_n 0, 1) := by decide +kernel
theorem dX7_placeOf_13 : decode cX7_placeOf 13 = .ok (.getfield 16, 3) := by decide +kernel
theorem dX7_placeOf_16 : decode cX7_placeOf 16 = .ok (.iload_n 1, 1) := by decide +kernel
theorem dX7_placeOf_17 : decode cX7_placeOf 17 = .ok (.iload_n 3, 1) := by decide +kernel
theorem dX7_placeOf_18 : decode cX7_placeOf 18 = .ok (.invokestatic 165, 3) := by decide +kernel
theorem dX7_placeOf_21 : decode cX7_placeOf 21 = .ok (.iaload, 1) := by decide +kernel
theorem dX7_placeOf_22 : decode cX7_placeOf 22 = .ok (.iload_n 2, 1) := by decide +kernel
theorem dX7_placeOf_23 : decode cX7_placeOf 23 = .ok (.if_icmp .ne 5, 3) := by decide +kernel
theorem dX7_placeOf_26 : decode cX7_placeOf 26 = .ok (.iload_n 3, 1) := by decide +kernel
theorem dX7_placeOf_27 : decode cX7_placeOf 27 = .ok (.ireturn, 1) := by decide +kernel
theorem dX7_placeOf_28 : decode cX7_placeOf 28 = .ok (.iinc 3 1, 3) := by decide +kernel
theorem dX7_placeOf_31 : decode cX7_placeOf 31 = .ok (.goto (-29), 3) := by decide +kernel
theorem dX7_placeOf_34 : decode cX7_placeOf 34 = .ok (.iconst (-1), 1) := by decide +kernel
theorem dX7_placeOf_35 : decode cX7_placeOf 35 = .ok (.ireturn, 1) := by decide +kernel
theorem dX7_boardable_0 : decode cX7_boardable 0 = .ok (.aload_n 0, 1) := by decide +kernel
theorem dX7_boardable_1 : decode cX7_boardable 1 = .ok (.iload_n 1, 1) := by decide +kernel
theorem dX7_boardable_2 : decode cX7_boardable 2 = .ok (.iload_n 2, 1) := by decide +kernel
theorem dX7_boardable_3 : decode cX7_boardable 3 = .ok (.invokevirtual 224, 3) := by decide +kernel
theorem dX7_boardable_6 : decode cX7_boardable 6 = .ok (.istore_n 3, 1) := by decide +kernel
theorem dX7_boardable_7 : decode cX7_boardable 7 = .ok (.aload_n 0, 1) := by decide +kernel
theorem dX7_boardable_8 : decode cX7_boardable 8 = .ok (.getfield 35, 3) := by decide +kernel
theorem dX7_boardable_11 : decode cX7_boardable 11 = .ok (.iload_n 1, 1) := by decide +kernel
theorem dX7_boardable_12 : decode cX7_boardable 12 = .ok (.baload, 1) := by decide +kernel
theorem dX7_boardable_13 : decode cX7_boardable 13 = .ok (.ifCond .ne 32, 3) := by decide +kernel
theorem dX7_boardable_16 : decode cX7_boardable 16 = .ok (.iload_n 3, 1) := by decide +kernel
theorem dX7_boardable_17 : decode cX7_boardable 17 = .ok (.iconst (-1), 1) := by decide +kernel
theorem dX7_boardable_18 : decode cX7_boardable 18 = .ok (.if_icmp .eq 27, 3) := by decide +kernel
theorem dX7_boardable_21 : decode cX7_boardable 21 = .ok (.iload_n 3, 1) := by decide +kernel
theorem dX7_boardable_22 : decode cX7_boardable 22 = .ok (.aload_n 0, 1) := by decide +kernel
theorem dX7_boardable_23 : decode cX7_boardable 23 = .ok (.getfield 13, 3) := by decide +kernel
theorem dX7_boardable_26 : decode cX7_boardable 26 = .ok (.iload_n 1, 1) := by decide +kernel
theorem dX7_boardable_27 : decode cX7_boardable 27 = .ok (.iaload, 1) := by decide +kernel
theorem dX7_boardable_28 : decode cX7_boardable 28 = .ok (.iconst 1, 1) := by decide +kernel
theorem dX7_boardable_29 : decode cX7_boardable 29 = .ok (.isub, 1) := by decide +kernel
theorem dX7_boardable_30 : decode cX7_boardable 30 = .ok (.if_icmp .eq 15, 3) := by decide +kernel
theorem dX7_boardable_33 : decode cX7_boardable 33 = .ok (.iload_n 1, 1) := by decide +kernel
theorem dX7_boardable_34 : decode cX7_boardable 34 = .ok (.iload_n 3, 1) := by decide +kernel
theorem dX7_boardable_35 : decode cX7_boardable 35 = .ok (.invokestatic 165, 3) := by decide +kernel
theorem dX7_boardable_38 : decode cX7_boardable 38 = .ok (.aload_n 0, 1) := by decide +kernel
theorem dX7_boardable_39 : decode cX7_boardable 39 = .ok (.getfield 89, 3) := by decide +kernel
theorem dX7_boardable_42 : decode cX7_boardable 42 = .ok (.if_icmp .ne 9, 3) := by decide +kernel
theorem dX7_boardable_45 : decode cX7_boardable 45 = .ok (.ldc2_w 215, 3) := by decide +kernel
theorem dX7_boardable_48 : decode cX7_boardable 48 = .ok (.goto 9, 3) := by decide +kernel
theorem dX7_boardable_51 : decode cX7_boardable 51 = .ok (.aload_n 0, 1) := by decide +kernel
theorem dX7_boardable_52 : decode cX7_boardable 52 = .ok (.iload_n 1, 1) := by decide +kernel
theorem dX7_boardable_53 : decode cX7_boardable 53 = .ok (.iload_n 3, 1) := by decide +kernel
theorem dX7_boardable_54 : decode cX7_boardable 54 = .ok (.invokevirtual 221, 3) := by decide +kernel
theorem dX7_boardable_57 : decode cX7_boardable 57 = .ok (.lreturn, 1) := by decide +kernel
theorem dX7_nextLine_0 : decode cX7_nextLine 0 = .ok (.iconst (-1), 1) := by decide +kernel
theorem dX7_nextLine_1 : decode cX7_nextLine 1 = .ok (.istore_n 2, 1) := by decide +kernel
theorem dX7_nextLine_2 : decode cX7_nextLine 2 = .ok (.iconst 0, 1) := by decide +kernel
theorem dX7_nextLine_3 : decode cX7_nextLine 3 = .ok (.istore_n 3, 1) := by decide +kernel
theorem dX7_nextLine_4 : decode cX7_nextLine 4 = .ok (.iload_n 3, 1) := by decide +kernel
theorem dX7_nextLine_5 : decode cX7_nextLine 5 = .ok (.aload_n 0, 1) := by decide +kernel
theorem dX7_nextLine_6 : decode cX7_nextLine 6 = .ok (.getfield 129, 3) := by decide +kernel
theorem dX7_nextLine_9 : decode cX7_nextLine 9 = .ok (.if_icmp .ge 55, 3) := by decide +kernel
theorem dX7_nextLine_12 : decode cX7_nextLine 12 = .ok (.aload_n 0, 1) := by decide +kernel
theorem dX7_nextLine_13 : decode cX7_nextLine 13 = .ok (.iload_n 3, 1) := by decide +kernel
theorem dX7_nextLine_14 : decode cX7_nextLine 14 = .ok (.iload_n 1, 1) := by decide +kernel
theorem dX7_nextLine_15 : decode cX7_nextLine 15 = .ok (.invokevirtual 227, 3) := by decide +kernel
theorem dX7_nextLine_18 : decode cX7_nextLine 18 = .ok (.lstore 4, 2) := by decide +kernel
theorem dX7_nextLine_20 : decode cX7_nextLine 20 = .ok (.lload 4, 2) := by decide +kernel
theorem dX7_nextLine_22 : decode cX7_nextLine 22 = .ok (.lconst 0, 1) := by decide +kernel
theorem dX7_nextLine_23 : decode cX7_nextLine 23 = .ok (.lcmp, 1) := by decide +kernel
theorem dX7_nextLine_24 : decode cX7_nextLine 24 = .ok (.ifCond .lt 34, 3) := by decide +kernel
theorem dX7_nextLine_27 : decode cX7_nextLine 27 = .ok (.aload_n 0, 1) := by decide +kernel
theorem dX7_nextLine_28 : decode cX7_nextLine 28 = .ok (.getfield 92, 3) := by decide +kernel
theorem dX7_nextLine_31 : decode cX7_nextLine 31 = .ok (.iload_n 3, 1) := by decide +kernel
theorem dX7_nextLine_32 : decode cX7_nextLine 32 = .ok (.baload, 1) := by decide +kernel
theorem dX7_nextLine_33 : decode cX7_nextLine 33 = .ok (.ifCond .ne 25, 3) := by decide +kernel
theorem dX7_nextLine_36 : decode cX7_nextLine 36 = .ok (.iload_n 2, 1) := by decide +kernel
theorem dX7_nextLine_37 : decode cX7_nextLine 37 = .ok (.iconst (-1), 1) := by decide +kernel
theorem dX7_nextLine_38 : decode cX7_nextLine 38 = .ok (.if_icmp .eq 18, 3) := by decide +kernel
theorem dX7_nextLine_41 : decode cX7_nextLine 41 = .ok (.lload 4, 2) := by decide +kernel
theorem dX7_nextLine_43 : decode cX7_nextLine 43 = .ok (.aload_n 0, 1) := by decide +kernel
theorem dX7_nextLine_44 : decode cX7_nextLine 44 = .ok (.iload_n 2, 1) := by decide +kernel
theorem dX7_nextLine_45 : decode cX7_nextLine 45 = .ok (.iload_n 1, 1) := by decide +kernel
theorem dX7_nextLine_46 : decode cX7_nextLine 46 = .ok (.invokevirtual 227, 3) := by decide +kernel
theorem dX7_nextLine_49 : decode cX7_nextLine 49 = .ok (.lcmp, 1) := by decide +kernel
theorem dX7_nextLine_50 : decode cX7_nextLine 50 = .ok (.ifCond .lt 6, 3) := by decide +kernel
theorem dX7_nextLine_53 : decode cX7_nextLine 53 = .ok (.goto 5, 3) := by decide +kernel
theorem dX7_nextLine_56 : decode cX7_nextLine 56 = .ok (.iload_n 3, 1) := by decide +kernel
theorem dX7_nextLine_57 : decode cX7_nextLine 57 = .ok (.istore_n 2, 1) := by decide +kernel
theorem dX7_nextLine_58 : decode cX7_nextLine 58 = .ok (.iinc 3 1, 3) := by decide +kernel
theorem dX7_nextLine_61 : decode cX7_nextLine 61 = .ok (.goto (-57), 3) := by decide +kernel
theorem dX7_nextLine_64 : decode cX7_nextLine 64 = .ok (.iload_n 2, 1) := by decide +kernel
theorem dX7_nextLine_65 : decode cX7_nextLine 65 = .ok (.ireturn, 1) := by decide +kernel
theorem dX7_laysSet_0 : decode cX7_laysSet 0 = .ok (.ldc2_w 205, 3) := by decide +kernel
theorem dX7_laysSet_3 : decode cX7_laysSet 3 = .ok (.aload_n 0, 1) := by decide +kernel
theorem dX7_laysSet_4 : decode cX7_laysSet 4 = .ok (.getfield 39, 3) := by decide +kernel
theorem dX7_laysSet_7 : decode cX7_laysSet 7 = .ok (.i2l, 1) := by decide +kernel
theorem dX7_laysSet_8 : decode cX7_laysSet 8 = .ok (.lmul, 1) := by decide +kernel
theorem dX7_laysSet_9 : decode cX7_laysSet 9 = .ok (.lstore_n 2, 1) := by decide +kernel
theorem dX7_laysSet_10 : decode cX7_laysSet 10 = .ok (.iconst 0, 1) := by decide +kernel
theorem dX7_laysSet_11 : decode cX7_laysSet 11 = .ok (.istore 4, 2) := by decide +kernel
theorem dX7_laysSet_13 : decode cX7_laysSet 13 = .ok (.aload_n 0, 1) := by decide +kernel
theorem dX7_laysSet_14 : decode cX7_laysSet 14 = .ok (.getfield 86, 3) := by decide +kernel
theorem dX7_laysSet_17 : decode cX7_laysSet 17 = .ok (.iload_n 1, 1) := by decide +kernel
theorem dX7_laysSet_18 : decode cX7_laysSet 18 = .ok (.iconst 0, 1) := by decide +kernel
theorem dX7_laysSet_19 : decode cX7_laysSet 19 = .ok (.iastore, 1) := by decide +kernel
theorem dX7_laysSet_20 : decode cX7_laysSet 20 = .ok (.iconst 0, 1) := by decide +kernel
theorem dX7_laysSet_21 : decode cX7_laysSet 21 = .ok (.istore 5, 2) := by decide +kernel
theorem dX7_laysSet_23 : decode cX7_laysSet 23 = .ok (.iload 5, 2) := by decide +kernel
theorem dX7_laysSet_25 : decode cX7_laysSet 25 = .ok (.bipush 12, 2) := by decide +kernel
theorem dX7_laysSet_27 : decode cX7_laysSet 27 = .ok (.if_icmp .ge 17, 3) := by decide +kernel
theorem dX7_laysSet_30 : decode cX7_laysSet 30 = .ok (.aload_n 0, 1) := by decide +kernel
theorem dX7_laysSet_31 : decode cX7_laysSet 31 = .ok (.getfield 92, 3) := by decide +kernel
theorem dX7_laysSet_34 : decode cX7_laysSet 34 = .ok (.iload 5, 2) := by decide +kernel
theorem dX7_laysSet_36 : decode cX7_laysSet 36 = .ok (.iconst 0, 1) := by decide +kernel
theorem dX7_laysSet_37 : decode cX7_laysSet 37 = .ok (.bastore, 1) := by decide +kernel
theorem dX7_laysSet_38 : decode cX7_laysSet 38 = .ok (.iinc 5 1, 3) := by decide +kernel
theorem dX7_laysSet_41 : decode cX7_laysSet 41 = .ok (.goto (-18), 3) := by decide +kernel
theorem dX7_laysSet_44 : decode cX7_laysSet 44 = .ok (.aload_n 0, 1) := by decide +kernel
theorem dX7_laysSet_45 : decode cX7_laysSet 45 = .ok (.iload_n 1, 1) := by decide +kernel
theorem dX7_laysSet_46 : decode cX7_laysSet 46 = .ok (.invokevirtual 230, 3) := by decide +kernel
theorem dX7_laysSet_49 : decode cX7_laysSet 49 = .ok (.istore 5, 2) := by decide +kernel
theorem dX7_laysSet_51 : decode cX7_laysSet 51 = .ok (.iload 5, 2) := by decide +kernel
theorem dX7_laysSet_53 : decode cX7_laysSet 53 = .ok (.iconst (-1), 1) := by decide +kernel
theorem dX7_laysSet_54 : decode cX7_laysSet 54 = .ok (.if_icmp .eq 101, 3) := by decide +kernel
theorem dX7_laysSet_57 : decode cX7_laysSet 57 = .ok (.iload 4, 2) := by decide +kernel
theorem dX7_laysSet_59 : decode cX7_laysSet 59 = .ok (.ifCond .eq 19, 3) := by decide +kernel
theorem dX7_laysSet_62 : decode cX7_laysSet 62 = .ok (.aload_n 0, 1) := by decide +kernel
theorem dX7_laysSet_63 : decode cX7_laysSet 63 = .ok (.iload 5, 2) := by decide +kernel
theorem dX7_laysSet_65 : decode cX7_laysSet 65 = .ok (.iload_n 1, 1) := by decide +kernel
theorem dX7_laysSet_66 : decode cX7_laysSet 66 = .ok (.invokevirtual 227, 3) := by decide +kernel
theorem dX7_laysSet_69 : decode cX7_laysSet 69 = .ok (.lload_n 2, 1) := by decide +kernel
theorem dX7_laysSet_70 : decode cX7_laysSet 70 = .ok (.iload 4, 2) := by decide +kernel
theorem dX7_laysSet_72 : decode cX7_laysSet 72 = .ok (.i2l, 1) := by decide +kernel
theorem dX7_laysSet_73 : decode cX7_laysSet 73 = .ok (.ldiv, 1) := by decide +kernel
theorem dX7_laysSet_74 : decode cX7_laysSet 74 = .ok (.lcmp, 1) := by decide +kernel
theorem dX7_laysSet_75 : decode cX7_laysSet 75 = .ok (.ifCond .ge 80, 3) := by decide +kernel
theorem dX7_laysSet_78 : decode cX7_laysSet 78 = .ok (.lload_n 2, 1) := by decide +kernel
theorem dX7_laysSet_79 : decode cX7_laysSet 79 = .ok (.aload_n 0, 1) := by decide +kernel
theorem dX7_laysSet_80 : decode cX7_laysSet 80 = .ok (.getfield 9, 3) := by decide +kernel
theorem dX7_laysSet_83 : decode cX7_laysSet 83 = .ok (.iload 5, 2) := by decide +kernel
theorem dX7_laysSet_85 : decode cX7_laysSet 85 = .ok (.iaload, 1) := by decide +kernel
theorem dX7_laysSet_86 : decode cX7_laysSet 86 = .ok (.i2l, 1) := by decide +kernel
theorem dX7_laysSet_87 : decode cX7_laysSet 87 = .ok (.aload_n 0, 1) := by decide +kernel
theorem dX7_laysSet_88 : decode cX7_laysSet 88 = .ok (.iload 5, 2) := by decide +kernel
theorem dX7_laysSet_90 : decode cX7_laysSet 90 = .ok (.iload_n 1, 1) := by decide +kernel
theorem dX7_laysSet_91 : decode cX7_laysSet 91 = .ok (.invokevirtual 227, 3) := by decide +kernel
theorem dX7_laysSet_94 : decode cX7_laysSet 94 = .ok (.lmul, 1) := by decide +kernel
theorem dX7_laysSet_95 : decode cX7_laysSet 95 = .ok (.ladd, 1) := by decide +kernel
theorem dX7_laysSet_96 : decode cX7_laysSet 96 = .ok (.lstore_n 2, 1) := by decide +kernel
theorem dX7_laysSet_97 : decode cX7_laysSet 97 = .ok (.iload 4, 2) := by decide +kernel
theorem dX7_laysSet_99 : decode cX7_laysSet 99 = .ok (.aload_n 0, 1) := by decide +kernel
theorem dX7_laysSet_100 : decode cX7_laysSet 100 = .ok (.getfield 9, 3) := by decide +kernel
theorem dX7_laysSet_103 : decode cX7_laysSet 103 = .ok (.iload 5, 2) := by decide +kernel
theorem dX7_laysSet_105 : decode cX7_laysSet 105 = .ok (.iaload, 1) := by decide +kernel
theorem dX7_laysSet_106 : decode cX7_laysSet 106 = .ok (.iadd, 1) := by decide +kernel
theorem dX7_laysSet_107 : decode cX7_laysSet 107 = .ok (.istore 4, 2) := by decide +kernel
theorem dX7_laysSet_109 : decode cX7_laysSet 109 = .ok (.aload_n 0, 1) := by decide +kernel
theorem dX7_laysSet_110 : decode cX7_laysSet 110 = .ok (.getfield 92, 3) := by decide +kernel
theorem dX7_laysSet_113 : decode cX7_laysSet 113 = .ok (.iload 5, 2) := by decide +kernel
theorem dX7_laysSet_115 : decode cX7_laysSet 115 = .ok (.iconst 1, 1) := by decide +kernel
theorem dX7_laysSet_116 : decode cX7_laysSet 116 = .ok (.bastore, 1) := by decide +kernel
theorem dX7_laysSet_117 : decode cX7_laysSet 117 = .ok (.aload_n 0, 1) := by decide +kernel
theorem dX7_laysSet_118 : decode cX7_laysSet 118 = .ok (.getfield 83, 3) := by decide +kernel
theorem dX7_laysSet_121 : decode cX7_laysSet 121 = .ok (.bipush 12, 2) := by decide +kernel
theorem dX7_laysSet_123 : decode cX7_laysSet 123 = .ok (.iload_n 1, 1) := by decide +kernel
theorem dX7_laysSet_124 : decode cX7_laysSet 124 = .ok (.imul, 1) := by decide +kernel
theorem dX7_laysSet_125 : decode cX7_laysSet 125 = .ok (.aload_n 0, 1) := by decide +kernel
theorem dX7_laysSet_126 : decode cX7_laysSet 126 = .ok (.getfield 86, 3) := by decide +kernel
theorem dX7_laysSet_129 : decode cX7_laysSet 129 = .ok (.iload_n 1, 1) := by decide +kernel
theorem dX7_laysSet_130 : decode cX7_laysSet 130 = .ok (.iaload, 1) := by decide +kernel
theorem dX7_laysSet_131 : decode cX7_laysSet 131 = .ok (.iadd, 1) := by decide +kernel
theorem dX7_laysSet_132 : decode cX7_laysSet 132 = .ok (.iload 5, 2) := by decide +kernel
theorem dX7_laysSet_134 : decode cX7_laysSet 134 = .ok (.iastore, 1) := by decide +kernel
theorem dX7_laysSet_135 : decode cX7_laysSet 135 = .ok (.aload_n 0, 1) := by decide +kernel
theorem dX7_laysSet_136 : decode cX7_laysSet 136 = .ok (.getfield 86, 3) := by decide +kernel
theorem dX7_laysSet_139 : decode cX7_laysSet 139 = .ok (.iload_n 1, 1) := by decide +kernel
theorem dX7_laysSet_140 : decode cX7_laysSet 140 = .ok (.dup2, 1) := by decide +kernel
theorem dX7_laysSet_141 : decode cX7_laysSet 141 = .ok (.iaload, 1) := by decide +kernel
theorem dX7_laysSet_142 : decode cX7_laysSet 142 = .ok (.iconst 1, 1) := by decide +kernel
theorem dX7_laysSet_143 : decode cX7_laysSet 143 = .ok (.iadd, 1) := by decide +kernel
theorem dX7_laysSet_144 : decode cX7_laysSet 144 = .ok (.iastore, 1) := by decide +kernel
theorem dX7_laysSet_145 : decode cX7_laysSet 145 = .ok (.aload_n 0, 1) := by decide +kernel
theorem dX7_laysSet_146 : decode cX7_laysSet 146 = .ok (.iload_n 1, 1) := by decide +kernel
theorem dX7_laysSet_147 : decode cX7_laysSet 147 = .ok (.invokevirtual 230, 3) := by decide +kernel
theorem dX7_laysSet_150 : decode cX7_laysSet 150 = .ok (.istore 5, 2) := by decide +kernel
theorem dX7_laysSet_152 : decode cX7_laysSet 152 = .ok (.goto (-101), 3) := by decide +kernel
theorem dX7_laysSet_155 : decode cX7_laysSet 155 = .ok (.aload_n 0, 1) := by decide +kernel
theorem dX7_laysSet_156 : decode cX7_laysSet 156 = .ok (.getfield 80, 3) := by decide +kernel
theorem dX7_laysSet_159 : decode cX7_laysSet 159 = .ok (.iload_n 1, 1) := by decide +kernel
theorem dX7_laysSet_160 : decode cX7_laysSet 160 = .ok (.iload 4, 2) := by decide +kernel
theorem dX7_laysSet_162 : decode cX7_laysSet 162 = .ok (.iastore, 1) := by decide +kernel
theorem dX7_laysSet_163 : decode cX7_laysSet 163 = .ok (.aload_n 0, 1) := by decide +kernel
theorem dX7_laysSet_164 : decode cX7_laysSet 164 = .ok (.getfield 68, 3) := by decide +kernel
theorem dX7_laysSet_167 : decode cX7_laysSet 167 = .ok (.iload_n 1, 1) := by decide +kernel
theorem dX7_laysSet_168 : decode cX7_laysSet 168 = .ok (.iload 4, 2) := by decide +kernel
theorem dX7_laysSet_170 : decode cX7_laysSet 170 = .ok (.ifCond .ne 9, 3) := by decide +kernel
theorem dX7_laysSet_173 : decode cX7_laysSet 173 = .ok (.ldc2_w 215, 3) := by decide +kernel
theorem dX7_laysSet_176 : decode cX7_laysSet 176 = .ok (.goto 8, 3) := by decide +kernel
theorem dX7_laysSet_179 : decode cX7_laysSet 179 = .ok (.lload_n 2, 1) := by decide +kernel
theorem dX7_laysSet_180 : decode cX7_laysSet 180 = .ok (.iload 4, 2) := by decide +kernel
theorem dX7_laysSet_182 : decode cX7_laysSet 182 = .ok (.i2l, 1) := by decide +kernel
theorem dX7_laysSet_183 : decode cX7_laysSet 183 = .ok (.ldiv, 1) := by decide +kernel
theorem dX7_laysSet_184 : decode cX7_laysSet 184 = .ok (.lastore, 1) := by decide +kernel
theorem dX7_laysSet_185 : decode cX7_laysSet 185 = .ok (.return_, 1) := by decide +kernel
theorem dX7_isRoundDone_0 : decode cX7_isRoundDone 0 = .ok (.iconst 0, 1) := by decide +kernel
theorem dX7_isRoundDone_1 : decode cX7_isRoundDone 1 = .ok (.istore_n 1, 1) := by decide +kernel
theorem dX7_isRoundDone_2 : decode cX7_isRoundDone 2 = .ok (.iload_n 1, 1) := by decide +kernel
theorem dX7_isRoundDone_3 : decode cX7_isRoundDone 3 = .ok (.bipush 10, 2) := by decide +kernel
theorem dX7_isRoundDone_5 : decode cX7_isRoundDone 5 = .ok (.if_icmp .ge 21, 3) := by decide +kernel
theorem dX7_isRoundDone_8 : decode cX7_isRoundDone 8 = .ok (.aload_n 0, 1) := by decide +kernel
theorem dX7_isRoundDone_9 : decode cX7_isRoundDone 9 = .ok (.getfield 71, 3) := by decide +kernel
theorem dX7_isRoundDone_12 : decode cX7_isRoundDone 12 = .ok (.iload_n 1, 1) := by decide +kernel
theorem dX7_isRoundDone_13 : decode cX7_isRoundDone 13 = .ok (.aload_n 0, 1) := by decide +kernel
theorem dX7_isRoundDone_14 : decode cX7_isRoundDone 14 = .ok (.getfield 68, 3) := by decide +kernel
theorem dX7_isRoundDone_17 : decode cX7_isRoundDone 17 = .ok (.iload_n 1, 1) := by decide +kernel
theorem dX7_isRoundDone_18 : decode cX7_isRoundDone 18 = .ok (.laload, 1) := by decide +kernel
theorem dX7_isRoundDone_19 : decode cX7_isRoundDone 19 = .ok (.lastore, 1) := by decide +kernel
theorem dX7_isRoundDone_20 : decode cX7_isRoundDone 20 = .ok (.iinc 1 1, 3) := by decide +kernel
theorem dX7_isRoundDone_23 : decode cX7_isRoundDone 23 = .ok (.goto (-21), 3) := by decide +kernel
theorem dX7_isRoundDone_26 : decode cX7_isRoundDone 26 = .ok (.aload_n 0, 1) := by decide +kernel
theorem dX7_isRoundDone_27 : decode cX7_isRoundDone 27 = .ok (.invokevirtual 233, 3) := by decide +kernel
theorem dX7_isRoundDone_30 : decode cX7_isRoundDone 30 = .ok (.iconst 1, 1) := by decide +kernel
theorem dX7_isRoundDone_31 : decode cX7_isRoundDone 31 = .ok (.istore_n 1, 1) := by decide +kernel
theorem dX7_isRoundDone_32 : decode cX7_isRoundDone 32 = .ok (.iconst 0, 1) := by decide +kernel
theorem dX7_isRoundDone_33 : decode cX7_isRoundDone 33 = .ok (.istore_n 2, 1) := by decide +kernel
theorem dX7_isRoundDone_34 : decode cX7_isRoundDone 34 = .ok (.iload_n 2, 1) := by decide +kernel
theorem dX7_isRoundDone_35 : decode cX7_isRoundDone 35 = .ok (.bipush 10, 2) := by decide +kernel
theorem dX7_isRoundDone_37 : decode cX7_isRoundDone 37 = .ok (.if_icmp .ge 71, 3) := by decide +kernel
theorem dX7_isRoundDone_40 : decode cX7_isRoundDone 40 = .ok (.aload_n 0, 1) := by decide +kernel
theorem dX7_isRoundDone_41 : decode cX7_isRoundDone 41 = .ok (.getfield 86, 3) := by decide +kernel
theorem dX7_isRoundDone_44 : decode cX7_isRoundDone 44 = .ok (.iload_n 2, 1) := by decide +kernel
theorem dX7_isRoundDone_45 : decode cX7_isRoundDone 45 = .ok (.iconst 0, 1) := by decide +kernel
theorem dX7_isRoundDone_46 : decode cX7_isRoundDone 46 = .ok (.iastore, 1) := by decide +kernel
theorem dX7_isRoundDone_47 : decode cX7_isRoundDone 47 = .ok (.aload_n 0, 1) := by decide +kernel
theorem dX7_isRoundDone_48 : decode cX7_isRoundDone 48 = .ok (.getfield 80, 3) := by decide +kernel
theorem dX7_isRoundDone_51 : decode cX7_isRoundDone 51 = .ok (.iload_n 2, 1) := by decide +kernel
theorem dX7_isRoundDone_52 : decode cX7_isRoundDone 52 = .ok (.iconst 0, 1) := by decide +kernel
theorem dX7_isRoundDone_53 : decode cX7_isRoundDone 53 = .ok (.iastore, 1) := by decide +kernel
theorem dX7_isRoundDone_54 : decode cX7_isRoundDone 54 = .ok (.iload_n 2, 1) := by decide +kernel
theorem dX7_isRoundDone_55 : decode cX7_isRoundDone 55 = .ok (.aload_n 0, 1) := by decide +kernel
theorem dX7_isRoundDone_56 : decode cX7_isRoundDone 56 = .ok (.getfield 197, 3) := by decide +kernel
theorem dX7_isRoundDone_59 : decode cX7_isRoundDone 59 = .ok (.if_icmp .eq 17, 3) := by decide +kernel
theorem dX7_isRoundDone_62 : decode cX7_isRoundDone 62 = .ok (.aload_n 0, 1) := by decide +kernel
theorem dX7_isRoundDone_63 : decode cX7_isRoundDone 63 = .ok (.getfield 46, 3) := by decide +kernel
theorem dX7_isRoundDone_66 : decode cX7_isRoundDone 66 = .ok (.iload_n 2, 1) := by decide +kernel
theorem dX7_isRoundDone_67 : decode cX7_isRoundDone 67 = .ok (.baload, 1) := by decide +kernel
theorem dX7_isRoundDone_68 : decode cX7_isRoundDone 68 = .ok (.ifCond .ne 8, 3) := by decide +kernel
theorem dX7_isRoundDone_71 : decode cX7_isRoundDone 71 = .ok (.aload_n 0, 1) := by decide +kernel
theorem dX7_isRoundDone_72 : decode cX7_isRoundDone 72 = .ok (.iload_n 2, 1) := by decide +kernel
theorem dX7_isRoundDone_73 : decode cX7_isRoundDone 73 = .ok (.invokevirtual 236, 3) := by decide +kernel
theorem dX7_isRoundDone_76 : decode cX7_isRoundDone 76 = .ok (.iload_n 1, 1) := by decide +kernel
theorem dX7_isRoundDone_77 : decode cX7_isRoundDone 77 = .ok (.ifCond .eq 23, 3) := by decide +kernel
theorem dX7_isRoundDone_80 : decode cX7_isRoundDone 80 = .ok (.aload_n 0, 1) := by decide +kernel
theorem dX7_isRoundDone_81 : decode cX7_isRoundDone 81 = .ok (.getfield 68, 3) := by decide +kernel
theorem dX7_isRoundDone_84 : decode cX7_isRoundDone 84 = .ok (.iload_n 2, 1) := by decide +kernel
theorem dX7_isRoundDone_85 : decode cX7_isRoundDone 85 = .ok (.laload, 1) := by decide +kernel
theorem dX7_isRoundDone_86 : decode cX7_isRoundDone 86 = .ok (.aload_n 0, 1) := by decide +kernel
theorem dX7_isRoundDone_87 : decode cX7_isRoundDone 87 = .ok (.getfield 71, 3) := by decide +kernel
theorem dX7_isRoundDone_90 : decode cX7_isRoundDone 90 = .ok (.iload_n 2, 1) := by decide +kernel
theorem dX7_isRoundDone_91 : decode cX7_isRoundDone 91 = .ok (.laload, 1) := by decide +kernel
theorem dX7_isRoundDone_92 : decode cX7_isRoundDone 92 = .ok (.lcmp, 1) := by decide +kernel
theorem dX7_isRoundDone_93 : decode cX7_isRoundDone 93 = .ok (.ifCond .ne 7, 3) := by decide +kernel
theorem dX7_isRoundDone_96 : decode cX7_isRoundDone 96 = .ok (.iconst 1, 1) := by decide +kernel
theorem dX7_isRoundDone_97 : decode cX7_isRoundDone 97 = .ok (.goto 4, 3) := by decide +kernel
theorem dX7_isRoundDone_100 : decode cX7_isRoundDone 100 = .ok (.iconst 0, 1) := by decide +kernel
theorem dX7_isRoundDone_101 : decode cX7_isRoundDone 101 = .ok (.istore_n 1, 1) := by decide +kernel
theorem dX7_isRoundDone_102 : decode cX7_isRoundDone 102 = .ok (.iinc 2 1, 3) := by decide +kernel
theorem dX7_isRoundDone_105 : decode cX7_isRoundDone 105 = .ok (.goto (-71), 3) := by decide +kernel
theorem dX7_isRoundDone_108 : decode cX7_isRoundDone 108 = .ok (.aload_n 0, 1) := by decide +kernel
theorem dX7_isRoundDone_109 : decode cX7_isRoundDone 109 = .ok (.dup, 1) := by decide +kernel
theorem dX7_isRoundDone_110 : decode cX7_isRoundDone 110 = .ok (.getfield 239, 3) := by decide +kernel
theorem dX7_isRoundDone_113 : decode cX7_isRoundDone 113 = .ok (.iconst 1, 1) := by decide +kernel
theorem dX7_isRoundDone_114 : decode cX7_isRoundDone 114 = .ok (.iadd, 1) := by decide +kernel
theorem dX7_isRoundDone_115 : decode cX7_isRoundDone 115 = .ok (.putfield 239, 3) := by decide +kernel
theorem dX7_isRoundDone_118 : decode cX7_isRoundDone 118 = .ok (.iload_n 1, 1) := by decide +kernel
theorem dX7_isRoundDone_119 : decode cX7_isRoundDone 119 = .ok (.ireturn, 1) := by decide +kernel
theorem dX7_laysCosts_0 : decode cX7_laysCosts 0 = .ok (.iconst 0, 1) := by decide +kernel
theorem dX7_laysCosts_1 : decode cX7_laysCosts 1 = .ok (.istore_n 1, 1) := by decide +kernel
theorem dX7_laysCosts_2 : decode cX7_laysCosts 2 = .ok (.iload_n 1, 1) := by decide +kernel
theorem dX7_laysCosts_3 : decode cX7_laysCosts 3 = .ok (.bipush 10, 2) := by decide +kernel
theorem dX7_laysCosts_5 : decode cX7_laysCosts 5 = .ok (.if_icmp .ge 39, 3) := by decide +kernel
theorem dX7_laysCosts_8 : decode cX7_laysCosts 8 = .ok (.aload_n 0, 1) := by decide +kernel
theorem dX7_laysCosts_9 : decode cX7_laysCosts 9 = .ok (.getfield 68, 3) := by decide +kernel
theorem dX7_laysCosts_12 : decode cX7_laysCosts 12 = .ok (.iload_n 1, 1) := by decide +kernel
theorem dX7_laysCosts_13 : decode cX7_laysCosts 13 = .ok (.iload_n 1, 1) := by decide +kernel
theorem dX7_laysCosts_14 : decode cX7_laysCosts 14 = .ok (.aload_n 0, 1) := by decide +kernel
theorem dX7_laysCosts_15 : decode cX7_laysCosts 15 = .ok (.getfield 197, 3) := by decide +kernel
theorem dX7_laysCosts_18 : decode cX7_laysCosts 18 = .ok (.if_icmp .ne 16, 3) := by decide +kernel
theorem dX7_laysCosts_21 : decode cX7_laysCosts 21 = .ok (.aload_n 0, 1) := by decide +kernel
theorem dX7_laysCosts_22 : decode cX7_laysCosts 22 = .ok (.getfield 46, 3) := by decide +kernel
theorem dX7_laysCosts_25 : decode cX7_laysCosts 25 = .ok (.iload_n 1, 1) := by decide +kernel
theorem dX7_laysCosts_26 : decode cX7_laysCosts 26 = .ok (.baload, 1) := by decide +kernel
theorem dX7_laysCosts_27 : decode cX7_laysCosts 27 = .ok (.ifCond .ne 7, 3) := by decide +kernel
theorem dX7_laysCosts_30 : decode cX7_laysCosts 30 = .ok (.lconst 0, 1) := by decide +kernel
theorem dX7_laysCosts_31 : decode cX7_laysCosts 31 = .ok (.goto 6, 3) := by decide +kernel
theorem dX7_laysCosts_34 : decode cX7_laysCosts 34 = .ok (.ldc2_w 215, 3) := by decide +kernel
theorem dX7_laysCosts_37 : decode cX7_laysCosts 37 = .ok (.lastore, 1) := by decide +kernel
theorem dX7_laysCosts_38 : decode cX7_laysCosts 38 = .ok (.iinc 1 1, 3) := by decide +kernel
theorem dX7_laysCosts_41 : decode cX7_laysCosts 41 = .ok (.goto (-39), 3) := by decide +kernel
theorem dX7_laysCosts_44 : decode cX7_laysCosts 44 = .ok (.aload_n 0, 1) := by decide +kernel
theorem dX7_laysCosts_45 : decode cX7_laysCosts 45 = .ok (.iconst 0, 1) := by decide +kernel
theorem dX7_laysCosts_46 : decode cX7_laysCosts 46 = .ok (.putfield 239, 3) := by decide +kernel
theorem dX7_laysCosts_49 : decode cX7_laysCosts 49 = .ok (.iconst 0, 1) := by decide +kernel
theorem dX7_laysCosts_50 : decode cX7_laysCosts 50 = .ok (.istore_n 1, 1) := by decide +kernel
theorem dX7_laysCosts_51 : decode cX7_laysCosts 51 = .ok (.iload_n 1, 1) := by decide +kernel
theorem dX7_laysCosts_52 : decode cX7_laysCosts 52 = .ok (.ifCond .ne 11, 3) := by decide +kernel
theorem dX7_laysCosts_55 : decode cX7_laysCosts 55 = .ok (.aload_n 0, 1) := by decide +kernel
theorem dX7_laysCosts_56 : decode cX7_laysCosts 56 = .ok (.invokevirtual 242, 3) := by decide +kernel
theorem dX7_laysCosts_59 : decode cX7_laysCosts 59 = .ok (.istore_n 1, 1) := by decide +kernel
theorem dX7_laysCosts_60 : decode cX7_laysCosts 60 = .ok (.goto (-9), 3) := by decide +kernel
theorem dX7_laysCosts_63 : decode cX7_laysCosts 63 = .ok (.return_, 1) := by decide +kernel
theorem dX7_costed_0 : decode cX7_costed 0 = .ok (.iconst 0, 1) := by decide +kernel
theorem dX7_costed_1 : decode cX7_costed 1 = .ok (.istore_n 1, 1) := by decide +kernel
theorem dX7_costed_2 : decode cX7_costed 2 = .ok (.iconst 0, 1) := by decide +kernel
theorem dX7_costed_3 : decode cX7_costed 3 = .ok (.istore_n 2, 1) := by decide +kernel
theorem dX7_costed_4 : decode cX7_costed 4 = .ok (.iload_n 2, 1) := by decide +kernel
theorem dX7_costed_5 : decode cX7_costed 5 = .ok (.bipush 10, 2) := by decide +kernel
theorem dX7_costed_7 : decode cX7_costed 7 = .ok (.if_icmp .ge 28, 3) := by decide +kernel
theorem dX7_costed_10 : decode cX7_costed 10 = .ok (.iload_n 1, 1) := by decide +kernel
theorem dX7_costed_11 : decode cX7_costed 11 = .ok (.aload_n 0, 1) := by decide +kernel
theorem dX7_costed_12 : decode cX7_costed 12 = .ok (.getfield 68, 3) := by decide +kernel
theorem dX7_costed_15 : decode cX7_costed 15 = .ok (.iload_n 2, 1) := by decide +kernel
theorem dX7_costed_16 : decode cX7_costed 16 = .ok (.laload, 1) := by decide +kernel
theorem dX7_costed_17 : decode cX7_costed 17 = .ok (.lconst 0, 1) := by decide +kernel
theorem dX7_costed_18 : decode cX7_costed 18 = .ok (.lcmp, 1) := by decide +kernel
theorem dX7_costed_19 : decode cX7_costed 19 = .ok (.ifCond .lt 7, 3) := by decide +kernel
theorem dX7_costed_22 : decode cX7_costed 22 = .ok (.iconst 1, 1) := by decide +kernel
theorem dX7_costed_23 : decode cX7_costed 23 = .ok (.goto 4, 3) := by decide +kernel
theorem dX7_costed_26 : decode cX7_costed 26 = .ok (.iconst 0, 1) := by decide +kernel
theorem dX7_costed_27 : decode cX7_costed 27 = .ok (.iadd, 1) := by decide +kernel
theorem dX7_costed_28 : decode cX7_costed 28 = .ok (.istore_n 1, 1) := by decide +kernel
theorem dX7_costed_29 : decode cX7_costed 29 = .ok (.iinc 2 1, 3) := by decide +kernel
theorem dX7_costed_32 : decode cX7_costed 32 = .ok (.goto (-28), 3) := by decide +kernel
theorem dX7_costed_35 : decode cX7_costed 35 = .ok (.iload_n 1, 1) := by decide +kernel
theorem dX7_costed_36 : decode cX7_costed 36 = .ok (.ireturn, 1) := by decide +kernel
theorem dX7_cost_0 : decode cX7_cost 0 = .ok (.aload_n 0, 1) := by decide +kernel
theorem dX7_cost_1 : decode cX7_cost 1 = .ok (.iconst 0, 1) := by decide +kernel
theorem dX7_cost_2 : decode cX7_cost 2 = .ok (.putfield 116, 3) := by decide +kernel
theorem dX7_cost_5 : decode cX7_cost 5 = .ok (.iload_n 1, 1) := by decide +kernel
theorem dX7_cost_6 : decode cX7_cost 6 = .ok (.invokestatic 162, 3) := by decide +kernel
theorem dX7_cost_9 : decode cX7_cost 9 = .ok (.ifCond .ne 5, 3) := by decide +kernel
theorem dX7_cost_12 : decode cX7_cost 12 = .ok (.iconst (-1), 1) := by decide +kernel
theorem dX7_cost_13 : decode cX7_cost 13 = .ok (.ireturn, 1) := by decide +kernel
theorem dX7_cost_14 : decode cX7_cost 14 = .ok (.aload_n 0, 1) := by decide +kernel
theorem dX7_cost_15 : decode cX7_cost 15 = .ok (.invokevirtual 246, 3) := by decide +kernel
theorem dX7_cost_18 : decode cX7_cost 18 = .ok (.aload_n 0, 1) := by decide +kernel
theorem dX7_cost_19 : decode cX7_cost 19 = .ok (.getfield 68, 3) := by decide +kernel
theorem dX7_cost_22 : decode cX7_cost 22 = .ok (.iload_n 1, 1) := by decide +kernel
theorem dX7_cost_23 : decode cX7_cost 23 = .ok (.laload, 1) := by decide +kernel
theorem dX7_cost_24 : decode cX7_cost 24 = .ok (.lconst 0, 1) := by decide +kernel
theorem dX7_cost_25 : decode cX7_cost 25 = .ok (.lcmp, 1) := by decide +kernel
theorem dX7_cost_26 : decode cX7_cost 26 = .ok (.ifCond .ge 6, 3) := by decide +kernel
theorem dX7_cost_29 : decode cX7_cost 29 = .ok (.bipush (-2), 2) := by decide +kernel
theorem dX7_cost_31 : decode cX7_cost 31 = .ok (.ireturn, 1) := by decide +kernel
theorem dX7_cost_32 : decode cX7_cost 32 = .ok (.aload_n 0, 1) := by decide +kernel
theorem dX7_cost_33 : decode cX7_cost 33 = .ok (.iconst 0, 1) := by decide +kernel
theorem dX7_cost_34 : decode cX7_cost 34 = .ok (.putfield 119, 3) := by decide +kernel
theorem dX7_cost_37 : decode cX7_cost 37 = .ok (.aload_n 0, 1) := by decide +kernel
theorem dX7_cost_38 : decode cX7_cost 38 = .ok (.aload_n 0, 1) := by decide +kernel
theorem dX7_cost_39 : decode cX7_cost 39 = .ok (.getfield 80, 3) := by decide +kernel
theorem dX7_cost_42 : decode cX7_cost 42 = .ok (.iload_n 1, 1) := by decide +kernel
theorem dX7_cost_43 : decode cX7_cost 43 = .ok (.iaload, 1) := by decide +kernel
theorem dX7_cost_44 : decode cX7_cost 44 = .ok (.i2l, 1) := by decide +kernel
theorem dX7_cost_45 : decode cX7_cost 45 = .ok (.invokevirtual 211, 3) := by decide +kernel
theorem dX7_cost_48 : decode cX7_cost 48 = .ok (.aload_n 0, 1) := by decide +kernel
theorem dX7_cost_49 : decode cX7_cost 49 = .ok (.aload_n 0, 1) := by decide +kernel
theorem dX7_cost_50 : decode cX7_cost 50 = .ok (.getfield 86, 3) := by decide +kernel
theorem dX7_cost_53 : decode cX7_cost 53 = .ok (.iload_n 1, 1) := by decide +kernel
theorem dX7_cost_54 : decode cX7_cost 54 = .ok (.iaload, 1) := by decide +kernel
theorem dX7_cost_55 : decode cX7_cost 55 = .ok (.i2l, 1) := by decide +kernel
theorem dX7_cost_56 : decode cX7_cost 56 = .ok (.invokevirtual 211, 3) := by decide +kernel
theorem dX7_cost_59 : decode cX7_cost 59 = .ok (.aload_n 0, 1) := by decide +kernel
theorem dX7_cost_60 : decode cX7_cost 60 = .ok (.getfield 68, 3) := by decide +kernel
theorem dX7_cost_63 : decode cX7_cost 63 = .ok (.iload_n 1, 1) := by decide +kernel
theorem dX7_cost_64 : decode cX7_cost 64 = .ok (.laload, 1) := by decide +kernel
theorem dX7_cost_65 : decode cX7_cost 65 = .ok (.l2i, 1) := by decide +kernel
theorem dX7_cost_66 : decode cX7_cost 66 = .ok (.ireturn, 1) := by decide +kernel
theorem dX7_rounds_0 : decode cX7_rounds 0 = .ok (.aload_n 0, 1) := by decide +kernel
theorem dX7_rounds_1 : decode cX7_rounds 1 = .ok (.iconst 0, 1) := by decide +kernel
theorem dX7_rounds_2 : decode cX7_rounds 2 = .ok (.putfield 116, 3) := by decide +kernel
theorem dX7_rounds_5 : decode cX7_rounds 5 = .ok (.aload_n 0, 1) := by decide +kernel
theorem dX7_rounds_6 : decode cX7_rounds 6 = .ok (.invokevirtual 246, 3) := by decide +kernel
theorem dX7_rounds_9 : decode cX7_rounds 9 = .ok (.aload_n 0, 1) := by decide +kernel
theorem dX7_rounds_10 : decode cX7_rounds 10 = .ok (.iconst 0, 1) := by decide +kernel
theorem dX7_rounds_11 : decode cX7_rounds 11 = .ok (.putfield 119, 3) := by decide +kernel
theorem dX7_rounds_14 : decode cX7_rounds 14 = .ok (.aload_n 0, 1) := by decide +kernel
theorem dX7_rounds_15 : decode cX7_rounds 15 = .ok (.aload_n 0, 1) := by decide +kernel
theorem dX7_rounds_16 : decode cX7_rounds 16 = .ok (.invokevirtual 249, 3) := by decide +kernel
theorem dX7_rounds_19 : decode cX7_rounds 19 = .ok (.i2l, 1) := by decide +kernel
theorem dX7_rounds_20 : decode cX7_rounds 20 = .ok (.invokevirtual 211, 3) := by decide +kernel
theorem dX7_rounds_23 : decode cX7_rounds 23 = .ok (.aload_n 0, 1) := by decide +kernel
theorem dX7_rounds_24 : decode cX7_rounds 24 = .ok (.getfield 239, 3) := by decide +kernel
theorem dX7_rounds_27 : decode cX7_rounds 27 = .ok (.ireturn, 1) := by decide +kernel
theorem dX7_chosen_0 : decode cX7_chosen 0 = .ok (.aload_n 0, 1) := by decide +kernel
theorem dX7_chosen_1 : decode cX7_chosen 1 = .ok (.iconst 0, 1) := by decide +kernel
theorem dX7_chosen_2 : decode cX7_chosen 2 = .ok (.putfield 116, 3) := by decide +kernel
theorem dX7_chosen_5 : decode cX7_chosen 5 = .ok (.iload_n 1, 1) := by decide +kernel
theorem dX7_chosen_6 : decode cX7_chosen 6 = .ok (.invokestatic 162, 3) := by decide +kernel
theorem dX7_chosen_9 : decode cX7_chosen 9 = .ok (.ifCond .ne 5, 3) := by decide +kernel
theorem dX7_chosen_12 : decode cX7_chosen 12 = .ok (.iconst (-1), 1) := by decide +kernel
theorem dX7_chosen_13 : decode cX7_chosen 13 = .ok (.ireturn, 1) := by decide +kernel
theorem dX7_chosen_14 : decode cX7_chosen 14 = .ok (.aload_n 0, 1) := by decide +kernel
theorem dX7_chosen_15 : decode cX7_chosen 15 = .ok (.invokevirtual 246, 3) := by decide +kernel
theorem dX7_chosen_18 : decode cX7_chosen 18 = .ok (.iconst 0, 1) := by decide +kernel
theorem dX7_chosen_19 : decode cX7_chosen 19 = .ok (.istore_n 2, 1) := by decide +kernel
theorem dX7_chosen_20 : decode cX7_chosen 20 = .ok (.aload_n 0, 1) := by decide +kernel
theorem dX7_chosen_21 : decode cX7_chosen 21 = .ok (.iconst 0, 1) := by decide +kernel
theorem dX7_chosen_22 : decode cX7_chosen 22 = .ok (.putfield 119, 3) := by decide +kernel
theorem dX7_chosen_25 : decode cX7_chosen 25 = .ok (.iconst 0, 1) := by decide +kernel
theorem dX7_chosen_26 : decode cX7_chosen 26 = .ok (.istore_n 3, 1) := by decide +kernel
theorem dX7_chosen_27 : decode cX7_chosen 27 = .ok (.iload_n 3, 1) := by decide +kernel
theorem dX7_chosen_28 : decode cX7_chosen 28 = .ok (.aload_n 0, 1) := by decide +kernel
theorem dX7_chosen_29 : decode cX7_chosen 29 = .ok (.getfield 86, 3) := by decide +kernel
theorem dX7_chosen_32 : decode cX7_chosen 32 = .ok (.iload_n 1, 1) := by decide +kernel
theorem dX7_chosen_33 : decode cX7_chosen 33 = .ok (.iaload, 1) := by decide +kernel
theorem dX7_chosen_34 : decode cX7_chosen 34 = .ok (.if_icmp .ge 41, 3) := by decide +kernel
theorem dX7_chosen_37 : decode cX7_chosen 37 = .ok (.iload_n 2, 1) := by decide +kernel
theorem dX7_chosen_38 : decode cX7_chosen 38 = .ok (.iconst 1, 1) := by decide +kernel
theorem dX7_chosen_39 : decode cX7_chosen 39 = .ok (.aload_n 0, 1) := by decide +kernel
theorem dX7_chosen_40 : decode cX7_chosen 40 = .ok (.getfield 83, 3) := by decide +kernel
theorem dX7_chosen_43 : decode cX7_chosen 43 = .ok (.bipush 12, 2) := by decide +kernel
theorem dX7_chosen_45 : decode cX7_chosen 45 = .ok (.iload_n 1, 1) := by decide +kernel
theorem dX7_chosen_46 : decode cX7_chosen 46 = .ok (.imul, 1) := by decide +kernel
theorem dX7_chosen_47 : decode cX7_chosen 47 = .ok (.iload_n 3, 1) := by decide +kernel
theorem dX7_chosen_48 : decode cX7_chosen 48 = .ok (.iadd, 1) := by decide +kernel
theorem dX7_chosen_49 : decode cX7_chosen 49 = .ok (.iaload, 1) := by decide +kernel
theorem dX7_chosen_50 : decode cX7_chosen 50 = .ok (.ishl, 1) := by decide +kernel
theorem dX7_chosen_51 : decode cX7_chosen 51 = .ok (.ior, 1) := by decide +kernel
theorem dX7_chosen_52 : decode cX7_chosen 52 = .ok (.istore_n 2, 1) := by decide +kernel
theorem dX7_chosen_53 : decode cX7_chosen 53 = .ok (.aload_n 0, 1) := by decide +kernel
theorem dX7_chosen_54 : decode cX7_chosen 54 = .ok (.aload_n 0, 1) := by decide +kernel
theorem dX7_chosen_55 : decode cX7_chosen 55 = .ok (.getfield 83, 3) := by decide +kernel
theorem dX7_chosen_58 : decode cX7_chosen 58 = .ok (.bipush 12, 2) := by decide +kernel
theorem dX7_chosen_60 : decode cX7_chosen 60 = .ok (.iload_n 1, 1) := by decide +kernel
theorem dX7_chosen_61 : decode cX7_chosen 61 = .ok (.imul, 1) := by decide +kernel
theorem dX7_chosen_62 : decode cX7_chosen 62 = .ok (.iload_n 3, 1) := by decide +kernel
theorem dX7_chosen_63 : decode cX7_chosen 63 = .ok (.iadd, 1) := by decide +kernel
theorem dX7_chosen_64 : decode cX7_chosen 64 = .ok (.iaload, 1) := by decide +kernel
theorem dX7_chosen_65 : decode cX7_chosen 65 = .ok (.i2l, 1) := by decide +kernel
theorem dX7_chosen_66 : decode cX7_chosen 66 = .ok (.invokevirtual 211, 3) := by decide +kernel
theorem dX7_chosen_69 : decode cX7_chosen 69 = .ok (.iinc 3 1, 3) := by decide +kernel
theorem dX7_chosen_72 : decode cX7_chosen 72 = .ok (.goto (-45), 3) := by decide +kernel
theorem dX7_chosen_75 : decode cX7_chosen 75 = .ok (.iload_n 2, 1) := by decide +kernel
theorem dX7_chosen_76 : decode cX7_chosen 76 = .ok (.ireturn, 1) := by decide +kernel
theorem dX7_isInSet_0 : decode cX7_isInSet 0 = .ok (.iconst 0, 1) := by decide +kernel
theorem dX7_isInSet_1 : decode cX7_isInSet 1 = .ok (.istore_n 3, 1) := by decide +kernel
theorem dX7_isInSet_2 : decode cX7_isInSet 2 = .ok (.iload_n 3, 1) := by decide +kernel
theorem dX7_isInSet_3 : decode cX7_isInSet 3 = .ok (.aload_n 0, 1) := by decide +kernel
theorem dX7_isInSet_4 : decode cX7_isInSet 4 = .ok (.getfield 86, 3) := by decide +kernel
theorem dX7_isInSet_7 : decode cX7_isInSet 7 = .ok (.iload_n 2, 1) := by decide +kernel
theorem dX7_isInSet_8 : decode cX7_isInSet 8 = .ok (.iaload, 1) := by decide +kernel
theorem dX7_isInSet_9 : decode cX7_isInSet 9 = .ok (.if_icmp .ge 26, 3) := by decide +kernel
theorem dX7_isInSet_12 : decode cX7_isInSet 12 = .ok (.aload_n 0, 1) := by decide +kernel
theorem dX7_isInSet_13 : decode cX7_isInSet 13 = .ok (.getfield 83, 3) := by decide +kernel
theorem dX7_isInSet_16 : decode cX7_isInSet 16 = .ok (.bipush 12, 2) := by decide +kernel
theorem dX7_isInSet_18 : decode cX7_isInSet 18 = .ok (.iload_n 2, 1) := by decide +kernel
theorem dX7_isInSet_19 : decode cX7_isInSet 19 = .ok (.imul, 1) := by decide +kernel
theorem dX7_isInSet_20 : decode cX7_isInSet 20 = .ok (.iload_n 3, 1) := by decide +kernel
theorem dX7_isInSet_21 : decode cX7_isInSet 21 = .ok (.iadd, 1) := by decide +kernel
theorem dX7_isInSet_22 : decode cX7_isInSet 22 = .ok (.iaload, 1) := by decide +kernel
theorem dX7_isInSet_23 : decode cX7_isInSet 23 = .ok (.iload_n 1, 1) := by decide +kernel
theorem dX7_isInSet_24 : decode cX7_isInSet 24 = .ok (.if_icmp .ne 5, 3) := by decide +kernel
theorem dX7_isInSet_27 : decode cX7_isInSet 27 = .ok (.iconst 1, 1) := by decide +kernel
theorem dX7_isInSet_28 : decode cX7_isInSet 28 = .ok (.ireturn, 1) := by decide +kernel
theorem dX7_isInSet_29 : decode cX7_isInSet 29 = .ok (.iinc 3 1, 3) := by decide +kernel
theorem dX7_isInSet_32 : decode cX7_isInSet 32 = .ok (.goto (-30), 3) := by decide +kernel
theorem dX7_isInSet_35 : decode cX7_isInSet 35 = .ok (.iconst 0, 1) := by decide +kernel
theorem dX7_isInSet_36 : decode cX7_isInSet 36 = .ok (.ireturn, 1) := by decide +kernel
theorem dX7_boarding_0 : decode cX7_boarding 0 = .ok (.aload_n 0, 1) := by decide +kernel
theorem dX7_boarding_1 : decode cX7_boarding 1 = .ok (.iconst 0, 1) := by decide +kernel
theorem dX7_boarding_2 : decode cX7_boarding 2 = .ok (.putfield 116, 3) := by decide +kernel
theorem dX7_boarding_5 : decode cX7_boarding 5 = .ok (.aload_n 0, 1) := by decide +kernel
theorem dX7_boarding_6 : decode cX7_boarding 6 = .ok (.iload_n 1, 1) := by decide +kernel
theorem dX7_boarding_7 : decode cX7_boarding 7 = .ok (.iload_n 2, 1) := by decide +kernel
theorem dX7_boarding_8 : decode cX7_boarding 8 = .ok (.invokevirtual 252, 3) := by decide +kernel
theorem dX7_boarding_11 : decode cX7_boarding 11 = .ok (.ifCond .ne 5, 3) := by decide +kernel
theorem dX7_boarding_14 : decode cX7_boarding 14 = .ok (.iconst (-1), 1) := by decide +kernel
theorem dX7_boarding_15 : decode cX7_boarding 15 = .ok (.ireturn, 1) := by decide +kernel
theorem dX7_boarding_16 : decode cX7_boarding 16 = .ok (.aload_n 0, 1) := by decide +kernel
theorem dX7_boarding_17 : decode cX7_boarding 17 = .ok (.invokevirtual 246, 3) := by decide +kernel
theorem dX7_boarding_20 : decode cX7_boarding 20 = .ok (.aload_n 0, 1) := by decide +kernel
theorem dX7_boarding_21 : decode cX7_boarding 21 = .ok (.iload_n 1, 1) := by decide +kernel
theorem dX7_boarding_22 : decode cX7_boarding 22 = .ok (.iload_n 2, 1) := by decide +kernel
theorem dX7_boarding_23 : decode cX7_boarding 23 = .ok (.invokevirtual 221, 3) := by decide +kernel
theorem dX7_boarding_26 : decode cX7_boarding 26 = .ok (.lconst 0, 1) := by decide +kernel
theorem dX7_boarding_27 : decode cX7_boarding 27 = .ok (.lcmp, 1) := by decide +kernel
theorem dX7_boarding_28 : decode cX7_boarding 28 = .ok (.ifCond .ge 6, 3) := by decide +kernel
theorem dX7_boarding_31 : decode cX7_boarding 31 = .ok (.bipush (-2), 2) := by decide +kernel
theorem dX7_boarding_33 : decode cX7_boarding 33 = .ok (.ireturn, 1) := by decide +kernel
theorem dX7_boarding_34 : decode cX7_boarding 34 = .ok (.aload_n 0, 1) := by decide +kernel
theorem dX7_boarding_35 : decode cX7_boarding 35 = .ok (.iconst 0, 1) := by decide +kernel
theorem dX7_boarding_36 : decode cX7_boarding 36 = .ok (.putfield 119, 3) := by decide +kernel
theorem dX7_boarding_39 : decode cX7_boarding 39 = .ok (.aload_n 0, 1) := by decide +kernel
theorem dX7_boarding_40 : decode cX7_boarding 40 = .ok (.aload_n 0, 1) := by decide +kernel
theorem dX7_boarding_41 : decode cX7_boarding 41 = .ok (.iload_n 1, 1) := by decide +kernel
theorem dX7_boarding_42 : decode cX7_boarding 42 = .ok (.aload_n 0, 1) := by decide +kernel
theorem dX7_boarding_43 : decode cX7_boarding 43 = .ok (.getfield 16, 3) := by decide +kernel
theorem dX7_boarding_46 : decode cX7_boarding 46 = .ok (.iload_n 1, 1) := by decide +kernel
theorem dX7_boarding_47 : decode cX7_boarding 47 = .ok (.iload_n 2, 1) := by decide +kernel
theorem dX7_boarding_48 : decode cX7_boarding 48 = .ok (.invokestatic 165, 3) := by decide +kernel
theorem dX7_boarding_51 : decode cX7_boarding 51 = .ok (.iaload, 1) := by decide +kernel
theorem dX7_boarding_52 : decode cX7_boarding 52 = .ok (.invokevirtual 255, 3) := by decide +kernel
theorem dX7_boarding_55 : decode cX7_boarding 55 = .ok (.ifCond .eq 7, 3) := by decide +kernel
theorem dX7_boarding_58 : decode cX7_boarding 58 = .ok (.lconst 1, 1) := by decide +kernel
theorem dX7_boarding_59 : decode cX7_boarding 59 = .ok (.goto 4, 3) := by decide +kernel
theorem dX7_boarding_62 : decode cX7_boarding 62 = .ok (.lconst 0, 1) := by decide +kernel
theorem dX7_boarding_63 : decode cX7_boarding 63 = .ok (.invokevirtual 211, 3) := by decide +kernel
theorem dX7_boarding_66 : decode cX7_boarding 66 = .ok (.aload_n 0, 1) := by decide +kernel
theorem dX7_boarding_67 : decode cX7_boarding 67 = .ok (.iload_n 1, 1) := by decide +kernel
theorem dX7_boarding_68 : decode cX7_boarding 68 = .ok (.iload_n 2, 1) := by decide +kernel
theorem dX7_boarding_69 : decode cX7_boarding 69 = .ok (.invokevirtual 221, 3) := by decide +kernel
theorem dX7_boarding_72 : decode cX7_boarding 72 = .ok (.l2i, 1) := by decide +kernel
theorem dX7_boarding_73 : decode cX7_boarding 73 = .ok (.ireturn, 1) := by decide +kernel
theorem dX7_aboard_0 : decode cX7_aboard 0 = .ok (.aload_n 0, 1) := by decide +kernel
theorem dX7_aboard_1 : decode cX7_aboard 1 = .ok (.iconst 0, 1) := by decide +kernel
theorem dX7_aboard_2 : decode cX7_aboard 2 = .ok (.putfield 116, 3) := by decide +kernel
theorem dX7_aboard_5 : decode cX7_aboard 5 = .ok (.aload_n 0, 1) := by decide +kernel
theorem dX7_aboard_6 : decode cX7_aboard 6 = .ok (.iload_n 1, 1) := by decide +kernel
theorem dX7_aboard_7 : decode cX7_aboard 7 = .ok (.iload_n 2, 1) := by decide +kernel
theorem dX7_aboard_8 : decode cX7_aboard 8 = .ok (.invokevirtual 207, 3) := by decide +kernel
theorem dX7_aboard_11 : decode cX7_aboard 11 = .ok (.ifCond .ne 5, 3) := by decide +kernel
theorem dX7_aboard_14 : decode cX7_aboard 14 = .ok (.iconst (-1), 1) := by decide +kernel
theorem dX7_aboard_15 : decode cX7_aboard 15 = .ok (.ireturn, 1) := by decide +kernel
theorem dX7_aboard_16 : decode cX7_aboard 16 = .ok (.aload_n 0, 1) := by decide +kernel
theorem dX7_aboard_17 : decode cX7_aboard 17 = .ok (.invokevirtual 246, 3) := by decide +kernel
theorem dX7_aboard_20 : decode cX7_aboard 20 = .ok (.aload_n 0, 1) := by decide +kernel
theorem dX7_aboard_21 : decode cX7_aboard 21 = .ok (.getfield 74, 3) := by decide +kernel
theorem dX7_aboard_24 : decode cX7_aboard 24 = .ok (.iload_n 1, 1) := by decide +kernel
theorem dX7_aboard_25 : decode cX7_aboard 25 = .ok (.iload_n 2, 1) := by decide +kernel
theorem dX7_aboard_26 : decode cX7_aboard 26 = .ok (.invokestatic 165, 3) := by decide +kernel
theorem dX7_aboard_29 : decode cX7_aboard 29 = .ok (.laload, 1) := by decide +kernel
theorem dX7_aboard_30 : decode cX7_aboard 30 = .ok (.lconst 0, 1) := by decide +kernel
theorem dX7_aboard_31 : decode cX7_aboard 31 = .ok (.lcmp, 1) := by decide +kernel
theorem dX7_aboard_32 : decode cX7_aboard 32 = .ok (.ifCond .ge 6, 3) := by decide +kernel
theorem dX7_aboard_35 : decode cX7_aboard 35 = .ok (.bipush (-2), 2) := by decide +kernel
theorem dX7_aboard_37 : decode cX7_aboard 37 = .ok (.ireturn, 1) := by decide +kernel
theorem dX7_aboard_38 : decode cX7_aboard 38 = .ok (.aload_n 0, 1) := by decide +kernel
theorem dX7_aboard_39 : decode cX7_aboard 39 = .ok (.iconst 0, 1) := by decide +kernel
theorem dX7_aboard_40 : decode cX7_aboard 40 = .ok (.putfield 119, 3) := by decide +kernel
theorem dX7_aboard_43 : decode cX7_aboard 43 = .ok (.aload_n 0, 1) := by decide +kernel
theorem dX7_aboard_44 : decode cX7_aboard 44 = .ok (.aload_n 0, 1) := by decide +kernel
theorem dX7_aboard_45 : decode cX7_aboard 45 = .ok (.getfield 77, 3) := by decide +kernel
theorem dX7_aboard_48 : decode cX7_aboard 48 = .ok (.iload_n 1, 1) := by decide +kernel
theorem dX7_aboard_49 : decode cX7_aboard 49 = .ok (.iload_n 2, 1) := by decide +kernel
theorem dX7_aboard_50 : decode cX7_aboard 50 = .ok (.invokestatic 165, 3) := by decide +kernel
theorem dX7_aboard_53 : decode cX7_aboard 53 = .ok (.baload, 1) := by decide +kernel
theorem dX7_aboard_54 : decode cX7_aboard 54 = .ok (.ifCond .eq 7, 3) := by decide +kernel
theorem dX7_aboard_57 : decode cX7_aboard 57 = .ok (.lconst 1, 1) := by decide +kernel
theorem dX7_aboard_58 : decode cX7_aboard 58 = .ok (.goto 4, 3) := by decide +kernel
theorem dX7_aboard_61 : decode cX7_aboard 61 = .ok (.lconst 0, 1) := by decide +kernel
theorem dX7_aboard_62 : decode cX7_aboard 62 = .ok (.invokevirtual 211, 3) := by decide +kernel
theorem dX7_aboard_65 : decode cX7_aboard 65 = .ok (.aload_n 0, 1) := by decide +kernel
theorem dX7_aboard_66 : decode cX7_aboard 66 = .ok (.getfield 74, 3) := by decide +kernel
theorem dX7_aboard_69 : decode cX7_aboard 69 = .ok (.iload_n 1, 1) := by decide +kernel
theorem dX7_aboard_70 : decode cX7_aboard 70 = .ok (.iload_n 2, 1) := by decide +kernel
theorem dX7_aboard_71 : decode cX7_aboard 71 = .ok (.invokestatic 165, 3) := by decide +kernel
theorem dX7_aboard_74 : decode cX7_aboard 74 = .ok (.laload, 1) := by decide +kernel
theorem dX7_aboard_75 : decode cX7_aboard 75 = .ok (.l2i, 1) := by decide +kernel
theorem dX7_aboard_76 : decode cX7_aboard 76 = .ok (.ireturn, 1) := by decide +kernel
theorem dX7_worst_0 : decode cX7_worst 0 = .ok (.aload_n 0, 1) := by decide +kernel
theorem dX7_worst_1 : decode cX7_worst 1 = .ok (.iconst 0, 1) := by decide +kernel
theorem dX7_worst_2 : decode cX7_worst 2 = .ok (.putfield 116, 3) := by decide +kernel
theorem dX7_worst_5 : decode cX7_worst 5 = .ok (.aload_n 0, 1) := by decide +kernel
theorem dX7_worst_6 : decode cX7_worst 6 = .ok (.invokevirtual 246, 3) := by decide +kernel
theorem dX7_worst_9 : decode cX7_worst 9 = .ok (.iconst (-1), 1) := by decide +kernel
theorem dX7_worst_10 : decode cX7_worst 10 = .ok (.istore_n 1, 1) := by decide +kernel
theorem dX7_worst_11 : decode cX7_worst 11 = .ok (.iconst 0, 1) := by decide +kernel
theorem dX7_worst_12 : decode cX7_worst 12 = .ok (.istore_n 2, 1) := by decide +kernel
theorem dX7_worst_13 : decode cX7_worst 13 = .ok (.iload_n 2, 1) := by decide +kernel
theorem dX7_worst_14 : decode cX7_worst 14 = .ok (.bipush 10, 2) := by decide +kernel
theorem dX7_worst_16 : decode cX7_worst 16 = .ok (.if_icmp .ge 51, 3) := by decide +kernel
theorem dX7_worst_19 : decode cX7_worst 19 = .ok (.iload_n 2, 1) := by decide +kernel
theorem dX7_worst_20 : decode cX7_worst 20 = .ok (.aload_n 0, 1) := by decide +kernel
theorem dX7_worst_21 : decode cX7_worst 21 = .ok (.getfield 197, 3) := by decide +kernel
theorem dX7_worst_24 : decode cX7_worst 24 = .ok (.if_icmp .eq 37, 3) := by decide +kernel
theorem dX7_worst_27 : decode cX7_worst 27 = .ok (.aload_n 0, 1) := by decide +kernel
theorem dX7_worst_28 : decode cX7_worst 28 = .ok (.getfield 68, 3) := by decide +kernel
theorem dX7_worst_31 : decode cX7_worst 31 = .ok (.iload_n 2, 1) := by decide +kernel
theorem dX7_worst_32 : decode cX7_worst 32 = .ok (.laload, 1) := by decide +kernel
theorem dX7_worst_33 : decode cX7_worst 33 = .ok (.lconst 0, 1) := by decide +kernel
theorem dX7_worst_34 : decode cX7_worst 34 = .ok (.lcmp, 1) := by decide +kernel
theorem dX7_worst_35 : decode cX7_worst 35 = .ok (.ifCond .lt 26, 3) := by decide +kernel
theorem dX7_worst_38 : decode cX7_worst 38 = .ok (.iload_n 1, 1) := by decide +kernel
theorem dX7_worst_39 : decode cX7_worst 39 = .ok (.iconst (-1), 1) := by decide +kernel
theorem dX7_worst_40 : decode cX7_worst 40 = .ok (.if_icmp .eq 19, 3) := by decide +kernel
theorem dX7_worst_43 : decode cX7_worst 43 = .ok (.aload_n 0, 1) := by decide +kernel
theorem dX7_worst_44 : decode cX7_worst 44 = .ok (.getfield 68, 3) := by decide +kernel
theorem dX7_worst_47 : decode cX7_worst 47 = .ok (.iload_n 2, 1) := by decide +kernel
theorem dX7_worst_48 : decode cX7_worst 48 = .ok (.laload, 1) := by decide +kernel
theorem dX7_worst_49 : decode cX7_worst 49 = .ok (.aload_n 0, 1) := by decide +kernel
theorem dX7_worst_50 : decode cX7_worst 50 = .ok (.getfield 68, 3) := by decide +kernel
theorem dX7_worst_53 : decode cX7_worst 53 = .ok (.iload_n 1, 1) := by decide +kernel
theorem dX7_worst_54 : decode cX7_worst 54 = .ok (.laload, 1) := by decide +kernel
theorem dX7_worst_55 : decode cX7_worst 55 = .ok (.lcmp, 1) := by decide +kernel
theorem dX7_worst_56 : decode cX7_worst 56 = .ok (.ifCond .le 5, 3) := by decide +kernel
theorem dX7_worst_59 : decode cX7_worst 59 = .ok (.iload_n 2, 1) := by decide +kernel
theorem dX7_worst_60 : decode cX7_worst 60 = .ok (.istore_n 1, 1) := by decide +kernel
theorem dX7_worst_61 : decode cX7_worst 61 = .ok (.iinc 2 1, 3) := by decide +kernel
theorem dX7_worst_64 : decode cX7_worst 64 = .ok (.goto (-51), 3) := by decide +kernel
theorem dX7_worst_67 : decode cX7_worst 67 = .ok (.iload_n 1, 1) := by decide +kernel
theorem dX7_worst_68 : decode cX7_worst 68 = .ok (.iconst (-1), 1) := by decide +kernel
theorem dX7_worst_69 : decode cX7_worst 69 = .ok (.if_icmp .ne 6, 3) := by decide +kernel
theorem dX7_worst_72 : decode cX7_worst 72 = .ok (.bipush (-2), 2) := by decide +kernel
theorem dX7_worst_74 : decode cX7_worst 74 = .ok (.ireturn, 1) := by decide +kernel
theorem dX7_worst_75 : decode cX7_worst 75 = .ok (.aload_n 0, 1) := by decide +kernel
theorem dX7_worst_76 : decode cX7_worst 76 = .ok (.iconst 0, 1) := by decide +kernel
theorem dX7_worst_77 : decode cX7_worst 77 = .ok (.putfield 119, 3) := by decide +kernel
theorem dX7_worst_80 : decode cX7_worst 80 = .ok (.aload_n 0, 1) := by decide +kernel
theorem dX7_worst_81 : decode cX7_worst 81 = .ok (.aload_n 0, 1) := by decide +kernel
theorem dX7_worst_82 : decode cX7_worst 82 = .ok (.getfield 68, 3) := by decide +kernel
theorem dX7_worst_85 : decode cX7_worst 85 = .ok (.iload_n 1, 1) := by decide +kernel
theorem dX7_worst_86 : decode cX7_worst 86 = .ok (.laload, 1) := by decide +kernel
theorem dX7_worst_87 : decode cX7_worst 87 = .ok (.invokevirtual 211, 3) := by decide +kernel
theorem dX7_worst_90 : decode cX7_worst 90 = .ok (.iload_n 1, 1) := by decide +kernel
theorem dX7_worst_91 : decode cX7_worst 91 = .ok (.ireturn, 1) := by decide +kernel
theorem dX7_wait_0 : decode cX7_wait 0 = .ok (.aload_n 0, 1) := by decide +kernel
theorem dX7_wait_1 : decode cX7_wait 1 = .ok (.iconst 0, 1) := by decide +kernel
theorem dX7_wait_2 : decode cX7_wait 2 = .ok (.putfield 116, 3) := by decide +kernel
theorem dX7_wait_5 : decode cX7_wait 5 = .ok (.iload_n 1, 1) := by decide +kernel
theorem dX7_wait_6 : decode cX7_wait 6 = .ok (.invokestatic 162, 3) := by decide +kernel
theorem dX7_wait_9 : decode cX7_wait 9 = .ok (.ifCond .ne 5, 3) := by decide +kernel
theorem dX7_wait_12 : decode cX7_wait 12 = .ok (.iconst (-1), 1) := by decide +kernel
theorem dX7_wait_13 : decode cX7_wait 13 = .ok (.ireturn, 1) := by decide +kernel
theorem dX7_wait_14 : decode cX7_wait 14 = .ok (.aload_n 0, 1) := by decide +kernel
theorem dX7_wait_15 : decode cX7_wait 15 = .ok (.invokevirtual 246, 3) := by decide +kernel
theorem dX7_wait_18 : decode cX7_wait 18 = .ok (.iload_n 1, 1) := by decide +kernel
theorem dX7_wait_19 : decode cX7_wait 19 = .ok (.aload_n 0, 1) := by decide +kernel
theorem dX7_wait_20 : decode cX7_wait 20 = .ok (.getfield 197, 3) := by decide +kernel
theorem dX7_wait_23 : decode cX7_wait 23 = .ok (.if_icmp .eq 14, 3) := by decide +kernel
theorem dX7_wait_26 : decode cX7_wait 26 = .ok (.aload_n 0, 1) := by decide +kernel
theorem dX7_wait_27 : decode cX7_wait 27 = .ok (.getfield 68, 3) := by decide +kernel
theorem dX7_wait_30 : decode cX7_wait 30 = .ok (.iload_n 1, 1) := by decide +kernel
theorem dX7_wait_31 : decode cX7_wait 31 = .ok (.laload, 1) := by decide +kernel
theorem dX7_wait_32 : decode cX7_wait 32 = .ok (.lconst 0, 1) := by decide +kernel
theorem dX7_wait_33 : decode cX7_wait 33 = .ok (.lcmp, 1) := by decide +kernel
theorem dX7_wait_34 : decode cX7_wait 34 = .ok (.ifCond .ge 8, 3) := by decide +kernel
theorem dX7_wait_37 : decode cX7_wait 37 = .ok (.bipush (-2), 2) := by decide +kernel
theorem dX7_wait_39 : decode cX7_wait 39 = .ok (.goto 17, 3) := by decide +kernel
theorem dX7_wait_42 : decode cX7_wait 42 = .ok (.bipush 60, 2) := by decide +kernel
theorem dX7_wait_44 : decode cX7_wait 44 = .ok (.aload_n 0, 1) := by decide +kernel
theorem dX7_wait_45 : decode cX7_wait 45 = .ok (.getfield 39, 3) := by decide +kernel
theorem dX7_wait_48 : decode cX7_wait 48 = .ok (.imul, 1) := by decide +kernel
theorem dX7_wait_49 : decode cX7_wait 49 = .ok (.aload_n 0, 1) := by decide +kernel
theorem dX7_wait_50 : decode cX7_wait 50 = .ok (.getfield 80, 3) := by decide +kernel
theorem dX7_wait_53 : decode cX7_wait 53 = .ok (.iload_n 1, 1) := by decide +kernel
theorem dX7_wait_54 : decode cX7_wait 54 = .ok (.iaload, 1) := by decide +kernel
theorem dX7_wait_55 : decode cX7_wait 55 = .ok (.idiv, 1) := by decide +kernel
theorem dX7_wait_56 : decode cX7_wait 56 = .ok (.ireturn, 1) := by decide +kernel
theorem dX7_leaves_0 : decode cX7_leaves 0 = .ok (.iload_n 2, 1) := by decide +kernel
theorem dX7_leaves_1 : decode cX7_leaves 1 = .ok (.iconst 1, 1) := by decide +kernel
theorem dX7_leaves_2 : decode cX7_leaves 2 = .ok (.iadd, 1) := by decide +kernel
theorem dX7_leaves_3 : decode cX7_leaves 3 = .ok (.istore_n 3, 1) := by decide +kernel
theorem dX7_leaves_4 : decode cX7_leaves 4 = .ok (.aload_n 0, 1) := by decide +kernel
theorem dX7_leaves_5 : decode cX7_leaves 5 = .ok (.getfield 77, 3) := by decide +kernel
theorem dX7_leaves_8 : decode cX7_leaves 8 = .ok (.iload_n 1, 1) := by decide +kernel
theorem dX7_leaves_9 : decode cX7_leaves 9 = .ok (.iload_n 3, 1) := by decide +kernel
theorem dX7_leaves_10 : decode cX7_leaves 10 = .ok (.invokestatic 165, 3) := by decide +kernel
theorem dX7_leaves_13 : decode cX7_leaves 13 = .ok (.baload, 1) := by decide +kernel
theorem dX7_leaves_14 : decode cX7_leaves 14 = .ok (.ifCond .ne 9, 3) := by decide +kernel
theorem dX7_leaves_17 : decode cX7_leaves 17 = .ok (.iinc 3 1, 3) := by decide +kernel
theorem dX7_leaves_20 : decode cX7_leaves 20 = .ok (.goto (-16), 3) := by decide +kernel
theorem dX7_leaves_23 : decode cX7_leaves 23 = .ok (.iload_n 3, 1) := by decide +kernel
theorem dX7_leaves_24 : decode cX7_leaves 24 = .ok (.ireturn, 1) := by decide +kernel
theorem dX7_laysOrder_0 : decode cX7_laysOrder 0 = .ok (.aload_n 0, 1) := by decide +kernel
theorem dX7_laysOrder_1 : decode cX7_laysOrder 1 = .ok (.iconst 0, 1) := by decide +kernel
theorem dX7_laysOrder_2 : decode cX7_laysOrder 2 = .ok (.putfield 258, 3) := by decide +kernel
theorem dX7_laysOrder_5 : decode cX7_laysOrder 5 = .ok (.iconst 0, 1) := by decide +kernel
theorem dX7_laysOrder_6 : decode cX7_laysOrder 6 = .ok (.istore_n 1, 1) := by decide +kernel
theorem dX7_laysOrder_7 : decode cX7_laysOrder 7 = .ok (.iload_n 1, 1) := by decide +kernel
theorem dX7_laysOrder_8 : decode cX7_laysOrder 8 = .ok (.bipush 10, 2) := by decide +kernel
theorem dX7_laysOrder_10 : decode cX7_laysOrder 10 = .ok (.if_icmp .ge 100, 3) := by decide +kernel
