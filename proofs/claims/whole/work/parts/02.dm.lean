theorem dX10_init_0 : decode cX10_init 0 = .ok (.aload_n 0, 1) := by decide +kernel
theorem dX10_init_1 : decode cX10_init 1 = .ok (.invokespecial 1, 3) := by decide +kernel
theorem dX10_init_4 : decode cX10_init 4 = .ok (.aload_n 0, 1) := by decide +kernel
theorem dX10_init_5 : decode cX10_init 5 = .ok (.bipush 7, 2) := by decide +kernel
theorem dX10_init_7 : decode cX10_init 7 = .ok (.newarray .int, 2) := by decide +kernel
theorem dX10_init_9 : decode cX10_init 9 = .ok (.putfield 7, 3) := by decide +kernel
theorem dX10_init_12 : decode cX10_init 12 = .ok (.aload_n 0, 1) := by decide +kernel
theorem dX10_init_13 : decode cX10_init 13 = .ok (.bipush 7, 2) := by decide +kernel
theorem dX10_init_15 : decode cX10_init 15 = .ok (.newarray .int, 2) := by decide +kernel
theorem dX10_init_17 : decode cX10_init 17 = .ok (.putfield 13, 3) := by decide +kernel
theorem dX10_init_20 : decode cX10_init 20 = .ok (.aload_n 0, 1) := by decide +kernel
theorem dX10_init_21 : decode cX10_init 21 = .ok (.bipush 7, 2) := by decide +kernel
theorem dX10_init_23 : decode cX10_init 23 = .ok (.newarray .int, 2) := by decide +kernel
theorem dX10_init_25 : decode cX10_init 25 = .ok (.putfield 16, 3) := by decide +kernel
theorem dX10_init_28 : decode cX10_init 28 = .ok (.aload_n 0, 1) := by decide +kernel
theorem dX10_init_29 : decode cX10_init 29 = .ok (.bipush 21, 2) := by decide +kernel
theorem dX10_init_31 : decode cX10_init 31 = .ok (.newarray .int, 2) := by decide +kernel
theorem dX10_init_33 : decode cX10_init 33 = .ok (.putfield 19, 3) := by decide +kernel
theorem dX10_init_36 : decode cX10_init 36 = .ok (.aload_n 0, 1) := by decide +kernel
theorem dX10_init_37 : decode cX10_init 37 = .ok (.sipush 133, 3) := by decide +kernel
theorem dX10_init_40 : decode cX10_init 40 = .ok (.newarray .int, 2) := by decide +kernel
theorem dX10_init_42 : decode cX10_init 42 = .ok (.putfield 22, 3) := by decide +kernel
theorem dX10_init_45 : decode cX10_init 45 = .ok (.aload_n 0, 1) := by decide +kernel
theorem dX10_init_46 : decode cX10_init 46 = .ok (.sipush 5320, 3) := by decide +kernel
theorem dX10_init_49 : decode cX10_init 49 = .ok (.newarray .int, 2) := by decide +kernel
theorem dX10_init_51 : decode cX10_init 51 = .ok (.putfield 25, 3) := by decide +kernel
theorem dX10_init_54 : decode cX10_init 54 = .ok (.aload_n 0, 1) := by decide +kernel
theorem dX10_init_55 : decode cX10_init 55 = .ok (.bipush 60, 2) := by decide +kernel
theorem dX10_init_57 : decode cX10_init 57 = .ok (.newarray .int, 2) := by decide +kernel
theorem dX10_init_59 : decode cX10_init 59 = .ok (.putfield 28, 3) := by decide +kernel
theorem dX10_init_62 : decode cX10_init 62 = .ok (.aload_n 0, 1) := by decide +kernel
theorem dX10_init_63 : decode cX10_init 63 = .ok (.bipush 64, 2) := by decide +kernel
theorem dX10_init_65 : decode cX10_init 65 = .ok (.newarray .int, 2) := by decide +kernel
theorem dX10_init_67 : decode cX10_init 67 = .ok (.putfield 31, 3) := by decide +kernel
theorem dX10_init_70 : decode cX10_init 70 = .ok (.aload_n 0, 1) := by decide +kernel
theorem dX10_init_71 : decode cX10_init 71 = .ok (.bipush 64, 2) := by decide +kernel
theorem dX10_init_73 : decode cX10_init 73 = .ok (.newarray .int, 2) := by decide +kernel
theorem dX10_init_75 : decode cX10_init 75 = .ok (.putfield 34, 3) := by decide +kernel
theorem dX10_init_78 : decode cX10_init 78 = .ok (.aload_n 0, 1) := by decide +kernel
theorem dX10_init_79 : decode cX10_init 79 = .ok (.bipush 40, 2) := by decide +kernel
theorem dX10_init_81 : decode cX10_init 81 = .ok (.newarray .int, 2) := by decide +kernel
theorem dX10_init_83 : decode cX10_init 83 = .ok (.putfield 37, 3) := by decide +kernel
theorem dX10_init_86 : decode cX10_init 86 = .ok (.aload_n 0, 1) := by decide +kernel
theorem dX10_init_87 : decode cX10_init 87 = .ok (.bipush 40, 2) := by decide +kernel
theorem dX10_init_89 : decode cX10_init 89 = .ok (.newarray .int, 2) := by decide +kernel
theorem dX10_init_91 : decode cX10_init 91 = .ok (.putfield 40, 3) := by decide +kernel
theorem dX10_init_94 : decode cX10_init 94 = .ok (.aload_n 0, 1) := by decide +kernel
theorem dX10_init_95 : decode cX10_init 95 = .ok (.sipush 200, 3) := by decide +kernel
theorem dX10_init_98 : decode cX10_init 98 = .ok (.newarray .int, 2) := by decide +kernel
theorem dX10_init_100 : decode cX10_init 100 = .ok (.putfield 43, 3) := by decide +kernel
theorem dX10_init_103 : decode cX10_init 103 = .ok (.aload_n 0, 1) := by decide +kernel
theorem dX10_init_104 : decode cX10_init 104 = .ok (.sipush 200, 3) := by decide +kernel
theorem dX10_init_107 : decode cX10_init 107 = .ok (.newarray .int, 2) := by decide +kernel
theorem dX10_init_109 : decode cX10_init 109 = .ok (.putfield 46, 3) := by decide +kernel
theorem dX10_init_112 : decode cX10_init 112 = .ok (.aload_n 0, 1) := by decide +kernel
theorem dX10_init_113 : decode cX10_init 113 = .ok (.bipush 12, 2) := by decide +kernel
theorem dX10_init_115 : decode cX10_init 115 = .ok (.newarray .int, 2) := by decide +kernel
theorem dX10_init_117 : decode cX10_init 117 = .ok (.putfield 49, 3) := by decide +kernel
theorem dX10_init_120 : decode cX10_init 120 = .ok (.aload_n 0, 1) := by decide +kernel
theorem dX10_init_121 : decode cX10_init 121 = .ok (.bipush 8, 2) := by decide +kernel
theorem dX10_init_123 : decode cX10_init 123 = .ok (.newarray .int, 2) := by decide +kernel
theorem dX10_init_125 : decode cX10_init 125 = .ok (.putfield 52, 3) := by decide +kernel
theorem dX10_init_128 : decode cX10_init 128 = .ok (.aload_n 0, 1) := by decide +kernel
theorem dX10_init_129 : decode cX10_init 129 = .ok (.bipush 8, 2) := by decide +kernel
theorem dX10_init_131 : decode cX10_init 131 = .ok (.newarray .int, 2) := by decide +kernel
theorem dX10_init_133 : decode cX10_init 133 = .ok (.putfield 55, 3) := by decide +kernel
theorem dX10_init_136 : decode cX10_init 136 = .ok (.aload_n 0, 1) := by decide +kernel
theorem dX10_init_137 : decode cX10_init 137 = .ok (.bipush 40, 2) := by decide +kernel
theorem dX10_init_139 : decode cX10_init 139 = .ok (.newarray .int, 2) := by decide +kernel
theorem dX10_init_141 : decode cX10_init 141 = .ok (.putfield 58, 3) := by decide +kernel
theorem dX10_init_144 : decode cX10_init 144 = .ok (.aload_n 0, 1) := by decide +kernel
theorem dX10_init_145 : decode cX10_init 145 = .ok (.bipush 40, 2) := by decide +kernel
theorem dX10_init_147 : decode cX10_init 147 = .ok (.newarray .int, 2) := by decide +kernel
theorem dX10_init_149 : decode cX10_init 149 = .ok (.putfield 61, 3) := by decide +kernel
theorem dX10_init_152 : decode cX10_init 152 = .ok (.aload_n 0, 1) := by decide +kernel
theorem dX10_init_153 : decode cX10_init 153 = .ok (.bipush 64, 2) := by decide +kernel
theorem dX10_init_155 : decode cX10_init 155 = .ok (.newarray .int, 2) := by decide +kernel
theorem dX10_init_157 : decode cX10_init 157 = .ok (.putfield 64, 3) := by decide +kernel
theorem dX10_init_160 : decode cX10_init 160 = .ok (.aload_n 0, 1) := by decide +kernel
theorem dX10_init_161 : decode cX10_init 161 = .ok (.bipush 64, 2) := by decide +kernel
theorem dX10_init_163 : decode cX10_init 163 = .ok (.newarray .int, 2) := by decide +kernel
theorem dX10_init_165 : decode cX10_init 165 = .ok (.putfield 67, 3) := by decide +kernel
theorem dX10_init_168 : decode cX10_init 168 = .ok (.aload_n 0, 1) := by decide +kernel
theorem dX10_init_169 : decode cX10_init 169 = .ok (.bipush 64, 2) := by decide +kernel
theorem dX10_init_171 : decode cX10_init 171 = .ok (.newarray .int, 2) := by decide +kernel
theorem dX10_init_173 : decode cX10_init 173 = .ok (.putfield 70, 3) := by decide +kernel
theorem dX10_init_176 : decode cX10_init 176 = .ok (.aload_n 0, 1) := by decide +kernel
theorem dX10_init_177 : decode cX10_init 177 = .ok (.bipush 64, 2) := by decide +kernel
theorem dX10_init_179 : decode cX10_init 179 = .ok (.newarray .int, 2) := by decide +kernel
theorem dX10_init_181 : decode cX10_init 181 = .ok (.putfield 73, 3) := by decide +kernel
theorem dX10_init_184 : decode cX10_init 184 = .ok (.aload_n 0, 1) := by decide +kernel
theorem dX10_init_185 : decode cX10_init 185 = .ok (.sipush 192, 3) := by decide +kernel
theorem dX10_init_188 : decode cX10_init 188 = .ok (.newarray .int, 2) := by decide +kernel
theorem dX10_init_190 : decode cX10_init 190 = .ok (.putfield 76, 3) := by decide +kernel
theorem dX10_init_193 : decode cX10_init 193 = .ok (.aload_n 0, 1) := by decide +kernel
theorem dX10_init_194 : decode cX10_init 194 = .ok (.sipush 4096, 3) := by decide +kernel
theorem dX10_init_197 : decode cX10_init 197 = .ok (.newarray .int, 2) := by decide +kernel
theorem dX10_init_199 : decode cX10_init 199 = .ok (.putfield 79, 3) := by decide +kernel
theorem dX10_init_202 : decode cX10_init 202 = .ok (.aload_n 0, 1) := by decide +kernel
theorem dX10_init_203 : decode cX10_init 203 = .ok (.sipush 4096, 3) := by decide +kernel
theorem dX10_init_206 : decode cX10_init 206 = .ok (.newarray .int, 2) := by decide +kernel
theorem dX10_init_208 : decode cX10_init 208 = .ok (.putfield 82, 3) := by decide +kernel
theorem dX10_init_211 : decode cX10_init 211 = .ok (.aload_n 0, 1) := by decide +kernel
theorem dX10_init_212 : decode cX10_init 212 = .ok (.sipush 4096, 3) := by decide +kernel
theorem dX10_init_215 : decode cX10_init 215 = .ok (.newarray .int, 2) := by decide +kernel
theorem dX10_init_217 : decode cX10_init 217 = .ok (.putfield 85, 3) := by decide +kernel
theorem dX10_init_220 : decode cX10_init 220 = .ok (.aload_n 0, 1) := by decide +kernel
theorem dX10_init_221 : decode cX10_init 221 = .ok (.bipush 64, 2) := by decide +kernel
theorem dX10_init_223 : decode cX10_init 223 = .ok (.newarray .int, 2) := by decide +kernel
theorem dX10_init_225 : decode cX10_init 225 = .ok (.putfield 88, 3) := by decide +kernel
theorem dX10_init_228 : decode cX10_init 228 = .ok (.aload_n 0, 1) := by decide +kernel
theorem dX10_init_229 : decode cX10_init 229 = .ok (.bipush 64, 2) := by decide +kernel
theorem dX10_init_231 : decode cX10_init 231 = .ok (.newarray .int, 2) := by decide +kernel
theorem dX10_init_233 : decode cX10_init 233 = .ok (.putfield 91, 3) := by decide +kernel
theorem dX10_init_236 : decode cX10_init 236 = .ok (.aload_n 0, 1) := by decide +kernel
theorem dX10_init_237 : decode cX10_init 237 = .ok (.bipush 64, 2) := by decide +kernel
theorem dX10_init_239 : decode cX10_init 239 = .ok (.newarray .int, 2) := by decide +kernel
theorem dX10_init_241 : decode cX10_init 241 = .ok (.putfield 94, 3) := by decide +kernel
theorem dX10_init_244 : decode cX10_init 244 = .ok (.aload_n 0, 1) := by decide +kernel
theorem dX10_init_245 : decode cX10_init 245 = .ok (.bipush 64, 2) := by decide +kernel
theorem dX10_init_247 : decode cX10_init 247 = .ok (.newarray .int, 2) := by decide +kernel
theorem dX10_init_249 : decode cX10_init 249 = .ok (.putfield 97, 3) := by decide +kernel
theorem dX10_init_252 : decode cX10_init 252 = .ok (.aload_n 0, 1) := by decide +kernel
theorem dX10_init_253 : decode cX10_init 253 = .ok (.bipush 64, 2) := by decide +kernel
theorem dX10_init_255 : decode cX10_init 255 = .ok (.newarray .boolean, 2) := by decide +kernel
theorem dX10_init_257 : decode cX10_init 257 = .ok (.putfield 100, 3) := by decide +kernel
theorem dX10_init_260 : decode cX10_init 260 = .ok (.aload_n 0, 1) := by decide +kernel
theorem dX10_init_261 : decode cX10_init 261 = .ok (.bipush 64, 2) := by decide +kernel
theorem dX10_init_263 : decode cX10_init 263 = .ok (.newarray .long, 2) := by decide +kernel
theorem dX10_init_265 : decode cX10_init 265 = .ok (.putfield 104, 3) := by decide +kernel
theorem dX10_init_268 : decode cX10_init 268 = .ok (.aload_n 0, 1) := by decide +kernel
theorem dX10_init_269 : decode cX10_init 269 = .ok (.bipush 64, 2) := by decide +kernel
theorem dX10_init_271 : decode cX10_init 271 = .ok (.newarray .long, 2) := by decide +kernel
theorem dX10_init_273 : decode cX10_init 273 = .ok (.putfield 108, 3) := by decide +kernel
theorem dX10_init_276 : decode cX10_init 276 = .ok (.iconst 0, 1) := by decide +kernel
theorem dX10_init_277 : decode cX10_init 277 = .ok (.istore_n 1, 1) := by decide +kernel
theorem dX10_init_278 : decode cX10_init 278 = .ok (.iload_n 1, 1) := by decide +kernel
theorem dX10_init_279 : decode cX10_init 279 = .ok (.iconst 3, 1) := by decide +kernel
theorem dX10_init_280 : decode cX10_init 280 = .ok (.if_icmp .ge 16, 3) := by decide +kernel
theorem dX10_init_283 : decode cX10_init 283 = .ok (.aload_n 0, 1) := by decide +kernel
theorem dX10_init_284 : decode cX10_init 284 = .ok (.iload_n 1, 1) := by decide +kernel
theorem dX10_init_285 : decode cX10_init 285 = .ok (.iconst 1, 1) := by decide +kernel
theorem dX10_init_286 : decode cX10_init 286 = .ok (.iconst 1, 1) := by decide +kernel
theorem dX10_init_287 : decode cX10_init 287 = .ok (.invokevirtual 111, 3) := by decide +kernel
theorem dX10_init_290 : decode cX10_init 290 = .ok (.iinc 1 1, 3) := by decide +kernel
theorem dX10_init_293 : decode cX10_init 293 = .ok (.goto (-15), 3) := by decide +kernel
theorem dX10_init_296 : decode cX10_init 296 = .ok (.return_, 1) := by decide +kernel
theorem dX10_isBetween_0 : decode cX10_isBetween 0 = .ok (.iload_n 0, 1) := by decide +kernel
theorem dX10_isBetween_1 : decode cX10_isBetween 1 = .ok (.iload_n 1, 1) := by decide +kernel
theorem dX10_isBetween_2 : decode cX10_isBetween 2 = .ok (.if_icmp .lt 12, 3) := by decide +kernel
theorem dX10_isBetween_5 : decode cX10_isBetween 5 = .ok (.iload_n 0, 1) := by decide +kernel
theorem dX10_isBetween_6 : decode cX10_isBetween 6 = .ok (.iload_n 2, 1) := by decide +kernel
theorem dX10_isBetween_7 : decode cX10_isBetween 7 = .ok (.if_icmp .gt 7, 3) := by decide +kernel
theorem dX10_isBetween_10 : decode cX10_isBetween 10 = .ok (.iconst 1, 1) := by decide +kernel
theorem dX10_isBetween_11 : decode cX10_isBetween 11 = .ok (.goto 4, 3) := by decide +kernel
theorem dX10_isBetween_14 : decode cX10_isBetween 14 = .ok (.iconst 0, 1) := by decide +kernel
theorem dX10_isBetween_15 : decode cX10_isBetween 15 = .ok (.ireturn, 1) := by decide +kernel
theorem dX10_bits_0 : decode cX10_bits 0 = .ok (.iconst 0, 1) := by decide +kernel
theorem dX10_bits_1 : decode cX10_bits 1 = .ok (.istore_n 1, 1) := by decide +kernel
theorem dX10_bits_2 : decode cX10_bits 2 = .ok (.iconst 0, 1) := by decide +kernel
theorem dX10_bits_3 : decode cX10_bits 3 = .ok (.istore_n 2, 1) := by decide +kernel
theorem dX10_bits_4 : decode cX10_bits 4 = .ok (.iload_n 2, 1) := by decide +kernel
theorem dX10_bits_5 : decode cX10_bits 5 = .ok (.bipush 6, 2) := by decide +kernel
theorem dX10_bits_7 : decode cX10_bits 7 = .ok (.if_icmp .ge 17, 3) := by decide +kernel
theorem dX10_bits_10 : decode cX10_bits 10 = .ok (.iload_n 1, 1) := by decide +kernel
theorem dX10_bits_11 : decode cX10_bits 11 = .ok (.iload_n 0, 1) := by decide +kernel
theorem dX10_bits_12 : decode cX10_bits 12 = .ok (.iload_n 2, 1) := by decide +kernel
theorem dX10_bits_13 : decode cX10_bits 13 = .ok (.ishr, 1) := by decide +kernel
theorem dX10_bits_14 : decode cX10_bits 14 = .ok (.iconst 1, 1) := by decide +kernel
theorem dX10_bits_15 : decode cX10_bits 15 = .ok (.iand, 1) := by decide +kernel
theorem dX10_bits_16 : decode cX10_bits 16 = .ok (.iadd, 1) := by decide +kernel
theorem dX10_bits_17 : decode cX10_bits 17 = .ok (.istore_n 1, 1) := by decide +kernel
theorem dX10_bits_18 : decode cX10_bits 18 = .ok (.iinc 2 1, 3) := by decide +kernel
theorem dX10_bits_21 : decode cX10_bits 21 = .ok (.goto (-17), 3) := by decide +kernel
theorem dX10_bits_24 : decode cX10_bits 24 = .ok (.iload_n 1, 1) := by decide +kernel
theorem dX10_bits_25 : decode cX10_bits 25 = .ok (.ireturn, 1) := by decide +kernel
theorem dX10_isSlot_0 : decode cX10_isSlot 0 = .ok (.iload_n 0, 1) := by decide +kernel
theorem dX10_isSlot_1 : decode cX10_isSlot 1 = .ok (.ifCond .lt 12, 3) := by decide +kernel
theorem dX10_isSlot_4 : decode cX10_isSlot 4 = .ok (.iload_n 0, 1) := by decide +kernel
theorem dX10_isSlot_5 : decode cX10_isSlot 5 = .ok (.iconst 3, 1) := by decide +kernel
theorem dX10_isSlot_6 : decode cX10_isSlot 6 = .ok (.if_icmp .ge 7, 3) := by decide +kernel
theorem dX10_isSlot_9 : decode cX10_isSlot 9 = .ok (.iconst 1, 1) := by decide +kernel
theorem dX10_isSlot_10 : decode cX10_isSlot 10 = .ok (.goto 4, 3) := by decide +kernel
theorem dX10_isSlot_13 : decode cX10_isSlot 13 = .ok (.iconst 0, 1) := by decide +kernel
theorem dX10_isSlot_14 : decode cX10_isSlot 14 = .ok (.ireturn, 1) := by decide +kernel
theorem dX10_isState_0 : decode cX10_isState 0 = .ok (.iload_n 2, 1) := by decide +kernel
theorem dX10_isState_1 : decode cX10_isState 1 = .ok (.ifCond .lt 17, 3) := by decide +kernel
theorem dX10_isState_4 : decode cX10_isState 4 = .ok (.iload_n 2, 1) := by decide +kernel
theorem dX10_isState_5 : decode cX10_isState 5 = .ok (.aload_n 0, 1) := by decide +kernel
theorem dX10_isState_6 : decode cX10_isState 6 = .ok (.getfield 7, 3) := by decide +kernel
theorem dX10_isState_9 : decode cX10_isState 9 = .ok (.iload_n 1, 1) := by decide +kernel
theorem dX10_isState_10 : decode cX10_isState 10 = .ok (.iaload, 1) := by decide +kernel
theorem dX10_isState_11 : decode cX10_isState 11 = .ok (.if_icmp .ge 7, 3) := by decide +kernel
theorem dX10_isState_14 : decode cX10_isState 14 = .ok (.iconst 1, 1) := by decide +kernel
theorem dX10_isState_15 : decode cX10_isState 15 = .ok (.goto 4, 3) := by decide +kernel
theorem dX10_isState_18 : decode cX10_isState 18 = .ok (.iconst 0, 1) := by decide +kernel
theorem dX10_isState_19 : decode cX10_isState 19 = .ok (.ireturn, 1) := by decide +kernel
theorem dX10_isLetter_0 : decode cX10_isLetter 0 = .ok (.iload_n 2, 1) := by decide +kernel
theorem dX10_isLetter_1 : decode cX10_isLetter 1 = .ok (.ifCond .lt 17, 3) := by decide +kernel
theorem dX10_isLetter_4 : decode cX10_isLetter 4 = .ok (.iload_n 2, 1) := by decide +kernel
theorem dX10_isLetter_5 : decode cX10_isLetter 5 = .ok (.aload_n 0, 1) := by decide +kernel
theorem dX10_isLetter_6 : decode cX10_isLetter 6 = .ok (.getfield 13, 3) := by decide +kernel
theorem dX10_isLetter_9 : decode cX10_isLetter 9 = .ok (.iload_n 1, 1) := by decide +kernel
theorem dX10_isLetter_10 : decode cX10_isLetter 10 = .ok (.iaload, 1) := by decide +kernel
theorem dX10_isLetter_11 : decode cX10_isLetter 11 = .ok (.if_icmp .ge 7, 3) := by decide +kernel
theorem dX10_isLetter_14 : decode cX10_isLetter 14 = .ok (.iconst 1, 1) := by decide +kernel
theorem dX10_isLetter_15 : decode cX10_isLetter 15 = .ok (.goto 4, 3) := by decide +kernel
theorem dX10_isLetter_18 : decode cX10_isLetter 18 = .ok (.iconst 0, 1) := by decide +kernel
theorem dX10_isLetter_19 : decode cX10_isLetter 19 = .ok (.ireturn, 1) := by decide +kernel
theorem dX10_allOf_0 : decode cX10_allOf 0 = .ok (.iconst 1, 1) := by decide +kernel
theorem dX10_allOf_1 : decode cX10_allOf 1 = .ok (.aload_n 0, 1) := by decide +kernel
theorem dX10_allOf_2 : decode cX10_allOf 2 = .ok (.getfield 7, 3) := by decide +kernel
theorem dX10_allOf_5 : decode cX10_allOf 5 = .ok (.iload_n 1, 1) := by decide +kernel
theorem dX10_allOf_6 : decode cX10_allOf 6 = .ok (.iaload, 1) := by decide +kernel
theorem dX10_allOf_7 : decode cX10_allOf 7 = .ok (.ishl, 1) := by decide +kernel
theorem dX10_allOf_8 : decode cX10_allOf 8 = .ok (.iconst 1, 1) := by decide +kernel
theorem dX10_allOf_9 : decode cX10_allOf 9 = .ok (.isub, 1) := by decide +kernel
theorem dX10_allOf_10 : decode cX10_allOf 10 = .ok (.ireturn, 1) := by decide +kernel
theorem dX10_isSet_0 : decode cX10_isSet 0 = .ok (.iload_n 2, 1) := by decide +kernel
theorem dX10_isSet_1 : decode cX10_isSet 1 = .ok (.ifCond .lt 16, 3) := by decide +kernel
theorem dX10_isSet_4 : decode cX10_isSet 4 = .ok (.iload_n 2, 1) := by decide +kernel
theorem dX10_isSet_5 : decode cX10_isSet 5 = .ok (.aload_n 0, 1) := by decide +kernel
theorem dX10_isSet_6 : decode cX10_isSet 6 = .ok (.iload_n 1, 1) := by decide +kernel
theorem dX10_isSet_7 : decode cX10_isSet 7 = .ok (.invokevirtual 115, 3) := by decide +kernel
theorem dX10_isSet_10 : decode cX10_isSet 10 = .ok (.if_icmp .gt 7, 3) := by decide +kernel
theorem dX10_isSet_13 : decode cX10_isSet 13 = .ok (.iconst 1, 1) := by decide +kernel
theorem dX10_isSet_14 : decode cX10_isSet 14 = .ok (.goto 4, 3) := by decide +kernel
theorem dX10_isSet_17 : decode cX10_isSet 17 = .ok (.iconst 0, 1) := by decide +kernel
theorem dX10_isSet_18 : decode cX10_isSet 18 = .ok (.ireturn, 1) := by decide +kernel
theorem dX10_formulaOf_0 : decode cX10_formulaOf 0 = .ok (.iconst 1, 1) := by decide +kernel
theorem dX10_formulaOf_1 : decode cX10_formulaOf 1 = .ok (.iconst 3, 1) := by decide +kernel
theorem dX10_formulaOf_2 : decode cX10_formulaOf 2 = .ok (.iload_n 0, 1) := by decide +kernel
theorem dX10_formulaOf_3 : decode cX10_formulaOf 3 = .ok (.imul, 1) := by decide +kernel
theorem dX10_formulaOf_4 : decode cX10_formulaOf 4 = .ok (.iadd, 1) := by decide +kernel
theorem dX10_formulaOf_5 : decode cX10_formulaOf 5 = .ok (.iload_n 1, 1) := by decide +kernel
theorem dX10_formulaOf_6 : decode cX10_formulaOf 6 = .ok (.iadd, 1) := by decide +kernel
theorem dX10_formulaOf_7 : decode cX10_formulaOf 7 = .ok (.ireturn, 1) := by decide +kernel
theorem dX10_at_0 : decode cX10_at 0 = .ok (.bipush 40, 2) := by decide +kernel
theorem dX10_at_2 : decode cX10_at 2 = .ok (.bipush 19, 2) := by decide +kernel
theorem dX10_at_4 : decode cX10_at 4 = .ok (.iload_n 1, 1) := by decide +kernel
theorem dX10_at_5 : decode cX10_at 5 = .ok (.imul, 1) := by decide +kernel
theorem dX10_at_6 : decode cX10_at 6 = .ok (.iload_n 2, 1) := by decide +kernel
theorem dX10_at_7 : decode cX10_at 7 = .ok (.iadd, 1) := by decide +kernel
theorem dX10_at_8 : decode cX10_at 8 = .ok (.imul, 1) := by decide +kernel
theorem dX10_at_9 : decode cX10_at 9 = .ok (.ireturn, 1) := by decide +kernel
theorem dX10_sizeOf_0 : decode cX10_sizeOf 0 = .ok (.aload_n 0, 1) := by decide +kernel
theorem dX10_sizeOf_1 : decode cX10_sizeOf 1 = .ok (.getfield 22, 3) := by decide +kernel
theorem dX10_sizeOf_4 : decode cX10_sizeOf 4 = .ok (.bipush 19, 2) := by decide +kernel
theorem dX10_sizeOf_6 : decode cX10_sizeOf 6 = .ok (.iload_n 1, 1) := by decide +kernel
theorem dX10_sizeOf_7 : decode cX10_sizeOf 7 = .ok (.imul, 1) := by decide +kernel
theorem dX10_sizeOf_8 : decode cX10_sizeOf 8 = .ok (.iload_n 2, 1) := by decide +kernel
theorem dX10_sizeOf_9 : decode cX10_sizeOf 9 = .ok (.iadd, 1) := by decide +kernel
theorem dX10_sizeOf_10 : decode cX10_sizeOf 10 = .ok (.iaload, 1) := by decide +kernel
theorem dX10_sizeOf_11 : decode cX10_sizeOf 11 = .ok (.ireturn, 1) := by decide +kernel
theorem dX10_empties_0 : decode cX10_empties 0 = .ok (.aload_n 0, 1) := by decide +kernel
theorem dX10_empties_1 : decode cX10_empties 1 = .ok (.getfield 7, 3) := by decide +kernel
theorem dX10_empties_4 : decode cX10_empties 4 = .ok (.iload_n 1, 1) := by decide +kernel
theorem dX10_empties_5 : decode cX10_empties 5 = .ok (.iload_n 2, 1) := by decide +kernel
theorem dX10_empties_6 : decode cX10_empties 6 = .ok (.iastore, 1) := by decide +kernel
theorem dX10_empties_7 : decode cX10_empties 7 = .ok (.aload_n 0, 1) := by decide +kernel
theorem dX10_empties_8 : decode cX10_empties 8 = .ok (.getfield 13, 3) := by decide +kernel
theorem dX10_empties_11 : decode cX10_empties 11 = .ok (.iload_n 1, 1) := by decide +kernel
theorem dX10_empties_12 : decode cX10_empties 12 = .ok (.iload_n 3, 1) := by decide +kernel
theorem dX10_empties_13 : decode cX10_empties 13 = .ok (.iastore, 1) := by decide +kernel
theorem dX10_empties_14 : decode cX10_empties 14 = .ok (.aload_n 0, 1) := by decide +kernel
theorem dX10_empties_15 : decode cX10_empties 15 = .ok (.getfield 16, 3) := by decide +kernel
theorem dX10_empties_18 : decode cX10_empties 18 = .ok (.iload_n 1, 1) := by decide +kernel
theorem dX10_empties_19 : decode cX10_empties 19 = .ok (.iconst 0, 1) := by decide +kernel
theorem dX10_empties_20 : decode cX10_empties 20 = .ok (.iastore, 1) := by decide +kernel
theorem dX10_empties_21 : decode cX10_empties 21 = .ok (.iconst 0, 1) := by decide +kernel
theorem dX10_empties_22 : decode cX10_empties 22 = .ok (.istore 4, 2) := by decide +kernel
theorem dX10_empties_24 : decode cX10_empties 24 = .ok (.iload 4, 2) := by decide +kernel
theorem dX10_empties_26 : decode cX10_empties 26 = .ok (.iconst 3, 1) := by decide +kernel
theorem dX10_empties_27 : decode cX10_empties 27 = .ok (.if_icmp .ge 21, 3) := by decide +kernel
theorem dX10_empties_30 : decode cX10_empties 30 = .ok (.aload_n 0, 1) := by decide +kernel
theorem dX10_empties_31 : decode cX10_empties 31 = .ok (.getfield 19, 3) := by decide +kernel
theorem dX10_empties_34 : decode cX10_empties 34 = .ok (.iconst 3, 1) := by decide +kernel
theorem dX10_empties_35 : decode cX10_empties 35 = .ok (.iload_n 1, 1) := by decide +kernel
theorem dX10_empties_36 : decode cX10_empties 36 = .ok (.imul, 1) := by decide +kernel
theorem dX10_empties_37 : decode cX10_empties 37 = .ok (.iload 4, 2) := by decide +kernel
theorem dX10_empties_39 : decode cX10_empties 39 = .ok (.iadd, 1) := by decide +kernel
theorem dX10_empties_40 : decode cX10_empties 40 = .ok (.iconst 1, 1) := by decide +kernel
theorem dX10_empties_41 : decode cX10_empties 41 = .ok (.iastore, 1) := by decide +kernel
theorem dX10_empties_42 : decode cX10_empties 42 = .ok (.iinc 4 1, 3) := by decide +kernel
theorem dX10_empties_45 : decode cX10_empties 45 = .ok (.goto (-21), 3) := by decide +kernel
theorem dX10_empties_48 : decode cX10_empties 48 = .ok (.iconst 0, 1) := by decide +kernel
theorem dX10_empties_49 : decode cX10_empties 49 = .ok (.istore 4, 2) := by decide +kernel
theorem dX10_empties_51 : decode cX10_empties 51 = .ok (.iload 4, 2) := by decide +kernel
theorem dX10_empties_53 : decode cX10_empties 53 = .ok (.bipush 19, 2) := by decide +kernel
theorem dX10_empties_55 : decode cX10_empties 55 = .ok (.if_icmp .ge 36, 3) := by decide +kernel
theorem dX10_empties_58 : decode cX10_empties 58 = .ok (.aload_n 0, 1) := by decide +kernel
theorem dX10_empties_59 : decode cX10_empties 59 = .ok (.getfield 22, 3) := by decide +kernel
theorem dX10_empties_62 : decode cX10_empties 62 = .ok (.bipush 19, 2) := by decide +kernel
theorem dX10_empties_64 : decode cX10_empties 64 = .ok (.iload_n 1, 1) := by decide +kernel
theorem dX10_empties_65 : decode cX10_empties 65 = .ok (.imul, 1) := by decide +kernel
theorem dX10_empties_66 : decode cX10_empties 66 = .ok (.iload 4, 2) := by decide +kernel
theorem dX10_empties_68 : decode cX10_empties 68 = .ok (.iadd, 1) := by decide +kernel
theorem dX10_empties_69 : decode cX10_empties 69 = .ok (.iconst 1, 1) := by decide +kernel
theorem dX10_empties_70 : decode cX10_empties 70 = .ok (.iastore, 1) := by decide +kernel
theorem dX10_empties_71 : decode cX10_empties 71 = .ok (.aload_n 0, 1) := by decide +kernel
theorem dX10_empties_72 : decode cX10_empties 72 = .ok (.getfield 25, 3) := by decide +kernel
theorem dX10_empties_75 : decode cX10_empties 75 = .ok (.aload_n 0, 1) := by decide +kernel
theorem dX10_empties_76 : decode cX10_empties 76 = .ok (.iload_n 1, 1) := by decide +kernel
theorem dX10_empties_77 : decode cX10_empties 77 = .ok (.iload 4, 2) := by decide +kernel
theorem dX10_empties_79 : decode cX10_empties 79 = .ok (.invokevirtual 119, 3) := by decide +kernel
theorem dX10_empties_82 : decode cX10_empties 82 = .ok (.bipush 9, 2) := by decide +kernel
theorem dX10_empties_84 : decode cX10_empties 84 = .ok (.iastore, 1) := by decide +kernel
theorem dX10_empties_85 : decode cX10_empties 85 = .ok (.iinc 4 1, 3) := by decide +kernel
theorem dX10_empties_88 : decode cX10_empties 88 = .ok (.goto (-37), 3) := by decide +kernel
theorem dX10_empties_91 : decode cX10_empties 91 = .ok (.return_, 1) := by decide +kernel
theorem dX10_copies_0 : decode cX10_copies 0 = .ok (.aload_n 0, 1) := by decide +kernel
theorem dX10_copies_1 : decode cX10_copies 1 = .ok (.getfield 7, 3) := by decide +kernel
theorem dX10_copies_4 : decode cX10_copies 4 = .ok (.iload_n 2, 1) := by decide +kernel
theorem dX10_copies_5 : decode cX10_copies 5 = .ok (.aload_n 0, 1) := by decide +kernel
theorem dX10_copies_6 : decode cX10_copies 6 = .ok (.getfield 7, 3) := by decide +kernel
theorem dX10_copies_9 : decode cX10_copies 9 = .ok (.iload_n 1, 1) := by decide +kernel
theorem dX10_copies_10 : decode cX10_copies 10 = .ok (.iaload, 1) := by decide +kernel
theorem dX10_copies_11 : decode cX10_copies 11 = .ok (.iastore, 1) := by decide +kernel
theorem dX10_copies_12 : decode cX10_copies 12 = .ok (.aload_n 0, 1) := by decide +kernel
theorem dX10_copies_13 : decode cX10_copies 13 = .ok (.getfield 13, 3) := by decide +kernel
theorem dX10_copies_16 : decode cX10_copies 16 = .ok (.iload_n 2, 1) := by decide +kernel
theorem dX10_copies_17 : decode cX10_copies 17 = .ok (.aload_n 0, 1) := by decide +kernel
theorem dX10_copies_18 : decode cX10_copies 18 = .ok (.getfield 13, 3) := by decide +kernel
theorem dX10_copies_21 : decode cX10_copies 21 = .ok (.iload_n 1, 1) := by decide +kernel
theorem dX10_copies_22 : decode cX10_copies 22 = .ok (.iaload, 1) := by decide +kernel
theorem dX10_copies_23 : decode cX10_copies 23 = .ok (.iastore, 1) := by decide +kernel
theorem dX10_copies_24 : decode cX10_copies 24 = .ok (.aload_n 0, 1) := by decide +kernel
theorem dX10_copies_25 : decode cX10_copies 25 = .ok (.getfield 16, 3) := by decide +kernel
theorem dX10_copies_28 : decode cX10_copies 28 = .ok (.iload_n 2, 1) := by decide +kernel
theorem dX10_copies_29 : decode cX10_copies 29 = .ok (.aload_n 0, 1) := by decide +kernel
theorem dX10_copies_30 : decode cX10_copies 30 = .ok (.getfield 16, 3) := by decide +kernel
theorem dX10_copies_33 : decode cX10_copies 33 = .ok (.iload_n 1, 1) := by decide +kernel
theorem dX10_copies_34 : decode cX10_copies 34 = .ok (.iaload, 1) := by decide +kernel
theorem dX10_copies_35 : decode cX10_copies 35 = .ok (.iastore, 1) := by decide +kernel
theorem dX10_copies_36 : decode cX10_copies 36 = .ok (.iconst 0, 1) := by decide +kernel
theorem dX10_copies_37 : decode cX10_copies 37 = .ok (.istore_n 3, 1) := by decide +kernel
theorem dX10_copies_38 : decode cX10_copies 38 = .ok (.iload_n 3, 1) := by decide +kernel
theorem dX10_copies_39 : decode cX10_copies 39 = .ok (.iconst 3, 1) := by decide +kernel
theorem dX10_copies_40 : decode cX10_copies 40 = .ok (.if_icmp .ge 29, 3) := by decide +kernel
theorem dX10_copies_43 : decode cX10_copies 43 = .ok (.aload_n 0, 1) := by decide +kernel
theorem dX10_copies_44 : decode cX10_copies 44 = .ok (.getfield 19, 3) := by decide +kernel
theorem dX10_copies_47 : decode cX10_copies 47 = .ok (.iconst 3, 1) := by decide +kernel
theorem dX10_copies_48 : decode cX10_copies 48 = .ok (.iload_n 2, 1) := by decide +kernel
theorem dX10_copies_49 : decode cX10_copies 49 = .ok (.imul, 1) := by decide +kernel
theorem dX10_copies_50 : decode cX10_copies 50 = .ok (.iload_n 3, 1) := by decide +kernel
theorem dX10_copies_51 : decode cX10_copies 51 = .ok (.iadd, 1) := by decide +kernel
theorem dX10_copies_52 : decode cX10_copies 52 = .ok (.aload_n 0, 1) := by decide +kernel
theorem dX10_copies_53 : decode cX10_copies 53 = .ok (.getfield 19, 3) := by decide +kernel
theorem dX10_copies_56 : decode cX10_copies 56 = .ok (.iconst 3, 1) := by decide +kernel
theorem dX10_copies_57 : decode cX10_copies 57 = .ok (.iload_n 1, 1) := by decide +kernel
theorem dX10_copies_58 : decode cX10_copies 58 = .ok (.imul, 1) := by decide +kernel
theorem dX10_copies_59 : decode cX10_copies 59 = .ok (.iload_n 3, 1) := by decide +kernel
theorem dX10_copies_60 : decode cX10_copies 60 = .ok (.iadd, 1) := by decide +kernel
theorem dX10_copies_61 : decode cX10_copies 61 = .ok (.iaload, 1) := by decide +kernel
theorem dX10_copies_62 : decode cX10_copies 62 = .ok (.iastore, 1) := by decide +kernel
theorem dX10_copies_63 : decode cX10_copies 63 = .ok (.iinc 3 1, 3) := by decide +kernel
theorem dX10_copies_66 : decode cX10_copies 66 = .ok (.goto (-28), 3) := by decide +kernel
theorem dX10_copies_69 : decode cX10_copies 69 = .ok (.iconst 0, 1) := by decide +kernel
theorem dX10_copies_70 : decode cX10_copies 70 = .ok (.istore_n 3, 1) := by decide +kernel
theorem dX10_copies_71 : decode cX10_copies 71 = .ok (.iload_n 3, 1) := by decide +kernel
theorem dX10_copies_72 : decode cX10_copies 72 = .ok (.bipush 19, 2) := by decide +kernel
theorem dX10_copies_74 : decode cX10_copies 74 = .ok (.if_icmp .ge 31, 3) := by decide +kernel
theorem dX10_copies_77 : decode cX10_copies 77 = .ok (.aload_n 0, 1) := by decide +kernel
theorem dX10_copies_78 : decode cX10_copies 78 = .ok (.getfield 22, 3) := by decide +kernel
theorem dX10_copies_81 : decode cX10_copies 81 = .ok (.bipush 19, 2) := by decide +kernel
theorem dX10_copies_83 : decode cX10_copies 83 = .ok (.iload_n 2, 1) := by decide +kernel
theorem dX10_copies_84 : decode cX10_copies 84 = .ok (.imul, 1) := by decide +kernel
theorem dX10_copies_85 : decode cX10_copies 85 = .ok (.iload_n 3, 1) := by decide +kernel
theorem dX10_copies_86 : decode cX10_copies 86 = .ok (.iadd, 1) := by decide +kernel
theorem dX10_copies_87 : decode cX10_copies 87 = .ok (.aload_n 0, 1) := by decide +kernel
theorem dX10_copies_88 : decode cX10_copies 88 = .ok (.getfield 22, 3) := by decide +kernel
theorem dX10_copies_91 : decode cX10_copies 91 = .ok (.bipush 19, 2) := by decide +kernel
theorem dX10_copies_93 : decode cX10_copies 93 = .ok (.iload_n 1, 1) := by decide +kernel
theorem dX10_copies_94 : decode cX10_copies 94 = .ok (.imul, 1) := by decide +kernel
theorem dX10_copies_95 : decode cX10_copies 95 = .ok (.iload_n 3, 1) := by decide +kernel
theorem dX10_copies_96 : decode cX10_copies 96 = .ok (.iadd, 1) := by decide +kernel
theorem dX10_copies_97 : decode cX10_copies 97 = .ok (.iaload, 1) := by decide +kernel
theorem dX10_copies_98 : decode cX10_copies 98 = .ok (.iastore, 1) := by decide +kernel
theorem dX10_copies_99 : decode cX10_copies 99 = .ok (.iinc 3 1, 3) := by decide +kernel
theorem dX10_copies_102 : decode cX10_copies 102 = .ok (.goto (-31), 3) := by decide +kernel
theorem dX10_copies_105 : decode cX10_copies 105 = .ok (.iconst 0, 1) := by decide +kernel
theorem dX10_copies_106 : decode cX10_copies 106 = .ok (.istore_n 3, 1) := by decide +kernel
theorem dX10_copies_107 : decode cX10_copies 107 = .ok (.iload_n 3, 1) := by decide +kernel
theorem dX10_copies_108 : decode cX10_copies 108 = .ok (.sipush 760, 3) := by decide +kernel
theorem dX10_copies_111 : decode cX10_copies 111 = .ok (.if_icmp .ge 35, 3) := by decide +kernel
theorem dX10_copies_114 : decode cX10_copies 114 = .ok (.aload_n 0, 1) := by decide +kernel
theorem dX10_copies_115 : decode cX10_copies 115 = .ok (.getfield 25, 3) := by decide +kernel
theorem dX10_copies_118 : decode cX10_copies 118 = .ok (.aload_n 0, 1) := by decide +kernel
theorem dX10_copies_119 : decode cX10_copies 119 = .ok (.iload_n 2, 1) := by decide +kernel
theorem dX10_copies_120 : decode cX10_copies 120 = .ok (.iconst 0, 1) := by decide +kernel
theorem dX10_copies_121 : decode cX10_copies 121 = .ok (.invokevirtual 119, 3) := by decide +kernel
theorem dX10_copies_124 : decode cX10_copies 124 = .ok (.iload_n 3, 1) := by decide +kernel
theorem dX10_copies_125 : decode cX10_copies 125 = .ok (.iadd, 1) := by decide +kernel
theorem dX10_copies_126 : decode cX10_copies 126 = .ok (.aload_n 0, 1) := by decide +kernel
theorem dX10_copies_127 : decode cX10_copies 127 = .ok (.getfield 25, 3) := by decide +kernel
theorem dX10_copies_130 : decode cX10_copies 130 = .ok (.aload_n 0, 1) := by decide +kernel
theorem dX10_copies_131 : decode cX10_copies 131 = .ok (.iload_n 1, 1) := by decide +kernel
theorem dX10_copies_132 : decode cX10_copies 132 = .ok (.iconst 0, 1) := by decide +kernel
theorem dX10_copies_133 : decode cX10_copies 133 = .ok (.invokevirtual 119, 3) := by decide +kernel
theorem dX10_copies_136 : decode cX10_copies 136 = .ok (.iload_n 3, 1) := by decide +kernel
theorem dX10_copies_137 : decode cX10_copies 137 = .ok (.iadd, 1) := by decide +kernel
theorem dX10_copies_138 : decode cX10_copies 138 = .ok (.iaload, 1) := by decide +kernel
theorem dX10_copies_139 : decode cX10_copies 139 = .ok (.iastore, 1) := by decide +kernel
theorem dX10_copies_140 : decode cX10_copies 140 = .ok (.iinc 3 1, 3) := by decide +kernel
theorem dX10_copies_143 : decode cX10_copies 143 = .ok (.goto (-36), 3) := by decide +kernel
theorem dX10_copies_146 : decode cX10_copies 146 = .ok (.return_, 1) := by decide +kernel
theorem dX10_create_0 : decode cX10_create 0 = .ok (.iload_n 1, 1) := by decide +kernel
theorem dX10_create_1 : decode cX10_create 1 = .ok (.invokestatic 123, 3) := by decide +kernel
theorem dX10_create_4 : decode cX10_create 4 = .ok (.ifCond .eq 22, 3) := by decide +kernel
theorem dX10_create_7 : decode cX10_create 7 = .ok (.iload_n 2, 1) := by decide +kernel
theorem dX10_create_8 : decode cX10_create 8 = .ok (.iconst 1, 1) := by decide +kernel
theorem dX10_create_9 : decode cX10_create 9 = .ok (.bipush 6, 2) := by decide +kernel
theorem dX10_create_11 : decode cX10_create 11 = .ok (.invokestatic 127, 3) := by decide +kernel
theorem dX10_create_14 : decode cX10_create 14 = .ok (.ifCond .eq 12, 3) := by decide +kernel
theorem dX10_create_17 : decode cX10_create 17 = .ok (.iload_n 3, 1) := by decide +kernel
theorem dX10_create_18 : decode cX10_create 18 = .ok (.iconst 1, 1) := by decide +kernel
theorem dX10_create_19 : decode cX10_create 19 = .ok (.iconst 3, 1) := by decide +kernel
theorem dX10_create_20 : decode cX10_create 20 = .ok (.invokestatic 127, 3) := by decide +kernel
theorem dX10_create_23 : decode cX10_create 23 = .ok (.ifCond .ne 6, 3) := by decide +kernel
theorem dX10_create_26 : decode cX10_create 26 = .ok (.bipush (-2), 2) := by decide +kernel
theorem dX10_create_28 : decode cX10_create 28 = .ok (.ireturn, 1) := by decide +kernel
theorem dX10_create_29 : decode cX10_create 29 = .ok (.aload_n 0, 1) := by decide +kernel
theorem dX10_create_30 : decode cX10_create 30 = .ok (.getfield 7, 3) := by decide +kernel
theorem dX10_create_33 : decode cX10_create 33 = .ok (.iload_n 1, 1) := by decide +kernel
theorem dX10_create_34 : decode cX10_create 34 = .ok (.iaload, 1) := by decide +kernel
theorem dX10_create_35 : decode cX10_create 35 = .ok (.istore 4, 2) := by decide +kernel
theorem dX10_create_37 : decode cX10_create 37 = .ok (.aload_n 0, 1) := by decide +kernel
theorem dX10_create_38 : decode cX10_create 38 = .ok (.iload_n 1, 1) := by decide +kernel
theorem dX10_create_39 : decode cX10_create 39 = .ok (.iload_n 2, 1) := by decide +kernel
theorem dX10_create_40 : decode cX10_create 40 = .ok (.iload_n 3, 1) := by decide +kernel
theorem dX10_create_41 : decode cX10_create 41 = .ok (.invokevirtual 111, 3) := by decide +kernel
theorem dX10_create_44 : decode cX10_create 44 = .ok (.iload 4, 2) := by decide +kernel
theorem dX10_create_46 : decode cX10_create 46 = .ok (.ireturn, 1) := by decide +kernel
theorem dX10_setFinal_0 : decode cX10_setFinal 0 = .ok (.iload_n 1, 1) := by decide +kernel
theorem dX10_setFinal_1 : decode cX10_setFinal 1 = .ok (.invokestatic 123, 3) := by decide +kernel
theorem dX10_setFinal_4 : decode cX10_setFinal 4 = .ok (.ifCond .eq 21, 3) := by decide +kernel
theorem dX10_setFinal_7 : decode cX10_setFinal 7 = .ok (.aload_n 0, 1) := by decide +kernel
theorem dX10_setFinal_8 : decode cX10_setFinal 8 = .ok (.iload_n 1, 1) := by decide +kernel
theorem dX10_setFinal_9 : decode cX10_setFinal 9 = .ok (.iload_n 2, 1) := by decide +kernel
theorem dX10_setFinal_10 : decode cX10_setFinal 10 = .ok (.invokevirtual 131, 3) := by decide +kernel
theorem dX10_setFinal_13 : decode cX10_setFinal 13 = .ok (.ifCond .eq 12, 3) := by decide +kernel
theorem dX10_setFinal_16 : decode cX10_setFinal 16 = .ok (.iload_n 3, 1) := by decide +kernel
theorem dX10_setFinal_17 : decode cX10_setFinal 17 = .ok (.iconst 0, 1) := by decide +kernel
theorem dX10_setFinal_18 : decode cX10_setFinal 18 = .ok (.iconst 1, 1) := by decide +kernel
theorem dX10_setFinal_19 : decode cX10_setFinal 19 = .ok (.invokestatic 127, 3) := by decide +kernel
theorem dX10_setFinal_22 : decode cX10_setFinal 22 = .ok (.ifCond .ne 6, 3) := by decide +kernel
theorem dX10_setFinal_25 : decode cX10_setFinal 25 = .ok (.bipush (-2), 2) := by decide +kernel
theorem dX10_setFinal_27 : decode cX10_setFinal 27 = .ok (.ireturn, 1) := by decide +kernel
theorem dX10_setFinal_28 : decode cX10_setFinal 28 = .ok (.aload_n 0, 1) := by decide +kernel
theorem dX10_setFinal_29 : decode cX10_setFinal 29 = .ok (.getfield 16, 3) := by decide +kernel
theorem dX10_setFinal_32 : decode cX10_setFinal 32 = .ok (.iload_n 1, 1) := by decide +kernel
theorem dX10_setFinal_33 : decode cX10_setFinal 33 = .ok (.aload_n 0, 1) := by decide +kernel
theorem dX10_setFinal_34 : decode cX10_setFinal 34 = .ok (.getfield 16, 3) := by decide +kernel
theorem dX10_setFinal_37 : decode cX10_setFinal 37 = .ok (.iload_n 1, 1) := by decide +kernel
theorem dX10_setFinal_38 : decode cX10_setFinal 38 = .ok (.iaload, 1) := by decide +kernel
theorem dX10_setFinal_39 : decode cX10_setFinal 39 = .ok (.iconst 1, 1) := by decide +kernel
theorem dX10_setFinal_40 : decode cX10_setFinal 40 = .ok (.iload_n 2, 1) := by decide +kernel
theorem dX10_setFinal_41 : decode cX10_setFinal 41 = .ok (.ishl, 1) := by decide +kernel
theorem dX10_setFinal_42 : decode cX10_setFinal 42 = .ok (.iconst (-1), 1) := by decide +kernel
theorem dX10_setFinal_43 : decode cX10_setFinal 43 = .ok (.ixor, 1) := by decide +kernel
theorem dX10_setFinal_44 : decode cX10_setFinal 44 = .ok (.iand, 1) := by decide +kernel
theorem dX10_setFinal_45 : decode cX10_setFinal 45 = .ok (.iload_n 3, 1) := by decide +kernel
theorem dX10_setFinal_46 : decode cX10_setFinal 46 = .ok (.iload_n 2, 1) := by decide +kernel
theorem dX10_setFinal_47 : decode cX10_setFinal 47 = .ok (.ishl, 1) := by decide +kernel
theorem dX10_setFinal_48 : decode cX10_setFinal 48 = .ok (.ior, 1) := by decide +kernel
theorem dX10_setFinal_49 : decode cX10_setFinal 49 = .ok (.iastore, 1) := by decide +kernel
theorem dX10_setFinal_50 : decode cX10_setFinal 50 = .ok (.aload_n 0, 1) := by decide +kernel
theorem dX10_setFinal_51 : decode cX10_setFinal 51 = .ok (.getfield 16, 3) := by decide +kernel
theorem dX10_setFinal_54 : decode cX10_setFinal 54 = .ok (.iload_n 1, 1) := by decide +kernel
theorem dX10_setFinal_55 : decode cX10_setFinal 55 = .ok (.iaload, 1) := by decide +kernel
theorem dX10_setFinal_56 : decode cX10_setFinal 56 = .ok (.ireturn, 1) := by decide +kernel
theorem dX10_setWeight_0 : decode cX10_setWeight 0 = .ok (.iload_n 1, 1) := by decide +kernel
theorem dX10_setWeight_1 : decode cX10_setWeight 1 = .ok (.invokestatic 123, 3) := by decide +kernel
theorem dX10_setWeight_4 : decode cX10_setWeight 4 = .ok (.ifCond .eq 22, 3) := by decide +kernel
theorem dX10_setWeight_7 : decode cX10_setWeight 7 = .ok (.aload_n 0, 1) := by decide +kernel
theorem dX10_setWeight_8 : decode cX10_setWeight 8 = .ok (.iload_n 1, 1) := by decide +kernel
theorem dX10_setWeight_9 : decode cX10_setWeight 9 = .ok (.iload_n 2, 1) := by decide +kernel
theorem dX10_setWeight_10 : decode cX10_setWeight 10 = .ok (.invokevirtual 135, 3) := by decide +kernel
theorem dX10_setWeight_13 : decode cX10_setWeight 13 = .ok (.ifCond .eq 13, 3) := by decide +kernel
theorem dX10_setWeight_16 : decode cX10_setWeight 16 = .ok (.iload_n 3, 1) := by decide +kernel
theorem dX10_setWeight_17 : decode cX10_setWeight 17 = .ok (.iconst 1, 1) := by decide +kernel
theorem dX10_setWeight_18 : decode cX10_setWeight 18 = .ok (.bipush 9, 2) := by decide +kernel
theorem dX10_setWeight_20 : decode cX10_setWeight 20 = .ok (.invokestatic 127, 3) := by decide +kernel
theorem dX10_setWeight_23 : decode cX10_setWeight 23 = .ok (.ifCond .ne 6, 3) := by decide +kernel
theorem dX10_setWeight_26 : decode cX10_setWeight 26 = .ok (.bipush (-2), 2) := by decide +kernel
theorem dX10_setWeight_28 : decode cX10_setWeight 28 = .ok (.ireturn, 1) := by decide +kernel
theorem dX10_setWeight_29 : decode cX10_setWeight 29 = .ok (.aload_n 0, 1) := by decide +kernel
theorem dX10_setWeight_30 : decode cX10_setWeight 30 = .ok (.getfield 19, 3) := by decide +kernel
theorem dX10_setWeight_33 : decode cX10_setWeight 33 = .ok (.iconst 3, 1) := by decide +kernel
theorem dX10_setWeight_34 : decode cX10_setWeight 34 = .ok (.iload_n 1, 1) := by decide +kernel
theorem dX10_setWeight_35 : decode cX10_setWeight 35 = .ok (.imul, 1) := by decide +kernel
theorem dX10_setWeight_36 : decode cX10_setWeight 36 = .ok (.iload_n 2, 1) := by decide +kernel
theorem dX10_setWeight_37 : decode cX10_setWeight 37 = .ok (.iadd, 1) := by decide +kernel
theorem dX10_setWeight_38 : decode cX10_setWeight 38 = .ok (.iaload, 1) := by decide +kernel
theorem dX10_setWeight_39 : decode cX10_setWeight 39 = .ok (.istore 4, 2) := by decide +kernel
theorem dX10_setWeight_41 : decode cX10_setWeight 41 = .ok (.aload_n 0, 1) := by decide +kernel
theorem dX10_setWeight_42 : decode cX10_setWeight 42 = .ok (.getfield 19, 3) := by decide +kernel
theorem dX10_setWeight_45 : decode cX10_setWeight 45 = .ok (.iconst 3, 1) := by decide +kernel
theorem dX10_setWeight_46 : decode cX10_setWeight 46 = .ok (.iload_n 1, 1) := by decide +kernel
theorem dX10_setWeight_47 : decode cX10_setWeight 47 = .ok (.imul, 1) := by decide +kernel
theorem dX10_setWeight_48 : decode cX10_setWeight 48 = .ok (.iload_n 2, 1) := by decide +kernel
theorem dX10_setWeight_49 : decode cX10_setWeight 49 = .ok (.iadd, 1) := by decide +kernel
theorem dX10_setWeight_50 : decode cX10_setWeight 50 = .ok (.iload_n 3, 1) := by decide +kernel
theorem dX10_setWeight_51 : decode cX10_setWeight 51 = .ok (.iastore, 1) := by decide +kernel
theorem dX10_setWeight_52 : decode cX10_setWeight 52 = .ok (.iload 4, 2) := by decide +kernel
theorem dX10_setWeight_54 : decode cX10_setWeight 54 = .ok (.ireturn, 1) := by decide +kernel
theorem dX10_property_0 : decode cX10_property 0 = .ok (.iload_n 1, 1) := by decide +kernel
theorem dX10_property_1 : decode cX10_property 1 = .ok (.invokestatic 123, 3) := by decide +kernel
theorem dX10_property_4 : decode cX10_property 4 = .ok (.ifCond .eq 12, 3) := by decide +kernel
theorem dX10_property_7 : decode cX10_property 7 = .ok (.iload_n 2, 1) := by decide +kernel
theorem dX10_property_8 : decode cX10_property 8 = .ok (.iconst 0, 1) := by decide +kernel
theorem dX10_property_9 : decode cX10_property 9 = .ok (.iconst 5, 1) := by decide +kernel
theorem dX10_property_10 : decode cX10_property 10 = .ok (.invokestatic 127, 3) := by decide +kernel
theorem dX10_property_13 : decode cX10_property 13 = .ok (.ifCond .ne 6, 3) := by decide +kernel
theorem dX10_property_16 : decode cX10_property 16 = .ok (.bipush (-2), 2) := by decide +kernel
theorem dX10_property_18 : decode cX10_property 18 = .ok (.ireturn, 1) := by decide +kernel
theorem dX10_property_19 : decode cX10_property 19 = .ok (.iload_n 2, 1) := by decide +kernel
theorem dX10_property_20 : decode cX10_property 20 = .ok (.ifCond .ne 10, 3) := by decide +kernel
theorem dX10_property_23 : decode cX10_property 23 = .ok (.aload_n 0, 1) := by decide +kernel
theorem dX10_property_24 : decode cX10_property 24 = .ok (.getfield 7, 3) := by decide +kernel
theorem dX10_property_27 : decode cX10_property 27 = .ok (.iload_n 1, 1) := by decide +kernel
theorem dX10_property_28 : decode cX10_property 28 = .ok (.iaload, 1) := by decide +kernel
theorem dX10_property_29 : decode cX10_property 29 = .ok (.ireturn, 1) := by decide +kernel
theorem dX10_property_30 : decode cX10_property 30 = .ok (.iload_n 2, 1) := by decide +kernel
theorem dX10_property_31 : decode cX10_property 31 = .ok (.iconst 1, 1) := by decide +kernel
theorem dX10_property_32 : decode cX10_property 32 = .ok (.if_icmp .ne 10, 3) := by decide +kernel
theorem dX10_property_35 : decode cX10_property 35 = .ok (.aload_n 0, 1) := by decide +kernel
theorem dX10_property_36 : decode cX10_property 36 = .ok (.getfield 13, 3) := by decide +kernel
theorem dX10_property_39 : decode cX10_property 39 = .ok (.iload_n 1, 1) := by decide +kernel
theorem dX10_property_40 : decode cX10_property 40 = .ok (.iaload, 1) := by decide +kernel
theorem dX10_property_41 : decode cX10_property 41 = .ok (.ireturn, 1) := by decide +kernel
theorem dX10_property_42 : decode cX10_property 42 = .ok (.iload_n 2, 1) := by decide +kernel
theorem dX10_property_43 : decode cX10_property 43 = .ok (.iconst 2, 1) := by decide +kernel
theorem dX10_property_44 : decode cX10_property 44 = .ok (.if_icmp .ne 10, 3) := by decide +kernel
theorem dX10_property_47 : decode cX10_property 47 = .ok (.aload_n 0, 1) := by decide +kernel
theorem dX10_property_48 : decode cX10_property 48 = .ok (.getfield 16, 3) := by decide +kernel
theorem dX10_property_51 : decode cX10_property 51 = .ok (.iload_n 1, 1) := by decide +kernel
theorem dX10_property_52 : decode cX10_property 52 = .ok (.iaload, 1) := by decide +kernel
theorem dX10_property_53 : decode cX10_property 53 = .ok (.ireturn, 1) := by decide +kernel
theorem dX10_property_54 : decode cX10_property 54 = .ok (.aload_n 0, 1) := by decide +kernel
theorem dX10_property_55 : decode cX10_property 55 = .ok (.iload_n 1, 1) := by decide +kernel
theorem dX10_property_56 : decode cX10_property 56 = .ok (.iload_n 2, 1) := by decide +kernel
theorem dX10_property_57 : decode cX10_property 57 = .ok (.iconst 3, 1) := by decide +kernel
theorem dX10_property_58 : decode cX10_property 58 = .ok (.isub, 1) := by decide +kernel
theorem dX10_property_59 : decode cX10_property 59 = .ok (.invokevirtual 135, 3) := by decide +kernel
theorem dX10_property_62 : decode cX10_property 62 = .ok (.ifCond .eq 18, 3) := by decide +kernel
theorem dX10_property_65 : decode cX10_property 65 = .ok (.aload_n 0, 1) := by decide +kernel
theorem dX10_property_66 : decode cX10_property 66 = .ok (.getfield 19, 3) := by decide +kernel
theorem dX10_property_69 : decode cX10_property 69 = .ok (.iconst 3, 1) := by decide +kernel
theorem dX10_property_70 : decode cX10_property 70 = .ok (.iload_n 1, 1) := by decide +kernel
theorem dX10_property_71 : decode cX10_property 71 = .ok (.imul, 1) := by decide +kernel
theorem dX10_property_72 : decode cX10_property 72 = .ok (.iload_n 2, 1) := by decide +kernel
theorem dX10_property_73 : decode cX10_property 73 = .ok (.iadd, 1) := by decide +kernel
theorem dX10_property_74 : decode cX10_property 74 = .ok (.iconst 3, 1) := by decide +kernel
theorem dX10_property_75 : decode cX10_property 75 = .ok (.isub, 1) := by decide +kernel
theorem dX10_property_76 : decode cX10_property 76 = .ok (.iaload, 1) := by decide +kernel
theorem dX10_property_77 : decode cX10_property 77 = .ok (.goto 4, 3) := by decide +kernel
theorem dX10_property_80 : decode cX10_property 80 = .ok (.iconst (-1), 1) := by decide +kernel
theorem dX10_property_81 : decode cX10_property 81 = .ok (.ireturn, 1) := by decide +kernel
theorem dX10_append_0 : decode cX10_append 0 = .ok (.iload_n 1, 1) := by decide +kernel
theorem dX10_append_1 : decode cX10_append 1 = .ok (.iconst 0, 1) := by decide +kernel
theorem dX10_append_2 : decode cX10_append 2 = .ok (.bipush 127, 2) := by decide +kernel
theorem dX10_append_4 : decode cX10_append 4 = .ok (.invokestatic 127, 3) := by decide +kernel
theorem dX10_append_7 : decode cX10_append 7 = .ok (.ifCond .eq 13, 3) := by decide +kernel
theorem dX10_append_10 : decode cX10_append 10 = .ok (.iload_n 2, 1) := by decide +kernel
theorem dX10_append_11 : decode cX10_append 11 = .ok (.iconst 1, 1) := by decide +kernel
theorem dX10_append_12 : decode cX10_append 12 = .ok (.bipush 60, 2) := by decide +kernel
theorem dX10_append_14 : decode cX10_append 14 = .ok (.invokestatic 127, 3) := by decide +kernel
theorem dX10_append_17 : decode cX10_append 17 = .ok (.ifCond .ne 6, 3) := by decide +kernel
theorem dX10_append_20 : decode cX10_append 20 = .ok (.bipush (-2), 2) := by decide +kernel
theorem dX10_append_22 : decode cX10_append 22 = .ok (.ireturn, 1) := by decide +kernel
theorem dX10_append_23 : decode cX10_append 23 = .ok (.aload_n 0, 1) := by decide +kernel
theorem dX10_append_24 : decode cX10_append 24 = .ok (.getfield 138, 3) := by decide +kernel
theorem dX10_append_27 : decode cX10_append 27 = .ok (.iload_n 2, 1) := by decide +kernel
theorem dX10_append_28 : decode cX10_append 28 = .ok (.iadd, 1) := by decide +kernel
theorem dX10_append_29 : decode cX10_append 29 = .ok (.bipush 60, 2) := by decide +kernel
theorem dX10_append_31 : decode cX10_append 31 = .ok (.if_icmp .le 6, 3) := by decide +kernel
theorem dX10_append_34 : decode cX10_append 34 = .ok (.bipush (-3), 2) := by decide +kernel
theorem dX10_append_36 : decode cX10_append 36 = .ok (.ireturn, 1) := by decide +kernel
theorem dX10_append_37 : decode cX10_append 37 = .ok (.iconst 0, 1) := by decide +kernel
theorem dX10_append_38 : decode cX10_append 38 = .ok (.istore_n 3, 1) := by decide +kernel
theorem dX10_append_39 : decode cX10_append 39 = .ok (.iload_n 3, 1) := by decide +kernel
theorem dX10_append_40 : decode cX10_append 40 = .ok (.iload_n 2, 1) := by decide +kernel
theorem dX10_append_41 : decode cX10_append 41 = .ok (.if_icmp .ge 21, 3) := by decide +kernel
theorem dX10_append_44 : decode cX10_append 44 = .ok (.aload_n 0, 1) := by decide +kernel
theorem dX10_append_45 : decode cX10_append 45 = .ok (.getfield 28, 3) := by decide +kernel
theorem dX10_append_48 : decode cX10_append 48 = .ok (.aload_n 0, 1) := by decide +kernel
theorem dX10_append_49 : decode cX10_append 49 = .ok (.getfield 138, 3) := by decide +kernel
theorem dX10_append_52 : decode cX10_append 52 = .ok (.iload_n 3, 1) := by decide +kernel
theorem dX10_append_53 : decode cX10_append 53 = .ok (.iadd, 1) := by decide +kernel
theorem dX10_append_54 : decode cX10_append 54 = .ok (.iload_n 1, 1) := by decide +kernel
theorem dX10_append_55 : decode cX10_append 55 = .ok (.iastore, 1) := by decide +kernel
theorem dX10_append_56 : decode cX10_append 56 = .ok (.iinc 3 1, 3) := by decide +kernel
theorem dX10_append_59 : decode cX10_append 59 = .ok (.goto (-20), 3) := by decide +kernel
theorem dX10_append_62 : decode cX10_append 62 = .ok (.aload_n 0, 1) := by decide +kernel
theorem dX10_append_63 : decode cX10_append 63 = .ok (.dup, 1) := by decide +kernel
theorem dX10_append_64 : decode cX10_append 64 = .ok (.getfield 138, 3) := by decide +kernel
theorem dX10_append_67 : decode cX10_append 67 = .ok (.iload_n 2, 1) := by decide +kernel
theorem dX10_append_68 : decode cX10_append 68 = .ok (.iadd, 1) := by decide +kernel
theorem dX10_append_69 : decode cX10_append 69 = .ok (.putfield 138, 3) := by decide +kernel
theorem dX10_append_72 : decode cX10_append 72 = .ok (.aload_n 0, 1) := by decide +kernel
theorem dX10_append_73 : decode cX10_append 73 = .ok (.getfield 138, 3) := by decide +kernel
theorem dX10_append_76 : decode cX10_append 76 = .ok (.ireturn, 1) := by decide +kernel
theorem dX10_next_0 : decode cX10_next 0 = .ok (.aload_n 0, 1) := by decide +kernel
theorem dX10_next_1 : decode cX10_next 1 = .ok (.getfield 142, 3) := by decide +kernel
theorem dX10_next_4 : decode cX10_next 4 = .ok (.aload_n 0, 1) := by decide +kernel
theorem dX10_next_5 : decode cX10_next 5 = .ok (.getfield 138, 3) := by decide +kernel
theorem dX10_next_8 : decode cX10_next 8 = .ok (.if_icmp .ge 15, 3) := by decide +kernel
theorem dX10_next_11 : decode cX10_next 11 = .ok (.aload_n 0, 1) := by decide +kernel
theorem dX10_next_12 : decode cX10_next 12 = .ok (.getfield 28, 3) := by decide +kernel
theorem dX10_next_15 : decode cX10_next 15 = .ok (.aload_n 0, 1) := by decide +kernel
theorem dX10_next_16 : decode cX10_next 16 = .ok (.getfield 142, 3) := by decide +kernel
theorem dX10_next_19 : decode cX10_next 19 = .ok (.iaload, 1) := by decide +kernel
theorem dX10_next_20 : decode cX10_next 20 = .ok (.goto 4, 3) := by decide +kernel
theorem dX10_next_23 : decode cX10_next 23 = .ok (.iconst (-1), 1) := by decide +kernel
theorem dX10_next_24 : decode cX10_next 24 = .ok (.ireturn, 1) := by decide +kernel
theorem dX10_makes_0 : decode cX10_makes 0 = .ok (.aload_n 0, 1) := by decide +kernel
theorem dX10_makes_1 : decode cX10_makes 1 = .ok (.getfield 31, 3) := by decide +kernel
theorem dX10_makes_4 : decode cX10_makes 4 = .ok (.aload_n 0, 1) := by decide +kernel
theorem dX10_makes_5 : decode cX10_makes 5 = .ok (.getfield 144, 3) := by decide +kernel
theorem dX10_makes_8 : decode cX10_makes 8 = .ok (.iload_n 1, 1) := by decide +kernel
theorem dX10_makes_9 : decode cX10_makes 9 = .ok (.iastore, 1) := by decide +kernel
theorem dX10_makes_10 : decode cX10_makes 10 = .ok (.aload_n 0, 1) := by decide +kernel
theorem dX10_makes_11 : decode cX10_makes 11 = .ok (.dup, 1) := by decide +kernel
theorem dX10_makes_12 : decode cX10_makes 12 = .ok (.getfield 144, 3) := by decide +kernel
theorem dX10_makes_15 : decode cX10_makes 15 = .ok (.iconst 1, 1) := by decide +kernel
theorem dX10_makes_16 : decode cX10_makes 16 = .ok (.iadd, 1) := by decide +kernel
theorem dX10_makes_17 : decode cX10_makes 17 = .ok (.putfield 144, 3) := by decide +kernel
theorem dX10_makes_20 : decode cX10_makes 20 = .ok (.return_, 1) := by decide +kernel
theorem dX10_makesFrom_0 : decode cX10_makesFrom 0 = .ok (.aload_n 0, 1) := by decide +kernel
theorem dX10_makesFrom_1 : decode cX10_makesFrom 1 = .ok (.getfield 147, 3) := by decide +kernel
theorem dX10_makesFrom_4 : decode cX10_makesFrom 4 = .ok (.ifCond .le 44, 3) := by decide +kernel
theorem dX10_makesFrom_7 : decode cX10_makesFrom 7 = .ok (.aload_n 0, 1) := by decide +kernel
theorem dX10_makesFrom_8 : decode cX10_makesFrom 8 = .ok (.getfield 34, 3) := by decide +kernel
theorem dX10_makesFrom_11 : decode cX10_makesFrom 11 = .ok (.aload_n 0, 1) := by decide +kernel
theorem dX10_makesFrom_12 : decode cX10_makesFrom 12 = .ok (.getfield 147, 3) := by decide +kernel
theorem dX10_makesFrom_15 : decode cX10_makesFrom 15 = .ok (.iconst 1, 1) := by decide +kernel
theorem dX10_makesFrom_16 : decode cX10_makesFrom 16 = .ok (.isub, 1) := by decide +kernel
theorem dX10_makesFrom_17 : decode cX10_makesFrom 17 = .ok (.iaload, 1) := by decide +kernel
theorem dX10_makesFrom_18 : decode cX10_makesFrom 18 = .ok (.iload_n 1, 1) := by decide +kernel
theorem dX10_makesFrom_19 : decode cX10_makesFrom 19 = .ok (.if_icmp .gt 29, 3) := by decide +kernel
theorem dX10_makesFrom_22 : decode cX10_makesFrom 22 = .ok (.aload_n 0, 1) := by decide +kernel
theorem dX10_makesFrom_23 : decode cX10_makesFrom 23 = .ok (.dup, 1) := by decide +kernel
theorem dX10_makesFrom_24 : decode cX10_makesFrom 24 = .ok (.getfield 147, 3) := by decide +kernel
theorem dX10_makesFrom_27 : decode cX10_makesFrom 27 = .ok (.iconst 1, 1) := by decide +kernel
theorem dX10_makesFrom_28 : decode cX10_makesFrom 28 = .ok (.isub, 1) := by decide +kernel
theorem dX10_makesFrom_29 : decode cX10_makesFrom 29 = .ok (.putfield 147, 3) := by decide +kernel
theorem dX10_makesFrom_32 : decode cX10_makesFrom 32 = .ok (.aload_n 0, 1) := by decide +kernel
theorem dX10_makesFrom_33 : decode cX10_makesFrom 33 = .ok (.aload_n 0, 1) := by decide +kernel
theorem dX10_makesFrom_34 : decode cX10_makesFrom 34 = .ok (.getfield 34, 3) := by decide +kernel
theorem dX10_makesFrom_37 : decode cX10_makesFrom 37 = .ok (.aload_n 0, 1) := by decide +kernel
theorem dX10_makesFrom_38 : decode cX10_makesFrom 38 = .ok (.getfield 147, 3) := by decide +kernel
theorem dX10_makesFrom_41 : decode cX10_makesFrom 41 = .ok (.iaload, 1) := by decide +kernel
theorem dX10_makesFrom_42 : decode cX10_makesFrom 42 = .ok (.invokevirtual 150, 3) := by decide +kernel
theorem dX10_makesFrom_45 : decode cX10_makesFrom 45 = .ok (.goto (-45), 3) := by decide +kernel
theorem dX10_makesFrom_48 : decode cX10_makesFrom 48 = .ok (.return_, 1) := by decide +kernel
theorem dX10_takesFactor_0 : decode cX10_takesFactor 0 = .ok (.aload_n 0, 1) := by decide +kernel
theorem dX10_takesFactor_1 : decode cX10_takesFactor 1 = .ok (.invokevirtual 154, 3) := by decide +kernel
theorem dX10_takesFactor_4 : decode cX10_takesFactor 4 = .ok (.bipush 40, 2) := by decide +kernel
theorem dX10_takesFactor_6 : decode cX10_takesFactor 6 = .ok (.if_icmp .ne 47, 3) := by decide +kernel
theorem dX10_takesFactor_9 : decode cX10_takesFactor 9 = .ok (.aload_n 0, 1) := by decide +kernel
theorem dX10_takesFactor_10 : decode cX10_takesFactor 10 = .ok (.getfield 34, 3) := by decide +kernel
theorem dX10_takesFactor_13 : decode cX10_takesFactor 13 = .ok (.aload_n 0, 1) := by decide +kernel
theorem dX10_takesFactor_14 : decode cX10_takesFactor 14 = .ok (.getfield 147, 3) := by decide +kernel
theorem dX10_takesFactor_17 : decode cX10_takesFactor 17 = .ok (.bipush 99, 2) := by decide +kernel
theorem dX10_takesFactor_19 : decode cX10_takesFactor 19 = .ok (.iastore, 1) := by decide +kernel
theorem dX10_takesFactor_20 : decode cX10_takesFactor 20 = .ok (.aload_n 0, 1) := by decide +kernel
theorem dX10_takesFactor_21 : decode cX10_takesFactor 21 = .ok (.dup, 1) := by decide +kernel
theorem dX10_takesFactor_22 : decode cX10_takesFactor 22 = .ok (.getfield 147, 3) := by decide +kernel
theorem dX10_takesFactor_25 : decode cX10_takesFactor 25 = .ok (.iconst 1, 1) := by decide +kernel
theorem dX10_takesFactor_26 : decode cX10_takesFactor 26 = .ok (.iadd, 1) := by decide +kernel
theorem dX10_takesFactor_27 : decode cX10_takesFactor 27 = .ok (.putfield 147, 3) := by decide +kernel
theorem dX10_takesFactor_30 : decode cX10_takesFactor 30 = .ok (.aload_n 0, 1) := by decide +kernel
theorem dX10_takesFactor_31 : decode cX10_takesFactor 31 = .ok (.dup, 1) := by decide +kernel
theorem dX10_takesFactor_32 : decode cX10_takesFactor 32 = .ok (.getfield 158, 3) := by decide +kernel
theorem dX10_takesFactor_35 : decode cX10_takesFactor 35 = .ok (.iconst 1, 1) := by decide +kernel
theorem dX10_takesFactor_36 : decode cX10_takesFactor 36 = .ok (.iadd, 1) := by decide +kernel
theorem dX10_takesFactor_37 : decode cX10_takesFactor 37 = .ok (.putfield 158, 3) := by decide +kernel
theorem dX10_takesFactor_40 : decode cX10_takesFactor 40 = .ok (.aload_n 0, 1) := by decide +kernel
theorem dX10_takesFactor_41 : decode cX10_takesFactor 41 = .ok (.dup, 1) := by decide +kernel
theorem dX10_takesFactor_42 : decode cX10_takesFactor 42 = .ok (.getfield 142, 3) := by decide +kernel
theorem dX10_takesFactor_45 : decode cX10_takesFactor 45 = .ok (.iconst 1, 1) := by decide +kernel
theorem dX10_takesFactor_46 : decode cX10_takesFactor 46 = .ok (.iadd, 1) := by decide +kernel
theorem dX10_takesFactor_47 : decode cX10_takesFactor 47 = .ok (.putfield 142, 3) := by decide +kernel
theorem dX10_takesFactor_50 : decode cX10_takesFactor 50 = .ok (.goto (-50), 3) := by decide +kernel
theorem dX10_takesFactor_53 : decode cX10_takesFactor 53 = .ok (.aload_n 0, 1) := by decide +kernel
theorem dX10_takesFactor_54 : decode cX10_takesFactor 54 = .ok (.invokevirtual 154, 3) := by decide +kernel
theorem dX10_takesFactor_57 : decode cX10_takesFactor 57 = .ok (.bipush 116, 2) := by decide +kernel
theorem dX10_takesFactor_59 : decode cX10_takesFactor 59 = .ok (.if_icmp .ne 8, 3) := by decide +kernel
theorem dX10_takesFactor_62 : decode cX10_takesFactor 62 = .ok (.bipush 8, 2) := by decide +kernel
theorem dX10_takesFactor_64 : decode cX10_takesFactor 64 = .ok (.goto 57, 3) := by decide +kernel
theorem dX10_takesFactor_67 : decode cX10_takesFactor 67 = .ok (.aload_n 0, 1) := by decide +kernel
theorem dX10_takesFactor_68 : decode cX10_takesFactor 68 = .ok (.invokevirtual 154, 3) := by decide +kernel
theorem dX10_takesFactor_71 : decode cX10_takesFactor 71 = .ok (.bipush 102, 2) := by decide +kernel
theorem dX10_takesFactor_73 : decode cX10_takesFactor 73 = .ok (.if_icmp .ne 8, 3) := by decide +kernel
theorem dX10_takesFactor_76 : decode cX10_takesFactor 76 = .ok (.bipush 9, 2) := by decide +kernel
theorem dX10_takesFactor_78 : decode cX10_takesFactor 78 = .ok (.goto 43, 3) := by decide +kernel
theorem dX10_takesFactor_81 : decode cX10_takesFactor 81 = .ok (.aload_n 0, 1) := by decide +kernel
theorem dX10_takesFactor_82 : decode cX10_takesFactor 82 = .ok (.invokevirtual 154, 3) := by decide +kernel
theorem dX10_takesFactor_85 : decode cX10_takesFactor 85 = .ok (.bipush 48, 2) := by decide +kernel
theorem dX10_takesFactor_87 : decode cX10_takesFactor 87 = .ok (.bipush 57, 2) := by decide +kernel
theorem dX10_takesFactor_89 : decode cX10_takesFactor 89 = .ok (.invokestatic 127, 3) := by decide +kernel
theorem dX10_takesFactor_92 : decode cX10_takesFactor 92 = .ok (.ifCond .eq 28, 3) := by decide +kernel
theorem dX10_takesFactor_95 : decode cX10_takesFactor 95 = .ok (.aload_n 0, 1) := by decide +kernel
theorem dX10_takesFactor_96 : decode cX10_takesFactor 96 = .ok (.iload_n 1, 1) := by decide +kernel
theorem dX10_takesFactor_97 : decode cX10_takesFactor 97 = .ok (.aload_n 0, 1) := by decide +kernel
theorem dX10_takesFactor_98 : decode cX10_takesFactor 98 = .ok (.invokevirtual 154, 3) := by decide +kernel
theorem dX10_takesFactor_101 : decode cX10_takesFactor 101 = .ok (.bipush 48, 2) := by decide +kernel
theorem dX10_takesFactor_103 : decode cX10_takesFactor 103 = .ok (.isub, 1) := by decide +kernel
theorem dX10_takesFactor_104 : decode cX10_takesFactor 104 = .ok (.invokevirtual 131, 3) := by decide +kernel
theorem dX10_takesFactor_107 : decode cX10_takesFactor 107 = .ok (.ifCond .eq 13, 3) := by decide +kernel
theorem dX10_takesFactor_110 : decode cX10_takesFactor 110 = .ok (.aload_n 0, 1) := by decide +kernel
theorem dX10_takesFactor_111 : decode cX10_takesFactor 111 = .ok (.invokevirtual 154, 3) := by decide +kernel
theorem dX10_takesFactor_114 : decode cX10_takesFactor 114 = .ok (.bipush 48, 2) := by decide +kernel
theorem dX10_takesFactor_116 : decode cX10_takesFactor 116 = .ok (.isub, 1) := by decide +kernel
theorem dX10_takesFactor_117 : decode cX10_takesFactor 117 = .ok (.goto 4, 3) := by decide +kernel
theorem dX10_takesFactor_120 : decode cX10_takesFactor 120 = .ok (.iconst (-1), 1) := by decide +kernel
theorem dX10_takesFactor_121 : decode cX10_takesFactor 121 = .ok (.istore_n 2, 1) := by decide +kernel
theorem dX10_takesFactor_122 : decode cX10_takesFactor 122 = .ok (.iload_n 2, 1) := by decide +kernel
theorem dX10_takesFactor_123 : decode cX10_takesFactor 123 = .ok (.ifCond .ge 5, 3) := by decide +kernel
theorem dX10_takesFactor_126 : decode cX10_takesFactor 126 = .ok (.iconst 0, 1) := by decide +kernel
theorem dX10_takesFactor_127 : decode cX10_takesFactor 127 = .ok (.ireturn, 1) := by decide +kernel
theorem dX10_takesFactor_128 : decode cX10_takesFactor 128 = .ok (.aload_n 0, 1) := by decide +kernel
theorem dX10_takesFactor_129 : decode cX10_takesFactor 129 = .ok (.iload_n 2, 1) := by decide +kernel
theorem dX10_takesFactor_130 : decode cX10_takesFactor 130 = .ok (.invokevirtual 150, 3) := by decide +kernel
theorem dX10_takesFactor_133 : decode cX10_takesFactor 133 = .ok (.aload_n 0, 1) := by decide +kernel
theorem dX10_takesFactor_134 : decode cX10_takesFactor 134 = .ok (.dup, 1) := by decide +kernel
theorem dX10_takesFactor_135 : decode cX10_takesFactor 135 = .ok (.getfield 142, 3) := by decide +kernel
theorem dX10_takesFactor_138 : decode cX10_takesFactor 138 = .ok (.iconst 1, 1) := by decide +kernel
theorem dX10_takesFactor_139 : decode cX10_takesFactor 139 = .ok (.iadd, 1) := by decide +kernel
theorem dX10_takesFactor_140 : decode cX10_takesFactor 140 = .ok (.putfield 142, 3) := by decide +kernel
theorem dX10_takesFactor_143 : decode cX10_takesFactor 143 = .ok (.aload_n 0, 1) := by decide +kernel
theorem dX10_takesFactor_144 : decode cX10_takesFactor 144 = .ok (.invokevirtual 154, 3) := by decide +kernel
theorem dX10_takesFactor_147 : decode cX10_takesFactor 147 = .ok (.bipush 41, 2) := by decide +kernel
theorem dX10_takesFactor_149 : decode cX10_takesFactor 149 = .ok (.if_icmp .ne 49, 3) := by decide +kernel
theorem dX10_takesFactor_152 : decode cX10_takesFactor 152 = .ok (.aload_n 0, 1) := by decide +kernel
theorem dX10_takesFactor_153 : decode cX10_takesFactor 153 = .ok (.getfield 158, 3) := by decide +kernel
theorem dX10_takesFactor_156 : decode cX10_takesFactor 156 = .ok (.ifCond .le 42, 3) := by decide +kernel
theorem dX10_takesFactor_159 : decode cX10_takesFactor 159 = .ok (.aload_n 0, 1) := by decide +kernel
theorem dX10_takesFactor_160 : decode cX10_takesFactor 160 = .ok (.bipush 11, 2) := by decide +kernel
theorem dX10_takesFactor_162 : decode cX10_takesFactor 162 = .ok (.invokevirtual 161, 3) := by decide +kernel
theorem dX10_takesFactor_165 : decode cX10_takesFactor 165 = .ok (.aload_n 0, 1) := by decide +kernel
theorem dX10_takesFactor_166 : decode cX10_takesFactor 166 = .ok (.dup, 1) := by decide +kernel
theorem dX10_takesFactor_167 : decode cX10_takesFactor 167 = .ok (.getfield 147, 3) := by decide +kernel
theorem dX10_takesFactor_170 : decode cX10_takesFactor 170 = .ok (.iconst 1, 1) := by decide +kernel
theorem dX10_takesFactor_171 : decode cX10_takesFactor 171 = .ok (.isub, 1) := by decide +kernel
theorem dX10_takesFactor_172 : decode cX10_takesFactor 172 = .ok (.putfield 147, 3) := by decide +kernel
theorem dX10_takesFactor_175 : decode cX10_takesFactor 175 = .ok (.aload_n 0, 1) := by decide +kernel
theorem dX10_takesFactor_176 : decode cX10_takesFactor 176 = .ok (.dup, 1) := by decide +kernel
theorem dX10_takesFactor_177 : decode cX10_takesFactor 177 = .ok (.getfield 158, 3) := by decide +kernel
theorem dX10_takesFactor_180 : decode cX10_takesFactor 180 = .ok (.iconst 1, 1) := by decide +kernel
theorem dX10_takesFactor_181 : decode cX10_takesFactor 181 = .ok (.isub, 1) := by decide +kernel
theorem dX10_takesFactor_182 : decode cX10_takesFactor 182 = .ok (.putfield 158, 3) := by decide +kernel
theorem dX10_takesFactor_185 : decode cX10_takesFactor 185 = .ok (.aload_n 0, 1) := by decide +kernel
theorem dX10_takesFactor_186 : decode cX10_takesFactor 186 = .ok (.dup, 1) := by decide +kernel
theorem dX10_takesFactor_187 : decode cX10_takesFactor 187 = .ok (.getfield 142, 3) := by decide +kernel
theorem dX10_takesFactor_190 : decode cX10_takesFactor 190 = .ok (.iconst 1, 1) := by decide +kernel
theorem dX10_takesFactor_191 : decode cX10_takesFactor 191 = .ok (.iadd, 1) := by decide +kernel
theorem dX10_takesFactor_192 : decode cX10_takesFactor 192 = .ok (.putfield 142, 3) := by decide +kernel
theorem dX10_takesFactor_195 : decode cX10_takesFactor 195 = .ok (.goto (-52), 3) := by decide +kernel
theorem dX10_takesFactor_198 : decode cX10_takesFactor 198 = .ok (.iconst 1, 1) := by decide +kernel
theorem dX10_takesFactor_199 : decode cX10_takesFactor 199 = .ok (.ireturn, 1) := by decide +kernel
theorem dX10_takesText_0 : decode cX10_takesText 0 = .ok (.aload_n 0, 1) := by decide +kernel
theorem dX10_takesText_1 : decode cX10_takesText 1 = .ok (.iconst 0, 1) := by decide +kernel
theorem dX10_takesText_2 : decode cX10_takesText 2 = .ok (.putfield 142, 3) := by decide +kernel
theorem dX10_takesText_5 : decode cX10_takesText 5 = .ok (.aload_n 0, 1) := by decide +kernel
theorem dX10_takesText_6 : decode cX10_takesText 6 = .ok (.iconst 0, 1) := by decide +kernel
theorem dX10_takesText_7 : decode cX10_takesText 7 = .ok (.putfield 144, 3) := by decide +kernel
theorem dX10_takesText_10 : decode cX10_takesText 10 = .ok (.aload_n 0, 1) := by decide +kernel
theorem dX10_takesText_11 : decode cX10_takesText 11 = .ok (.iconst 0, 1) := by decide +kernel
theorem dX10_takesText_12 : decode cX10_takesText 12 = .ok (.putfield 147, 3) := by decide +kernel
theorem dX10_takesText_15 : decode cX10_takesText 15 = .ok (.aload_n 0, 1) := by decide +kernel
theorem dX10_takesText_16 : decode cX10_takesText 16 = .ok (.iconst 0, 1) := by decide +kernel
theorem dX10_takesText_17 : decode cX10_takesText 17 = .ok (.putfield 158, 3) := by decide +kernel
theorem dX10_takesText_20 : decode cX10_takesText 20 = .ok (.aload_n 0, 1) := by decide +kernel
theorem dX10_takesText_21 : decode cX10_takesText 21 = .ok (.iload_n 1, 1) := by decide +kernel
theorem dX10_takesText_22 : decode cX10_takesText 22 = .ok (.invokevirtual 164, 3) := by decide +kernel
theorem dX10_takesText_25 : decode cX10_takesText 25 = .ok (.ifCond .eq 105, 3) := by decide +kernel
theorem dX10_takesText_28 : decode cX10_takesText 28 = .ok (.aload_n 0, 1) := by decide +kernel
theorem dX10_takesText_29 : decode cX10_takesText 29 = .ok (.invokevirtual 154, 3) := by decide +kernel
theorem dX10_takesText_32 : decode cX10_takesText 32 = .ok (.bipush 38, 2) := by decide +kernel
theorem dX10_takesText_34 : decode cX10_takesText 34 = .ok (.if_icmp .ne 8, 3) := by decide +kernel
theorem dX10_takesText_37 : decode cX10_takesText 37 = .ok (.bipush 10, 2) := by decide +kernel
theorem dX10_takesText_39 : decode cX10_takesText 39 = .ok (.goto 18, 3) := by decide +kernel
theorem dX10_takesText_42 : decode cX10_takesText 42 = .ok (.aload_n 0, 1) := by decide +kernel
theorem dX10_takesText_43 : decode cX10_takesText 43 = .ok (.invokevirtual 154, 3) := by decide +kernel
theorem dX10_takesText_46 : decode cX10_takesText 46 = .ok (.bipush 124, 2) := by decide +kernel
theorem dX10_takesText_48 : decode cX10_takesText 48 = .ok (.if_icmp .ne 8, 3) := by decide +kernel
theorem dX10_takesText_51 : decode cX10_takesText 51 = .ok (.bipush 11, 2) := by decide +kernel
theorem dX10_takesText_53 : decode cX10_takesText 53 = .ok (.goto 4, 3) := by decide +kernel
theorem dX10_takesText_56 : decode cX10_takesText 56 = .ok (.iconst 0, 1) := by decide +kernel
theorem dX10_takesText_57 : decode cX10_takesText 57 = .ok (.istore_n 2, 1) := by decide +kernel
theorem dX10_takesText_58 : decode cX10_takesText 58 = .ok (.iload_n 2, 1) := by decide +kernel
theorem dX10_takesText_59 : decode cX10_takesText 59 = .ok (.ifCond .ne 33, 3) := by decide +kernel
theorem dX10_takesText_62 : decode cX10_takesText 62 = .ok (.aload_n 0, 1) := by decide +kernel
theorem dX10_takesText_63 : decode cX10_takesText 63 = .ok (.bipush 11, 2) := by decide +kernel
theorem dX10_takesText_65 : decode cX10_takesText 65 = .ok (.invokevirtual 161, 3) := by decide +kernel
theorem dX10_takesText_68 : decode cX10_takesText 68 = .ok (.aload_n 0, 1) := by decide +kernel
theorem dX10_takesText_69 : decode cX10_takesText 69 = .ok (.getfield 142, 3) := by decide +kernel
theorem dX10_takesText_72 : decode cX10_takesText 72 = .ok (.aload_n 0, 1) := by decide +kernel
theorem dX10_takesText_73 : decode cX10_takesText 73 = .ok (.getfield 138, 3) := by decide +kernel
theorem dX10_takesText_76 : decode cX10_takesText 76 = .ok (.if_icmp .ne 14, 3) := by decide +kernel
theorem dX10_takesText_79 : decode cX10_takesText 79 = .ok (.aload_n 0, 1) := by decide +kernel
theorem dX10_takesText_80 : decode cX10_takesText 80 = .ok (.getfield 158, 3) := by decide +kernel
theorem dX10_takesText_83 : decode cX10_takesText 83 = .ok (.ifCond .ne 7, 3) := by decide +kernel
theorem dX10_takesText_86 : decode cX10_takesText 86 = .ok (.iconst 1, 1) := by decide +kernel
theorem dX10_takesText_87 : decode cX10_takesText 87 = .ok (.goto 4, 3) := by decide +kernel
theorem dX10_takesText_90 : decode cX10_takesText 90 = .ok (.iconst 0, 1) := by decide +kernel
theorem dX10_takesText_91 : decode cX10_takesText 91 = .ok (.ireturn, 1) := by decide +kernel
theorem dX10_takesText_92 : decode cX10_takesText 92 = .ok (.aload_n 0, 1) := by decide +kernel
theorem dX10_takesText_93 : decode cX10_takesText 93 = .ok (.iload_n 2, 1) := by decide +kernel
theorem dX10_takesText_94 : decode cX10_takesText 94 = .ok (.invokevirtual 161, 3) := by decide +kernel
theorem dX10_takesText_97 : decode cX10_takesText 97 = .ok (.aload_n 0, 1) := by decide +kernel
theorem dX10_takesText_98 : decode cX10_takesText 98 = .ok (.getfield 34, 3) := by decide +kernel
theorem dX10_takesText_101 : decode cX10_takesText 101 = .ok (.aload_n 0, 1) := by decide +kernel
theorem dX10_takesText_102 : decode cX10_takesText 102 = .ok (.getfield 147, 3) := by decide +kernel
theorem dX10_takesText_105 : decode cX10_takesText 105 = .ok (.iload_n 2, 1) := by decide +kernel
theorem dX10_takesText_106 : decode cX10_takesText 106 = .ok (.iastore, 1) := by decide +kernel
theorem dX10_takesText_107 : decode cX10_takesText 107 = .ok (.aload_n 0, 1) := by decide +kernel
theorem dX10_takesText_108 : decode cX10_takesText 108 = .ok (.dup, 1) := by decide +kernel
theorem dX10_takesText_109 : decode cX10_takesText 109 = .ok (.getfield 147, 3) := by decide +kernel
theorem dX10_takesText_112 : decode cX10_takesText 112 = .ok (.iconst 1, 1) := by decide +kernel
theorem dX10_takesText_113 : decode cX10_takesText 113 = .ok (.iadd, 1) := by decide +kernel
theorem dX10_takesText_114 : decode cX10_takesText 114 = .ok (.putfield 147, 3) := by decide +kernel
theorem dX10_takesText_117 : decode cX10_takesText 117 = .ok (.aload_n 0, 1) := by decide +kernel
theorem dX10_takesText_118 : decode cX10_takesText 118 = .ok (.dup, 1) := by decide +kernel
theorem dX10_takesText_119 : decode cX10_takesText 119 = .ok (.getfield 142, 3) := by decide +kernel
theorem dX10_takesText_122 : decode cX10_takesText 122 = .ok (.iconst 1, 1) := by decide +kernel
theorem dX10_takesText_123 : decode cX10_takesText 123 = .ok (.iadd, 1) := by decide +kernel
theorem dX10_takesText_124 : decode cX10_takesText 124 = .ok (.putfield 142, 3) := by decide +kernel
theorem dX10_takesText_127 : decode cX10_takesText 127 = .ok (.goto (-107), 3) := by decide +kernel
theorem dX10_takesText_130 : decode cX10_takesText 130 = .ok (.iconst 0, 1) := by decide +kernel
theorem dX10_takesText_131 : decode cX10_takesText 131 = .ok (.ireturn, 1) := by decide +kernel
theorem dX10_parses_0 : decode cX10_parses 0 = .ok (.aload_n 0, 1) := by decide +kernel
theorem dX10_parses_1 : decode cX10_parses 1 = .ok (.iload_n 1, 1) := by decide +kernel
theorem dX10_parses_2 : decode cX10_parses 2 = .ok (.invokevirtual 167, 3) := by decide +kernel
theorem dX10_parses_5 : decode cX10_parses 5 = .ok (.istore_n 3, 1) := by decide +kernel
theorem dX10_parses_6 : decode cX10_parses 6 = .ok (.aload_n 0, 1) := by decide +kernel
theorem dX10_parses_7 : decode cX10_parses 7 = .ok (.iconst 0, 1) := by decide +kernel
theorem dX10_parses_8 : decode cX10_parses 8 = .ok (.putfield 138, 3) := by decide +kernel
theorem dX10_parses_11 : decode cX10_parses 11 = .ok (.iload_n 3, 1) := by decide +kernel
theorem dX10_parses_12 : decode cX10_parses 12 = .ok (.ifCond .ne 11, 3) := by decide +kernel
theorem dX10_parses_15 : decode cX10_parses 15 = .ok (.bipush (-100), 2) := by decide +kernel
theorem dX10_parses_17 : decode cX10_parses 17 = .ok (.aload_n 0, 1) := by decide +kernel
theorem dX10_parses_18 : decode cX10_parses 18 = .ok (.getfield 142, 3) := by decide +kernel
theorem dX10_parses_21 : decode cX10_parses 21 = .ok (.isub, 1) := by decide +kernel
theorem dX10_parses_22 : decode cX10_parses 22 = .ok (.ireturn, 1) := by decide +kernel
theorem dX10_parses_23 : decode cX10_parses 23 = .ok (.aload_n 0, 1) := by decide +kernel
theorem dX10_parses_24 : decode cX10_parses 24 = .ok (.getfield 144, 3) := by decide +kernel
theorem dX10_parses_27 : decode cX10_parses 27 = .ok (.bipush 40, 2) := by decide +kernel
theorem dX10_parses_29 : decode cX10_parses 29 = .ok (.if_icmp .le 6, 3) := by decide +kernel
theorem dX10_parses_32 : decode cX10_parses 32 = .ok (.bipush (-3), 2) := by decide +kernel
theorem dX10_parses_34 : decode cX10_parses 34 = .ok (.ireturn, 1) := by decide +kernel
theorem dX10_parses_35 : decode cX10_parses 35 = .ok (.aload_n 0, 1) := by decide +kernel
theorem dX10_parses_36 : decode cX10_parses 36 = .ok (.getfield 22, 3) := by decide +kernel
theorem dX10_parses_39 : decode cX10_parses 39 = .ok (.bipush 19, 2) := by decide +kernel
theorem dX10_parses_41 : decode cX10_parses 41 = .ok (.iload_n 1, 1) := by decide +kernel
theorem dX10_parses_42 : decode cX10_parses 42 = .ok (.imul, 1) := by decide +kernel
theorem dX10_parses_43 : decode cX10_parses 43 = .ok (.iload_n 2, 1) := by decide +kernel
theorem dX10_parses_44 : decode cX10_parses 44 = .ok (.iadd, 1) := by decide +kernel
theorem dX10_parses_45 : decode cX10_parses 45 = .ok (.aload_n 0, 1) := by decide +kernel
theorem dX10_parses_46 : decode cX10_parses 46 = .ok (.getfield 144, 3) := by decide +kernel
theorem dX10_parses_49 : decode cX10_parses 49 = .ok (.iastore, 1) := by decide +kernel
theorem dX10_parses_50 : decode cX10_parses 50 = .ok (.iconst 0, 1) := by decide +kernel
theorem dX10_parses_51 : decode cX10_parses 51 = .ok (.istore 4, 2) := by decide +kernel
theorem dX10_parses_53 : decode cX10_parses 53 = .ok (.iload 4, 2) := by decide +kernel
theorem dX10_parses_55 : decode cX10_parses 55 = .ok (.aload_n 0, 1) := by decide +kernel
theorem dX10_parses_56 : decode cX10_parses 56 = .ok (.getfield 144, 3) := by decide +kernel
theorem dX10_parses_59 : decode cX10_parses 59 = .ok (.if_icmp .ge 30, 3) := by decide +kernel
theorem dX10_parses_62 : decode cX10_parses 62 = .ok (.aload_n 0, 1) := by decide +kernel
theorem dX10_parses_63 : decode cX10_parses 63 = .ok (.getfield 25, 3) := by decide +kernel
theorem dX10_parses_66 : decode cX10_parses 66 = .ok (.aload_n 0, 1) := by decide +kernel
theorem dX10_parses_67 : decode cX10_parses 67 = .ok (.iload_n 1, 1) := by decide +kernel
theorem dX10_parses_68 : decode cX10_parses 68 = .ok (.iload_n 2, 1) := by decide +kernel
theorem dX10_parses_69 : decode cX10_parses 69 = .ok (.invokevirtual 119, 3) := by decide +kernel
theorem dX10_parses_72 : decode cX10_parses 72 = .ok (.iload 4, 2) := by decide +kernel
theorem dX10_parses_74 : decode cX10_parses 74 = .ok (.iadd, 1) := by decide +kernel
theorem dX10_parses_75 : decode cX10_parses 75 = .ok (.aload_n 0, 1) := by decide +kernel
theorem dX10_parses_76 : decode cX10_parses 76 = .ok (.getfield 31, 3) := by decide +kernel
theorem dX10_parses_79 : decode cX10_parses 79 = .ok (.iload 4, 2) := by decide +kernel
theorem dX10_parses_81 : decode cX10_parses 81 = .ok (.iaload, 1) := by decide +kernel
theorem dX10_parses_82 : decode cX10_parses 82 = .ok (.iastore, 1) := by decide +kernel
theorem dX10_parses_83 : decode cX10_parses 83 = .ok (.iinc 4 1, 3) := by decide +kernel
theorem dX10_parses_86 : decode cX10_parses 86 = .ok (.goto (-33), 3) := by decide +kernel
theorem dX10_parses_89 : decode cX10_parses 89 = .ok (.aload_n 0, 1) := by decide +kernel
theorem dX10_parses_90 : decode cX10_parses 90 = .ok (.getfield 144, 3) := by decide +kernel
theorem dX10_parses_93 : decode cX10_parses 93 = .ok (.ireturn, 1) := by decide +kernel
theorem dX10_refusesText_0 : decode cX10_refusesText 0 = .ok (.aload_n 0, 1) := by decide +kernel
theorem dX10_refusesText_1 : decode cX10_refusesText 1 = .ok (.iconst 0, 1) := by decide +kernel
theorem dX10_refusesText_2 : decode cX10_refusesText 2 = .ok (.putfield 138, 3) := by decide +kernel
theorem dX10_refusesText_5 : decode cX10_refusesText 5 = .ok (.bipush (-2), 2) := by decide +kernel
theorem dX10_refusesText_7 : decode cX10_refusesText 7 = .ok (.ireturn, 1) := by decide +kernel
theorem dX10_setInitial_0 : decode cX10_setInitial 0 = .ok (.iload_n 1, 1) := by decide +kernel
theorem dX10_setInitial_1 : decode cX10_setInitial 1 = .ok (.invokestatic 123, 3) := by decide +kernel
theorem dX10_setInitial_4 : decode cX10_setInitial 4 = .ok (.ifCond .eq 12, 3) := by decide +kernel
theorem dX10_setInitial_7 : decode cX10_setInitial 7 = .ok (.aload_n 0, 1) := by decide +kernel
theorem dX10_setInitial_8 : decode cX10_setInitial 8 = .ok (.iload_n 1, 1) := by decide +kernel
theorem dX10_setInitial_9 : decode cX10_setInitial 9 = .ok (.iconst 0, 1) := by decide +kernel
theorem dX10_setInitial_10 : decode cX10_setInitial 10 = .ok (.invokevirtual 170, 3) := by decide +kernel
theorem dX10_setInitial_13 : decode cX10_setInitial 13 = .ok (.goto 7, 3) := by decide +kernel
theorem dX10_setInitial_16 : decode cX10_setInitial 16 = .ok (.aload_n 0, 1) := by decide +kernel
theorem dX10_setInitial_17 : decode cX10_setInitial 17 = .ok (.invokevirtual 173, 3) := by decide +kernel
theorem dX10_setInitial_20 : decode cX10_setInitial 20 = .ok (.ireturn, 1) := by decide +kernel
theorem dX10_setTransition_0 : decode cX10_setTransition 0 = .ok (.iload_n 1, 1) := by decide +kernel
theorem dX10_setTransition_1 : decode cX10_setTransition 1 = .ok (.invokestatic 123, 3) := by decide +kernel
theorem dX10_setTransition_4 : decode cX10_setTransition 4 = .ok (.ifCond .eq 34, 3) := by decide +kernel
theorem dX10_setTransition_7 : decode cX10_setTransition 7 = .ok (.aload_n 0, 1) := by decide +kernel
theorem dX10_setTransition_8 : decode cX10_setTransition 8 = .ok (.iload_n 1, 1) := by decide +kernel
theorem dX10_setTransition_9 : decode cX10_setTransition 9 = .ok (.iload_n 2, 1) := by decide +kernel
theorem dX10_setTransition_10 : decode cX10_setTransition 10 = .ok (.invokevirtual 131, 3) := by decide +kernel
theorem dX10_setTransition_13 : decode cX10_setTransition 13 = .ok (.ifCond .eq 25, 3) := by decide +kernel
theorem dX10_setTransition_16 : decode cX10_setTransition 16 = .ok (.aload_n 0, 1) := by decide +kernel
theorem dX10_setTransition_17 : decode cX10_setTransition 17 = .ok (.iload_n 1, 1) := by decide +kernel
theorem dX10_setTransition_18 : decode cX10_setTransition 18 = .ok (.iload_n 3, 1) := by decide +kernel
theorem dX10_setTransition_19 : decode cX10_setTransition 19 = .ok (.invokevirtual 135, 3) := by decide +kernel
theorem dX10_setTransition_22 : decode cX10_setTransition 22 = .ok (.ifCond .eq 16, 3) := by decide +kernel
theorem dX10_setTransition_25 : decode cX10_setTransition 25 = .ok (.aload_n 0, 1) := by decide +kernel
theorem dX10_setTransition_26 : decode cX10_setTransition 26 = .ok (.iload_n 1, 1) := by decide +kernel
theorem dX10_setTransition_27 : decode cX10_setTransition 27 = .ok (.iload_n 2, 1) := by decide +kernel
theorem dX10_setTransition_28 : decode cX10_setTransition 28 = .ok (.iload_n 3, 1) := by decide +kernel
theorem dX10_setTransition_29 : decode cX10_setTransition 29 = .ok (.invokestatic 176, 3) := by decide +kernel
theorem dX10_setTransition_32 : decode cX10_setTransition 32 = .ok (.invokevirtual 170, 3) := by decide +kernel
theorem dX10_setTransition_35 : decode cX10_setTransition 35 = .ok (.goto 7, 3) := by decide +kernel
theorem dX10_setTransition_38 : decode cX10_setTransition 38 = .ok (.aload_n 0, 1) := by decide +kernel
theorem dX10_setTransition_39 : decode cX10_setTransition 39 = .ok (.invokevirtual 173, 3) := by decide +kernel
theorem dX10_setTransition_42 : decode cX10_setTransition 42 = .ok (.ireturn, 1) := by decide +kernel
theorem dX10_asked_0 : decode cX10_asked 0 = .ok (.iload_n 1, 1) := by decide +kernel
theorem dX10_asked_1 : decode cX10_asked 1 = .ok (.invokestatic 123, 3) := by decide +kernel
theorem dX10_asked_4 : decode cX10_asked 4 = .ok (.ifCond .ne 5, 3) := by decide +kernel
theorem dX10_asked_7 : decode cX10_asked 7 = .ok (.iconst (-1), 1) := by decide +kernel
theorem dX10_asked_8 : decode cX10_asked 8 = .ok (.ireturn, 1) := by decide +kernel
theorem dX10_asked_9 : decode cX10_asked 9 = .ok (.iload_n 2, 1) := by decide +kernel
theorem dX10_asked_10 : decode cX10_asked 10 = .ok (.iconst (-1), 1) := by decide +kernel
theorem dX10_asked_11 : decode cX10_asked 11 = .ok (.if_icmp .ne 5, 3) := by decide +kernel
theorem dX10_asked_14 : decode cX10_asked 14 = .ok (.iconst 0, 1) := by decide +kernel
theorem dX10_asked_15 : decode cX10_asked 15 = .ok (.ireturn, 1) := by decide +kernel
theorem dX10_asked_16 : decode cX10_asked 16 = .ok (.aload_n 0, 1) := by decide +kernel
theorem dX10_asked_17 : decode cX10_asked 17 = .ok (.iload_n 1, 1) := by decide +kernel
theorem dX10_asked_18 : decode cX10_asked 18 = .ok (.iload_n 2, 1) := by decide +kernel
theorem dX10_asked_19 : decode cX10_asked 19 = .ok (.invokevirtual 131, 3) := by decide +kernel
theorem dX10_asked_22 : decode cX10_asked 22 = .ok (.ifCond .eq 20, 3) := by decide +kernel
theorem dX10_asked_25 : decode cX10_asked 25 = .ok (.aload_n 0, 1) := by decide +kernel
theorem dX10_asked_26 : decode cX10_asked 26 = .ok (.iload_n 1, 1) := by decide +kernel
theorem dX10_asked_27 : decode cX10_asked 27 = .ok (.iload_n 3, 1) := by decide +kernel
theorem dX10_asked_28 : decode cX10_asked 28 = .ok (.invokevirtual 135, 3) := by decide +kernel
theorem dX10_asked_31 : decode cX10_asked 31 = .ok (.ifCond .eq 11, 3) := by decide +kernel
theorem dX10_asked_34 : decode cX10_asked 34 = .ok (.iload_n 2, 1) := by decide +kernel
theorem dX10_asked_35 : decode cX10_asked 35 = .ok (.iload_n 3, 1) := by decide +kernel
theorem dX10_asked_36 : decode cX10_asked 36 = .ok (.invokestatic 176, 3) := by decide +kernel
theorem dX10_asked_39 : decode cX10_asked 39 = .ok (.goto 4, 3) := by decide +kernel
theorem dX10_asked_42 : decode cX10_asked 42 = .ok (.iconst (-1), 1) := by decide +kernel
theorem dX10_asked_43 : decode cX10_asked 43 = .ok (.ireturn, 1) := by decide +kernel
theorem dX10_findParts_0 : decode cX10_findParts 0 = .ok (.iconst 0, 1) := by decide +kernel
theorem dX10_findParts_1 : decode cX10_findParts 1 = .ok (.istore_n 3, 1) := by decide +kernel
theorem dX10_findParts_2 : decode cX10_findParts 2 = .ok (.iload_n 3, 1) := by decide +kernel
theorem dX10_findParts_3 : decode cX10_findParts 3 = .ok (.iload_n 2, 1) := by decide +kernel
theorem dX10_findParts_4 : decode cX10_findParts 4 = .ok (.if_icmp .ge 65, 3) := by decide +kernel
theorem dX10_findParts_7 : decode cX10_findParts 7 = .ok (.aload_n 0, 1) := by decide +kernel
theorem dX10_findParts_8 : decode cX10_findParts 8 = .ok (.getfield 40, 3) := by decide +kernel
theorem dX10_findParts_11 : decode cX10_findParts 11 = .ok (.iload_n 3, 1) := by decide +kernel
theorem dX10_findParts_12 : decode cX10_findParts 12 = .ok (.iload_n 3, 1) := by decide +kernel
theorem dX10_findParts_13 : decode cX10_findParts 13 = .ok (.iastore, 1) := by decide +kernel
theorem dX10_findParts_14 : decode cX10_findParts 14 = .ok (.aload_n 0, 1) := by decide +kernel
theorem dX10_findParts_15 : decode cX10_findParts 15 = .ok (.getfield 25, 3) := by decide +kernel
theorem dX10_findParts_18 : decode cX10_findParts 18 = .ok (.iload_n 1, 1) := by decide +kernel
theorem dX10_findParts_19 : decode cX10_findParts 19 = .ok (.iload_n 3, 1) := by decide +kernel
theorem dX10_findParts_20 : decode cX10_findParts 20 = .ok (.iadd, 1) := by decide +kernel
theorem dX10_findParts_21 : decode cX10_findParts 21 = .ok (.iaload, 1) := by decide +kernel
theorem dX10_findParts_22 : decode cX10_findParts 22 = .ok (.bipush 10, 2) := by decide +kernel
theorem dX10_findParts_24 : decode cX10_findParts 24 = .ok (.if_icmp .ge 6, 3) := by decide +kernel
theorem dX10_findParts_27 : decode cX10_findParts 27 = .ok (.goto 36, 3) := by decide +kernel
theorem dX10_findParts_30 : decode cX10_findParts 30 = .ok (.aload_n 0, 1) := by decide +kernel
theorem dX10_findParts_31 : decode cX10_findParts 31 = .ok (.getfield 37, 3) := by decide +kernel
theorem dX10_findParts_34 : decode cX10_findParts 34 = .ok (.iload_n 3, 1) := by decide +kernel
theorem dX10_findParts_35 : decode cX10_findParts 35 = .ok (.aload_n 0, 1) := by decide +kernel
theorem dX10_findParts_36 : decode cX10_findParts 36 = .ok (.getfield 40, 3) := by decide +kernel
theorem dX10_findParts_39 : decode cX10_findParts 39 = .ok (.iload_n 3, 1) := by decide +kernel
theorem dX10_findParts_40 : decode cX10_findParts 40 = .ok (.iconst 1, 1) := by decide +kernel
theorem dX10_findParts_41 : decode cX10_findParts 41 = .ok (.isub, 1) := by decide +kernel
theorem dX10_findParts_42 : decode cX10_findParts 42 = .ok (.iaload, 1) := by decide +kernel
theorem dX10_findParts_43 : decode cX10_findParts 43 = .ok (.iconst 1, 1) := by decide +kernel
theorem dX10_findParts_44 : decode cX10_findParts 44 = .ok (.isub, 1) := by decide +kernel
theorem dX10_findParts_45 : decode cX10_findParts 45 = .ok (.iastore, 1) := by decide +kernel
theorem dX10_findParts_46 : decode cX10_findParts 46 = .ok (.aload_n 0, 1) := by decide +kernel
theorem dX10_findParts_47 : decode cX10_findParts 47 = .ok (.getfield 40, 3) := by decide +kernel
theorem dX10_findParts_50 : decode cX10_findParts 50 = .ok (.iload_n 3, 1) := by decide +kernel
theorem dX10_findParts_51 : decode cX10_findParts 51 = .ok (.aload_n 0, 1) := by decide +kernel
theorem dX10_findParts_52 : decode cX10_findParts 52 = .ok (.getfield 40, 3) := by decide +kernel
theorem dX10_findParts_55 : decode cX10_findParts 55 = .ok (.aload_n 0, 1) := by decide +kernel
theorem dX10_findParts_56 : decode cX10_findParts 56 = .ok (.getfield 37, 3) := by decide +kernel
theorem dX10_findParts_59 : decode cX10_findParts 59 = .ok (.iload_n 3, 1) := by decide +kernel
theorem dX10_findParts_60 : decode cX10_findParts 60 = .ok (.iaload, 1) := by decide +kernel
theorem dX10_findParts_61 : decode cX10_findParts 61 = .ok (.iaload, 1) := by decide +kernel
theorem dX10_findParts_62 : decode cX10_findParts 62 = .ok (.iastore, 1) := by decide +kernel
theorem dX10_findParts_63 : decode cX10_findParts 63 = .ok (.iinc 3 1, 3) := by decide +kernel
theorem dX10_findParts_66 : decode cX10_findParts 66 = .ok (.goto (-64), 3) := by decide +kernel
theorem dX10_findParts_69 : decode cX10_findParts 69 = .ok (.return_, 1) := by decide +kernel
theorem dX10_puts_0 : decode cX10_puts 0 = .ok (.aload_n 0, 1) := by decide +kernel
theorem dX10_puts_1 : decode cX10_puts 1 = .ok (.getfield 43, 3) := by decide +kernel
theorem dX10_puts_4 : decode cX10_puts 4 = .ok (.aload_n 0, 1) := by decide +kernel
theorem dX10_puts_5 : decode cX10_puts 5 = .ok (.getfield 179, 3) := by decide +kernel
theorem dX10_puts_8 : decode cX10_puts 8 = .ok (.iload_n 1, 1) := by decide +kernel
theorem dX10_puts_9 : decode cX10_puts 9 = .ok (.iastore, 1) := by decide +kernel
theorem dX10_puts_10 : decode cX10_puts 10 = .ok (.aload_n 0, 1) := by decide +kernel
theorem dX10_puts_11 : decode cX10_puts 11 = .ok (.dup, 1) := by decide +kernel
theorem dX10_puts_12 : decode cX10_puts 12 = .ok (.getfield 179, 3) := by decide +kernel
theorem dX10_puts_15 : decode cX10_puts 15 = .ok (.iconst 1, 1) := by decide +kernel
theorem dX10_puts_16 : decode cX10_puts 16 = .ok (.iadd, 1) := by decide +kernel
theorem dX10_puts_17 : decode cX10_puts 17 = .ok (.putfield 179, 3) := by decide +kernel
theorem dX10_puts_20 : decode cX10_puts 20 = .ok (.return_, 1) := by decide +kernel
theorem dX10_putsPart_0 : decode cX10_putsPart 0 = .ok (.iload_n 2, 1) := by decide +kernel
theorem dX10_putsPart_1 : decode cX10_putsPart 1 = .ok (.ifCond .eq 9, 3) := by decide +kernel
theorem dX10_putsPart_4 : decode cX10_putsPart 4 = .ok (.aload_n 0, 1) := by decide +kernel
theorem dX10_putsPart_5 : decode cX10_putsPart 5 = .ok (.bipush (-41), 2) := by decide +kernel
theorem dX10_putsPart_7 : decode cX10_putsPart 7 = .ok (.invokevirtual 182, 3) := by decide +kernel
theorem dX10_putsPart_10 : decode cX10_putsPart 10 = .ok (.aload_n 0, 1) := by decide +kernel
theorem dX10_putsPart_11 : decode cX10_putsPart 11 = .ok (.iload_n 1, 1) := by decide +kernel
theorem dX10_putsPart_12 : decode cX10_putsPart 12 = .ok (.invokevirtual 182, 3) := by decide +kernel
theorem dX10_putsPart_15 : decode cX10_putsPart 15 = .ok (.iload_n 2, 1) := by decide +kernel
theorem dX10_putsPart_16 : decode cX10_putsPart 16 = .ok (.ifCond .eq 9, 3) := by decide +kernel
theorem dX10_putsPart_19 : decode cX10_putsPart 19 = .ok (.aload_n 0, 1) := by decide +kernel
theorem dX10_putsPart_20 : decode cX10_putsPart 20 = .ok (.bipush (-40), 2) := by decide +kernel
theorem dX10_putsPart_22 : decode cX10_putsPart 22 = .ok (.invokevirtual 182, 3) := by decide +kernel
theorem dX10_putsPart_25 : decode cX10_putsPart 25 = .ok (.return_, 1) := by decide +kernel
theorem dX10_tells_0 : decode cX10_tells 0 = .ok (.aload_n 0, 1) := by decide +kernel
theorem dX10_tells_1 : decode cX10_tells 1 = .ok (.getfield 25, 3) := by decide +kernel
theorem dX10_tells_4 : decode cX10_tells 4 = .ok (.iload_n 1, 1) := by decide +kernel
theorem dX10_tells_5 : decode cX10_tells 5 = .ok (.iload_n 2, 1) := by decide +kernel
theorem dX10_tells_6 : decode cX10_tells 6 = .ok (.iadd, 1) := by decide +kernel
theorem dX10_tells_7 : decode cX10_tells 7 = .ok (.iaload, 1) := by decide +kernel
theorem dX10_tells_8 : decode cX10_tells 8 = .ok (.istore_n 3, 1) := by decide +kernel
theorem dX10_tells_9 : decode cX10_tells 9 = .ok (.iload_n 3, 1) := by decide +kernel
theorem dX10_tells_10 : decode cX10_tells 10 = .ok (.bipush 10, 2) := by decide +kernel
theorem dX10_tells_12 : decode cX10_tells 12 = .ok (.if_icmp .ge 49, 3) := by decide +kernel
theorem dX10_tells_15 : decode cX10_tells 15 = .ok (.aload_n 0, 1) := by decide +kernel
theorem dX10_tells_16 : decode cX10_tells 16 = .ok (.getfield 46, 3) := by decide +kernel
theorem dX10_tells_19 : decode cX10_tells 19 = .ok (.aload_n 0, 1) := by decide +kernel
theorem dX10_tells_20 : decode cX10_tells 20 = .ok (.getfield 185, 3) := by decide +kernel
theorem dX10_tells_23 : decode cX10_tells 23 = .ok (.iload_n 3, 1) := by decide +kernel
theorem dX10_tells_24 : decode cX10_tells 24 = .ok (.bipush 8, 2) := by decide +kernel
theorem dX10_tells_26 : decode cX10_tells 26 = .ok (.if_icmp .ne 8, 3) := by decide +kernel
theorem dX10_tells_29 : decode cX10_tells 29 = .ok (.bipush 116, 2) := by decide +kernel
theorem dX10_tells_31 : decode cX10_tells 31 = .ok (.goto 18, 3) := by decide +kernel
theorem dX10_tells_34 : decode cX10_tells 34 = .ok (.iload_n 3, 1) := by decide +kernel
theorem dX10_tells_35 : decode cX10_tells 35 = .ok (.bipush 9, 2) := by decide +kernel
theorem dX10_tells_37 : decode cX10_tells 37 = .ok (.if_icmp .ne 8, 3) := by decide +kernel
theorem dX10_tells_40 : decode cX10_tells 40 = .ok (.bipush 102, 2) := by decide +kernel
theorem dX10_tells_42 : decode cX10_tells 42 = .ok (.goto 7, 3) := by decide +kernel
theorem dX10_tells_45 : decode cX10_tells 45 = .ok (.bipush 48, 2) := by decide +kernel
theorem dX10_tells_47 : decode cX10_tells 47 = .ok (.iload_n 3, 1) := by decide +kernel
theorem dX10_tells_48 : decode cX10_tells 48 = .ok (.iadd, 1) := by decide +kernel
theorem dX10_tells_49 : decode cX10_tells 49 = .ok (.iastore, 1) := by decide +kernel
theorem dX10_tells_50 : decode cX10_tells 50 = .ok (.aload_n 0, 1) := by decide +kernel
theorem dX10_tells_51 : decode cX10_tells 51 = .ok (.dup, 1) := by decide +kernel
theorem dX10_tells_52 : decode cX10_tells 52 = .ok (.getfield 185, 3) := by decide +kernel
theorem dX10_tells_55 : decode cX10_tells 55 = .ok (.iconst 1, 1) := by decide +kernel
theorem dX10_tells_56 : decode cX10_tells 56 = .ok (.iadd, 1) := by decide +kernel
theorem dX10_tells_57 : decode cX10_tells 57 = .ok (.putfield 185, 3) := by decide +kernel
theorem dX10_tells_60 : decode cX10_tells 60 = .ok (.return_, 1) := by decide +kernel
theorem dX10_tells_61 : decode cX10_tells 61 = .ok (.aload_n 0, 1) := by decide +kernel
theorem dX10_tells_62 : decode cX10_tells 62 = .ok (.getfield 25, 3) := by decide +kernel
theorem dX10_tells_65 : decode cX10_tells 65 = .ok (.iload_n 1, 1) := by decide +kernel
theorem dX10_tells_66 : decode cX10_tells 66 = .ok (.aload_n 0, 1) := by decide +kernel
theorem dX10_tells_67 : decode cX10_tells 67 = .ok (.getfield 37, 3) := by decide +kernel
theorem dX10_tells_70 : decode cX10_tells 70 = .ok (.iload_n 2, 1) := by decide +kernel
theorem dX10_tells_71 : decode cX10_tells 71 = .ok (.iaload, 1) := by decide +kernel
theorem dX10_tells_72 : decode cX10_tells 72 = .ok (.iadd, 1) := by decide +kernel
theorem dX10_tells_73 : decode cX10_tells 73 = .ok (.iaload, 1) := by decide +kernel
theorem dX10_tells_74 : decode cX10_tells 74 = .ok (.istore 4, 2) := by decide +kernel
theorem dX10_tells_76 : decode cX10_tells 76 = .ok (.aload_n 0, 1) := by decide +kernel
theorem dX10_tells_77 : decode cX10_tells 77 = .ok (.getfield 25, 3) := by decide +kernel
theorem dX10_tells_80 : decode cX10_tells 80 = .ok (.iload_n 1, 1) := by decide +kernel
theorem dX10_tells_81 : decode cX10_tells 81 = .ok (.iload_n 2, 1) := by decide +kernel
theorem dX10_tells_82 : decode cX10_tells 82 = .ok (.iadd, 1) := by decide +kernel
theorem dX10_tells_83 : decode cX10_tells 83 = .ok (.iconst 1, 1) := by decide +kernel
theorem dX10_tells_84 : decode cX10_tells 84 = .ok (.isub, 1) := by decide +kernel
theorem dX10_tells_85 : decode cX10_tells 85 = .ok (.iaload, 1) := by decide +kernel
theorem dX10_tells_86 : decode cX10_tells 86 = .ok (.istore 5, 2) := by decide +kernel
theorem dX10_tells_88 : decode cX10_tells 88 = .ok (.aload_n 0, 1) := by decide +kernel
theorem dX10_tells_89 : decode cX10_tells 89 = .ok (.iload_n 2, 1) := by decide +kernel
theorem dX10_tells_90 : decode cX10_tells 90 = .ok (.iconst 1, 1) := by decide +kernel
theorem dX10_tells_91 : decode cX10_tells 91 = .ok (.isub, 1) := by decide +kernel
theorem dX10_tells_92 : decode cX10_tells 92 = .ok (.iload_n 3, 1) := by decide +kernel
theorem dX10_tells_93 : decode cX10_tells 93 = .ok (.iload 5, 2) := by decide +kernel
theorem dX10_tells_95 : decode cX10_tells 95 = .ok (.if_icmp .eq 16, 3) := by decide +kernel
theorem dX10_tells_98 : decode cX10_tells 98 = .ok (.iload_n 3, 1) := by decide +kernel
theorem dX10_tells_99 : decode cX10_tells 99 = .ok (.bipush 10, 2) := by decide +kernel
theorem dX10_tells_101 : decode cX10_tells 101 = .ok (.if_icmp .ne 14, 3) := by decide +kernel
theorem dX10_tells_104 : decode cX10_tells 104 = .ok (.iload 5, 2) := by decide +kernel
theorem dX10_tells_106 : decode cX10_tells 106 = .ok (.bipush 11, 2) := by decide +kernel
theorem dX10_tells_108 : decode cX10_tells 108 = .ok (.if_icmp .ne 7, 3) := by decide +kernel
theorem dX10_tells_111 : decode cX10_tells 111 = .ok (.iconst 1, 1) := by decide +kernel
theorem dX10_tells_112 : decode cX10_tells 112 = .ok (.goto 4, 3) := by decide +kernel
theorem dX10_tells_115 : decode cX10_tells 115 = .ok (.iconst 0, 1) := by decide +kernel
theorem dX10_tells_116 : decode cX10_tells 116 = .ok (.invokevirtual 188, 3) := by decide +kernel
theorem dX10_tells_119 : decode cX10_tells 119 = .ok (.aload_n 0, 1) := by decide +kernel
theorem dX10_tells_120 : decode cX10_tells 120 = .ok (.iload_n 3, 1) := by decide +kernel
theorem dX10_tells_121 : decode cX10_tells 121 = .ok (.bipush 10, 2) := by decide +kernel
theorem dX10_tells_123 : decode cX10_tells 123 = .ok (.if_icmp .ne 8, 3) := by decide +kernel
theorem dX10_tells_126 : decode cX10_tells 126 = .ok (.bipush (-38), 2) := by decide +kernel
theorem dX10_tells_128 : decode cX10_tells 128 = .ok (.goto 5, 3) := by decide +kernel
theorem dX10_tells_131 : decode cX10_tells 131 = .ok (.bipush (-124), 2) := by decide +kernel
theorem dX10_tells_133 : decode cX10_tells 133 = .ok (.invokevirtual 182, 3) := by decide +kernel
theorem dX10_tells_136 : decode cX10_tells 136 = .ok (.aload_n 0, 1) := by decide +kernel
theorem dX10_tells_137 : decode cX10_tells 137 = .ok (.aload_n 0, 1) := by decide +kernel
theorem dX10_tells_138 : decode cX10_tells 138 = .ok (.getfield 37, 3) := by decide +kernel
theorem dX10_tells_141 : decode cX10_tells 141 = .ok (.iload_n 2, 1) := by decide +kernel
theorem dX10_tells_142 : decode cX10_tells 142 = .ok (.iaload, 1) := by decide +kernel
theorem dX10_tells_143 : decode cX10_tells 143 = .ok (.iload_n 3, 1) := by decide +kernel
theorem dX10_tells_144 : decode cX10_tells 144 = .ok (.bipush 10, 2) := by decide +kernel
theorem dX10_tells_146 : decode cX10_tells 146 = .ok (.if_icmp .ne 14, 3) := by decide +kernel
theorem dX10_tells_149 : decode cX10_tells 149 = .ok (.iload 4, 2) := by decide +kernel
theorem dX10_tells_151 : decode cX10_tells 151 = .ok (.bipush 11, 2) := by decide +kernel
theorem dX10_tells_153 : decode cX10_tells 153 = .ok (.if_icmp .ne 7, 3) := by decide +kernel
theorem dX10_tells_156 : decode cX10_tells 156 = .ok (.iconst 1, 1) := by decide +kernel
theorem dX10_tells_157 : decode cX10_tells 157 = .ok (.goto 4, 3) := by decide +kernel
theorem dX10_tells_160 : decode cX10_tells 160 = .ok (.iconst 0, 1) := by decide +kernel
theorem dX10_tells_161 : decode cX10_tells 161 = .ok (.invokevirtual 188, 3) := by decide +kernel
theorem dX10_tells_164 : decode cX10_tells 164 = .ok (.return_, 1) := by decide +kernel
theorem dX10_print_0 : decode cX10_print 0 = .ok (.aload_n 0, 1) := by decide +kernel
theorem dX10_print_1 : decode cX10_print 1 = .ok (.iload_n 1, 1) := by decide +kernel
theorem dX10_print_2 : decode cX10_print 2 = .ok (.iload_n 2, 1) := by decide +kernel
theorem dX10_print_3 : decode cX10_print 3 = .ok (.iload_n 3, 1) := by decide +kernel
theorem dX10_print_4 : decode cX10_print 4 = .ok (.invokevirtual 192, 3) := by decide +kernel
theorem dX10_print_7 : decode cX10_print 7 = .ok (.istore 4, 2) := by decide +kernel
theorem dX10_print_9 : decode cX10_print 9 = .ok (.iload 4, 2) := by decide +kernel
theorem dX10_print_11 : decode cX10_print 11 = .ok (.ifCond .ge 6, 3) := by decide +kernel
theorem dX10_print_14 : decode cX10_print 14 = .ok (.bipush (-2), 2) := by decide +kernel
theorem dX10_print_16 : decode cX10_print 16 = .ok (.ireturn, 1) := by decide +kernel
theorem dX10_print_17 : decode cX10_print 17 = .ok (.aload_n 0, 1) := by decide +kernel
theorem dX10_print_18 : decode cX10_print 18 = .ok (.iload_n 1, 1) := by decide +kernel
theorem dX10_print_19 : decode cX10_print 19 = .ok (.iload 4, 2) := by decide +kernel
theorem dX10_print_21 : decode cX10_print 21 = .ok (.invokevirtual 119, 3) := by decide +kernel
theorem dX10_print_24 : decode cX10_print 24 = .ok (.istore 5, 2) := by decide +kernel
theorem dX10_print_26 : decode cX10_print 26 = .ok (.aload_n 0, 1) := by decide +kernel
theorem dX10_print_27 : decode cX10_print 27 = .ok (.iload 5, 2) := by decide +kernel
theorem dX10_print_29 : decode cX10_print 29 = .ok (.aload_n 0, 1) := by decide +kernel
theorem dX10_print_30 : decode cX10_print 30 = .ok (.iload_n 1, 1) := by decide +kernel
theorem dX10_print_31 : decode cX10_print 31 = .ok (.iload 4, 2) := by decide +kernel
theorem dX10_print_33 : decode cX10_print 33 = .ok (.invokevirtual 196, 3) := by decide +kernel
theorem dX10_print_36 : decode cX10_print 36 = .ok (.invokevirtual 199, 3) := by decide +kernel
theorem dX10_print_39 : decode cX10_print 39 = .ok (.aload_n 0, 1) := by decide +kernel
theorem dX10_print_40 : decode cX10_print 40 = .ok (.iconst 0, 1) := by decide +kernel
theorem dX10_print_41 : decode cX10_print 41 = .ok (.putfield 185, 3) := by decide +kernel
theorem dX10_print_44 : decode cX10_print 44 = .ok (.aload_n 0, 1) := by decide +kernel
theorem dX10_print_45 : decode cX10_print 45 = .ok (.iconst 0, 1) := by decide +kernel
theorem dX10_print_46 : decode cX10_print 46 = .ok (.putfield 179, 3) := by decide +kernel
theorem dX10_print_49 : decode cX10_print 49 = .ok (.aload_n 0, 1) := by decide +kernel
theorem dX10_print_50 : decode cX10_print 50 = .ok (.aload_n 0, 1) := by decide +kernel
theorem dX10_print_51 : decode cX10_print 51 = .ok (.iload_n 1, 1) := by decide +kernel
theorem dX10_print_52 : decode cX10_print 52 = .ok (.iload 4, 2) := by decide +kernel
theorem dX10_print_54 : decode cX10_print 54 = .ok (.invokevirtual 196, 3) := by decide +kernel
theorem dX10_print_57 : decode cX10_print 57 = .ok (.iconst 1, 1) := by decide +kernel
theorem dX10_print_58 : decode cX10_print 58 = .ok (.isub, 1) := by decide +kernel
theorem dX10_print_59 : decode cX10_print 59 = .ok (.invokevirtual 182, 3) := by decide +kernel
theorem dX10_print_62 : decode cX10_print 62 = .ok (.aload_n 0, 1) := by decide +kernel
theorem dX10_print_63 : decode cX10_print 63 = .ok (.getfield 179, 3) := by decide +kernel
theorem dX10_print_66 : decode cX10_print 66 = .ok (.ifCond .le 75, 3) := by decide +kernel
theorem dX10_print_69 : decode cX10_print 69 = .ok (.aload_n 0, 1) := by decide +kernel
theorem dX10_print_70 : decode cX10_print 70 = .ok (.dup, 1) := by decide +kernel
theorem dX10_print_71 : decode cX10_print 71 = .ok (.getfield 179, 3) := by decide +kernel
theorem dX10_print_74 : decode cX10_print 74 = .ok (.iconst 1, 1) := by decide +kernel
theorem dX10_print_75 : decode cX10_print 75 = .ok (.isub, 1) := by decide +kernel
theorem dX10_print_76 : decode cX10_print 76 = .ok (.putfield 179, 3) := by decide +kernel
theorem dX10_print_79 : decode cX10_print 79 = .ok (.aload_n 0, 1) := by decide +kernel
theorem dX10_print_80 : decode cX10_print 80 = .ok (.getfield 43, 3) := by decide +kernel
theorem dX10_print_83 : decode cX10_print 83 = .ok (.aload_n 0, 1) := by decide +kernel
theorem dX10_print_84 : decode cX10_print 84 = .ok (.getfield 179, 3) := by decide +kernel
theorem dX10_print_87 : decode cX10_print 87 = .ok (.iaload, 1) := by decide +kernel
theorem dX10_print_88 : decode cX10_print 88 = .ok (.ifCond .lt 21, 3) := by decide +kernel
theorem dX10_print_91 : decode cX10_print 91 = .ok (.aload_n 0, 1) := by decide +kernel
theorem dX10_print_92 : decode cX10_print 92 = .ok (.iload 5, 2) := by decide +kernel
theorem dX10_print_94 : decode cX10_print 94 = .ok (.aload_n 0, 1) := by decide +kernel
theorem dX10_print_95 : decode cX10_print 95 = .ok (.getfield 43, 3) := by decide +kernel
theorem dX10_print_98 : decode cX10_print 98 = .ok (.aload_n 0, 1) := by decide +kernel
theorem dX10_print_99 : decode cX10_print 99 = .ok (.getfield 179, 3) := by decide +kernel
theorem dX10_print_102 : decode cX10_print 102 = .ok (.iaload, 1) := by decide +kernel
theorem dX10_print_103 : decode cX10_print 103 = .ok (.invokevirtual 203, 3) := by decide +kernel
theorem dX10_print_106 : decode cX10_print 106 = .ok (.goto (-44), 3) := by decide +kernel
theorem dX10_print_109 : decode cX10_print 109 = .ok (.aload_n 0, 1) := by decide +kernel
theorem dX10_print_110 : decode cX10_print 110 = .ok (.getfield 46, 3) := by decide +kernel
theorem dX10_print_113 : decode cX10_print 113 = .ok (.aload_n 0, 1) := by decide +kernel
theorem dX10_print_114 : decode cX10_print 114 = .ok (.getfield 185, 3) := by decide +kernel
theorem dX10_print_117 : decode cX10_print 117 = .ok (.aload_n 0, 1) := by decide +kernel
theorem dX10_print_118 : decode cX10_print 118 = .ok (.getfield 43, 3) := by decide +kernel
theorem dX10_print_121 : decode cX10_print 121 = .ok (.aload_n 0, 1) := by decide +kernel
theorem dX10_print_122 : decode cX10_print 122 = .ok (.getfield 179, 3) := by decide +kernel
theorem dX10_print_125 : decode cX10_print 125 = .ok (.iaload, 1) := by decide +kernel
theorem dX10_print_126 : decode cX10_print 126 = .ok (.ineg, 1) := by decide +kernel
theorem dX10_print_127 : decode cX10_print 127 = .ok (.iastore, 1) := by decide +kernel
theorem dX10_print_128 : decode cX10_print 128 = .ok (.aload_n 0, 1) := by decide +kernel
theorem dX10_print_129 : decode cX10_print 129 = .ok (.dup, 1) := by decide +kernel
theorem dX10_print_130 : decode cX10_print 130 = .ok (.getfield 185, 3) := by decide +kernel
theorem dX10_print_133 : decode cX10_print 133 = .ok (.iconst 1, 1) := by decide +kernel
theorem dX10_print_134 : decode cX10_print 134 = .ok (.iadd, 1) := by decide +kernel
theorem dX10_print_135 : decode cX10_print 135 = .ok (.putfield 185, 3) := by decide +kernel
theorem dX10_print_138 : decode cX10_print 138 = .ok (.goto (-76), 3) := by decide +kernel
theorem dX10_print_141 : decode cX10_print 141 = .ok (.aload_n 0, 1) := by decide +kernel
theorem dX10_print_142 : decode cX10_print 142 = .ok (.getfield 185, 3) := by decide +kernel
theorem dX10_print_145 : decode cX10_print 145 = .ok (.ireturn, 1) := by decide +kernel
theorem dX10_printed_0 : decode cX10_printed 0 = .ok (.iload_n 1, 1) := by decide +kernel
theorem dX10_printed_1 : decode cX10_printed 1 = .ok (.iconst 0, 1) := by decide +kernel
theorem dX10_printed_2 : decode cX10_printed 2 = .ok (.aload_n 0, 1) := by decide +kernel
theorem dX10_printed_3 : decode cX10_printed 3 = .ok (.getfield 185, 3) := by decide +kernel
theorem dX10_printed_6 : decode cX10_printed 6 = .ok (.iconst 1, 1) := by decide +kernel
theorem dX10_printed_7 : decode cX10_printed 7 = .ok (.isub, 1) := by decide +kernel
theorem dX10_printed_8 : decode cX10_printed 8 = .ok (.invokestatic 127, 3) := by decide +kernel
theorem dX10_printed_11 : decode cX10_printed 11 = .ok (.ifCond .eq 12, 3) := by decide +kernel
theorem dX10_printed_14 : decode cX10_printed 14 = .ok (.aload_n 0, 1) := by decide +kernel
theorem dX10_printed_15 : decode cX10_printed 15 = .ok (.getfield 46, 3) := by decide +kernel
theorem dX10_printed_18 : decode cX10_printed 18 = .ok (.iload_n 1, 1) := by decide +kernel
theorem dX10_printed_19 : decode cX10_printed 19 = .ok (.iaload, 1) := by decide +kernel
theorem dX10_printed_20 : decode cX10_printed 20 = .ok (.goto 4, 3) := by decide +kernel
theorem dX10_printed_23 : decode cX10_printed 23 = .ok (.iconst (-1), 1) := by decide +kernel
theorem dX10_printed_24 : decode cX10_printed 24 = .ok (.ireturn, 1) := by decide +kernel
theorem dX10_satisfies_0 : decode cX10_satisfies 0 = .ok (.lconst 0, 1) := by decide +kernel
theorem dX10_satisfies_1 : decode cX10_satisfies 1 = .ok (.lstore 4, 2) := by decide +kernel
theorem dX10_satisfies_3 : decode cX10_satisfies 3 = .ok (.aload_n 0, 1) := by decide +kernel
theorem dX10_satisfies_4 : decode cX10_satisfies 4 = .ok (.iload_n 1, 1) := by decide +kernel
theorem dX10_satisfies_5 : decode cX10_satisfies 5 = .ok (.iload_n 2, 1) := by decide +kernel
theorem dX10_satisfies_6 : decode cX10_satisfies 6 = .ok (.invokevirtual 119, 3) := by decide +kernel
theorem dX10_satisfies_9 : decode cX10_satisfies 9 = .ok (.istore 6, 2) := by decide +kernel
theorem dX10_satisfies_11 : decode cX10_satisfies 11 = .ok (.iconst 0, 1) := by decide +kernel
theorem dX10_satisfies_12 : decode cX10_satisfies 12 = .ok (.istore 7, 2) := by decide +kernel
theorem dX10_satisfies_14 : decode cX10_satisfies 14 = .ok (.iload 7, 2) := by decide +kernel
theorem dX10_satisfies_16 : decode cX10_satisfies 16 = .ok (.aload_n 0, 1) := by decide +kernel
theorem dX10_satisfies_17 : decode cX10_satisfies 17 = .ok (.iload_n 1, 1) := by decide +kernel
theorem dX10_satisfies_18 : decode cX10_satisfies 18 = .ok (.iload_n 2, 1) := by decide +kernel
theorem dX10_satisfies_19 : decode cX10_satisfies 19 = .ok (.invokevirtual 196, 3) := by decide +kernel
theorem dX10_satisfies_22 : decode cX10_satisfies 22 = .ok (.if_icmp .ge 110, 3) := by decide +kernel
theorem dX10_satisfies_25 : decode cX10_satisfies 25 = .ok (.aload_n 0, 1) := by decide +kernel
theorem dX10_satisfies_26 : decode cX10_satisfies 26 = .ok (.getfield 25, 3) := by decide +kernel
theorem dX10_satisfies_29 : decode cX10_satisfies 29 = .ok (.iload 6, 2) := by decide +kernel
theorem dX10_satisfies_31 : decode cX10_satisfies 31 = .ok (.iload 7, 2) := by decide +kernel
theorem dX10_satisfies_33 : decode cX10_satisfies 33 = .ok (.iadd, 1) := by decide +kernel
theorem dX10_satisfies_34 : decode cX10_satisfies 34 = .ok (.iaload, 1) := by decide +kernel
theorem dX10_satisfies_35 : decode cX10_satisfies 35 = .ok (.istore 8, 2) := by decide +kernel
theorem dX10_satisfies_37 : decode cX10_satisfies 37 = .ok (.iload 8, 2) := by decide +kernel
theorem dX10_satisfies_39 : decode cX10_satisfies 39 = .ok (.bipush 10, 2) := by decide +kernel
theorem dX10_satisfies_41 : decode cX10_satisfies 41 = .ok (.if_icmp .lt 49, 3) := by decide +kernel
theorem dX10_satisfies_44 : decode cX10_satisfies 44 = .ok (.lload 4, 2) := by decide +kernel
theorem dX10_satisfies_46 : decode cX10_satisfies 46 = .ok (.lconst 1, 1) := by decide +kernel
theorem dX10_satisfies_47 : decode cX10_satisfies 47 = .ok (.land, 1) := by decide +kernel
theorem dX10_satisfies_48 : decode cX10_satisfies 48 = .ok (.lstore 9, 2) := by decide +kernel
theorem dX10_satisfies_50 : decode cX10_satisfies 50 = .ok (.lload 4, 2) := by decide +kernel
theorem dX10_satisfies_52 : decode cX10_satisfies 52 = .ok (.iconst 1, 1) := by decide +kernel
theorem dX10_satisfies_53 : decode cX10_satisfies 53 = .ok (.lshr, 1) := by decide +kernel
theorem dX10_satisfies_54 : decode cX10_satisfies 54 = .ok (.lconst 1, 1) := by decide +kernel
theorem dX10_satisfies_55 : decode cX10_satisfies 55 = .ok (.land, 1) := by decide +kernel
theorem dX10_satisfies_56 : decode cX10_satisfies 56 = .ok (.lstore 11, 2) := by decide +kernel
theorem dX10_satisfies_58 : decode cX10_satisfies 58 = .ok (.lload 4, 2) := by decide +kernel
theorem dX10_satisfies_60 : decode cX10_satisfies 60 = .ok (.iconst 2, 1) := by decide +kernel
theorem dX10_satisfies_61 : decode cX10_satisfies 61 = .ok (.lshr, 1) := by decide +kernel
theorem dX10_satisfies_62 : decode cX10_satisfies 62 = .ok (.iconst 1, 1) := by decide +kernel
theorem dX10_satisfies_63 : decode cX10_satisfies 63 = .ok (.lshl, 1) := by decide +kernel
theorem dX10_satisfies_64 : decode cX10_satisfies 64 = .ok (.iload 8, 2) := by decide +kernel
theorem dX10_satisfies_66 : decode cX10_satisfies 66 = .ok (.bipush 10, 2) := by decide +kernel
theorem dX10_satisfies_68 : decode cX10_satisfies 68 = .ok (.if_icmp .ne 11, 3) := by decide +kernel
theorem dX10_satisfies_71 : decode cX10_satisfies 71 = .ok (.lload 9, 2) := by decide +kernel
theorem dX10_satisfies_73 : decode cX10_satisfies 73 = .ok (.lload 11, 2) := by decide +kernel
theorem dX10_satisfies_75 : decode cX10_satisfies 75 = .ok (.land, 1) := by decide +kernel
theorem dX10_satisfies_76 : decode cX10_satisfies 76 = .ok (.goto 8, 3) := by decide +kernel
theorem dX10_satisfies_79 : decode cX10_satisfies 79 = .ok (.lload 9, 2) := by decide +kernel
theorem dX10_satisfies_81 : decode cX10_satisfies 81 = .ok (.lload 11, 2) := by decide +kernel
theorem dX10_satisfies_83 : decode cX10_satisfies 83 = .ok (.lor, 1) := by decide +kernel
theorem dX10_satisfies_84 : decode cX10_satisfies 84 = .ok (.lor, 1) := by decide +kernel
theorem dX10_satisfies_85 : decode cX10_satisfies 85 = .ok (.lstore 4, 2) := by decide +kernel
theorem dX10_satisfies_87 : decode cX10_satisfies 87 = .ok (.goto 39, 3) := by decide +kernel
theorem dX10_satisfies_90 : decode cX10_satisfies 90 = .ok (.lload 4, 2) := by decide +kernel
theorem dX10_satisfies_92 : decode cX10_satisfies 92 = .ok (.iconst 1, 1) := by decide +kernel
theorem dX10_satisfies_93 : decode cX10_satisfies 93 = .ok (.lshl, 1) := by decide +kernel
theorem dX10_satisfies_94 : decode cX10_satisfies 94 = .ok (.iload 8, 2) := by decide +kernel
theorem dX10_satisfies_96 : decode cX10_satisfies 96 = .ok (.bipush 8, 2) := by decide +kernel
theorem dX10_satisfies_98 : decode cX10_satisfies 98 = .ok (.if_icmp .eq 20, 3) := by decide +kernel
theorem dX10_satisfies_101 : decode cX10_satisfies 101 = .ok (.iload 8, 2) := by decide +kernel
theorem dX10_satisfies_103 : decode cX10_satisfies 103 = .ok (.bipush 8, 2) := by decide +kernel
theorem dX10_satisfies_105 : decode cX10_satisfies 105 = .ok (.if_icmp .ge 17, 3) := by decide +kernel
theorem dX10_satisfies_108 : decode cX10_satisfies 108 = .ok (.iload_n 3, 1) := by decide +kernel
theorem dX10_satisfies_109 : decode cX10_satisfies 109 = .ok (.iload 8, 2) := by decide +kernel
theorem dX10_satisfies_111 : decode cX10_satisfies 111 = .ok (.ishr, 1) := by decide +kernel
theorem dX10_satisfies_112 : decode cX10_satisfies 112 = .ok (.iconst 1, 1) := by decide +kernel
theorem dX10_satisfies_113 : decode cX10_satisfies 113 = .ok (.iand, 1) := by decide +kernel
theorem dX10_satisfies_114 : decode cX10_satisfies 114 = .ok (.iconst 1, 1) := by decide +kernel
theorem dX10_satisfies_115 : decode cX10_satisfies 115 = .ok (.if_icmp .ne 7, 3) := by decide +kernel
theorem dX10_satisfies_118 : decode cX10_satisfies 118 = .ok (.lconst 1, 1) := by decide +kernel
theorem dX10_satisfies_119 : decode cX10_satisfies 119 = .ok (.goto 4, 3) := by decide +kernel
theorem dX10_satisfies_122 : decode cX10_satisfies 122 = .ok (.lconst 0, 1) := by decide +kernel
theorem dX10_satisfies_123 : decode cX10_satisfies 123 = .ok (.lor, 1) := by decide +kernel
theorem dX10_satisfies_124 : decode cX10_satisfies 124 = .ok (.lstore 4, 2) := by decide +kernel
theorem dX10_satisfies_126 : decode cX10_satisfies 126 = .ok (.iinc 7 1, 3) := by decide +kernel
theorem dX10_satisfies_129 : decode cX10_satisfies 129 = .ok (.goto (-115), 3) := by decide +kernel
theorem dX10_satisfies_132 : decode cX10_satisfies 132 = .ok (.lload 4, 2) := by decide +kernel
theorem dX10_satisfies_134 : decode cX10_satisfies 134 = .ok (.lconst 1, 1) := by decide +kernel
theorem dX10_satisfies_135 : decode cX10_satisfies 135 = .ok (.lcmp, 1) := by decide +kernel
theorem dX10_satisfies_136 : decode cX10_satisfies 136 = .ok (.ifCond .ne 7, 3) := by decide +kernel
theorem dX10_satisfies_139 : decode cX10_satisfies 139 = .ok (.iconst 1, 1) := by decide +kernel
theorem dX10_satisfies_140 : decode cX10_satisfies 140 = .ok (.goto 4, 3) := by decide +kernel
theorem dX10_satisfies_143 : decode cX10_satisfies 143 = .ok (.iconst 0, 1) := by decide +kernel
theorem dX10_satisfies_144 : decode cX10_satisfies 144 = .ok (.ireturn, 1) := by decide +kernel
theorem dX10_isSatisfied_0 : decode cX10_isSatisfied 0 = .ok (.aload_n 0, 1) := by decide +kernel
theorem dX10_isSatisfied_1 : decode cX10_isSatisfied 1 = .ok (.iload_n 1, 1) := by decide +kernel
theorem dX10_isSatisfied_2 : decode cX10_isSatisfied 2 = .ok (.iload_n 2, 1) := by decide +kernel
theorem dX10_isSatisfied_3 : decode cX10_isSatisfied 3 = .ok (.iload_n 3, 1) := by decide +kernel
theorem dX10_isSatisfied_4 : decode cX10_isSatisfied 4 = .ok (.invokevirtual 192, 3) := by decide +kernel
theorem dX10_isSatisfied_7 : decode cX10_isSatisfied 7 = .ok (.istore 5, 2) := by decide +kernel
theorem dX10_isSatisfied_9 : decode cX10_isSatisfied 9 = .ok (.iload 5, 2) := by decide +kernel
theorem dX10_isSatisfied_11 : decode cX10_isSatisfied 11 = .ok (.ifCond .lt 13, 3) := by decide +kernel
theorem dX10_isSatisfied_14 : decode cX10_isSatisfied 14 = .ok (.aload_n 0, 1) := by decide +kernel
theorem dX10_isSatisfied_15 : decode cX10_isSatisfied 15 = .ok (.iload_n 1, 1) := by decide +kernel
theorem dX10_isSatisfied_16 : decode cX10_isSatisfied 16 = .ok (.iload 4, 2) := by decide +kernel
theorem dX10_isSatisfied_18 : decode cX10_isSatisfied 18 = .ok (.invokevirtual 206, 3) := by decide +kernel
theorem dX10_isSatisfied_21 : decode cX10_isSatisfied 21 = .ok (.ifCond .ne 6, 3) := by decide +kernel
theorem dX10_isSatisfied_24 : decode cX10_isSatisfied 24 = .ok (.bipush (-2), 2) := by decide +kernel
theorem dX10_isSatisfied_26 : decode cX10_isSatisfied 26 = .ok (.ireturn, 1) := by decide +kernel
theorem dX10_isSatisfied_27 : decode cX10_isSatisfied 27 = .ok (.aload_n 0, 1) := by decide +kernel
theorem dX10_isSatisfied_28 : decode cX10_isSatisfied 28 = .ok (.iload_n 1, 1) := by decide +kernel
theorem dX10_isSatisfied_29 : decode cX10_isSatisfied 29 = .ok (.iload 5, 2) := by decide +kernel
theorem dX10_isSatisfied_31 : decode cX10_isSatisfied 31 = .ok (.iload 4, 2) := by decide +kernel
theorem dX10_isSatisfied_33 : decode cX10_isSatisfied 33 = .ok (.invokevirtual 209, 3) := by decide +kernel
theorem dX10_isSatisfied_36 : decode cX10_isSatisfied 36 = .ok (.ifCond .eq 7, 3) := by decide +kernel
theorem dX10_isSatisfied_39 : decode cX10_isSatisfied 39 = .ok (.iconst 1, 1) := by decide +kernel
theorem dX10_isSatisfied_40 : decode cX10_isSatisfied 40 = .ok (.goto 4, 3) := by decide +kernel
theorem dX10_isSatisfied_43 : decode cX10_isSatisfied 43 = .ok (.iconst 0, 1) := by decide +kernel
theorem dX10_isSatisfied_44 : decode cX10_isSatisfied 44 = .ok (.ireturn, 1) := by decide +kernel
theorem dX10_satisfiesWanted_0 : decode cX10_satisfiesWanted 0 = .ok (.aload_n 0, 1) := by decide +kernel
theorem dX10_satisfiesWanted_1 : decode cX10_satisfiesWanted 1 = .ok (.getfield 212, 3) := by decide +kernel
theorem dX10_satisfiesWanted_4 : decode cX10_satisfiesWanted 4 = .ok (.ifCond .lt 17, 3) := by decide +kernel
theorem dX10_satisfiesWanted_7 : decode cX10_satisfiesWanted 7 = .ok (.aload_n 0, 1) := by decide +kernel
theorem dX10_satisfiesWanted_8 : decode cX10_satisfiesWanted 8 = .ok (.aload_n 0, 1) := by decide +kernel
theorem dX10_satisfiesWanted_9 : decode cX10_satisfiesWanted 9 = .ok (.getfield 215, 3) := by decide +kernel
theorem dX10_satisfiesWanted_12 : decode cX10_satisfiesWanted 12 = .ok (.aload_n 0, 1) := by decide +kernel
theorem dX10_satisfiesWanted_13 : decode cX10_satisfiesWanted 13 = .ok (.getfield 212, 3) := by decide +kernel
theorem dX10_satisfiesWanted_16 : decode cX10_satisfiesWanted 16 = .ok (.iload_n 1, 1) := by decide +kernel
theorem dX10_satisfiesWanted_17 : decode cX10_satisfiesWanted 17 = .ok (.invokevirtual 209, 3) := by decide +kernel
theorem dX10_satisfiesWanted_20 : decode cX10_satisfiesWanted 20 = .ok (.ireturn, 1) := by decide +kernel
theorem dX10_satisfiesWanted_21 : decode cX10_satisfiesWanted 21 = .ok (.iconst 1, 1) := by decide +kernel
theorem dX10_satisfiesWanted_22 : decode cX10_satisfiesWanted 22 = .ok (.istore_n 2, 1) := by decide +kernel
theorem dX10_satisfiesWanted_23 : decode cX10_satisfiesWanted 23 = .ok (.iconst 0, 1) := by decide +kernel
theorem dX10_satisfiesWanted_24 : decode cX10_satisfiesWanted 24 = .ok (.istore_n 3, 1) := by decide +kernel
theorem dX10_satisfiesWanted_25 : decode cX10_satisfiesWanted 25 = .ok (.iload_n 3, 1) := by decide +kernel
theorem dX10_satisfiesWanted_26 : decode cX10_satisfiesWanted 26 = .ok (.aload_n 0, 1) := by decide +kernel
theorem dX10_satisfiesWanted_27 : decode cX10_satisfiesWanted 27 = .ok (.getfield 7, 3) := by decide +kernel
theorem dX10_satisfiesWanted_30 : decode cX10_satisfiesWanted 30 = .ok (.aload_n 0, 1) := by decide +kernel
theorem dX10_satisfiesWanted_31 : decode cX10_satisfiesWanted 31 = .ok (.getfield 215, 3) := by decide +kernel
theorem dX10_satisfiesWanted_34 : decode cX10_satisfiesWanted 34 = .ok (.iaload, 1) := by decide +kernel
theorem dX10_satisfiesWanted_35 : decode cX10_satisfiesWanted 35 = .ok (.if_icmp .ge 50, 3) := by decide +kernel
theorem dX10_satisfiesWanted_38 : decode cX10_satisfiesWanted 38 = .ok (.iload_n 2, 1) := by decide +kernel
theorem dX10_satisfiesWanted_39 : decode cX10_satisfiesWanted 39 = .ok (.ifCond .eq 38, 3) := by decide +kernel
theorem dX10_satisfiesWanted_42 : decode cX10_satisfiesWanted 42 = .ok (.aload_n 0, 1) := by decide +kernel
theorem dX10_satisfiesWanted_43 : decode cX10_satisfiesWanted 43 = .ok (.getfield 218, 3) := by decide +kernel
theorem dX10_satisfiesWanted_46 : decode cX10_satisfiesWanted 46 = .ok (.iload_n 3, 1) := by decide +kernel
theorem dX10_satisfiesWanted_47 : decode cX10_satisfiesWanted 47 = .ok (.ishr, 1) := by decide +kernel
theorem dX10_satisfiesWanted_48 : decode cX10_satisfiesWanted 48 = .ok (.iconst 1, 1) := by decide +kernel
theorem dX10_satisfiesWanted_49 : decode cX10_satisfiesWanted 49 = .ok (.iand, 1) := by decide +kernel
theorem dX10_satisfiesWanted_50 : decode cX10_satisfiesWanted 50 = .ok (.ifCond .eq 23, 3) := by decide +kernel
theorem dX10_satisfiesWanted_53 : decode cX10_satisfiesWanted 53 = .ok (.aload_n 0, 1) := by decide +kernel
theorem dX10_satisfiesWanted_54 : decode cX10_satisfiesWanted 54 = .ok (.aload_n 0, 1) := by decide +kernel
theorem dX10_satisfiesWanted_55 : decode cX10_satisfiesWanted 55 = .ok (.getfield 215, 3) := by decide +kernel
theorem dX10_satisfiesWanted_58 : decode cX10_satisfiesWanted 58 = .ok (.iload_n 3, 1) := by decide +kernel
theorem dX10_satisfiesWanted_59 : decode cX10_satisfiesWanted 59 = .ok (.aload_n 0, 1) := by decide +kernel
theorem dX10_satisfiesWanted_60 : decode cX10_satisfiesWanted 60 = .ok (.getfield 221, 3) := by decide +kernel
theorem dX10_satisfiesWanted_63 : decode cX10_satisfiesWanted 63 = .ok (.invokestatic 176, 3) := by decide +kernel
theorem dX10_satisfiesWanted_66 : decode cX10_satisfiesWanted 66 = .ok (.iload_n 1, 1) := by decide +kernel
theorem dX10_satisfiesWanted_67 : decode cX10_satisfiesWanted 67 = .ok (.invokevirtual 209, 3) := by decide +kernel
theorem dX10_satisfiesWanted_70 : decode cX10_satisfiesWanted 70 = .ok (.ifCond .eq 7, 3) := by decide +kernel
theorem dX10_satisfiesWanted_73 : decode cX10_satisfiesWanted 73 = .ok (.iconst 1, 1) := by decide +kernel
theorem dX10_satisfiesWanted_74 : decode cX10_satisfiesWanted 74 = .ok (.goto 4, 3) := by decide +kernel
theorem dX10_satisfiesWanted_77 : decode cX10_satisfiesWanted 77 = .ok (.iconst 0, 1) := by decide +kernel
theorem dX10_satisfiesWanted_78 : decode cX10_satisfiesWanted 78 = .ok (.istore_n 2, 1) := by decide +kernel
theorem dX10_satisfiesWanted_79 : decode cX10_satisfiesWanted 79 = .ok (.iinc 3 1, 3) := by decide +kernel
theorem dX10_satisfiesWanted_82 : decode cX10_satisfiesWanted 82 = .ok (.goto (-57), 3) := by decide +kernel
theorem dX10_satisfiesWanted_85 : decode cX10_satisfiesWanted 85 = .ok (.iload_n 2, 1) := by decide +kernel
theorem dX10_satisfiesWanted_86 : decode cX10_satisfiesWanted 86 = .ok (.ireturn, 1) := by decide +kernel
theorem dX10_isMinimal_0 : decode cX10_isMinimal 0 = .ok (.aload_n 0, 1) := by decide +kernel
theorem dX10_isMinimal_1 : decode cX10_isMinimal 1 = .ok (.iload_n 1, 1) := by decide +kernel
theorem dX10_isMinimal_2 : decode cX10_isMinimal 2 = .ok (.invokevirtual 224, 3) := by decide +kernel
theorem dX10_isMinimal_5 : decode cX10_isMinimal 5 = .ok (.istore_n 2, 1) := by decide +kernel
theorem dX10_isMinimal_6 : decode cX10_isMinimal 6 = .ok (.iconst 0, 1) := by decide +kernel
theorem dX10_isMinimal_7 : decode cX10_isMinimal 7 = .ok (.istore_n 3, 1) := by decide +kernel
theorem dX10_isMinimal_8 : decode cX10_isMinimal 8 = .ok (.iload_n 3, 1) := by decide +kernel
theorem dX10_isMinimal_9 : decode cX10_isMinimal 9 = .ok (.bipush 6, 2) := by decide +kernel
theorem dX10_isMinimal_11 : decode cX10_isMinimal 11 = .ok (.if_icmp .ge 41, 3) := by decide +kernel
theorem dX10_isMinimal_14 : decode cX10_isMinimal 14 = .ok (.iload_n 2, 1) := by decide +kernel
theorem dX10_isMinimal_15 : decode cX10_isMinimal 15 = .ok (.ifCond .eq 37, 3) := by decide +kernel
theorem dX10_isMinimal_18 : decode cX10_isMinimal 18 = .ok (.iload_n 1, 1) := by decide +kernel
theorem dX10_isMinimal_19 : decode cX10_isMinimal 19 = .ok (.iload_n 3, 1) := by decide +kernel
theorem dX10_isMinimal_20 : decode cX10_isMinimal 20 = .ok (.ishr, 1) := by decide +kernel
theorem dX10_isMinimal_21 : decode cX10_isMinimal 21 = .ok (.iconst 1, 1) := by decide +kernel
theorem dX10_isMinimal_22 : decode cX10_isMinimal 22 = .ok (.iand, 1) := by decide +kernel
theorem dX10_isMinimal_23 : decode cX10_isMinimal 23 = .ok (.ifCond .eq 17, 3) := by decide +kernel
theorem dX10_isMinimal_26 : decode cX10_isMinimal 26 = .ok (.aload_n 0, 1) := by decide +kernel
theorem dX10_isMinimal_27 : decode cX10_isMinimal 27 = .ok (.iload_n 1, 1) := by decide +kernel
theorem dX10_isMinimal_28 : decode cX10_isMinimal 28 = .ok (.iconst 1, 1) := by decide +kernel
theorem dX10_isMinimal_29 : decode cX10_isMinimal 29 = .ok (.iload_n 3, 1) := by decide +kernel
theorem dX10_isMinimal_30 : decode cX10_isMinimal 30 = .ok (.ishl, 1) := by decide +kernel
theorem dX10_isMinimal_31 : decode cX10_isMinimal 31 = .ok (.iconst (-1), 1) := by decide +kernel
theorem dX10_isMinimal_32 : decode cX10_isMinimal 32 = .ok (.ixor, 1) := by decide +kernel
theorem dX10_isMinimal_33 : decode cX10_isMinimal 33 = .ok (.iand, 1) := by decide +kernel
theorem dX10_isMinimal_34 : decode cX10_isMinimal 34 = .ok (.invokevirtual 224, 3) := by decide +kernel
theorem dX10_isMinimal_37 : decode cX10_isMinimal 37 = .ok (.ifCond .ne 7, 3) := by decide +kernel
theorem dX10_isMinimal_40 : decode cX10_isMinimal 40 = .ok (.iconst 1, 1) := by decide +kernel
theorem dX10_isMinimal_41 : decode cX10_isMinimal 41 = .ok (.goto 4, 3) := by decide +kernel
theorem dX10_isMinimal_44 : decode cX10_isMinimal 44 = .ok (.iconst 0, 1) := by decide +kernel
theorem dX10_isMinimal_45 : decode cX10_isMinimal 45 = .ok (.istore_n 2, 1) := by decide +kernel
theorem dX10_isMinimal_46 : decode cX10_isMinimal 46 = .ok (.iinc 3 1, 3) := by decide +kernel
theorem dX10_isMinimal_49 : decode cX10_isMinimal 49 = .ok (.goto (-41), 3) := by decide +kernel
theorem dX10_isMinimal_52 : decode cX10_isMinimal 52 = .ok (.iload_n 2, 1) := by decide +kernel
theorem dX10_isMinimal_53 : decode cX10_isMinimal 53 = .ok (.ireturn, 1) := by decide +kernel
theorem dX10_wants_0 : decode cX10_wants 0 = .ok (.aload_n 0, 1) := by decide +kernel
theorem dX10_wants_1 : decode cX10_wants 1 = .ok (.iload_n 1, 1) := by decide +kernel
theorem dX10_wants_2 : decode cX10_wants 2 = .ok (.putfield 215, 3) := by decide +kernel
theorem dX10_wants_5 : decode cX10_wants 5 = .ok (.aload_n 0, 1) := by decide +kernel
theorem dX10_wants_6 : decode cX10_wants 6 = .ok (.iload_n 2, 1) := by decide +kernel
theorem dX10_wants_7 : decode cX10_wants 7 = .ok (.putfield 212, 3) := by decide +kernel
theorem dX10_wants_10 : decode cX10_wants 10 = .ok (.aload_n 0, 1) := by decide +kernel
theorem dX10_wants_11 : decode cX10_wants 11 = .ok (.iload_n 3, 1) := by decide +kernel
theorem dX10_wants_12 : decode cX10_wants 12 = .ok (.putfield 218, 3) := by decide +kernel
theorem dX10_wants_15 : decode cX10_wants 15 = .ok (.aload_n 0, 1) := by decide +kernel
theorem dX10_wants_16 : decode cX10_wants 16 = .ok (.iload 4, 2) := by decide +kernel
theorem dX10_wants_18 : decode cX10_wants 18 = .ok (.putfield 221, 3) := by decide +kernel
theorem dX10_wants_21 : decode cX10_wants 21 = .ok (.return_, 1) := by decide +kernel
theorem dX10_model_0 : decode cX10_model 0 = .ok (.aload_n 0, 1) := by decide +kernel
theorem dX10_model_1 : decode cX10_model 1 = .ok (.iload_n 1, 1) := by decide +kernel
theorem dX10_model_2 : decode cX10_model 2 = .ok (.iload_n 2, 1) := by decide +kernel
theorem dX10_model_3 : decode cX10_model 3 = .ok (.iload_n 3, 1) := by decide +kernel
theorem dX10_model_4 : decode cX10_model 4 = .ok (.invokevirtual 192, 3) := by decide +kernel
theorem dX10_model_7 : decode cX10_model 7 = .ok (.istore 5, 2) := by decide +kernel
theorem dX10_model_9 : decode cX10_model 9 = .ok (.iload 5, 2) := by decide +kernel
theorem dX10_model_11 : decode cX10_model 11 = .ok (.ifCond .lt 9, 3) := by decide +kernel
theorem dX10_model_14 : decode cX10_model 14 = .ok (.iload 4, 2) := by decide +kernel
theorem dX10_model_16 : decode cX10_model 16 = .ok (.iconst (-1), 1) := by decide +kernel
theorem dX10_model_17 : decode cX10_model 17 = .ok (.if_icmp .ge 6, 3) := by decide +kernel
theorem dX10_model_20 : decode cX10_model 20 = .ok (.bipush (-2), 2) := by decide +kernel
theorem dX10_model_22 : decode cX10_model 22 = .ok (.ireturn, 1) := by decide +kernel
theorem dX10_model_23 : decode cX10_model 23 = .ok (.aload_n 0, 1) := by decide +kernel
theorem dX10_model_24 : decode cX10_model 24 = .ok (.iload_n 1, 1) := by decide +kernel
theorem dX10_model_25 : decode cX10_model 25 = .ok (.iload 5, 2) := by decide +kernel
theorem dX10_model_27 : decode cX10_model 27 = .ok (.iconst 0, 1) := by decide +kernel
theorem dX10_model_28 : decode cX10_model 28 = .ok (.iconst 0, 1) := by decide +kernel
theorem dX10_model_29 : decode cX10_model 29 = .ok (.invokevirtual 227, 3) := by decide +kernel
theorem dX10_model_32 : decode cX10_model 32 = .ok (.iconst 0, 1) := by decide +kernel
theorem dX10_model_33 : decode cX10_model 33 = .ok (.istore 6, 2) := by decide +kernel
theorem dX10_model_35 : decode cX10_model 35 = .ok (.iconst 0, 1) := by decide +kernel
theorem dX10_model_36 : decode cX10_model 36 = .ok (.istore 7, 2) := by decide +kernel
theorem dX10_model_38 : decode cX10_model 38 = .ok (.iload 7, 2) := by decide +kernel
theorem dX10_model_40 : decode cX10_model 40 = .ok (.aload_n 0, 1) := by decide +kernel
theorem dX10_model_41 : decode cX10_model 41 = .ok (.getfield 7, 3) := by decide +kernel
theorem dX10_model_44 : decode cX10_model 44 = .ok (.iload_n 1, 1) := by decide +kernel
theorem dX10_model_45 : decode cX10_model 45 = .ok (.iaload, 1) := by decide +kernel
theorem dX10_model_46 : decode cX10_model 46 = .ok (.if_icmp .gt 63, 3) := by decide +kernel
theorem dX10_model_49 : decode cX10_model 49 = .ok (.iconst 0, 1) := by decide +kernel
theorem dX10_model_50 : decode cX10_model 50 = .ok (.istore 8, 2) := by decide +kernel
theorem dX10_model_52 : decode cX10_model 52 = .ok (.iload 8, 2) := by decide +kernel
theorem dX10_model_54 : decode cX10_model 54 = .ok (.aload_n 0, 1) := by decide +kernel
theorem dX10_model_55 : decode cX10_model 55 = .ok (.iload_n 1, 1) := by decide +kernel
theorem dX10_model_56 : decode cX10_model 56 = .ok (.invokevirtual 115, 3) := by decide +kernel
theorem dX10_model_59 : decode cX10_model 59 = .ok (.if_icmp .gt 44, 3) := by decide +kernel
theorem dX10_model_62 : decode cX10_model 62 = .ok (.iload 8, 2) := by decide +kernel
theorem dX10_model_64 : decode cX10_model 64 = .ok (.invokestatic 231, 3) := by decide +kernel
theorem dX10_model_67 : decode cX10_model 67 = .ok (.iload 7, 2) := by decide +kernel
theorem dX10_model_69 : decode cX10_model 69 = .ok (.if_icmp .ne 28, 3) := by decide +kernel
theorem dX10_model_72 : decode cX10_model 72 = .ok (.aload_n 0, 1) := by decide +kernel
theorem dX10_model_73 : decode cX10_model 73 = .ok (.iload 8, 2) := by decide +kernel
theorem dX10_model_75 : decode cX10_model 75 = .ok (.invokevirtual 234, 3) := by decide +kernel
theorem dX10_model_78 : decode cX10_model 78 = .ok (.ifCond .ne 6, 3) := by decide +kernel
theorem dX10_model_81 : decode cX10_model 81 = .ok (.goto 16, 3) := by decide +kernel
theorem dX10_model_84 : decode cX10_model 84 = .ok (.iload 6, 2) := by decide +kernel
theorem dX10_model_86 : decode cX10_model 86 = .ok (.iload 4, 2) := by decide +kernel
theorem dX10_model_88 : decode cX10_model 88 = .ok (.if_icmp .ne 6, 3) := by decide +kernel
theorem dX10_model_91 : decode cX10_model 91 = .ok (.iload 8, 2) := by decide +kernel
theorem dX10_model_93 : decode cX10_model 93 = .ok (.ireturn, 1) := by decide +kernel
theorem dX10_model_94 : decode cX10_model 94 = .ok (.iinc 6 1, 3) := by decide +kernel
theorem dX10_model_97 : decode cX10_model 97 = .ok (.iinc 8 1, 3) := by decide +kernel
theorem dX10_model_100 : decode cX10_model 100 = .ok (.goto (-48), 3) := by decide +kernel
theorem dX10_model_103 : decode cX10_model 103 = .ok (.iinc 7 1, 3) := by decide +kernel
theorem dX10_model_106 : decode cX10_model 106 = .ok (.goto (-68), 3) := by decide +kernel
theorem dX10_model_109 : decode cX10_model 109 = .ok (.iload 4, 2) := by decide +kernel
theorem dX10_model_111 : decode cX10_model 111 = .ok (.iconst (-1), 1) := by decide +kernel
theorem dX10_model_112 : decode cX10_model 112 = .ok (.if_icmp .ne 8, 3) := by decide +kernel
theorem dX10_model_115 : decode cX10_model 115 = .ok (.iload 6, 2) := by decide +kernel
theorem dX10_model_117 : decode cX10_model 117 = .ok (.goto 4, 3) := by decide +kernel
theorem dX10_model_120 : decode cX10_model 120 = .ok (.iconst (-1), 1) := by decide +kernel
theorem dX10_model_121 : decode cX10_model 121 = .ok (.ireturn, 1) := by decide +kernel
theorem dX10_push_0 : decode cX10_push 0 = .ok (.iload_n 1, 1) := by decide +kernel
theorem dX10_push_1 : decode cX10_push 1 = .ok (.iconst 0, 1) := by decide +kernel
theorem dX10_push_2 : decode cX10_push 2 = .ok (.iconst 2, 1) := by decide +kernel
theorem dX10_push_3 : decode cX10_push 3 = .ok (.invokestatic 127, 3) := by decide +kernel
theorem dX10_push_6 : decode cX10_push 6 = .ok (.ifCond .ne 6, 3) := by decide +kernel
theorem dX10_push_9 : decode cX10_push 9 = .ok (.bipush (-2), 2) := by decide +kernel
theorem dX10_push_11 : decode cX10_push 11 = .ok (.ireturn, 1) := by decide +kernel
theorem dX10_push_12 : decode cX10_push 12 = .ok (.aload_n 0, 1) := by decide +kernel
theorem dX10_push_13 : decode cX10_push 13 = .ok (.getfield 237, 3) := by decide +kernel
theorem dX10_push_16 : decode cX10_push 16 = .ok (.bipush 12, 2) := by decide +kernel
theorem dX10_push_18 : decode cX10_push 18 = .ok (.if_icmp .ne 6, 3) := by decide +kernel
theorem dX10_push_21 : decode cX10_push 21 = .ok (.bipush (-3), 2) := by decide +kernel
theorem dX10_push_23 : decode cX10_push 23 = .ok (.ireturn, 1) := by decide +kernel
theorem dX10_push_24 : decode cX10_push 24 = .ok (.aload_n 0, 1) := by decide +kernel
theorem dX10_push_25 : decode cX10_push 25 = .ok (.getfield 49, 3) := by decide +kernel
theorem dX10_push_28 : decode cX10_push 28 = .ok (.aload_n 0, 1) := by decide +kernel
theorem dX10_push_29 : decode cX10_push 29 = .ok (.getfield 237, 3) := by decide +kernel
theorem dX10_push_32 : decode cX10_push 32 = .ok (.iload_n 1, 1) := by decide +kernel
theorem dX10_push_33 : decode cX10_push 33 = .ok (.iastore, 1) := by decide +kernel
theorem dX10_push_34 : decode cX10_push 34 = .ok (.aload_n 0, 1) := by decide +kernel
theorem dX10_push_35 : decode cX10_push 35 = .ok (.dup, 1) := by decide +kernel
theorem dX10_push_36 : decode cX10_push 36 = .ok (.getfield 237, 3) := by decide +kernel
theorem dX10_push_39 : decode cX10_push 39 = .ok (.iconst 1, 1) := by decide +kernel
theorem dX10_push_40 : decode cX10_push 40 = .ok (.iadd, 1) := by decide +kernel
theorem dX10_push_41 : decode cX10_push 41 = .ok (.putfield 237, 3) := by decide +kernel
theorem dX10_push_44 : decode cX10_push 44 = .ok (.aload_n 0, 1) := by decide +kernel
theorem dX10_push_45 : decode cX10_push 45 = .ok (.getfield 237, 3) := by decide +kernel
theorem dX10_push_48 : decode cX10_push 48 = .ok (.ireturn, 1) := by decide +kernel
theorem dX10_clearWord_0 : decode cX10_clearWord 0 = .ok (.aload_n 0, 1) := by decide +kernel
theorem dX10_clearWord_1 : decode cX10_clearWord 1 = .ok (.getfield 237, 3) := by decide +kernel
theorem dX10_clearWord_4 : decode cX10_clearWord 4 = .ok (.istore_n 1, 1) := by decide +kernel
theorem dX10_clearWord_5 : decode cX10_clearWord 5 = .ok (.aload_n 0, 1) := by decide +kernel
theorem dX10_clearWord_6 : decode cX10_clearWord 6 = .ok (.iconst 0, 1) := by decide +kernel
theorem dX10_clearWord_7 : decode cX10_clearWord 7 = .ok (.putfield 237, 3) := by decide +kernel
theorem dX10_clearWord_10 : decode cX10_clearWord 10 = .ok (.iload_n 1, 1) := by decide +kernel
theorem dX10_clearWord_11 : decode cX10_clearWord 11 = .ok (.ireturn, 1) := by decide +kernel
theorem dX10_isWordOf_0 : decode cX10_isWordOf 0 = .ok (.iconst 1, 1) := by decide +kernel
theorem dX10_isWordOf_1 : decode cX10_isWordOf 1 = .ok (.istore_n 2, 1) := by decide +kernel
theorem dX10_isWordOf_2 : decode cX10_isWordOf 2 = .ok (.iconst 0, 1) := by decide +kernel
theorem dX10_isWordOf_3 : decode cX10_isWordOf 3 = .ok (.istore_n 3, 1) := by decide +kernel
theorem dX10_isWordOf_4 : decode cX10_isWordOf 4 = .ok (.iload_n 3, 1) := by decide +kernel
theorem dX10_isWordOf_5 : decode cX10_isWordOf 5 = .ok (.aload_n 0, 1) := by decide +kernel
theorem dX10_isWordOf_6 : decode cX10_isWordOf 6 = .ok (.getfield 237, 3) := by decide +kernel
theorem dX10_isWordOf_9 : decode cX10_isWordOf 9 = .ok (.if_icmp .ge 33, 3) := by decide +kernel
theorem dX10_isWordOf_12 : decode cX10_isWordOf 12 = .ok (.iload_n 2, 1) := by decide +kernel
theorem dX10_isWordOf_13 : decode cX10_isWordOf 13 = .ok (.ifCond .eq 21, 3) := by decide +kernel
theorem dX10_isWordOf_16 : decode cX10_isWordOf 16 = .ok (.aload_n 0, 1) := by decide +kernel
theorem dX10_isWordOf_17 : decode cX10_isWordOf 17 = .ok (.iload_n 1, 1) := by decide +kernel
theorem dX10_isWordOf_18 : decode cX10_isWordOf 18 = .ok (.aload_n 0, 1) := by decide +kernel
theorem dX10_isWordOf_19 : decode cX10_isWordOf 19 = .ok (.getfield 49, 3) := by decide +kernel
theorem dX10_isWordOf_22 : decode cX10_isWordOf 22 = .ok (.iload_n 3, 1) := by decide +kernel
theorem dX10_isWordOf_23 : decode cX10_isWordOf 23 = .ok (.iaload, 1) := by decide +kernel
theorem dX10_isWordOf_24 : decode cX10_isWordOf 24 = .ok (.invokevirtual 135, 3) := by decide +kernel
theorem dX10_isWordOf_27 : decode cX10_isWordOf 27 = .ok (.ifCond .eq 7, 3) := by decide +kernel
theorem dX10_isWordOf_30 : decode cX10_isWordOf 30 = .ok (.iconst 1, 1) := by decide +kernel
theorem dX10_isWordOf_31 : decode cX10_isWordOf 31 = .ok (.goto 4, 3) := by decide +kernel
theorem dX10_isWordOf_34 : decode cX10_isWordOf 34 = .ok (.iconst 0, 1) := by decide +kernel
theorem dX10_isWordOf_35 : decode cX10_isWordOf 35 = .ok (.istore_n 2, 1) := by decide +kernel
theorem dX10_isWordOf_36 : decode cX10_isWordOf 36 = .ok (.iinc 3 1, 3) := by decide +kernel
theorem dX10_isWordOf_39 : decode cX10_isWordOf 39 = .ok (.goto (-35), 3) := by decide +kernel
theorem dX10_isWordOf_42 : decode cX10_isWordOf 42 = .ok (.iload_n 2, 1) := by decide +kernel
theorem dX10_isWordOf_43 : decode cX10_isWordOf 43 = .ok (.ireturn, 1) := by decide +kernel
theorem dX10_stepOf_0 : decode cX10_stepOf 0 = .ok (.iconst 0, 1) := by decide +kernel
theorem dX10_stepOf_1 : decode cX10_stepOf 1 = .ok (.istore 4, 2) := by decide +kernel
theorem dX10_stepOf_3 : decode cX10_stepOf 3 = .ok (.iconst 0, 1) := by decide +kernel
theorem dX10_stepOf_4 : decode cX10_stepOf 4 = .ok (.istore 5, 2) := by decide +kernel
theorem dX10_stepOf_6 : decode cX10_stepOf 6 = .ok (.iload 5, 2) := by decide +kernel
theorem dX10_stepOf_8 : decode cX10_stepOf 8 = .ok (.aload_n 0, 1) := by decide +kernel
theorem dX10_stepOf_9 : decode cX10_stepOf 9 = .ok (.getfield 7, 3) := by decide +kernel
theorem dX10_stepOf_12 : decode cX10_stepOf 12 = .ok (.iload_n 1, 1) := by decide +kernel
theorem dX10_stepOf_13 : decode cX10_stepOf 13 = .ok (.iaload, 1) := by decide +kernel
theorem dX10_stepOf_14 : decode cX10_stepOf 14 = .ok (.if_icmp .ge 37, 3) := by decide +kernel
theorem dX10_stepOf_17 : decode cX10_stepOf 17 = .ok (.iload 4, 2) := by decide +kernel
theorem dX10_stepOf_19 : decode cX10_stepOf 19 = .ok (.aload_n 0, 1) := by decide +kernel
theorem dX10_stepOf_20 : decode cX10_stepOf 20 = .ok (.iload_n 1, 1) := by decide +kernel
theorem dX10_stepOf_21 : decode cX10_stepOf 21 = .ok (.iload 5, 2) := by decide +kernel
theorem dX10_stepOf_23 : decode cX10_stepOf 23 = .ok (.iload_n 2, 1) := by decide +kernel
theorem dX10_stepOf_24 : decode cX10_stepOf 24 = .ok (.invokestatic 176, 3) := by decide +kernel
theorem dX10_stepOf_27 : decode cX10_stepOf 27 = .ok (.iload_n 3, 1) := by decide +kernel
theorem dX10_stepOf_28 : decode cX10_stepOf 28 = .ok (.invokevirtual 209, 3) := by decide +kernel
theorem dX10_stepOf_31 : decode cX10_stepOf 31 = .ok (.ifCond .eq 10, 3) := by decide +kernel
theorem dX10_stepOf_34 : decode cX10_stepOf 34 = .ok (.iconst 1, 1) := by decide +kernel
theorem dX10_stepOf_35 : decode cX10_stepOf 35 = .ok (.iload 5, 2) := by decide +kernel
theorem dX10_stepOf_37 : decode cX10_stepOf 37 = .ok (.ishl, 1) := by decide +kernel
theorem dX10_stepOf_38 : decode cX10_stepOf 38 = .ok (.goto 4, 3) := by decide +kernel
theorem dX10_stepOf_41 : decode cX10_stepOf 41 = .ok (.iconst 0, 1) := by decide +kernel
theorem dX10_stepOf_42 : decode cX10_stepOf 42 = .ok (.ior, 1) := by decide +kernel
theorem dX10_stepOf_43 : decode cX10_stepOf 43 = .ok (.istore 4, 2) := by decide +kernel
theorem dX10_stepOf_45 : decode cX10_stepOf 45 = .ok (.iinc 5 1, 3) := by decide +kernel
theorem dX10_stepOf_48 : decode cX10_stepOf 48 = .ok (.goto (-42), 3) := by decide +kernel
theorem dX10_stepOf_51 : decode cX10_stepOf 51 = .ok (.iload 4, 2) := by decide +kernel
theorem dX10_stepOf_53 : decode cX10_stepOf 53 = .ok (.ireturn, 1) := by decide +kernel
theorem dX10_acceptingFrom_0 : decode cX10_acceptingFrom 0 = .ok (.aload_n 0, 1) := by decide +kernel
theorem dX10_acceptingFrom_1 : decode cX10_acceptingFrom 1 = .ok (.getfield 16, 3) := by decide +kernel
theorem dX10_acceptingFrom_4 : decode cX10_acceptingFrom 4 = .ok (.iload_n 1, 1) := by decide +kernel
theorem dX10_acceptingFrom_5 : decode cX10_acceptingFrom 5 = .ok (.iaload, 1) := by decide +kernel
theorem dX10_acceptingFrom_6 : decode cX10_acceptingFrom 6 = .ok (.istore_n 3, 1) := by decide +kernel
theorem dX10_acceptingFrom_7 : decode cX10_acceptingFrom 7 = .ok (.aload_n 0, 1) := by decide +kernel
theorem dX10_acceptingFrom_8 : decode cX10_acceptingFrom 8 = .ok (.getfield 237, 3) := by decide +kernel
theorem dX10_acceptingFrom_11 : decode cX10_acceptingFrom 11 = .ok (.iconst 1, 1) := by decide +kernel
theorem dX10_acceptingFrom_12 : decode cX10_acceptingFrom 12 = .ok (.isub, 1) := by decide +kernel
theorem dX10_acceptingFrom_13 : decode cX10_acceptingFrom 13 = .ok (.istore 4, 2) := by decide +kernel
theorem dX10_acceptingFrom_15 : decode cX10_acceptingFrom 15 = .ok (.iload 4, 2) := by decide +kernel
theorem dX10_acceptingFrom_17 : decode cX10_acceptingFrom 17 = .ok (.iload_n 2, 1) := by decide +kernel
theorem dX10_acceptingFrom_18 : decode cX10_acceptingFrom 18 = .ok (.if_icmp .lt 23, 3) := by decide +kernel
theorem dX10_acceptingFrom_21 : decode cX10_acceptingFrom 21 = .ok (.aload_n 0, 1) := by decide +kernel
theorem dX10_acceptingFrom_22 : decode cX10_acceptingFrom 22 = .ok (.iload_n 1, 1) := by decide +kernel
theorem dX10_acceptingFrom_23 : decode cX10_acceptingFrom 23 = .ok (.aload_n 0, 1) := by decide +kernel
theorem dX10_acceptingFrom_24 : decode cX10_acceptingFrom 24 = .ok (.getfield 49, 3) := by decide +kernel
theorem dX10_acceptingFrom_27 : decode cX10_acceptingFrom 27 = .ok (.iload 4, 2) := by decide +kernel
theorem dX10_acceptingFrom_29 : decode cX10_acceptingFrom 29 = .ok (.iaload, 1) := by decide +kernel
theorem dX10_acceptingFrom_30 : decode cX10_acceptingFrom 30 = .ok (.iload_n 3, 1) := by decide +kernel
theorem dX10_acceptingFrom_31 : decode cX10_acceptingFrom 31 = .ok (.invokevirtual 240, 3) := by decide +kernel
theorem dX10_acceptingFrom_34 : decode cX10_acceptingFrom 34 = .ok (.istore_n 3, 1) := by decide +kernel
theorem dX10_acceptingFrom_35 : decode cX10_acceptingFrom 35 = .ok (.iinc 4 (-1), 3) := by decide +kernel
theorem dX10_acceptingFrom_38 : decode cX10_acceptingFrom 38 = .ok (.goto (-23), 3) := by decide +kernel
theorem dX10_acceptingFrom_41 : decode cX10_acceptingFrom 41 = .ok (.iload_n 3, 1) := by decide +kernel
theorem dX10_acceptingFrom_42 : decode cX10_acceptingFrom 42 = .ok (.ireturn, 1) := by decide +kernel
theorem dX10_acceptingStates_0 : decode cX10_acceptingStates 0 = .ok (.iload_n 1, 1) := by decide +kernel
theorem dX10_acceptingStates_1 : decode cX10_acceptingStates 1 = .ok (.invokestatic 123, 3) := by decide +kernel
theorem dX10_acceptingStates_4 : decode cX10_acceptingStates 4 = .ok (.ifCond .eq 15, 3) := by decide +kernel
theorem dX10_acceptingStates_7 : decode cX10_acceptingStates 7 = .ok (.iload_n 2, 1) := by decide +kernel
theorem dX10_acceptingStates_8 : decode cX10_acceptingStates 8 = .ok (.iconst 0, 1) := by decide +kernel
theorem dX10_acceptingStates_9 : decode cX10_acceptingStates 9 = .ok (.aload_n 0, 1) := by decide +kernel
theorem dX10_acceptingStates_10 : decode cX10_acceptingStates 10 = .ok (.getfield 237, 3) := by decide +kernel
theorem dX10_acceptingStates_13 : decode cX10_acceptingStates 13 = .ok (.invokestatic 127, 3) := by decide +kernel
theorem dX10_acceptingStates_16 : decode cX10_acceptingStates 16 = .ok (.ifCond .ne 6, 3) := by decide +kernel
theorem dX10_acceptingStates_19 : decode cX10_acceptingStates 19 = .ok (.bipush (-2), 2) := by decide +kernel
theorem dX10_acceptingStates_21 : decode cX10_acceptingStates 21 = .ok (.ireturn, 1) := by decide +kernel
theorem dX10_acceptingStates_22 : decode cX10_acceptingStates 22 = .ok (.aload_n 0, 1) := by decide +kernel
theorem dX10_acceptingStates_23 : decode cX10_acceptingStates 23 = .ok (.iload_n 1, 1) := by decide +kernel
theorem dX10_acceptingStates_24 : decode cX10_acceptingStates 24 = .ok (.invokevirtual 243, 3) := by decide +kernel
theorem dX10_acceptingStates_27 : decode cX10_acceptingStates 27 = .ok (.ifCond .eq 12, 3) := by decide +kernel
theorem dX10_acceptingStates_30 : decode cX10_acceptingStates 30 = .ok (.aload_n 0, 1) := by decide +kernel
theorem dX10_acceptingStates_31 : decode cX10_acceptingStates 31 = .ok (.iload_n 1, 1) := by decide +kernel
theorem dX10_acceptingStates_32 : decode cX10_acceptingStates 32 = .ok (.iload_n 2, 1) := by decide +kernel
theorem dX10_acceptingStates_33 : decode cX10_acceptingStates 33 = .ok (.invokevirtual 246, 3) := by decide +kernel
theorem dX10_acceptingStates_36 : decode cX10_acceptingStates 36 = .ok (.goto 5, 3) := by decide +kernel
theorem dX10_acceptingStates_39 : decode cX10_acceptingStates 39 = .ok (.bipush (-4), 2) := by decide +kernel
theorem dX10_acceptingStates_41 : decode cX10_acceptingStates 41 = .ok (.ireturn, 1) := by decide +kernel
theorem dX10_isAccepting_0 : decode cX10_isAccepting 0 = .ok (.aload_n 0, 1) := by decide +kernel
theorem dX10_isAccepting_1 : decode cX10_isAccepting 1 = .ok (.iload_n 1, 1) := by decide +kernel
theorem dX10_isAccepting_2 : decode cX10_isAccepting 2 = .ok (.iconst 0, 1) := by decide +kernel
theorem dX10_isAccepting_3 : decode cX10_isAccepting 3 = .ok (.iload_n 2, 1) := by decide +kernel
theorem dX10_isAccepting_4 : decode cX10_isAccepting 4 = .ok (.invokevirtual 209, 3) := by decide +kernel
theorem dX10_isAccepting_7 : decode cX10_isAccepting 7 = .ok (.ireturn, 1) := by decide +kernel
theorem dX10_accepts_0 : decode cX10_accepts 0 = .ok (.iload_n 1, 1) := by decide +kernel
theorem dX10_accepts_1 : decode cX10_accepts 1 = .ok (.invokestatic 123, 3) := by decide +kernel
theorem dX10_accepts_4 : decode cX10_accepts 4 = .ok (.ifCond .ne 6, 3) := by decide +kernel
theorem dX10_accepts_7 : decode cX10_accepts 7 = .ok (.bipush (-2), 2) := by decide +kernel
theorem dX10_accepts_9 : decode cX10_accepts 9 = .ok (.ireturn, 1) := by decide +kernel
theorem dX10_accepts_10 : decode cX10_accepts 10 = .ok (.aload_n 0, 1) := by decide +kernel
theorem dX10_accepts_11 : decode cX10_accepts 11 = .ok (.iload_n 1, 1) := by decide +kernel
theorem dX10_accepts_12 : decode cX10_accepts 12 = .ok (.invokevirtual 243, 3) := by decide +kernel
theorem dX10_accepts_15 : decode cX10_accepts 15 = .ok (.ifCond .ne 8, 3) := by decide +kernel
theorem dX10_accepts_18 : decode cX10_accepts 18 = .ok (.bipush (-4), 2) := by decide +kernel
theorem dX10_accepts_20 : decode cX10_accepts 20 = .ok (.goto 22, 3) := by decide +kernel
theorem dX10_accepts_23 : decode cX10_accepts 23 = .ok (.aload_n 0, 1) := by decide +kernel
theorem dX10_accepts_24 : decode cX10_accepts 24 = .ok (.iload_n 1, 1) := by decide +kernel
theorem dX10_accepts_25 : decode cX10_accepts 25 = .ok (.aload_n 0, 1) := by decide +kernel
theorem dX10_accepts_26 : decode cX10_accepts 26 = .ok (.iload_n 1, 1) := by decide +kernel
theorem dX10_accepts_27 : decode cX10_accepts 27 = .ok (.iconst 0, 1) := by decide +kernel
theorem dX10_accepts_28 : decode cX10_accepts 28 = .ok (.invokevirtual 246, 3) := by decide +kernel
theorem dX10_accepts_31 : decode cX10_accepts 31 = .ok (.invokevirtual 249, 3) := by decide +kernel
theorem dX10_accepts_34 : decode cX10_accepts 34 = .ok (.ifCond .eq 7, 3) := by decide +kernel
theorem dX10_accepts_37 : decode cX10_accepts 37 = .ok (.iconst 1, 1) := by decide +kernel
theorem dX10_accepts_38 : decode cX10_accepts 38 = .ok (.goto 4, 3) := by decide +kernel
theorem dX10_accepts_41 : decode cX10_accepts 41 = .ok (.iconst 0, 1) := by decide +kernel
theorem dX10_accepts_42 : decode cX10_accepts 42 = .ok (.ireturn, 1) := by decide +kernel
theorem dX10_isWon_0 : decode cX10_isWon 0 = .ok (.iload_n 0, 1) := by decide +kernel
theorem dX10_isWon_1 : decode cX10_isWon 1 = .ok (.sipush 10000, 3) := by decide +kernel
theorem dX10_isWon_4 : decode cX10_isWon 4 = .ok (.if_icmp .ge 7, 3) := by decide +kernel
theorem dX10_isWon_7 : decode cX10_isWon 7 = .ok (.iconst 1, 1) := by decide +kernel
theorem dX10_isWon_8 : decode cX10_isWon 8 = .ok (.goto 4, 3) := by decide +kernel
theorem dX10_isWon_11 : decode cX10_isWon 11 = .ok (.iconst 0, 1) := by decide +kernel
theorem dX10_isWon_12 : decode cX10_isWon 12 = .ok (.ireturn, 1) := by decide +kernel
theorem dX10_joined_0 : decode cX10_joined 0 = .ok (.iload_n 1, 1) := by decide +kernel
theorem dX10_joined_1 : decode cX10_joined 1 = .ok (.invokestatic 252, 3) := by decide +kernel
theorem dX10_joined_4 : decode cX10_joined 4 = .ok (.iload_n 2, 1) := by decide +kernel
theorem dX10_joined_5 : decode cX10_joined 5 = .ok (.invokestatic 252, 3) := by decide +kernel
theorem dX10_joined_8 : decode cX10_joined 8 = .ok (.if_icmp .ne 7, 3) := by decide +kernel
theorem dX10_joined_11 : decode cX10_joined 11 = .ok (.iconst 1, 1) := by decide +kernel
theorem dX10_joined_12 : decode cX10_joined 12 = .ok (.goto 4, 3) := by decide +kernel
theorem dX10_joined_15 : decode cX10_joined 15 = .ok (.iconst 0, 1) := by decide +kernel
theorem dX10_joined_16 : decode cX10_joined 16 = .ok (.istore_n 3, 1) := by decide +kernel
theorem dX10_joined_17 : decode cX10_joined 17 = .ok (.iload_n 1, 1) := by decide +kernel
theorem dX10_joined_18 : decode cX10_joined 18 = .ok (.iload_n 2, 1) := by decide +kernel
theorem dX10_joined_19 : decode cX10_joined 19 = .ok (.if_icmp .ge 7, 3) := by decide +kernel
theorem dX10_joined_22 : decode cX10_joined 22 = .ok (.iload_n 1, 1) := by decide +kernel
theorem dX10_joined_23 : decode cX10_joined 23 = .ok (.goto 4, 3) := by decide +kernel
theorem dX10_joined_26 : decode cX10_joined 26 = .ok (.iload_n 2, 1) := by decide +kernel
theorem dX10_joined_27 : decode cX10_joined 27 = .ok (.istore 4, 2) := by decide +kernel
theorem dX10_joined_29 : decode cX10_joined 29 = .ok (.iload_n 1, 1) := by decide +kernel
theorem dX10_joined_30 : decode cX10_joined 30 = .ok (.iload_n 2, 1) := by decide +kernel
theorem dX10_joined_31 : decode cX10_joined 31 = .ok (.if_icmp .ge 7, 3) := by decide +kernel
theorem dX10_joined_34 : decode cX10_joined 34 = .ok (.iload_n 2, 1) := by decide +kernel
theorem dX10_joined_35 : decode cX10_joined 35 = .ok (.goto 4, 3) := by decide +kernel
theorem dX10_joined_38 : decode cX10_joined 38 = .ok (.iload_n 1, 1) := by decide +kernel
theorem dX10_joined_39 : decode cX10_joined 39 = .ok (.istore 5, 2) := by decide +kernel
theorem dX10_joined_41 : decode cX10_joined 41 = .ok (.iload_n 3, 1) := by decide +kernel
theorem dX10_joined_42 : decode cX10_joined 42 = .ok (.ifCond .ne 19, 3) := by decide +kernel
theorem dX10_joined_45 : decode cX10_joined 45 = .ok (.iconst 1, 1) := by decide +kernel
theorem dX10_joined_46 : decode cX10_joined 46 = .ok (.iload_n 0, 1) := by decide +kernel
theorem dX10_joined_47 : decode cX10_joined 47 = .ok (.bipush 11, 2) := by decide +kernel
theorem dX10_joined_49 : decode cX10_joined 49 = .ok (.if_icmp .ne 8, 3) := by decide +kernel
theorem dX10_joined_52 : decode cX10_joined 52 = .ok (.iload 4, 2) := by decide +kernel
theorem dX10_joined_54 : decode cX10_joined 54 = .ok (.goto 5, 3) := by decide +kernel
theorem dX10_joined_57 : decode cX10_joined 57 = .ok (.iload 5, 2) := by decide +kernel
theorem dX10_joined_59 : decode cX10_joined 59 = .ok (.iadd, 1) := by decide +kernel
theorem dX10_joined_60 : decode cX10_joined 60 = .ok (.ireturn, 1) := by decide +kernel
theorem dX10_joined_61 : decode cX10_joined 61 = .ok (.iconst 1, 1) := by decide +kernel
theorem dX10_joined_62 : decode cX10_joined 62 = .ok (.iload_n 0, 1) := by decide +kernel
theorem dX10_joined_63 : decode cX10_joined 63 = .ok (.bipush 11, 2) := by decide +kernel
theorem dX10_joined_65 : decode cX10_joined 65 = .ok (.if_icmp .ne 7, 3) := by decide +kernel
theorem dX10_joined_68 : decode cX10_joined 68 = .ok (.iconst 1, 1) := by decide +kernel
theorem dX10_joined_69 : decode cX10_joined 69 = .ok (.goto 4, 3) := by decide +kernel
theorem dX10_joined_72 : decode cX10_joined 72 = .ok (.iconst 0, 1) := by decide +kernel
theorem dX10_joined_73 : decode cX10_joined 73 = .ok (.iload_n 1, 1) := by decide +kernel
theorem dX10_joined_74 : decode cX10_joined 74 = .ok (.invokestatic 252, 3) := by decide +kernel
theorem dX10_joined_77 : decode cX10_joined 77 = .ok (.if_icmp .ne 8, 3) := by decide +kernel
theorem dX10_joined_80 : decode cX10_joined 80 = .ok (.iload 4, 2) := by decide +kernel
theorem dX10_joined_82 : decode cX10_joined 82 = .ok (.goto 5, 3) := by decide +kernel
theorem dX10_joined_85 : decode cX10_joined 85 = .ok (.iload 5, 2) := by decide +kernel
theorem dX10_joined_87 : decode cX10_joined 87 = .ok (.iadd, 1) := by decide +kernel
theorem dX10_joined_88 : decode cX10_joined 88 = .ok (.ireturn, 1) := by decide +kernel
theorem dX10_findNodeRanks_0 : decode cX10_findNodeRanks 0 = .ok (.aload_n 0, 1) := by decide +kernel
theorem dX10_findNodeRanks_1 : decode cX10_findNodeRanks 1 = .ok (.iload_n 1, 1) := by decide +kernel
theorem dX10_findNodeRanks_2 : decode cX10_findNodeRanks 2 = .ok (.iload_n 2, 1) := by decide +kernel
theorem dX10_findNodeRanks_3 : decode cX10_findNodeRanks 3 = .ok (.invokevirtual 119, 3) := by decide +kernel
theorem dX10_findNodeRanks_6 : decode cX10_findNodeRanks 6 = .ok (.istore_n 3, 1) := by decide +kernel
theorem dX10_findNodeRanks_7 : decode cX10_findNodeRanks 7 = .ok (.aload_n 0, 1) := by decide +kernel
theorem dX10_findNodeRanks_8 : decode cX10_findNodeRanks 8 = .ok (.iload_n 3, 1) := by decide +kernel
theorem dX10_findNodeRanks_9 : decode cX10_findNodeRanks 9 = .ok (.aload_n 0, 1) := by decide +kernel
theorem dX10_findNodeRanks_10 : decode cX10_findNodeRanks 10 = .ok (.iload_n 1, 1) := by decide +kernel
theorem dX10_findNodeRanks_11 : decode cX10_findNodeRanks 11 = .ok (.iload_n 2, 1) := by decide +kernel
theorem dX10_findNodeRanks_12 : decode cX10_findNodeRanks 12 = .ok (.invokevirtual 196, 3) := by decide +kernel
theorem dX10_findNodeRanks_15 : decode cX10_findNodeRanks 15 = .ok (.invokevirtual 199, 3) := by decide +kernel
theorem dX10_findNodeRanks_18 : decode cX10_findNodeRanks 18 = .ok (.iconst 0, 1) := by decide +kernel
theorem dX10_findNodeRanks_19 : decode cX10_findNodeRanks 19 = .ok (.istore 4, 2) := by decide +kernel
theorem dX10_findNodeRanks_21 : decode cX10_findNodeRanks 21 = .ok (.iload 4, 2) := by decide +kernel
theorem dX10_findNodeRanks_23 : decode cX10_findNodeRanks 23 = .ok (.aload_n 0, 1) := by decide +kernel
theorem dX10_findNodeRanks_24 : decode cX10_findNodeRanks 24 = .ok (.iload_n 1, 1) := by decide +kernel
theorem dX10_findNodeRanks_25 : decode cX10_findNodeRanks 25 = .ok (.iload_n 2, 1) := by decide +kernel
theorem dX10_findNodeRanks_26 : decode cX10_findNodeRanks 26 = .ok (.invokevirtual 196, 3) := by decide +kernel
theorem dX10_findNodeRanks_29 : decode cX10_findNodeRanks 29 = .ok (.if_icmp .ge 94, 3) := by decide +kernel
theorem dX10_findNodeRanks_32 : decode cX10_findNodeRanks 32 = .ok (.aload_n 0, 1) := by decide +kernel
theorem dX10_findNodeRanks_33 : decode cX10_findNodeRanks 33 = .ok (.getfield 25, 3) := by decide +kernel
theorem dX10_findNodeRanks_36 : decode cX10_findNodeRanks 36 = .ok (.iload_n 3, 1) := by decide +kernel
theorem dX10_findNodeRanks_37 : decode cX10_findNodeRanks 37 = .ok (.iload 4, 2) := by decide +kernel
theorem dX10_findNodeRanks_39 : decode cX10_findNodeRanks 39 = .ok (.iadd, 1) := by decide +kernel
theorem dX10_findNodeRanks_40 : decode cX10_findNodeRanks 40 = .ok (.iaload, 1) := by decide +kernel
theorem dX10_findNodeRanks_41 : decode cX10_findNodeRanks 41 = .ok (.istore 5, 2) := by decide +kernel
theorem dX10_findNodeRanks_43 : decode cX10_findNodeRanks 43 = .ok (.aload_n 0, 1) := by decide +kernel
theorem dX10_findNodeRanks_44 : decode cX10_findNodeRanks 44 = .ok (.getfield 58, 3) := by decide +kernel
theorem dX10_findNodeRanks_47 : decode cX10_findNodeRanks 47 = .ok (.iload 4, 2) := by decide +kernel
theorem dX10_findNodeRanks_49 : decode cX10_findNodeRanks 49 = .ok (.iload 5, 2) := by decide +kernel
theorem dX10_findNodeRanks_51 : decode cX10_findNodeRanks 51 = .ok (.bipush 10, 2) := by decide +kernel
theorem dX10_findNodeRanks_53 : decode cX10_findNodeRanks 53 = .ok (.if_icmp .lt 32, 3) := by decide +kernel
theorem dX10_findNodeRanks_56 : decode cX10_findNodeRanks 56 = .ok (.iload 5, 2) := by decide +kernel
theorem dX10_findNodeRanks_58 : decode cX10_findNodeRanks 58 = .ok (.aload_n 0, 1) := by decide +kernel
theorem dX10_findNodeRanks_59 : decode cX10_findNodeRanks 59 = .ok (.getfield 58, 3) := by decide +kernel
theorem dX10_findNodeRanks_62 : decode cX10_findNodeRanks 62 = .ok (.aload_n 0, 1) := by decide +kernel
theorem dX10_findNodeRanks_63 : decode cX10_findNodeRanks 63 = .ok (.getfield 37, 3) := by decide +kernel
theorem dX10_findNodeRanks_66 : decode cX10_findNodeRanks 66 = .ok (.iload 4, 2) := by decide +kernel
theorem dX10_findNodeRanks_68 : decode cX10_findNodeRanks 68 = .ok (.iaload, 1) := by decide +kernel
theorem dX10_findNodeRanks_69 : decode cX10_findNodeRanks 69 = .ok (.iaload, 1) := by decide +kernel
theorem dX10_findNodeRanks_70 : decode cX10_findNodeRanks 70 = .ok (.aload_n 0, 1) := by decide +kernel
theorem dX10_findNodeRanks_71 : decode cX10_findNodeRanks 71 = .ok (.getfield 58, 3) := by decide +kernel
theorem dX10_findNodeRanks_74 : decode cX10_findNodeRanks 74 = .ok (.iload 4, 2) := by decide +kernel
theorem dX10_findNodeRanks_76 : decode cX10_findNodeRanks 76 = .ok (.iconst 1, 1) := by decide +kernel
theorem dX10_findNodeRanks_77 : decode cX10_findNodeRanks 77 = .ok (.isub, 1) := by decide +kernel
theorem dX10_findNodeRanks_78 : decode cX10_findNodeRanks 78 = .ok (.iaload, 1) := by decide +kernel
theorem dX10_findNodeRanks_79 : decode cX10_findNodeRanks 79 = .ok (.invokestatic 255, 3) := by decide +kernel
theorem dX10_findNodeRanks_82 : decode cX10_findNodeRanks 82 = .ok (.goto 34, 3) := by decide +kernel
theorem dX10_findNodeRanks_85 : decode cX10_findNodeRanks 85 = .ok (.iload 5, 2) := by decide +kernel
theorem dX10_findNodeRanks_87 : decode cX10_findNodeRanks 87 = .ok (.bipush 8, 2) := by decide +kernel
theorem dX10_findNodeRanks_89 : decode cX10_findNodeRanks 89 = .ok (.if_icmp .ne 7, 3) := by decide +kernel
theorem dX10_findNodeRanks_92 : decode cX10_findNodeRanks 92 = .ok (.iconst 0, 1) := by decide +kernel
theorem dX10_findNodeRanks_93 : decode cX10_findNodeRanks 93 = .ok (.goto 23, 3) := by decide +kernel
theorem dX10_findNodeRanks_96 : decode cX10_findNodeRanks 96 = .ok (.iload 5, 2) := by decide +kernel
theorem dX10_findNodeRanks_98 : decode cX10_findNodeRanks 98 = .ok (.bipush 9, 2) := by decide +kernel
theorem dX10_findNodeRanks_100 : decode cX10_findNodeRanks 100 = .ok (.if_icmp .ne 9, 3) := by decide +kernel
theorem dX10_findNodeRanks_103 : decode cX10_findNodeRanks 103 = .ok (.sipush 10000, 3) := by decide +kernel
theorem dX10_findNodeRanks_106 : decode cX10_findNodeRanks 106 = .ok (.goto 10, 3) := by decide +kernel
theorem dX10_findNodeRanks_109 : decode cX10_findNodeRanks 109 = .ok (.aload_n 0, 1) := by decide +kernel
theorem dX10_findNodeRanks_110 : decode cX10_findNodeRanks 110 = .ok (.getfield 52, 3) := by decide +kernel
theorem dX10_findNodeRanks_113 : decode cX10_findNodeRanks 113 = .ok (.iload 5, 2) := by decide +kernel
theorem dX10_findNodeRanks_115 : decode cX10_findNodeRanks 115 = .ok (.iaload, 1) := by decide +kernel
theorem dX10_findNodeRanks_116 : decode cX10_findNodeRanks 116 = .ok (.iastore, 1) := by decide +kernel
theorem dX10_findNodeRanks_117 : decode cX10_findNodeRanks 117 = .ok (.iinc 4 1, 3) := by decide +kernel
theorem dX10_findNodeRanks_120 : decode cX10_findNodeRanks 120 = .ok (.goto (-99), 3) := by decide +kernel
theorem dX10_findNodeRanks_123 : decode cX10_findNodeRanks 123 = .ok (.return_, 1) := by decide +kernel
theorem dX10_findRanks_0 : decode cX10_findRanks 0 = .ok (.iconst 0, 1) := by decide +kernel
theorem dX10_findRanks_1 : decode cX10_findRanks 1 = .ok (.istore_n 3, 1) := by decide +kernel
theorem dX10_findRanks_2 : decode cX10_findRanks 2 = .ok (.iload_n 3, 1) := by decide +kernel
theorem dX10_findRanks_3 : decode cX10_findRanks 3 = .ok (.aload_n 0, 1) := by decide +kernel
theorem dX10_findRanks_4 : decode cX10_findRanks 4 = .ok (.getfield 7, 3) := by decide +kernel
theorem dX10_findRanks_7 : decode cX10_findRanks 7 = .ok (.iload_n 1, 1) := by decide +kernel
theorem dX10_findRanks_8 : decode cX10_findRanks 8 = .ok (.iaload, 1) := by decide +kernel
theorem dX10_findRanks_9 : decode cX10_findRanks 9 = .ok (.if_icmp .ge 36, 3) := by decide +kernel
theorem dX10_findRanks_12 : decode cX10_findRanks 12 = .ok (.aload_n 0, 1) := by decide +kernel
theorem dX10_findRanks_13 : decode cX10_findRanks 13 = .ok (.getfield 52, 3) := by decide +kernel
theorem dX10_findRanks_16 : decode cX10_findRanks 16 = .ok (.iload_n 3, 1) := by decide +kernel
theorem dX10_findRanks_17 : decode cX10_findRanks 17 = .ok (.aload_n 0, 1) := by decide +kernel
theorem dX10_findRanks_18 : decode cX10_findRanks 18 = .ok (.getfield 16, 3) := by decide +kernel
theorem dX10_findRanks_21 : decode cX10_findRanks 21 = .ok (.iload_n 1, 1) := by decide +kernel
theorem dX10_findRanks_22 : decode cX10_findRanks 22 = .ok (.iaload, 1) := by decide +kernel
theorem dX10_findRanks_23 : decode cX10_findRanks 23 = .ok (.iload_n 3, 1) := by decide +kernel
theorem dX10_findRanks_24 : decode cX10_findRanks 24 = .ok (.ishr, 1) := by decide +kernel
theorem dX10_findRanks_25 : decode cX10_findRanks 25 = .ok (.iconst 1, 1) := by decide +kernel
theorem dX10_findRanks_26 : decode cX10_findRanks 26 = .ok (.iand, 1) := by decide +kernel
theorem dX10_findRanks_27 : decode cX10_findRanks 27 = .ok (.iconst 1, 1) := by decide +kernel
theorem dX10_findRanks_28 : decode cX10_findRanks 28 = .ok (.if_icmp .ne 7, 3) := by decide +kernel
theorem dX10_findRanks_31 : decode cX10_findRanks 31 = .ok (.iconst 0, 1) := by decide +kernel
theorem dX10_findRanks_32 : decode cX10_findRanks 32 = .ok (.goto 6, 3) := by decide +kernel
theorem dX10_findRanks_35 : decode cX10_findRanks 35 = .ok (.sipush 10000, 3) := by decide +kernel
theorem dX10_findRanks_38 : decode cX10_findRanks 38 = .ok (.iastore, 1) := by decide +kernel
theorem dX10_findRanks_39 : decode cX10_findRanks 39 = .ok (.iinc 3 1, 3) := by decide +kernel
theorem dX10_findRanks_42 : decode cX10_findRanks 42 = .ok (.goto (-40), 3) := by decide +kernel
theorem dX10_findRanks_45 : decode cX10_findRanks 45 = .ok (.aload_n 0, 1) := by decide +kernel
theorem dX10_findRanks_46 : decode cX10_findRanks 46 = .ok (.getfield 237, 3) := by decide +kernel
theorem dX10_findRanks_49 : decode cX10_findRanks 49 = .ok (.iconst 1, 1) := by decide +kernel
theorem dX10_findRanks_50 : decode cX10_findRanks 50 = .ok (.isub, 1) := by decide +kernel
theorem dX10_findRanks_51 : decode cX10_findRanks 51 = .ok (.istore_n 3, 1) := by decide +kernel
theorem dX10_findRanks_52 : decode cX10_findRanks 52 = .ok (.iload_n 3, 1) := by decide +kernel
theorem dX10_findRanks_53 : decode cX10_findRanks 53 = .ok (.iload_n 2, 1) := by decide +kernel
theorem dX10_findRanks_54 : decode cX10_findRanks 54 = .ok (.if_icmp .lt 106, 3) := by decide +kernel
theorem dX10_findRanks_57 : decode cX10_findRanks 57 = .ok (.iconst 0, 1) := by decide +kernel
theorem dX10_findRanks_58 : decode cX10_findRanks 58 = .ok (.istore 4, 2) := by decide +kernel
theorem dX10_findRanks_60 : decode cX10_findRanks 60 = .ok (.iload 4, 2) := by decide +kernel
theorem dX10_findRanks_62 : decode cX10_findRanks 62 = .ok (.aload_n 0, 1) := by decide +kernel
theorem dX10_findRanks_63 : decode cX10_findRanks 63 = .ok (.getfield 7, 3) := by decide +kernel
theorem dX10_findRanks_66 : decode cX10_findRanks 66 = .ok (.iload_n 1, 1) := by decide +kernel
theorem dX10_findRanks_67 : decode cX10_findRanks 67 = .ok (.iaload, 1) := by decide +kernel
theorem dX10_findRanks_68 : decode cX10_findRanks 68 = .ok (.if_icmp .ge 52, 3) := by decide +kernel
theorem dX10_findRanks_71 : decode cX10_findRanks 71 = .ok (.iload 4, 2) := by decide +kernel
theorem dX10_findRanks_73 : decode cX10_findRanks 73 = .ok (.aload_n 0, 1) := by decide +kernel
theorem dX10_findRanks_74 : decode cX10_findRanks 74 = .ok (.getfield 49, 3) := by decide +kernel
theorem dX10_findRanks_77 : decode cX10_findRanks 77 = .ok (.iload_n 3, 1) := by decide +kernel
theorem dX10_findRanks_78 : decode cX10_findRanks 78 = .ok (.iaload, 1) := by decide +kernel
theorem dX10_findRanks_79 : decode cX10_findRanks 79 = .ok (.invokestatic 176, 3) := by decide +kernel
theorem dX10_findRanks_82 : decode cX10_findRanks 82 = .ok (.istore 5, 2) := by decide +kernel
theorem dX10_findRanks_84 : decode cX10_findRanks 84 = .ok (.aload_n 0, 1) := by decide +kernel
theorem dX10_findRanks_85 : decode cX10_findRanks 85 = .ok (.iload_n 1, 1) := by decide +kernel
theorem dX10_findRanks_86 : decode cX10_findRanks 86 = .ok (.iload 5, 2) := by decide +kernel
theorem dX10_findRanks_88 : decode cX10_findRanks 88 = .ok (.invokevirtual 258, 3) := by decide +kernel
theorem dX10_findRanks_91 : decode cX10_findRanks 91 = .ok (.aload_n 0, 1) := by decide +kernel
theorem dX10_findRanks_92 : decode cX10_findRanks 92 = .ok (.getfield 55, 3) := by decide +kernel
theorem dX10_findRanks_95 : decode cX10_findRanks 95 = .ok (.iload 4, 2) := by decide +kernel
theorem dX10_findRanks_97 : decode cX10_findRanks 97 = .ok (.iconst 1, 1) := by decide +kernel
theorem dX10_findRanks_98 : decode cX10_findRanks 98 = .ok (.aload_n 0, 1) := by decide +kernel
theorem dX10_findRanks_99 : decode cX10_findRanks 99 = .ok (.getfield 58, 3) := by decide +kernel
theorem dX10_findRanks_102 : decode cX10_findRanks 102 = .ok (.aload_n 0, 1) := by decide +kernel
theorem dX10_findRanks_103 : decode cX10_findRanks 103 = .ok (.iload_n 1, 1) := by decide +kernel
theorem dX10_findRanks_104 : decode cX10_findRanks 104 = .ok (.iload 5, 2) := by decide +kernel
theorem dX10_findRanks_106 : decode cX10_findRanks 106 = .ok (.invokevirtual 196, 3) := by decide +kernel
theorem dX10_findRanks_109 : decode cX10_findRanks 109 = .ok (.iconst 1, 1) := by decide +kernel
theorem dX10_findRanks_110 : decode cX10_findRanks 110 = .ok (.isub, 1) := by decide +kernel
theorem dX10_findRanks_111 : decode cX10_findRanks 111 = .ok (.iaload, 1) := by decide +kernel
theorem dX10_findRanks_112 : decode cX10_findRanks 112 = .ok (.iadd, 1) := by decide +kernel
theorem dX10_findRanks_113 : decode cX10_findRanks 113 = .ok (.iastore, 1) := by decide +kernel
theorem dX10_findRanks_114 : decode cX10_findRanks 114 = .ok (.iinc 4 1, 3) := by decide +kernel
theorem dX10_findRanks_117 : decode cX10_findRanks 117 = .ok (.goto (-57), 3) := by decide +kernel
theorem dX10_findRanks_120 : decode cX10_findRanks 120 = .ok (.iconst 0, 1) := by decide +kernel
theorem dX10_findRanks_121 : decode cX10_findRanks 121 = .ok (.istore 4, 2) := by decide +kernel
theorem dX10_findRanks_123 : decode cX10_findRanks 123 = .ok (.iload 4, 2) := by decide +kernel
theorem dX10_findRanks_125 : decode cX10_findRanks 125 = .ok (.aload_n 0, 1) := by decide +kernel
theorem dX10_findRanks_126 : decode cX10_findRanks 126 = .ok (.getfield 7, 3) := by decide +kernel
theorem dX10_findRanks_129 : decode cX10_findRanks 129 = .ok (.iload_n 1, 1) := by decide +kernel
theorem dX10_findRanks_130 : decode cX10_findRanks 130 = .ok (.iaload, 1) := by decide +kernel
theorem dX10_findRanks_131 : decode cX10_findRanks 131 = .ok (.if_icmp .ge 23, 3) := by decide +kernel
theorem dX10_findRanks_134 : decode cX10_findRanks 134 = .ok (.aload_n 0, 1) := by decide +kernel
theorem dX10_findRanks_135 : decode cX10_findRanks 135 = .ok (.getfield 52, 3) := by decide +kernel
theorem dX10_findRanks_138 : decode cX10_findRanks 138 = .ok (.iload 4, 2) := by decide +kernel
theorem dX10_findRanks_140 : decode cX10_findRanks 140 = .ok (.aload_n 0, 1) := by decide +kernel
theorem dX10_findRanks_141 : decode cX10_findRanks 141 = .ok (.getfield 55, 3) := by decide +kernel
theorem dX10_findRanks_144 : decode cX10_findRanks 144 = .ok (.iload 4, 2) := by decide +kernel
theorem dX10_findRanks_146 : decode cX10_findRanks 146 = .ok (.iaload, 1) := by decide +kernel
theorem dX10_findRanks_147 : decode cX10_findRanks 147 = .ok (.iastore, 1) := by decide +kernel
theorem dX10_findRanks_148 : decode cX10_findRanks 148 = .ok (.iinc 4 1, 3) := by decide +kernel
theorem dX10_findRanks_151 : decode cX10_findRanks 151 = .ok (.goto (-28), 3) := by decide +kernel
theorem dX10_findRanks_154 : decode cX10_findRanks 154 = .ok (.iinc 3 (-1), 3) := by decide +kernel
theorem dX10_findRanks_157 : decode cX10_findRanks 157 = .ok (.goto (-105), 3) := by decide +kernel
theorem dX10_findRanks_160 : decode cX10_findRanks 160 = .ok (.return_, 1) := by decide +kernel
theorem dX10_rank_0 : decode cX10_rank 0 = .ok (.iload_n 1, 1) := by decide +kernel
theorem dX10_rank_1 : decode cX10_rank 1 = .ok (.invokestatic 123, 3) := by decide +kernel
theorem dX10_rank_4 : decode cX10_rank 4 = .ok (.ifCond .eq 24, 3) := by decide +kernel
theorem dX10_rank_7 : decode cX10_rank 7 = .ok (.aload_n 0, 1) := by decide +kernel
theorem dX10_rank_8 : decode cX10_rank 8 = .ok (.iload_n 1, 1) := by decide +kernel
theorem dX10_rank_9 : decode cX10_rank 9 = .ok (.iload_n 3, 1) := by decide +kernel
theorem dX10_rank_10 : decode cX10_rank 10 = .ok (.invokevirtual 131, 3) := by decide +kernel
theorem dX10_rank_13 : decode cX10_rank 13 = .ok (.ifCond .eq 15, 3) := by decide +kernel
theorem dX10_rank_16 : decode cX10_rank 16 = .ok (.iload_n 2, 1) := by decide +kernel
theorem dX10_rank_17 : decode cX10_rank 17 = .ok (.iconst 0, 1) := by decide +kernel
theorem dX10_rank_18 : decode cX10_rank 18 = .ok (.aload_n 0, 1) := by decide +kernel
theorem dX10_rank_19 : decode cX10_rank 19 = .ok (.getfield 237, 3) := by decide +kernel
theorem dX10_rank_22 : decode cX10_rank 22 = .ok (.invokestatic 127, 3) := by decide +kernel
theorem dX10_rank_25 : decode cX10_rank 25 = .ok (.ifCond .ne 6, 3) := by decide +kernel
theorem dX10_rank_28 : decode cX10_rank 28 = .ok (.bipush (-2), 2) := by decide +kernel
theorem dX10_rank_30 : decode cX10_rank 30 = .ok (.ireturn, 1) := by decide +kernel
theorem dX10_rank_31 : decode cX10_rank 31 = .ok (.aload_n 0, 1) := by decide +kernel
theorem dX10_rank_32 : decode cX10_rank 32 = .ok (.iload_n 1, 1) := by decide +kernel
theorem dX10_rank_33 : decode cX10_rank 33 = .ok (.invokevirtual 243, 3) := by decide +kernel
theorem dX10_rank_36 : decode cX10_rank 36 = .ok (.ifCond .ne 6, 3) := by decide +kernel
theorem dX10_rank_39 : decode cX10_rank 39 = .ok (.bipush (-4), 2) := by decide +kernel
theorem dX10_rank_41 : decode cX10_rank 41 = .ok (.ireturn, 1) := by decide +kernel
theorem dX10_rank_42 : decode cX10_rank 42 = .ok (.aload_n 0, 1) := by decide +kernel
theorem dX10_rank_43 : decode cX10_rank 43 = .ok (.iload_n 1, 1) := by decide +kernel
theorem dX10_rank_44 : decode cX10_rank 44 = .ok (.iload_n 2, 1) := by decide +kernel
theorem dX10_rank_45 : decode cX10_rank 45 = .ok (.invokevirtual 261, 3) := by decide +kernel
theorem dX10_rank_48 : decode cX10_rank 48 = .ok (.aload_n 0, 1) := by decide +kernel
theorem dX10_rank_49 : decode cX10_rank 49 = .ok (.getfield 52, 3) := by decide +kernel
theorem dX10_rank_52 : decode cX10_rank 52 = .ok (.iload_n 3, 1) := by decide +kernel
theorem dX10_rank_53 : decode cX10_rank 53 = .ok (.iaload, 1) := by decide +kernel
theorem dX10_rank_54 : decode cX10_rank 54 = .ok (.ireturn, 1) := by decide +kernel
theorem dX10_strategy_0 : decode cX10_strategy 0 = .ok (.iload_n 1, 1) := by decide +kernel
theorem dX10_strategy_1 : decode cX10_strategy 1 = .ok (.invokestatic 123, 3) := by decide +kernel
theorem dX10_strategy_4 : decode cX10_strategy 4 = .ok (.ifCond .eq 26, 3) := by decide +kernel
theorem dX10_strategy_7 : decode cX10_strategy 7 = .ok (.aload_n 0, 1) := by decide +kernel
theorem dX10_strategy_8 : decode cX10_strategy 8 = .ok (.iload_n 1, 1) := by decide +kernel
theorem dX10_strategy_9 : decode cX10_strategy 9 = .ok (.iload_n 3, 1) := by decide +kernel
theorem dX10_strategy_10 : decode cX10_strategy 10 = .ok (.invokevirtual 131, 3) := by decide +kernel
theorem dX10_strategy_13 : decode cX10_strategy 13 = .ok (.ifCond .eq 17, 3) := by decide +kernel
theorem dX10_strategy_16 : decode cX10_strategy 16 = .ok (.iload_n 2, 1) := by decide +kernel
theorem dX10_strategy_17 : decode cX10_strategy 17 = .ok (.iconst 0, 1) := by decide +kernel
theorem dX10_strategy_18 : decode cX10_strategy 18 = .ok (.aload_n 0, 1) := by decide +kernel
theorem dX10_strategy_19 : decode cX10_strategy 19 = .ok (.getfield 237, 3) := by decide +kernel
theorem dX10_strategy_22 : decode cX10_strategy 22 = .ok (.iconst 1, 1) := by decide +kernel
theorem dX10_strategy_23 : decode cX10_strategy 23 = .ok (.isub, 1) := by decide +kernel
theorem dX10_strategy_24 : decode cX10_strategy 24 = .ok (.invokestatic 127, 3) := by decide +kernel
theorem dX10_strategy_27 : decode cX10_strategy 27 = .ok (.ifCond .ne 6, 3) := by decide +kernel
theorem dX10_strategy_30 : decode cX10_strategy 30 = .ok (.bipush (-2), 2) := by decide +kernel
theorem dX10_strategy_32 : decode cX10_strategy 32 = .ok (.ireturn, 1) := by decide +kernel
theorem dX10_strategy_33 : decode cX10_strategy 33 = .ok (.aload_n 0, 1) := by decide +kernel
theorem dX10_strategy_34 : decode cX10_strategy 34 = .ok (.iload_n 1, 1) := by decide +kernel
theorem dX10_strategy_35 : decode cX10_strategy 35 = .ok (.invokevirtual 243, 3) := by decide +kernel
theorem dX10_strategy_38 : decode cX10_strategy 38 = .ok (.ifCond .ne 6, 3) := by decide +kernel
theorem dX10_strategy_41 : decode cX10_strategy 41 = .ok (.bipush (-4), 2) := by decide +kernel
theorem dX10_strategy_43 : decode cX10_strategy 43 = .ok (.ireturn, 1) := by decide +kernel
theorem dX10_strategy_44 : decode cX10_strategy 44 = .ok (.aload_n 0, 1) := by decide +kernel
theorem dX10_strategy_45 : decode cX10_strategy 45 = .ok (.iload_n 1, 1) := by decide +kernel
theorem dX10_strategy_46 : decode cX10_strategy 46 = .ok (.iload_n 2, 1) := by decide +kernel
theorem dX10_strategy_47 : decode cX10_strategy 47 = .ok (.iconst 1, 1) := by decide +kernel
theorem dX10_strategy_48 : decode cX10_strategy 48 = .ok (.iadd, 1) := by decide +kernel
theorem dX10_strategy_49 : decode cX10_strategy 49 = .ok (.invokevirtual 261, 3) := by decide +kernel
theorem dX10_strategy_52 : decode cX10_strategy 52 = .ok (.iload_n 3, 1) := by decide +kernel
theorem dX10_strategy_53 : decode cX10_strategy 53 = .ok (.aload_n 0, 1) := by decide +kernel
theorem dX10_strategy_54 : decode cX10_strategy 54 = .ok (.getfield 49, 3) := by decide +kernel
theorem dX10_strategy_57 : decode cX10_strategy 57 = .ok (.iload_n 2, 1) := by decide +kernel
theorem dX10_strategy_58 : decode cX10_strategy 58 = .ok (.iaload, 1) := by decide +kernel
theorem dX10_strategy_59 : decode cX10_strategy 59 = .ok (.invokestatic 176, 3) := by decide +kernel
theorem dX10_strategy_62 : decode cX10_strategy 62 = .ok (.istore 4, 2) := by decide +kernel
theorem dX10_strategy_64 : decode cX10_strategy 64 = .ok (.aload_n 0, 1) := by decide +kernel
theorem dX10_strategy_65 : decode cX10_strategy 65 = .ok (.iload_n 1, 1) := by decide +kernel
theorem dX10_strategy_66 : decode cX10_strategy 66 = .ok (.iload 4, 2) := by decide +kernel
theorem dX10_strategy_68 : decode cX10_strategy 68 = .ok (.invokevirtual 258, 3) := by decide +kernel
theorem dX10_strategy_71 : decode cX10_strategy 71 = .ok (.aload_n 0, 1) := by decide +kernel
theorem dX10_strategy_72 : decode cX10_strategy 72 = .ok (.iload_n 1, 1) := by decide +kernel
theorem dX10_strategy_73 : decode cX10_strategy 73 = .ok (.iload 4, 2) := by decide +kernel
theorem dX10_strategy_75 : decode cX10_strategy 75 = .ok (.invokevirtual 196, 3) := by decide +kernel
theorem dX10_strategy_78 : decode cX10_strategy 78 = .ok (.iconst 1, 1) := by decide +kernel
theorem dX10_strategy_79 : decode cX10_strategy 79 = .ok (.isub, 1) := by decide +kernel
theorem dX10_strategy_80 : decode cX10_strategy 80 = .ok (.istore 5, 2) := by decide +kernel
theorem dX10_strategy_82 : decode cX10_strategy 82 = .ok (.aload_n 0, 1) := by decide +kernel
theorem dX10_strategy_83 : decode cX10_strategy 83 = .ok (.getfield 58, 3) := by decide +kernel
theorem dX10_strategy_86 : decode cX10_strategy 86 = .ok (.iload 5, 2) := by decide +kernel
theorem dX10_strategy_88 : decode cX10_strategy 88 = .ok (.iaload, 1) := by decide +kernel
theorem dX10_strategy_89 : decode cX10_strategy 89 = .ok (.invokestatic 252, 3) := by decide +kernel
theorem dX10_strategy_92 : decode cX10_strategy 92 = .ok (.ifCond .ne 5, 3) := by decide +kernel
theorem dX10_strategy_95 : decode cX10_strategy 95 = .ok (.iconst (-1), 1) := by decide +kernel
theorem dX10_strategy_96 : decode cX10_strategy 96 = .ok (.ireturn, 1) := by decide +kernel
theorem dX10_strategy_97 : decode cX10_strategy 97 = .ok (.aload_n 0, 1) := by decide +kernel
theorem dX10_strategy_98 : decode cX10_strategy 98 = .ok (.iload_n 1, 1) := by decide +kernel
theorem dX10_strategy_99 : decode cX10_strategy 99 = .ok (.iload 4, 2) := by decide +kernel
theorem dX10_strategy_101 : decode cX10_strategy 101 = .ok (.invokevirtual 119, 3) := by decide +kernel
theorem dX10_strategy_104 : decode cX10_strategy 104 = .ok (.istore 6, 2) := by decide +kernel
theorem dX10_strategy_106 : decode cX10_strategy 106 = .ok (.iconst 0, 1) := by decide +kernel
theorem dX10_strategy_107 : decode cX10_strategy 107 = .ok (.istore 7, 2) := by decide +kernel
theorem dX10_strategy_109 : decode cX10_strategy 109 = .ok (.iload 7, 2) := by decide +kernel
theorem dX10_strategy_111 : decode cX10_strategy 111 = .ok (.iload 5, 2) := by decide +kernel
theorem dX10_strategy_113 : decode cX10_strategy 113 = .ok (.if_icmp .gt 28, 3) := by decide +kernel
theorem dX10_strategy_116 : decode cX10_strategy 116 = .ok (.aload_n 0, 1) := by decide +kernel
theorem dX10_strategy_117 : decode cX10_strategy 117 = .ok (.getfield 61, 3) := by decide +kernel
theorem dX10_strategy_120 : decode cX10_strategy 120 = .ok (.iload 7, 2) := by decide +kernel
theorem dX10_strategy_122 : decode cX10_strategy 122 = .ok (.iload 7, 2) := by decide +kernel
theorem dX10_strategy_124 : decode cX10_strategy 124 = .ok (.iload 5, 2) := by decide +kernel
theorem dX10_strategy_126 : decode cX10_strategy 126 = .ok (.if_icmp .ne 7, 3) := by decide +kernel
theorem dX10_strategy_129 : decode cX10_strategy 129 = .ok (.iconst 1, 1) := by decide +kernel
theorem dX10_strategy_130 : decode cX10_strategy 130 = .ok (.goto 4, 3) := by decide +kernel
theorem dX10_strategy_133 : decode cX10_strategy 133 = .ok (.iconst 0, 1) := by decide +kernel
theorem dX10_strategy_134 : decode cX10_strategy 134 = .ok (.iastore, 1) := by decide +kernel
theorem dX10_strategy_135 : decode cX10_strategy 135 = .ok (.iinc 7 1, 3) := by decide +kernel
theorem dX10_strategy_138 : decode cX10_strategy 138 = .ok (.goto (-29), 3) := by decide +kernel
theorem dX10_strategy_141 : decode cX10_strategy 141 = .ok (.iconst 0, 1) := by decide +kernel
theorem dX10_strategy_142 : decode cX10_strategy 142 = .ok (.istore 7, 2) := by decide +kernel
theorem dX10_strategy_144 : decode cX10_strategy 144 = .ok (.iload 5, 2) := by decide +kernel
theorem dX10_strategy_146 : decode cX10_strategy 146 = .ok (.istore 8, 2) := by decide +kernel
theorem dX10_strategy_148 : decode cX10_strategy 148 = .ok (.iload 8, 2) := by decide +kernel
theorem dX10_strategy_150 : decode cX10_strategy 150 = .ok (.ifCond .lt 138, 3) := by decide +kernel
theorem dX10_strategy_153 : decode cX10_strategy 153 = .ok (.aload_n 0, 1) := by decide +kernel
theorem dX10_strategy_154 : decode cX10_strategy 154 = .ok (.getfield 25, 3) := by decide +kernel
theorem dX10_strategy_157 : decode cX10_strategy 157 = .ok (.iload 6, 2) := by decide +kernel
theorem dX10_strategy_159 : decode cX10_strategy 159 = .ok (.iload 8, 2) := by decide +kernel
theorem dX10_strategy_161 : decode cX10_strategy 161 = .ok (.iadd, 1) := by decide +kernel
theorem dX10_strategy_162 : decode cX10_strategy 162 = .ok (.iaload, 1) := by decide +kernel
theorem dX10_strategy_163 : decode cX10_strategy 163 = .ok (.istore 9, 2) := by decide +kernel
theorem dX10_strategy_165 : decode cX10_strategy 165 = .ok (.aload_n 0, 1) := by decide +kernel
theorem dX10_strategy_166 : decode cX10_strategy 166 = .ok (.getfield 61, 3) := by decide +kernel
theorem dX10_strategy_169 : decode cX10_strategy 169 = .ok (.iload 8, 2) := by decide +kernel
theorem dX10_strategy_171 : decode cX10_strategy 171 = .ok (.iaload, 1) := by decide +kernel
theorem dX10_strategy_172 : decode cX10_strategy 172 = .ok (.ifCond .ne 6, 3) := by decide +kernel
theorem dX10_strategy_175 : decode cX10_strategy 175 = .ok (.goto 107, 3) := by decide +kernel
theorem dX10_strategy_178 : decode cX10_strategy 178 = .ok (.iload 9, 2) := by decide +kernel
theorem dX10_strategy_180 : decode cX10_strategy 180 = .ok (.bipush 8, 2) := by decide +kernel
theorem dX10_strategy_182 : decode cX10_strategy 182 = .ok (.if_icmp .ge 12, 3) := by decide +kernel
theorem dX10_strategy_185 : decode cX10_strategy 185 = .ok (.iload 7, 2) := by decide +kernel
theorem dX10_strategy_187 : decode cX10_strategy 187 = .ok (.iconst 1, 1) := by decide +kernel
theorem dX10_strategy_188 : decode cX10_strategy 188 = .ok (.iload 9, 2) := by decide +kernel
theorem dX10_strategy_190 : decode cX10_strategy 190 = .ok (.ishl, 1) := by decide +kernel
theorem dX10_strategy_191 : decode cX10_strategy 191 = .ok (.ior, 1) := by decide +kernel
theorem dX10_strategy_192 : decode cX10_strategy 192 = .ok (.istore 7, 2) := by decide +kernel
theorem dX10_strategy_194 : decode cX10_strategy 194 = .ok (.iload 9, 2) := by decide +kernel
theorem dX10_strategy_196 : decode cX10_strategy 196 = .ok (.bipush 10, 2) := by decide +kernel
theorem dX10_strategy_198 : decode cX10_strategy 198 = .ok (.if_icmp .ge 6, 3) := by decide +kernel
theorem dX10_strategy_201 : decode cX10_strategy 201 = .ok (.goto 81, 3) := by decide +kernel
theorem dX10_strategy_204 : decode cX10_strategy 204 = .ok (.aload_n 0, 1) := by decide +kernel
theorem dX10_strategy_205 : decode cX10_strategy 205 = .ok (.getfield 58, 3) := by decide +kernel
theorem dX10_strategy_208 : decode cX10_strategy 208 = .ok (.aload_n 0, 1) := by decide +kernel
theorem dX10_strategy_209 : decode cX10_strategy 209 = .ok (.getfield 37, 3) := by decide +kernel
theorem dX10_strategy_212 : decode cX10_strategy 212 = .ok (.iload 8, 2) := by decide +kernel
theorem dX10_strategy_214 : decode cX10_strategy 214 = .ok (.iaload, 1) := by decide +kernel
theorem dX10_strategy_215 : decode cX10_strategy 215 = .ok (.iaload, 1) := by decide +kernel
theorem dX10_strategy_216 : decode cX10_strategy 216 = .ok (.aload_n 0, 1) := by decide +kernel
theorem dX10_strategy_217 : decode cX10_strategy 217 = .ok (.getfield 58, 3) := by decide +kernel
theorem dX10_strategy_220 : decode cX10_strategy 220 = .ok (.iload 8, 2) := by decide +kernel
theorem dX10_strategy_222 : decode cX10_strategy 222 = .ok (.iconst 1, 1) := by decide +kernel
theorem dX10_strategy_223 : decode cX10_strategy 223 = .ok (.isub, 1) := by decide +kernel
theorem dX10_strategy_224 : decode cX10_strategy 224 = .ok (.iaload, 1) := by decide +kernel
theorem dX10_strategy_225 : decode cX10_strategy 225 = .ok (.if_icmp .gt 7, 3) := by decide +kernel
theorem dX10_strategy_228 : decode cX10_strategy 228 = .ok (.iconst 1, 1) := by decide +kernel
theorem dX10_strategy_229 : decode cX10_strategy 229 = .ok (.goto 4, 3) := by decide +kernel
theorem dX10_strategy_232 : decode cX10_strategy 232 = .ok (.iconst 0, 1) := by decide +kernel
theorem dX10_strategy_233 : decode cX10_strategy 233 = .ok (.istore 10, 2) := by decide +kernel
theorem dX10_strategy_235 : decode cX10_strategy 235 = .ok (.iload 9, 2) := by decide +kernel
theorem dX10_strategy_237 : decode cX10_strategy 237 = .ok (.bipush 10, 2) := by decide +kernel
theorem dX10_strategy_239 : decode cX10_strategy 239 = .ok (.if_icmp .eq 8, 3) := by decide +kernel
theorem dX10_strategy_242 : decode cX10_strategy 242 = .ok (.iload 10, 2) := by decide +kernel
theorem dX10_strategy_244 : decode cX10_strategy 244 = .ok (.ifCond .eq 16, 3) := by decide +kernel
theorem dX10_strategy_247 : decode cX10_strategy 247 = .ok (.aload_n 0, 1) := by decide +kernel
theorem dX10_strategy_248 : decode cX10_strategy 248 = .ok (.getfield 61, 3) := by decide +kernel
theorem dX10_strategy_251 : decode cX10_strategy 251 = .ok (.aload_n 0, 1) := by decide +kernel
theorem dX10_strategy_252 : decode cX10_strategy 252 = .ok (.getfield 37, 3) := by decide +kernel
theorem dX10_strategy_255 : decode cX10_strategy 255 = .ok (.iload 8, 2) := by decide +kernel
theorem dX10_strategy_257 : decode cX10_strategy 257 = .ok (.iaload, 1) := by decide +kernel
theorem dX10_strategy_258 : decode cX10_strategy 258 = .ok (.iconst 1, 1) := by decide +kernel
theorem dX10_strategy_259 : decode cX10_strategy 259 = .ok (.iastore, 1) := by decide +kernel
theorem dX10_strategy_260 : decode cX10_strategy 260 = .ok (.iload 9, 2) := by decide +kernel
theorem dX10_strategy_262 : decode cX10_strategy 262 = .ok (.bipush 10, 2) := by decide +kernel
theorem dX10_strategy_264 : decode cX10_strategy 264 = .ok (.if_icmp .eq 8, 3) := by decide +kernel
theorem dX10_strategy_267 : decode cX10_strategy 267 = .ok (.iload 10, 2) := by decide +kernel
theorem dX10_strategy_269 : decode cX10_strategy 269 = .ok (.ifCond .ne 13, 3) := by decide +kernel
theorem dX10_strategy_272 : decode cX10_strategy 272 = .ok (.aload_n 0, 1) := by decide +kernel
theorem dX10_strategy_273 : decode cX10_strategy 273 = .ok (.getfield 61, 3) := by decide +kernel
theorem dX10_strategy_276 : decode cX10_strategy 276 = .ok (.iload 8, 2) := by decide +kernel
theorem dX10_strategy_278 : decode cX10_strategy 278 = .ok (.iconst 1, 1) := by decide +kernel
theorem dX10_strategy_279 : decode cX10_strategy 279 = .ok (.isub, 1) := by decide +kernel
theorem dX10_strategy_280 : decode cX10_strategy 280 = .ok (.iconst 1, 1) := by decide +kernel
theorem dX10_strategy_281 : decode cX10_strategy 281 = .ok (.iastore, 1) := by decide +kernel
theorem dX10_strategy_282 : decode cX10_strategy 282 = .ok (.iinc 8 (-1), 3) := by decide +kernel
theorem dX10_strategy_285 : decode cX10_strategy 285 = .ok (.goto (-137), 3) := by decide +kernel
theorem dX10_strategy_288 : decode cX10_strategy 288 = .ok (.iload 7, 2) := by decide +kernel
theorem dX10_strategy_290 : decode cX10_strategy 290 = .ok (.ireturn, 1) := by decide +kernel
theorem dX10_comes_0 : decode cX10_comes 0 = .ok (.aload_n 0, 1) := by decide +kernel
theorem dX10_comes_1 : decode cX10_comes 1 = .ok (.getfield 67, 3) := by decide +kernel
theorem dX10_comes_4 : decode cX10_comes 4 = .ok (.iload_n 1, 1) := by decide +kernel
theorem dX10_comes_5 : decode cX10_comes 5 = .ok (.iaload, 1) := by decide +kernel
theorem dX10_comes_6 : decode cX10_comes 6 = .ok (.ifCond .lt 5, 3) := by decide +kernel
theorem dX10_comes_9 : decode cX10_comes 9 = .ok (.iconst 0, 1) := by decide +kernel
theorem dX10_comes_10 : decode cX10_comes 10 = .ok (.ireturn, 1) := by decide +kernel
theorem dX10_comes_11 : decode cX10_comes 11 = .ok (.aload_n 0, 1) := by decide +kernel
theorem dX10_comes_12 : decode cX10_comes 12 = .ok (.getfield 67, 3) := by decide +kernel
theorem dX10_comes_15 : decode cX10_comes 15 = .ok (.iload_n 1, 1) := by decide +kernel
theorem dX10_comes_16 : decode cX10_comes 16 = .ok (.aload_n 0, 1) := by decide +kernel
theorem dX10_comes_17 : decode cX10_comes 17 = .ok (.getfield 264, 3) := by decide +kernel
theorem dX10_comes_20 : decode cX10_comes 20 = .ok (.iastore, 1) := by decide +kernel
theorem dX10_comes_21 : decode cX10_comes 21 = .ok (.aload_n 0, 1) := by decide +kernel
theorem dX10_comes_22 : decode cX10_comes 22 = .ok (.getfield 64, 3) := by decide +kernel
theorem dX10_comes_25 : decode cX10_comes 25 = .ok (.aload_n 0, 1) := by decide +kernel
theorem dX10_comes_26 : decode cX10_comes 26 = .ok (.getfield 264, 3) := by decide +kernel
theorem dX10_comes_29 : decode cX10_comes 29 = .ok (.iload_n 1, 1) := by decide +kernel
theorem dX10_comes_30 : decode cX10_comes 30 = .ok (.iastore, 1) := by decide +kernel
theorem dX10_comes_31 : decode cX10_comes 31 = .ok (.aload_n 0, 1) := by decide +kernel
theorem dX10_comes_32 : decode cX10_comes 32 = .ok (.dup, 1) := by decide +kernel
theorem dX10_comes_33 : decode cX10_comes 33 = .ok (.getfield 264, 3) := by decide +kernel
theorem dX10_comes_36 : decode cX10_comes 36 = .ok (.iconst 1, 1) := by decide +kernel
theorem dX10_comes_37 : decode cX10_comes 37 = .ok (.iadd, 1) := by decide +kernel
theorem dX10_comes_38 : decode cX10_comes 38 = .ok (.putfield 264, 3) := by decide +kernel
theorem dX10_comes_41 : decode cX10_comes 41 = .ok (.iconst 1, 1) := by decide +kernel
theorem dX10_comes_42 : decode cX10_comes 42 = .ok (.ireturn, 1) := by decide +kernel
theorem dX10_forgets_0 : decode cX10_forgets 0 = .ok (.aload_n 0, 1) := by decide +kernel
theorem dX10_forgets_1 : decode cX10_forgets 1 = .ok (.iconst 0, 1) := by decide +kernel
theorem dX10_forgets_2 : decode cX10_forgets 2 = .ok (.putfield 264, 3) := by decide +kernel
theorem dX10_forgets_5 : decode cX10_forgets 5 = .ok (.iconst 0, 1) := by decide +kernel
theorem dX10_forgets_6 : decode cX10_forgets 6 = .ok (.istore_n 1, 1) := by decide +kernel
theorem dX10_forgets_7 : decode cX10_forgets 7 = .ok (.iload_n 1, 1) := by decide +kernel
theorem dX10_forgets_8 : decode cX10_forgets 8 = .ok (.bipush 64, 2) := by decide +kernel
theorem dX10_forgets_10 : decode cX10_forgets 10 = .ok (.if_icmp .ge 16, 3) := by decide +kernel
theorem dX10_forgets_13 : decode cX10_forgets 13 = .ok (.aload_n 0, 1) := by decide +kernel
theorem dX10_forgets_14 : decode cX10_forgets 14 = .ok (.getfield 67, 3) := by decide +kernel
theorem dX10_forgets_17 : decode cX10_forgets 17 = .ok (.iload_n 1, 1) := by decide +kernel
theorem dX10_forgets_18 : decode cX10_forgets 18 = .ok (.iconst (-1), 1) := by decide +kernel
theorem dX10_forgets_19 : decode cX10_forgets 19 = .ok (.iastore, 1) := by decide +kernel
theorem dX10_forgets_20 : decode cX10_forgets 20 = .ok (.iinc 1 1, 3) := by decide +kernel
theorem dX10_forgets_23 : decode cX10_forgets 23 = .ok (.goto (-16), 3) := by decide +kernel
theorem dX10_forgets_26 : decode cX10_forgets 26 = .ok (.return_, 1) := by decide +kernel
theorem dX10_findReverse_0 : decode cX10_findReverse 0 = .ok (.aload_n 0, 1) := by decide +kernel
theorem dX10_findReverse_1 : decode cX10_findReverse 1 = .ok (.invokevirtual 267, 3) := by decide +kernel
theorem dX10_findReverse_4 : decode cX10_findReverse 4 = .ok (.aload_n 0, 1) := by decide +kernel
theorem dX10_findReverse_5 : decode cX10_findReverse 5 = .ok (.aload_n 0, 1) := by decide +kernel
theorem dX10_findReverse_6 : decode cX10_findReverse 6 = .ok (.getfield 16, 3) := by decide +kernel
theorem dX10_findReverse_9 : decode cX10_findReverse 9 = .ok (.iload_n 1, 1) := by decide +kernel
theorem dX10_findReverse_10 : decode cX10_findReverse 10 = .ok (.iaload, 1) := by decide +kernel
theorem dX10_findReverse_11 : decode cX10_findReverse 11 = .ok (.invokevirtual 270, 3) := by decide +kernel
theorem dX10_findReverse_14 : decode cX10_findReverse 14 = .ok (.pop, 1) := by decide +kernel
theorem dX10_findReverse_15 : decode cX10_findReverse 15 = .ok (.iconst 0, 1) := by decide +kernel
theorem dX10_findReverse_16 : decode cX10_findReverse 16 = .ok (.istore_n 2, 1) := by decide +kernel
theorem dX10_findReverse_17 : decode cX10_findReverse 17 = .ok (.iload_n 2, 1) := by decide +kernel
theorem dX10_findReverse_18 : decode cX10_findReverse 18 = .ok (.aload_n 0, 1) := by decide +kernel
theorem dX10_findReverse_19 : decode cX10_findReverse 19 = .ok (.getfield 264, 3) := by decide +kernel
theorem dX10_findReverse_22 : decode cX10_findReverse 22 = .ok (.if_icmp .ge 44, 3) := by decide +kernel
theorem dX10_findReverse_25 : decode cX10_findReverse 25 = .ok (.iconst 0, 1) := by decide +kernel
theorem dX10_findReverse_26 : decode cX10_findReverse 26 = .ok (.istore_n 3, 1) := by decide +kernel
theorem dX10_findReverse_27 : decode cX10_findReverse 27 = .ok (.iload_n 3, 1) := by decide +kernel
theorem dX10_findReverse_28 : decode cX10_findReverse 28 = .ok (.aload_n 0, 1) := by decide +kernel
theorem dX10_findReverse_29 : decode cX10_findReverse 29 = .ok (.getfield 13, 3) := by decide +kernel
theorem dX10_findReverse_32 : decode cX10_findReverse 32 = .ok (.iload_n 1, 1) := by decide +kernel
theorem dX10_findReverse_33 : decode cX10_findReverse 33 = .ok (.iaload, 1) := by decide +kernel
theorem dX10_findReverse_34 : decode cX10_findReverse 34 = .ok (.if_icmp .ge 26, 3) := by decide +kernel
theorem dX10_findReverse_37 : decode cX10_findReverse 37 = .ok (.aload_n 0, 1) := by decide +kernel
theorem dX10_findReverse_38 : decode cX10_findReverse 38 = .ok (.aload_n 0, 1) := by decide +kernel
theorem dX10_findReverse_39 : decode cX10_findReverse 39 = .ok (.iload_n 1, 1) := by decide +kernel
theorem dX10_findReverse_40 : decode cX10_findReverse 40 = .ok (.iload_n 3, 1) := by decide +kernel
theorem dX10_findReverse_41 : decode cX10_findReverse 41 = .ok (.aload_n 0, 1) := by decide +kernel
theorem dX10_findReverse_42 : decode cX10_findReverse 42 = .ok (.getfield 64, 3) := by decide +kernel
theorem dX10_findReverse_45 : decode cX10_findReverse 45 = .ok (.iload_n 2, 1) := by decide +kernel
theorem dX10_findReverse_46 : decode cX10_findReverse 46 = .ok (.iaload, 1) := by decide +kernel
theorem dX10_findReverse_47 : decode cX10_findReverse 47 = .ok (.invokevirtual 240, 3) := by decide +kernel
theorem dX10_findReverse_50 : decode cX10_findReverse 50 = .ok (.invokevirtual 270, 3) := by decide +kernel
theorem dX10_findReverse_53 : decode cX10_findReverse 53 = .ok (.pop, 1) := by decide +kernel
theorem dX10_findReverse_54 : decode cX10_findReverse 54 = .ok (.iinc 3 1, 3) := by decide +kernel
theorem dX10_findReverse_57 : decode cX10_findReverse 57 = .ok (.goto (-30), 3) := by decide +kernel
theorem dX10_findReverse_60 : decode cX10_findReverse 60 = .ok (.iinc 2 1, 3) := by decide +kernel
theorem dX10_findReverse_63 : decode cX10_findReverse 63 = .ok (.goto (-46), 3) := by decide +kernel
theorem dX10_findReverse_66 : decode cX10_findReverse 66 = .ok (.return_, 1) := by decide +kernel
theorem dX10_reverseStep_0 : decode cX10_reverseStep 0 = .ok (.iload_n 1, 1) := by decide +kernel
theorem dX10_reverseStep_1 : decode cX10_reverseStep 1 = .ok (.invokestatic 123, 3) := by decide +kernel
theorem dX10_reverseStep_4 : decode cX10_reverseStep 4 = .ok (.ifCond .eq 21, 3) := by decide +kernel
theorem dX10_reverseStep_7 : decode cX10_reverseStep 7 = .ok (.aload_n 0, 1) := by decide +kernel
theorem dX10_reverseStep_8 : decode cX10_reverseStep 8 = .ok (.iload_n 1, 1) := by decide +kernel
theorem dX10_reverseStep_9 : decode cX10_reverseStep 9 = .ok (.iload_n 2, 1) := by decide +kernel
theorem dX10_reverseStep_10 : decode cX10_reverseStep 10 = .ok (.invokevirtual 135, 3) := by decide +kernel
theorem dX10_reverseStep_13 : decode cX10_reverseStep 13 = .ok (.ifCond .eq 12, 3) := by decide +kernel
theorem dX10_reverseStep_16 : decode cX10_reverseStep 16 = .ok (.aload_n 0, 1) := by decide +kernel
theorem dX10_reverseStep_17 : decode cX10_reverseStep 17 = .ok (.iload_n 1, 1) := by decide +kernel
theorem dX10_reverseStep_18 : decode cX10_reverseStep 18 = .ok (.iload_n 3, 1) := by decide +kernel
theorem dX10_reverseStep_19 : decode cX10_reverseStep 19 = .ok (.invokevirtual 206, 3) := by decide +kernel
theorem dX10_reverseStep_22 : decode cX10_reverseStep 22 = .ok (.ifCond .ne 6, 3) := by decide +kernel
theorem dX10_reverseStep_25 : decode cX10_reverseStep 25 = .ok (.bipush (-2), 2) := by decide +kernel
theorem dX10_reverseStep_27 : decode cX10_reverseStep 27 = .ok (.ireturn, 1) := by decide +kernel
theorem dX10_reverseStep_28 : decode cX10_reverseStep 28 = .ok (.aload_n 0, 1) := by decide +kernel
theorem dX10_reverseStep_29 : decode cX10_reverseStep 29 = .ok (.iload_n 1, 1) := by decide +kernel
theorem dX10_reverseStep_30 : decode cX10_reverseStep 30 = .ok (.iload_n 2, 1) := by decide +kernel
theorem dX10_reverseStep_31 : decode cX10_reverseStep 31 = .ok (.iload_n 3, 1) := by decide +kernel
theorem dX10_reverseStep_32 : decode cX10_reverseStep 32 = .ok (.invokevirtual 240, 3) := by decide +kernel
theorem dX10_reverseStep_35 : decode cX10_reverseStep 35 = .ok (.ireturn, 1) := by decide +kernel
theorem dX10_reverseStates_0 : decode cX10_reverseStates 0 = .ok (.iload_n 1, 1) := by decide +kernel
theorem dX10_reverseStates_1 : decode cX10_reverseStates 1 = .ok (.invokestatic 123, 3) := by decide +kernel
theorem dX10_reverseStates_4 : decode cX10_reverseStates 4 = .ok (.ifCond .ne 6, 3) := by decide +kernel
theorem dX10_reverseStates_7 : decode cX10_reverseStates 7 = .ok (.bipush (-2), 2) := by decide +kernel
theorem dX10_reverseStates_9 : decode cX10_reverseStates 9 = .ok (.ireturn, 1) := by decide +kernel
theorem dX10_reverseStates_10 : decode cX10_reverseStates 10 = .ok (.aload_n 0, 1) := by decide +kernel
theorem dX10_reverseStates_11 : decode cX10_reverseStates 11 = .ok (.iload_n 1, 1) := by decide +kernel
theorem dX10_reverseStates_12 : decode cX10_reverseStates 12 = .ok (.invokevirtual 273, 3) := by decide +kernel
theorem dX10_reverseStates_15 : decode cX10_reverseStates 15 = .ok (.aload_n 0, 1) := by decide +kernel
theorem dX10_reverseStates_16 : decode cX10_reverseStates 16 = .ok (.getfield 264, 3) := by decide +kernel
theorem dX10_reverseStates_19 : decode cX10_reverseStates 19 = .ok (.ireturn, 1) := by decide +kernel
theorem dX10_isOneClass_0 : decode cX10_isOneClass 0 = .ok (.aload_n 0, 1) := by decide +kernel
theorem dX10_isOneClass_1 : decode cX10_isOneClass 1 = .ok (.getfield 70, 3) := by decide +kernel
theorem dX10_isOneClass_4 : decode cX10_isOneClass 4 = .ok (.iload_n 2, 1) := by decide +kernel
theorem dX10_isOneClass_5 : decode cX10_isOneClass 5 = .ok (.iaload, 1) := by decide +kernel
theorem dX10_isOneClass_6 : decode cX10_isOneClass 6 = .ok (.aload_n 0, 1) := by decide +kernel
theorem dX10_isOneClass_7 : decode cX10_isOneClass 7 = .ok (.getfield 70, 3) := by decide +kernel
theorem dX10_isOneClass_10 : decode cX10_isOneClass 10 = .ok (.iload_n 3, 1) := by decide +kernel
theorem dX10_isOneClass_11 : decode cX10_isOneClass 11 = .ok (.iaload, 1) := by decide +kernel
theorem dX10_isOneClass_12 : decode cX10_isOneClass 12 = .ok (.if_icmp .ne 7, 3) := by decide +kernel
theorem dX10_isOneClass_15 : decode cX10_isOneClass 15 = .ok (.iconst 1, 1) := by decide +kernel
theorem dX10_isOneClass_16 : decode cX10_isOneClass 16 = .ok (.goto 4, 3) := by decide +kernel
theorem dX10_isOneClass_19 : decode cX10_isOneClass 19 = .ok (.iconst 0, 1) := by decide +kernel
theorem dX10_isOneClass_20 : decode cX10_isOneClass 20 = .ok (.istore 4, 2) := by decide +kernel
theorem dX10_isOneClass_22 : decode cX10_isOneClass 22 = .ok (.iconst 0, 1) := by decide +kernel
theorem dX10_isOneClass_23 : decode cX10_isOneClass 23 = .ok (.istore 5, 2) := by decide +kernel
theorem dX10_isOneClass_25 : decode cX10_isOneClass 25 = .ok (.iload 5, 2) := by decide +kernel
theorem dX10_isOneClass_27 : decode cX10_isOneClass 27 = .ok (.aload_n 0, 1) := by decide +kernel
theorem dX10_isOneClass_28 : decode cX10_isOneClass 28 = .ok (.getfield 13, 3) := by decide +kernel
theorem dX10_isOneClass_31 : decode cX10_isOneClass 31 = .ok (.iload_n 1, 1) := by decide +kernel
theorem dX10_isOneClass_32 : decode cX10_isOneClass 32 = .ok (.iaload, 1) := by decide +kernel
theorem dX10_isOneClass_33 : decode cX10_isOneClass 33 = .ok (.if_icmp .ge 56, 3) := by decide +kernel
theorem dX10_isOneClass_36 : decode cX10_isOneClass 36 = .ok (.iload 4, 2) := by decide +kernel
theorem dX10_isOneClass_38 : decode cX10_isOneClass 38 = .ok (.ifCond .eq 42, 3) := by decide +kernel
theorem dX10_isOneClass_41 : decode cX10_isOneClass 41 = .ok (.aload_n 0, 1) := by decide +kernel
theorem dX10_isOneClass_42 : decode cX10_isOneClass 42 = .ok (.getfield 70, 3) := by decide +kernel
theorem dX10_isOneClass_45 : decode cX10_isOneClass 45 = .ok (.aload_n 0, 1) := by decide +kernel
theorem dX10_isOneClass_46 : decode cX10_isOneClass 46 = .ok (.getfield 76, 3) := by decide +kernel
theorem dX10_isOneClass_49 : decode cX10_isOneClass 49 = .ok (.iconst 3, 1) := by decide +kernel
theorem dX10_isOneClass_50 : decode cX10_isOneClass 50 = .ok (.iload_n 2, 1) := by decide +kernel
theorem dX10_isOneClass_51 : decode cX10_isOneClass 51 = .ok (.imul, 1) := by decide +kernel
theorem dX10_isOneClass_52 : decode cX10_isOneClass 52 = .ok (.iload 5, 2) := by decide +kernel
theorem dX10_isOneClass_54 : decode cX10_isOneClass 54 = .ok (.iadd, 1) := by decide +kernel
theorem dX10_isOneClass_55 : decode cX10_isOneClass 55 = .ok (.iaload, 1) := by decide +kernel
theorem dX10_isOneClass_56 : decode cX10_isOneClass 56 = .ok (.iaload, 1) := by decide +kernel
theorem dX10_isOneClass_57 : decode cX10_isOneClass 57 = .ok (.aload_n 0, 1) := by decide +kernel
theorem dX10_isOneClass_58 : decode cX10_isOneClass 58 = .ok (.getfield 70, 3) := by decide +kernel
theorem dX10_isOneClass_61 : decode cX10_isOneClass 61 = .ok (.aload_n 0, 1) := by decide +kernel
theorem dX10_isOneClass_62 : decode cX10_isOneClass 62 = .ok (.getfield 76, 3) := by decide +kernel
theorem dX10_isOneClass_65 : decode cX10_isOneClass 65 = .ok (.iconst 3, 1) := by decide +kernel
theorem dX10_isOneClass_66 : decode cX10_isOneClass 66 = .ok (.iload_n 3, 1) := by decide +kernel
theorem dX10_isOneClass_67 : decode cX10_isOneClass 67 = .ok (.imul, 1) := by decide +kernel
theorem dX10_isOneClass_68 : decode cX10_isOneClass 68 = .ok (.iload 5, 2) := by decide +kernel
theorem dX10_isOneClass_70 : decode cX10_isOneClass 70 = .ok (.iadd, 1) := by decide +kernel
theorem dX10_isOneClass_71 : decode cX10_isOneClass 71 = .ok (.iaload, 1) := by decide +kernel
theorem dX10_isOneClass_72 : decode cX10_isOneClass 72 = .ok (.iaload, 1) := by decide +kernel
theorem dX10_isOneClass_73 : decode cX10_isOneClass 73 = .ok (.if_icmp .ne 7, 3) := by decide +kernel
theorem dX10_isOneClass_76 : decode cX10_isOneClass 76 = .ok (.iconst 1, 1) := by decide +kernel
theorem dX10_isOneClass_77 : decode cX10_isOneClass 77 = .ok (.goto 4, 3) := by decide +kernel
theorem dX10_isOneClass_80 : decode cX10_isOneClass 80 = .ok (.iconst 0, 1) := by decide +kernel
theorem dX10_isOneClass_81 : decode cX10_isOneClass 81 = .ok (.istore 4, 2) := by decide +kernel
theorem dX10_isOneClass_83 : decode cX10_isOneClass 83 = .ok (.iinc 5 1, 3) := by decide +kernel
theorem dX10_isOneClass_86 : decode cX10_isOneClass 86 = .ok (.goto (-61), 3) := by decide +kernel
theorem dX10_isOneClass_89 : decode cX10_isOneClass 89 = .ok (.iload 4, 2) := by decide +kernel
theorem dX10_isOneClass_91 : decode cX10_isOneClass 91 = .ok (.ireturn, 1) := by decide +kernel
theorem dX10_reverseClasses_0 : decode cX10_reverseClasses 0 = .ok (.iload_n 1, 1) := by decide +kernel
theorem dX10_reverseClasses_1 : decode cX10_reverseClasses 1 = .ok (.invokestatic 123, 3) := by decide +kernel
theorem dX10_reverseClasses_4 : decode cX10_reverseClasses 4 = .ok (.ifCond .ne 6, 3) := by decide +kernel
theorem dX10_reverseClasses_7 : decode cX10_reverseClasses 7 = .ok (.bipush (-2), 2) := by decide +kernel
theorem dX10_reverseClasses_9 : decode cX10_reverseClasses 9 = .ok (.ireturn, 1) := by decide +kernel
theorem dX10_reverseClasses_10 : decode cX10_reverseClasses 10 = .ok (.aload_n 0, 1) := by decide +kernel
theorem dX10_reverseClasses_11 : decode cX10_reverseClasses 11 = .ok (.iload_n 1, 1) := by decide +kernel
theorem dX10_reverseClasses_12 : decode cX10_reverseClasses 12 = .ok (.invokevirtual 273, 3) := by decide +kernel
theorem dX10_reverseClasses_15 : decode cX10_reverseClasses 15 = .ok (.iconst 0, 1) := by decide +kernel
theorem dX10_reverseClasses_16 : decode cX10_reverseClasses 16 = .ok (.istore_n 2, 1) := by decide +kernel
theorem dX10_reverseClasses_17 : decode cX10_reverseClasses 17 = .ok (.iload_n 2, 1) := by decide +kernel
theorem dX10_reverseClasses_18 : decode cX10_reverseClasses 18 = .ok (.aload_n 0, 1) := by decide +kernel
theorem dX10_reverseClasses_19 : decode cX10_reverseClasses 19 = .ok (.getfield 264, 3) := by decide +kernel
theorem dX10_reverseClasses_22 : decode cX10_reverseClasses 22 = .ok (.if_icmp .ge 79, 3) := by decide +kernel
theorem dX10_reverseClasses_25 : decode cX10_reverseClasses 25 = .ok (.aload_n 0, 1) := by decide +kernel
theorem dX10_reverseClasses_26 : decode cX10_reverseClasses 26 = .ok (.getfield 70, 3) := by decide +kernel
theorem dX10_reverseClasses_29 : decode cX10_reverseClasses 29 = .ok (.iload_n 2, 1) := by decide +kernel
theorem dX10_reverseClasses_30 : decode cX10_reverseClasses 30 = .ok (.aload_n 0, 1) := by decide +kernel
theorem dX10_reverseClasses_31 : decode cX10_reverseClasses 31 = .ok (.iload_n 1, 1) := by decide +kernel
theorem dX10_reverseClasses_32 : decode cX10_reverseClasses 32 = .ok (.aload_n 0, 1) := by decide +kernel
theorem dX10_reverseClasses_33 : decode cX10_reverseClasses 33 = .ok (.getfield 64, 3) := by decide +kernel
theorem dX10_reverseClasses_36 : decode cX10_reverseClasses 36 = .ok (.iload_n 2, 1) := by decide +kernel
theorem dX10_reverseClasses_37 : decode cX10_reverseClasses 37 = .ok (.iaload, 1) := by decide +kernel
theorem dX10_reverseClasses_38 : decode cX10_reverseClasses 38 = .ok (.invokevirtual 249, 3) := by decide +kernel
theorem dX10_reverseClasses_41 : decode cX10_reverseClasses 41 = .ok (.ifCond .eq 7, 3) := by decide +kernel
theorem dX10_reverseClasses_44 : decode cX10_reverseClasses 44 = .ok (.iconst 1, 1) := by decide +kernel
theorem dX10_reverseClasses_45 : decode cX10_reverseClasses 45 = .ok (.goto 4, 3) := by decide +kernel
theorem dX10_reverseClasses_48 : decode cX10_reverseClasses 48 = .ok (.iconst 0, 1) := by decide +kernel
theorem dX10_reverseClasses_49 : decode cX10_reverseClasses 49 = .ok (.iastore, 1) := by decide +kernel
theorem dX10_reverseClasses_50 : decode cX10_reverseClasses 50 = .ok (.iconst 0, 1) := by decide +kernel
theorem dX10_reverseClasses_51 : decode cX10_reverseClasses 51 = .ok (.istore_n 3, 1) := by decide +kernel
theorem dX10_reverseClasses_52 : decode cX10_reverseClasses 52 = .ok (.iload_n 3, 1) := by decide +kernel
theorem dX10_reverseClasses_53 : decode cX10_reverseClasses 53 = .ok (.aload_n 0, 1) := by decide +kernel
theorem dX10_reverseClasses_54 : decode cX10_reverseClasses 54 = .ok (.getfield 13, 3) := by decide +kernel
theorem dX10_reverseClasses_57 : decode cX10_reverseClasses 57 = .ok (.iload_n 1, 1) := by decide +kernel
theorem dX10_reverseClasses_58 : decode cX10_reverseClasses 58 = .ok (.iaload, 1) := by decide +kernel
theorem dX10_reverseClasses_59 : decode cX10_reverseClasses 59 = .ok (.if_icmp .ge 36, 3) := by decide +kernel
theorem dX10_reverseClasses_62 : decode cX10_reverseClasses 62 = .ok (.aload_n 0, 1) := by decide +kernel
theorem dX10_reverseClasses_63 : decode cX10_reverseClasses 63 = .ok (.getfield 76, 3) := by decide +kernel
theorem dX10_reverseClasses_66 : decode cX10_reverseClasses 66 = .ok (.iconst 3, 1) := by decide +kernel
theorem dX10_reverseClasses_67 : decode cX10_reverseClasses 67 = .ok (.iload_n 2, 1) := by decide +kernel
theorem dX10_reverseClasses_68 : decode cX10_reverseClasses 68 = .ok (.imul, 1) := by decide +kernel
theorem dX10_reverseClasses_69 : decode cX10_reverseClasses 69 = .ok (.iload_n 3, 1) := by decide +kernel
theorem dX10_reverseClasses_70 : decode cX10_reverseClasses 70 = .ok (.iadd, 1) := by decide +kernel
theorem dX10_reverseClasses_71 : decode cX10_reverseClasses 71 = .ok (.aload_n 0, 1) := by decide +kernel
theorem dX10_reverseClasses_72 : decode cX10_reverseClasses 72 = .ok (.getfield 67, 3) := by decide +kernel
theorem dX10_reverseClasses_75 : decode cX10_reverseClasses 75 = .ok (.aload_n 0, 1) := by decide +kernel
theorem dX10_reverseClasses_76 : decode cX10_reverseClasses 76 = .ok (.iload_n 1, 1) := by decide +kernel
theorem dX10_reverseClasses_77 : decode cX10_reverseClasses 77 = .ok (.iload_n 3, 1) := by decide +kernel
theorem dX10_reverseClasses_78 : decode cX10_reverseClasses 78 = .ok (.aload_n 0, 1) := by decide +kernel
theorem dX10_reverseClasses_79 : decode cX10_reverseClasses 79 = .ok (.getfield 64, 3) := by decide +kernel
theorem dX10_reverseClasses_82 : decode cX10_reverseClasses 82 = .ok (.iload_n 2, 1) := by decide +kernel
theorem dX10_reverseClasses_83 : decode cX10_reverseClasses 83 = .ok (.iaload, 1) := by decide +kernel
theorem dX10_reverseClasses_84 : decode cX10_reverseClasses 84 = .ok (.invokevirtual 240, 3) := by decide +kernel
theorem dX10_reverseClasses_87 : decode cX10_reverseClasses 87 = .ok (.iaload, 1) := by decide +kernel
theorem dX10_reverseClasses_88 : decode cX10_reverseClasses 88 = .ok (.iastore, 1) := by decide +kernel
theorem dX10_reverseClasses_89 : decode cX10_reverseClasses 89 = .ok (.iinc 3 1, 3) := by decide +kernel
theorem dX10_reverseClasses_92 : decode cX10_reverseClasses 92 = .ok (.goto (-40), 3) := by decide +kernel
theorem dX10_reverseClasses_95 : decode cX10_reverseClasses 95 = .ok (.iinc 2 1, 3) := by decide +kernel
theorem dX10_reverseClasses_98 : decode cX10_reverseClasses 98 = .ok (.goto (-81), 3) := by decide +kernel
theorem dX10_reverseClasses_101 : decode cX10_reverseClasses 101 = .ok (.iconst (-1), 1) := by decide +kernel
theorem dX10_reverseClasses_102 : decode cX10_reverseClasses 102 = .ok (.istore_n 2, 1) := by decide +kernel
theorem dX10_reverseClasses_103 : decode cX10_reverseClasses 103 = .ok (.iconst 0, 1) := by decide +kernel
theorem dX10_reverseClasses_104 : decode cX10_reverseClasses 104 = .ok (.istore_n 3, 1) := by decide +kernel
theorem dX10_reverseClasses_105 : decode cX10_reverseClasses 105 = .ok (.iload_n 3, 1) := by decide +kernel
theorem dX10_reverseClasses_106 : decode cX10_reverseClasses 106 = .ok (.iload_n 2, 1) := by decide +kernel
theorem dX10_reverseClasses_107 : decode cX10_reverseClasses 107 = .ok (.if_icmp .eq 121, 3) := by decide +kernel
theorem dX10_reverseClasses_110 : decode cX10_reverseClasses 110 = .ok (.iload_n 3, 1) := by decide +kernel
theorem dX10_reverseClasses_111 : decode cX10_reverseClasses 111 = .ok (.istore_n 2, 1) := by decide +kernel
theorem dX10_reverseClasses_112 : decode cX10_reverseClasses 112 = .ok (.iconst 0, 1) := by decide +kernel
theorem dX10_reverseClasses_113 : decode cX10_reverseClasses 113 = .ok (.istore_n 3, 1) := by decide +kernel
theorem dX10_reverseClasses_114 : decode cX10_reverseClasses 114 = .ok (.iconst 0, 1) := by decide +kernel
theorem dX10_reverseClasses_115 : decode cX10_reverseClasses 115 = .ok (.istore 4, 2) := by decide +kernel
theorem dX10_reverseClasses_117 : decode cX10_reverseClasses 117 = .ok (.iload 4, 2) := by decide +kernel
theorem dX10_reverseClasses_119 : decode cX10_reverseClasses 119 = .ok (.aload_n 0, 1) := by decide +kernel
theorem dX10_reverseClasses_120 : decode cX10_reverseClasses 120 = .ok (.getfield 264, 3) := by decide +kernel
theorem dX10_reverseClasses_123 : decode cX10_reverseClasses 123 = .ok (.if_icmp .ge 70, 3) := by decide +kernel
theorem dX10_reverseClasses_126 : decode cX10_reverseClasses 126 = .ok (.iconst 0, 1) := by decide +kernel
theorem dX10_reverseClasses_127 : decode cX10_reverseClasses 127 = .ok (.istore 5, 2) := by decide +kernel
theorem dX10_reverseClasses_129 : decode cX10_reverseClasses 129 = .ok (.aload_n 0, 1) := by decide +kernel
theorem dX10_reverseClasses_130 : decode cX10_reverseClasses 130 = .ok (.iload_n 1, 1) := by decide +kernel
theorem dX10_reverseClasses_131 : decode cX10_reverseClasses 131 = .ok (.iload 5, 2) := by decide +kernel
theorem dX10_reverseClasses_133 : decode cX10_reverseClasses 133 = .ok (.iload 4, 2) := by decide +kernel
theorem dX10_reverseClasses_135 : decode cX10_reverseClasses 135 = .ok (.invokevirtual 276, 3) := by decide +kernel
theorem dX10_reverseClasses_138 : decode cX10_reverseClasses 138 = .ok (.ifCond .ne 9, 3) := by decide +kernel
theorem dX10_reverseClasses_141 : decode cX10_reverseClasses 141 = .ok (.iinc 5 1, 3) := by decide +kernel
theorem dX10_reverseClasses_144 : decode cX10_reverseClasses 144 = .ok (.goto (-15), 3) := by decide +kernel
theorem dX10_reverseClasses_147 : decode cX10_reverseClasses 147 = .ok (.aload_n 0, 1) := by decide +kernel
theorem dX10_reverseClasses_148 : decode cX10_reverseClasses 148 = .ok (.getfield 73, 3) := by decide +kernel
theorem dX10_reverseClasses_151 : decode cX10_reverseClasses 151 = .ok (.iload 4, 2) := by decide +kernel
theorem dX10_reverseClasses_153 : decode cX10_reverseClasses 153 = .ok (.iload 5, 2) := by decide +kernel
theorem dX10_reverseClasses_155 : decode cX10_reverseClasses 155 = .ok (.iload 4, 2) := by decide +kernel
theorem dX10_reverseClasses_157 : decode cX10_reverseClasses 157 = .ok (.if_icmp .ne 7, 3) := by decide +kernel
theorem dX10_reverseClasses_160 : decode cX10_reverseClasses 160 = .ok (.iload_n 3, 1) := by decide +kernel
theorem dX10_reverseClasses_161 : decode cX10_reverseClasses 161 = .ok (.goto 10, 3) := by decide +kernel
theorem dX10_reverseClasses_164 : decode cX10_reverseClasses 164 = .ok (.aload_n 0, 1) := by decide +kernel
theorem dX10_reverseClasses_165 : decode cX10_reverseClasses 165 = .ok (.getfield 73, 3) := by decide +kernel
theorem dX10_reverseClasses_168 : decode cX10_reverseClasses 168 = .ok (.iload 5, 2) := by decide +kernel
theorem dX10_reverseClasses_170 : decode cX10_reverseClasses 170 = .ok (.iaload, 1) := by decide +kernel
theorem dX10_reverseClasses_171 : decode cX10_reverseClasses 171 = .ok (.iastore, 1) := by decide +kernel
theorem dX10_reverseClasses_172 : decode cX10_reverseClasses 172 = .ok (.iload_n 3, 1) := by decide +kernel
theorem dX10_reverseClasses_173 : decode cX10_reverseClasses 173 = .ok (.iload 5, 2) := by decide +kernel
theorem dX10_reverseClasses_175 : decode cX10_reverseClasses 175 = .ok (.iload 4, 2) := by decide +kernel
theorem dX10_reverseClasses_177 : decode cX10_reverseClasses 177 = .ok (.if_icmp .ne 7, 3) := by decide +kernel
theorem dX10_reverseClasses_180 : decode cX10_reverseClasses 180 = .ok (.iconst 1, 1) := by decide +kernel
theorem dX10_reverseClasses_181 : decode cX10_reverseClasses 181 = .ok (.goto 4, 3) := by decide +kernel
theorem dX10_reverseClasses_184 : decode cX10_reverseClasses 184 = .ok (.iconst 0, 1) := by decide +kernel
theorem dX10_reverseClasses_185 : decode cX10_reverseClasses 185 = .ok (.iadd, 1) := by decide +kernel
theorem dX10_reverseClasses_186 : decode cX10_reverseClasses 186 = .ok (.istore_n 3, 1) := by decide +kernel
theorem dX10_reverseClasses_187 : decode cX10_reverseClasses 187 = .ok (.iinc 4 1, 3) := by decide +kernel
theorem dX10_reverseClasses_190 : decode cX10_reverseClasses 190 = .ok (.goto (-73), 3) := by decide +kernel
theorem dX10_reverseClasses_193 : decode cX10_reverseClasses 193 = .ok (.iconst 0, 1) := by decide +kernel
theorem dX10_reverseClasses_194 : decode cX10_reverseClasses 194 = .ok (.istore 4, 2) := by decide +kernel
theorem dX10_reverseClasses_196 : decode cX10_reverseClasses 196 = .ok (.iload 4, 2) := by decide +kernel
theorem dX10_reverseClasses_198 : decode cX10_reverseClasses 198 = .ok (.aload_n 0, 1) := by decide +kernel
theorem dX10_reverseClasses_199 : decode cX10_reverseClasses 199 = .ok (.getfield 264, 3) := by decide +kernel
theorem dX10_reverseClasses_202 : decode cX10_reverseClasses 202 = .ok (.if_icmp .ge 23, 3) := by decide +kernel
theorem dX10_reverseClasses_205 : decode cX10_reverseClasses 205 = .ok (.aload_n 0, 1) := by decide +kernel
theorem dX10_reverseClasses_206 : decode cX10_reverseClasses 206 = .ok (.getfield 70, 3) := by decide +kernel
theorem dX10_reverseClasses_209 : decode cX10_reverseClasses 209 = .ok (.iload 4, 2) := by decide +kernel
theorem dX10_reverseClasses_211 : decode cX10_reverseClasses 211 = .ok (.aload_n 0, 1) := by decide +kernel
theorem dX10_reverseClasses_212 : decode cX10_reverseClasses 212 = .ok (.getfield 73, 3) := by decide +kernel
theorem dX10_reverseClasses_215 : decode cX10_reverseClasses 215 = .ok (.iload 4, 2) := by decide +kernel
theorem dX10_reverseClasses_217 : decode cX10_reverseClasses 217 = .ok (.iaload, 1) := by decide +kernel
theorem dX10_reverseClasses_218 : decode cX10_reverseClasses 218 = .ok (.iastore, 1) := by decide +kernel
theorem dX10_reverseClasses_219 : decode cX10_reverseClasses 219 = .ok (.iinc 4 1, 3) := by decide +kernel
theorem dX10_reverseClasses_222 : decode cX10_reverseClasses 222 = .ok (.goto (-26), 3) := by decide +kernel
theorem dX10_reverseClasses_225 : decode cX10_reverseClasses 225 = .ok (.goto (-120), 3) := by decide +kernel
theorem dX10_reverseClasses_228 : decode cX10_reverseClasses 228 = .ok (.iload_n 3, 1) := by decide +kernel
theorem dX10_reverseClasses_229 : decode cX10_reverseClasses 229 = .ok (.ireturn, 1) := by decide +kernel
theorem dX10_modelsCome_0 : decode cX10_modelsCome 0 = .ok (.iconst 0, 1) := by decide +kernel
theorem dX10_modelsCome_1 : decode cX10_modelsCome 1 = .ok (.istore_n 1, 1) := by decide +kernel
theorem dX10_modelsCome_2 : decode cX10_modelsCome 2 = .ok (.iload_n 1, 1) := by decide +kernel
theorem dX10_modelsCome_3 : decode cX10_modelsCome 3 = .ok (.aload_n 0, 1) := by decide +kernel
theorem dX10_modelsCome_4 : decode cX10_modelsCome 4 = .ok (.aload_n 0, 1) := by decide +kernel
theorem dX10_modelsCome_5 : decode cX10_modelsCome 5 = .ok (.getfield 215, 3) := by decide +kernel
theorem dX10_modelsCome_8 : decode cX10_modelsCome 8 = .ok (.invokevirtual 115, 3) := by decide +kernel
theorem dX10_modelsCome_11 : decode cX10_modelsCome 11 = .ok (.if_icmp .gt 23, 3) := by decide +kernel
theorem dX10_modelsCome_14 : decode cX10_modelsCome 14 = .ok (.aload_n 0, 1) := by decide +kernel
theorem dX10_modelsCome_15 : decode cX10_modelsCome 15 = .ok (.iload_n 1, 1) := by decide +kernel
theorem dX10_modelsCome_16 : decode cX10_modelsCome 16 = .ok (.invokevirtual 234, 3) := by decide +kernel
theorem dX10_modelsCome_19 : decode cX10_modelsCome 19 = .ok (.ifCond .eq 9, 3) := by decide +kernel
theorem dX10_modelsCome_22 : decode cX10_modelsCome 22 = .ok (.aload_n 0, 1) := by decide +kernel
theorem dX10_modelsCome_23 : decode cX10_modelsCome 23 = .ok (.iload_n 1, 1) := by decide +kernel
theorem dX10_modelsCome_24 : decode cX10_modelsCome 24 = .ok (.invokevirtual 270, 3) := by decide +kernel
theorem dX10_modelsCome_27 : decode cX10_modelsCome 27 = .ok (.pop, 1) := by decide +kernel
theorem dX10_modelsCome_28 : decode cX10_modelsCome 28 = .ok (.iinc 1 1, 3) := by decide +kernel
theorem dX10_modelsCome_31 : decode cX10_modelsCome 31 = .ok (.goto (-29), 3) := by decide +kernel
theorem dX10_modelsCome_34 : decode cX10_modelsCome 34 = .ok (.return_, 1) := by decide +kernel
theorem dX10_existentialStates_0 : decode cX10_existentialStates 0 = .ok (.iload_n 1, 1) := by decide +kernel
theorem dX10_existentialStates_1 : decode cX10_existentialStates 1 = .ok (.invokestatic 123, 3) := by decide +kernel
theorem dX10_existentialStates_4 : decode cX10_existentialStates 4 = .ok (.ifCond .ne 6, 3) := by decide +kernel
theorem dX10_existentialStates_7 : decode cX10_existentialStates 7 = .ok (.bipush (-2), 2) := by decide +kernel
theorem dX10_existentialStates_9 : decode cX10_existentialStates 9 = .ok (.ireturn, 1) := by decide +kernel
theorem dX10_existentialStates_10 : decode cX10_existentialStates 10 = .ok (.aload_n 0, 1) := by decide +kernel
theorem dX10_existentialStates_11 : decode cX10_existentialStates 11 = .ok (.invokevirtual 267, 3) := by decide +kernel
theorem dX10_existentialStates_14 : decode cX10_existentialStates 14 = .ok (.aload_n 0, 1) := by decide +kernel
theorem dX10_existentialStates_15 : decode cX10_existentialStates 15 = .ok (.iload_n 1, 1) := by decide +kernel
theorem dX10_existentialStates_16 : decode cX10_existentialStates 16 = .ok (.iconst 0, 1) := by decide +kernel
theorem dX10_existentialStates_17 : decode cX10_existentialStates 17 = .ok (.iconst 0, 1) := by decide +kernel
theorem dX10_existentialStates_18 : decode cX10_existentialStates 18 = .ok (.iconst 0, 1) := by decide +kernel
theorem dX10_existentialStates_19 : decode cX10_existentialStates 19 = .ok (.invokevirtual 227, 3) := by decide +kernel
theorem dX10_existentialStates_22 : decode cX10_existentialStates 22 = .ok (.aload_n 0, 1) := by decide +kernel
theorem dX10_existentialStates_23 : decode cX10_existentialStates 23 = .ok (.invokevirtual 279, 3) := by decide +kernel
theorem dX10_existentialStates_26 : decode cX10_existentialStates 26 = .ok (.iconst 0, 1) := by decide +kernel
theorem dX10_existentialStates_27 : decode cX10_existentialStates 27 = .ok (.istore_n 2, 1) := by decide +kernel
theorem dX10_existentialStates_28 : decode cX10_existentialStates 28 = .ok (.iload_n 2, 1) := by decide +kernel
theorem dX10_existentialStates_29 : decode cX10_existentialStates 29 = .ok (.aload_n 0, 1) := by decide +kernel
theorem dX10_existentialStates_30 : decode cX10_existentialStates 30 = .ok (.getfield 264, 3) := by decide +kernel
theorem dX10_existentialStates_33 : decode cX10_existentialStates 33 = .ok (.if_icmp .ge 44, 3) := by decide +kernel
theorem dX10_existentialStates_36 : decode cX10_existentialStates 36 = .ok (.iconst 0, 1) := by decide +kernel
theorem dX10_existentialStates_37 : decode cX10_existentialStates 37 = .ok (.istore_n 3, 1) := by decide +kernel
theorem dX10_existentialStates_38 : decode cX10_existentialStates 38 = .ok (.iload_n 3, 1) := by decide +kernel
theorem dX10_existentialStates_39 : decode cX10_existentialStates 39 = .ok (.aload_n 0, 1) := by decide +kernel
theorem dX10_existentialStates_40 : decode cX10_existentialStates 40 = .ok (.getfield 13, 3) := by decide +kernel
theorem dX10_existentialStates_43 : decode cX10_existentialStates 43 = .ok (.iload_n 1, 1) := by decide +kernel
theorem dX10_existentialStates_44 : decode cX10_existentialStates 44 = .ok (.iaload, 1) := by decide +kernel
theorem dX10_existentialStates_45 : decode cX10_existentialStates 45 = .ok (.if_icmp .ge 26, 3) := by decide +kernel
theorem dX10_existentialStates_48 : decode cX10_existentialStates 48 = .ok (.aload_n 0, 1) := by decide +kernel
theorem dX10_existentialStates_49 : decode cX10_existentialStates 49 = .ok (.iload_n 1, 1) := by decide +kernel
theorem dX10_existentialStates_50 : decode cX10_existentialStates 50 = .ok (.iconst (-1), 1) := by decide +kernel
theorem dX10_existentialStates_51 : decode cX10_existentialStates 51 = .ok (.aload_n 0, 1) := by decide +kernel
theorem dX10_existentialStates_52 : decode cX10_existentialStates 52 = .ok (.getfield 64, 3) := by decide +kernel
theorem dX10_existentialStates_55 : decode cX10_existentialStates 55 = .ok (.iload_n 2, 1) := by decide +kernel
theorem dX10_existentialStates_56 : decode cX10_existentialStates 56 = .ok (.iaload, 1) := by decide +kernel
theorem dX10_existentialStates_57 : decode cX10_existentialStates 57 = .ok (.iload_n 3, 1) := by decide +kernel
theorem dX10_existentialStates_58 : decode cX10_existentialStates 58 = .ok (.invokevirtual 227, 3) := by decide +kernel
theorem dX10_existentialStates_61 : decode cX10_existentialStates 61 = .ok (.aload_n 0, 1) := by decide +kernel
theorem dX10_existentialStates_62 : decode cX10_existentialStates 62 = .ok (.invokevirtual 279, 3) := by decide +kernel
theorem dX10_existentialStates_65 : decode cX10_existentialStates 65 = .ok (.iinc 3 1, 3) := by decide +kernel
theorem dX10_existentialStates_68 : decode cX10_existentialStates 68 = .ok (.goto (-30), 3) := by decide +kernel
theorem dX10_existentialStates_71 : decode cX10_existentialStates 71 = .ok (.iinc 2 1, 3) := by decide +kernel
theorem dX10_existentialStates_74 : decode cX10_existentialStates 74 = .ok (.goto (-46), 3) := by decide +kernel
theorem dX10_existentialStates_77 : decode cX10_existentialStates 77 = .ok (.aload_n 0, 1) := by decide +kernel
theorem dX10_existentialStates_78 : decode cX10_existentialStates 78 = .ok (.getfield 264, 3) := by decide +kernel
theorem dX10_existentialStates_81 : decode cX10_existentialStates 81 = .ok (.ireturn, 1) := by decide +kernel
theorem dX10_existentialSets_0 : decode cX10_existentialSets 0 = .ok (.iload_n 1, 1) := by decide +kernel
theorem dX10_existentialSets_1 : decode cX10_existentialSets 1 = .ok (.invokestatic 123, 3) := by decide +kernel
theorem dX10_existentialSets_4 : decode cX10_existentialSets 4 = .ok (.ifCond .eq 12, 3) := by decide +kernel
theorem dX10_existentialSets_7 : decode cX10_existentialSets 7 = .ok (.iload_n 2, 1) := by decide +kernel
theorem dX10_existentialSets_8 : decode cX10_existentialSets 8 = .ok (.iconst 0, 1) := by decide +kernel
theorem dX10_existentialSets_9 : decode cX10_existentialSets 9 = .ok (.iconst 1, 1) := by decide +kernel
theorem dX10_existentialSets_10 : decode cX10_existentialSets 10 = .ok (.invokestatic 127, 3) := by decide +kernel
theorem dX10_existentialSets_13 : decode cX10_existentialSets 13 = .ok (.ifCond .ne 6, 3) := by decide +kernel
theorem dX10_existentialSets_16 : decode cX10_existentialSets 16 = .ok (.bipush (-2), 2) := by decide +kernel
theorem dX10_existentialSets_18 : decode cX10_existentialSets 18 = .ok (.ireturn, 1) := by decide +kernel
theorem dX10_existentialSets_19 : decode cX10_existentialSets 19 = .ok (.aload_n 0, 1) := by decide +kernel
theorem dX10_existentialSets_20 : decode cX10_existentialSets 20 = .ok (.iload_n 1, 1) := by decide +kernel
theorem dX10_existentialSets_21 : decode cX10_existentialSets 21 = .ok (.invokevirtual 243, 3) := by decide +kernel
theorem dX10_existentialSets_24 : decode cX10_existentialSets 24 = .ok (.ifCond .ne 6, 3) := by decide +kernel
theorem dX10_existentialSets_27 : decode cX10_existentialSets 27 = .ok (.bipush (-4), 2) := by decide +kernel
theorem dX10_existentialSets_29 : decode cX10_existentialSets 29 = .ok (.ireturn, 1) := by decide +kernel
theorem dX10_existentialSets_30 : decode cX10_existentialSets 30 = .ok (.aload_n 0, 1) := by decide +kernel
theorem dX10_existentialSets_31 : decode cX10_existentialSets 31 = .ok (.invokevirtual 267, 3) := by decide +kernel
theorem dX10_existentialSets_34 : decode cX10_existentialSets 34 = .ok (.aload_n 0, 1) := by decide +kernel
theorem dX10_existentialSets_35 : decode cX10_existentialSets 35 = .ok (.iload_n 1, 1) := by decide +kernel
theorem dX10_existentialSets_36 : decode cX10_existentialSets 36 = .ok (.iconst 0, 1) := by decide +kernel
theorem dX10_existentialSets_37 : decode cX10_existentialSets 37 = .ok (.iconst 0, 1) := by decide +kernel
theorem dX10_existentialSets_38 : decode cX10_existentialSets 38 = .ok (.iconst 0, 1) := by decide +kernel
theorem dX10_existentialSets_39 : decode cX10_existentialSets 39 = .ok (.invokevirtual 227, 3) := by decide +kernel
theorem dX10_existentialSets_42 : decode cX10_existentialSets 42 = .ok (.aload_n 0, 1) := by decide +kernel
theorem dX10_existentialSets_43 : decode cX10_existentialSets 43 = .ok (.invokevirtual 279, 3) := by decide +kernel
theorem dX10_existentialSets_46 : decode cX10_existentialSets 46 = .ok (.iconst 0, 1) := by decide +kernel
theorem dX10_existentialSets_47 : decode cX10_existentialSets 47 = .ok (.istore_n 3, 1) := by decide +kernel
theorem dX10_existentialSets_48 : decode cX10_existentialSets 48 = .ok (.iload_n 3, 1) := by decide +kernel
theorem dX10_existentialSets_49 : decode cX10_existentialSets 49 = .ok (.aload_n 0, 1) := by decide +kernel
theorem dX10_existentialSets_50 : decode cX10_existentialSets 50 = .ok (.getfield 237, 3) := by decide +kernel
theorem dX10_existentialSets_53 : decode cX10_existentialSets 53 = .ok (.if_icmp .ge 88, 3) := by decide +kernel
theorem dX10_existentialSets_56 : decode cX10_existentialSets 56 = .ok (.aload_n 0, 1) := by decide +kernel
theorem dX10_existentialSets_57 : decode cX10_existentialSets 57 = .ok (.getfield 264, 3) := by decide +kernel
theorem dX10_existentialSets_60 : decode cX10_existentialSets 60 = .ok (.istore 4, 2) := by decide +kernel
theorem dX10_existentialSets_62 : decode cX10_existentialSets 62 = .ok (.iconst 0, 1) := by decide +kernel
theorem dX10_existentialSets_63 : decode cX10_existentialSets 63 = .ok (.istore 5, 2) := by decide +kernel
theorem dX10_existentialSets_65 : decode cX10_existentialSets 65 = .ok (.iload 5, 2) := by decide +kernel
theorem dX10_existentialSets_67 : decode cX10_existentialSets 67 = .ok (.iload 4, 2) := by decide +kernel
theorem dX10_existentialSets_69 : decode cX10_existentialSets 69 = .ok (.if_icmp .ge 23, 3) := by decide +kernel
theorem dX10_existentialSets_72 : decode cX10_existentialSets 72 = .ok (.aload_n 0, 1) := by decide +kernel
theorem dX10_existentialSets_73 : decode cX10_existentialSets 73 = .ok (.getfield 70, 3) := by decide +kernel
theorem dX10_existentialSets_76 : decode cX10_existentialSets 76 = .ok (.iload 5, 2) := by decide +kernel
theorem dX10_existentialSets_78 : decode cX10_existentialSets 78 = .ok (.aload_n 0, 1) := by decide +kernel
theorem dX10_existentialSets_79 : decode cX10_existentialSets 79 = .ok (.getfield 64, 3) := by decide +kernel
theorem dX10_existentialSets_82 : decode cX10_existentialSets 82 = .ok (.iload 5, 2) := by decide +kernel
theorem dX10_existentialSets_84 : decode cX10_existentialSets 84 = .ok (.iaload, 1) := by decide +kernel
theorem dX10_existentialSets_85 : decode cX10_existentialSets 85 = .ok (.iastore, 1) := by decide +kernel
theorem dX10_existentialSets_86 : decode cX10_existentialSets 86 = .ok (.iinc 5 1, 3) := by decide +kernel
theorem dX10_existentialSets_89 : decode cX10_existentialSets 89 = .ok (.goto (-24), 3) := by decide +kernel
theorem dX10_existentialSets_92 : decode cX10_existentialSets 92 = .ok (.aload_n 0, 1) := by decide +kernel
theorem dX10_existentialSets_93 : decode cX10_existentialSets 93 = .ok (.invokevirtual 267, 3) := by decide +kernel
theorem dX10_existentialSets_96 : decode cX10_existentialSets 96 = .ok (.iconst 0, 1) := by decide +kernel
theorem dX10_existentialSets_97 : decode cX10_existentialSets 97 = .ok (.istore 5, 2) := by decide +kernel
theorem dX10_existentialSets_99 : decode cX10_existentialSets 99 = .ok (.iload 5, 2) := by decide +kernel
theorem dX10_existentialSets_101 : decode cX10_existentialSets 101 = .ok (.iload 4, 2) := by decide +kernel
theorem dX10_existentialSets_103 : decode cX10_existentialSets 103 = .ok (.if_icmp .ge 32, 3) := by decide +kernel
theorem dX10_existentialSets_106 : decode cX10_existentialSets 106 = .ok (.aload_n 0, 1) := by decide +kernel
theorem dX10_existentialSets_107 : decode cX10_existentialSets 107 = .ok (.iload_n 1, 1) := by decide +kernel
theorem dX10_existentialSets_108 : decode cX10_existentialSets 108 = .ok (.iconst (-1), 1) := by decide +kernel
theorem dX10_existentialSets_109 : decode cX10_existentialSets 109 = .ok (.aload_n 0, 1) := by decide +kernel
theorem dX10_existentialSets_110 : decode cX10_existentialSets 110 = .ok (.getfield 70, 3) := by decide +kernel
theorem dX10_existentialSets_113 : decode cX10_existentialSets 113 = .ok (.iload 5, 2) := by decide +kernel
theorem dX10_existentialSets_115 : decode cX10_existentialSets 115 = .ok (.iaload, 1) := by decide +kernel
theorem dX10_existentialSets_116 : decode cX10_existentialSets 116 = .ok (.aload_n 0, 1) := by decide +kernel
theorem dX10_existentialSets_117 : decode cX10_existentialSets 117 = .ok (.getfield 49, 3) := by decide +kernel
theorem dX10_existentialSets_120 : decode cX10_existentialSets 120 = .ok (.iload_n 3, 1) := by decide +kernel
theorem dX10_existentialSets_121 : decode cX10_existentialSets 121 = .ok (.iaload, 1) := by decide +kernel
theorem dX10_existentialSets_122 : decode cX10_existentialSets 122 = .ok (.invokevirtual 227, 3) := by decide +kernel
theorem dX10_existentialSets_125 : decode cX10_existentialSets 125 = .ok (.aload_n 0, 1) := by decide +kernel
theorem dX10_existentialSets_126 : decode cX10_existentialSets 126 = .ok (.invokevirtual 279, 3) := by decide +kernel
theorem dX10_existentialSets_129 : decode cX10_existentialSets 129 = .ok (.iinc 5 1, 3) := by decide +kernel
theorem dX10_existentialSets_132 : decode cX10_existentialSets 132 = .ok (.goto (-33), 3) := by decide +kernel
theorem dX10_existentialSets_135 : decode cX10_existentialSets 135 = .ok (.iinc 3 1, 3) := by decide +kernel
theorem dX10_existentialSets_138 : decode cX10_existentialSets 138 = .ok (.goto (-90), 3) := by decide +kernel
theorem dX10_existentialSets_141 : decode cX10_existentialSets 141 = .ok (.iconst 0, 1) := by decide +kernel
theorem dX10_existentialSets_142 : decode cX10_existentialSets 142 = .ok (.istore_n 3, 1) := by decide +kernel
theorem dX10_existentialSets_143 : decode cX10_existentialSets 143 = .ok (.iconst 0, 1) := by decide +kernel
theorem dX10_existentialSets_144 : decode cX10_existentialSets 144 = .ok (.istore 4, 2) := by decide +kernel
theorem dX10_existentialSets_146 : decode cX10_existentialSets 146 = .ok (.iload 4, 2) := by decide +kernel
theorem dX10_existentialSets_148 : decode cX10_existentialSets 148 = .ok (.aload_n 0, 1) := by decide +kernel
theorem dX10_existentialSets_149 : decode cX10_existentialSets 149 = .ok (.getfield 264, 3) := by decide +kernel
theorem dX10_existentialSets_152 : decode cX10_existentialSets 152 = .ok (.if_icmp .ge 40, 3) := by decide +kernel
theorem dX10_existentialSets_155 : decode cX10_existentialSets 155 = .ok (.iload_n 3, 1) := by decide +kernel
theorem dX10_existentialSets_156 : decode cX10_existentialSets 156 = .ok (.iload_n 2, 1) := by decide +kernel
theorem dX10_existentialSets_157 : decode cX10_existentialSets 157 = .ok (.ifCond .eq 22, 3) := by decide +kernel
theorem dX10_existentialSets_160 : decode cX10_existentialSets 160 = .ok (.aload_n 0, 1) := by decide +kernel
theorem dX10_existentialSets_161 : decode cX10_existentialSets 161 = .ok (.getfield 64, 3) := by decide +kernel
theorem dX10_existentialSets_164 : decode cX10_existentialSets 164 = .ok (.iload 4, 2) := by decide +kernel
theorem dX10_existentialSets_166 : decode cX10_existentialSets 166 = .ok (.iaload, 1) := by decide +kernel
theorem dX10_existentialSets_167 : decode cX10_existentialSets 167 = .ok (.aload_n 0, 1) := by decide +kernel
theorem dX10_existentialSets_168 : decode cX10_existentialSets 168 = .ok (.getfield 16, 3) := by decide +kernel
theorem dX10_existentialSets_171 : decode cX10_existentialSets 171 = .ok (.iload_n 1, 1) := by decide +kernel
theorem dX10_existentialSets_172 : decode cX10_existentialSets 172 = .ok (.iaload, 1) := by decide +kernel
theorem dX10_existentialSets_173 : decode cX10_existentialSets 173 = .ok (.iconst (-1), 1) := by decide +kernel
theorem dX10_existentialSets_174 : decode cX10_existentialSets 174 = .ok (.ixor, 1) := by decide +kernel
theorem dX10_existentialSets_175 : decode cX10_existentialSets 175 = .ok (.iand, 1) := by decide +kernel
theorem dX10_existentialSets_176 : decode cX10_existentialSets 176 = .ok (.ifCond .ne 7, 3) := by decide +kernel
theorem dX10_existentialSets_179 : decode cX10_existentialSets 179 = .ok (.iconst 1, 1) := by decide +kernel
theorem dX10_existentialSets_180 : decode cX10_existentialSets 180 = .ok (.goto 4, 3) := by decide +kernel
theorem dX10_existentialSets_183 : decode cX10_existentialSets 183 = .ok (.iconst 0, 1) := by decide +kernel
theorem dX10_existentialSets_184 : decode cX10_existentialSets 184 = .ok (.iadd, 1) := by decide +kernel
theorem dX10_existentialSets_185 : decode cX10_existentialSets 185 = .ok (.istore_n 3, 1) := by decide +kernel
theorem dX10_existentialSets_186 : decode cX10_existentialSets 186 = .ok (.iinc 4 1, 3) := by decide +kernel
theorem dX10_existentialSets_189 : decode cX10_existentialSets 189 = .ok (.goto (-43), 3) := by decide +kernel
theorem dX10_existentialSets_192 : decode cX10_existentialSets 192 = .ok (.iload_n 3, 1) := by decide +kernel
theorem dX10_existentialSets_193 : decode cX10_existentialSets 193 = .ok (.ireturn, 1) := by decide +kernel
theorem dX10_statesIn_0 : decode cX10_statesIn 0 = .ok (.iconst 0, 1) := by decide +kernel
theorem dX10_statesIn_1 : decode cX10_statesIn 1 = .ok (.istore_n 3, 1) := by decide +kernel
theorem dX10_statesIn_2 : decode cX10_statesIn 2 = .ok (.iconst 0, 1) := by decide +kernel
theorem dX10_statesIn_3 : decode cX10_statesIn 3 = .ok (.istore 4, 2) := by decide +kernel
theorem dX10_statesIn_5 : decode cX10_statesIn 5 = .ok (.iload 4, 2) := by decide +kernel
theorem dX10_statesIn_7 : decode cX10_statesIn 7 = .ok (.aload_n 0, 1) := by decide +kernel
theorem dX10_statesIn_8 : decode cX10_statesIn 8 = .ok (.iload_n 1, 1) := by decide +kernel
theorem dX10_statesIn_9 : decode cX10_statesIn 9 = .ok (.iload_n 2, 1) := by decide +kernel
theorem dX10_statesIn_10 : decode cX10_statesIn 10 = .ok (.invokevirtual 196, 3) := by decide +kernel
theorem dX10_statesIn_13 : decode cX10_statesIn 13 = .ok (.if_icmp .ge 51, 3) := by decide +kernel
theorem dX10_statesIn_16 : decode cX10_statesIn 16 = .ok (.iload_n 3, 1) := by decide +kernel
theorem dX10_statesIn_17 : decode cX10_statesIn 17 = .ok (.aload_n 0, 1) := by decide +kernel
theorem dX10_statesIn_18 : decode cX10_statesIn 18 = .ok (.getfield 25, 3) := by decide +kernel
theorem dX10_statesIn_21 : decode cX10_statesIn 21 = .ok (.aload_n 0, 1) := by decide +kernel
theorem dX10_statesIn_22 : decode cX10_statesIn 22 = .ok (.iload_n 1, 1) := by decide +kernel
theorem dX10_statesIn_23 : decode cX10_statesIn 23 = .ok (.iload_n 2, 1) := by decide +kernel
theorem dX10_statesIn_24 : decode cX10_statesIn 24 = .ok (.invokevirtual 119, 3) := by decide +kernel
theorem dX10_statesIn_27 : decode cX10_statesIn 27 = .ok (.iload 4, 2) := by decide +kernel
theorem dX10_statesIn_29 : decode cX10_statesIn 29 = .ok (.iadd, 1) := by decide +kernel
theorem dX10_statesIn_30 : decode cX10_statesIn 30 = .ok (.iaload, 1) := by decide +kernel
theorem dX10_statesIn_31 : decode cX10_statesIn 31 = .ok (.bipush 8, 2) := by decide +kernel
theorem dX10_statesIn_33 : decode cX10_statesIn 33 = .ok (.if_icmp .ge 22, 3) := by decide +kernel
theorem dX10_statesIn_36 : decode cX10_statesIn 36 = .ok (.iconst 1, 1) := by decide +kernel
theorem dX10_statesIn_37 : decode cX10_statesIn 37 = .ok (.aload_n 0, 1) := by decide +kernel
theorem dX10_statesIn_38 : decode cX10_statesIn 38 = .ok (.getfield 25, 3) := by decide +kernel
theorem dX10_statesIn_41 : decode cX10_statesIn 41 = .ok (.aload_n 0, 1) := by decide +kernel
theorem dX10_statesIn_42 : decode cX10_statesIn 42 = .ok (.iload_n 1, 1) := by decide +kernel
theorem dX10_statesIn_43 : decode cX10_statesIn 43 = .ok (.iload_n 2, 1) := by decide +kernel
theorem dX10_statesIn_44 : decode cX10_statesIn 44 = .ok (.invokevirtual 119, 3) := by decide +kernel
theorem dX10_statesIn_47 : decode cX10_statesIn 47 = .ok (.iload 4, 2) := by decide +kernel
theorem dX10_statesIn_49 : decode cX10_statesIn 49 = .ok (.iadd, 1) := by decide +kernel
theorem dX10_statesIn_50 : decode cX10_statesIn 50 = .ok (.iaload, 1) := by decide +kernel
theorem dX10_statesIn_51 : decode cX10_statesIn 51 = .ok (.ishl, 1) := by decide +kernel
theorem dX10_statesIn_52 : decode cX10_statesIn 52 = .ok (.goto 4, 3) := by decide +kernel
theorem dX10_statesIn_55 : decode cX10_statesIn 55 = .ok (.iconst 0, 1) := by decide +kernel
theorem dX10_statesIn_56 : decode cX10_statesIn 56 = .ok (.ior, 1) := by decide +kernel
theorem dX10_statesIn_57 : decode cX10_statesIn 57 = .ok (.istore_n 3, 1) := by decide +kernel
theorem dX10_statesIn_58 : decode cX10_statesIn 58 = .ok (.iinc 4 1, 3) := by decide +kernel
theorem dX10_statesIn_61 : decode cX10_statesIn 61 = .ok (.goto (-56), 3) := by decide +kernel
theorem dX10_statesIn_64 : decode cX10_statesIn 64 = .ok (.iload_n 3, 1) := by decide +kernel
theorem dX10_statesIn_65 : decode cX10_statesIn 65 = .ok (.ireturn, 1) := by decide +kernel
theorem dX10_relevantStates_0 : decode cX10_relevantStates 0 = .ok (.iload_n 1, 1) := by decide +kernel
theorem dX10_relevantStates_1 : decode cX10_relevantStates 1 = .ok (.invokestatic 123, 3) := by decide +kernel
theorem dX10_relevantStates_4 : decode cX10_relevantStates 4 = .ok (.ifCond .ne 6, 3) := by decide +kernel
theorem dX10_relevantStates_7 : decode cX10_relevantStates 7 = .ok (.bipush (-2), 2) := by decide +kernel
theorem dX10_relevantStates_9 : decode cX10_relevantStates 9 = .ok (.ireturn, 1) := by decide +kernel
theorem dX10_relevantStates_10 : decode cX10_relevantStates 10 = .ok (.aload_n 0, 1) := by decide +kernel
theorem dX10_relevantStates_11 : decode cX10_relevantStates 11 = .ok (.iload_n 1, 1) := by decide +kernel
theorem dX10_relevantStates_12 : decode cX10_relevantStates 12 = .ok (.iconst 0, 1) := by decide +kernel
theorem dX10_relevantStates_13 : decode cX10_relevantStates 13 = .ok (.invokevirtual 282, 3) := by decide +kernel
theorem dX10_relevantStates_16 : decode cX10_relevantStates 16 = .ok (.istore_n 2, 1) := by decide +kernel
theorem dX10_relevantStates_17 : decode cX10_relevantStates 17 = .ok (.iconst (-1), 1) := by decide +kernel
theorem dX10_relevantStates_18 : decode cX10_relevantStates 18 = .ok (.istore_n 3, 1) := by decide +kernel
theorem dX10_relevantStates_19 : decode cX10_relevantStates 19 = .ok (.iload_n 3, 1) := by decide +kernel
theorem dX10_relevantStates_20 : decode cX10_relevantStates 20 = .ok (.iload_n 2, 1) := by decide +kernel
theorem dX10_relevantStates_21 : decode cX10_relevantStates 21 = .ok (.if_icmp .eq 73, 3) := by decide +kernel
theorem dX10_relevantStates_24 : decode cX10_relevantStates 24 = .ok (.iload_n 2, 1) := by decide +kernel
theorem dX10_relevantStates_25 : decode cX10_relevantStates 25 = .ok (.istore_n 3, 1) := by decide +kernel
theorem dX10_relevantStates_26 : decode cX10_relevantStates 26 = .ok (.iconst 0, 1) := by decide +kernel
theorem dX10_relevantStates_27 : decode cX10_relevantStates 27 = .ok (.istore 4, 2) := by decide +kernel
theorem dX10_relevantStates_29 : decode cX10_relevantStates 29 = .ok (.iload 4, 2) := by decide +kernel
theorem dX10_relevantStates_31 : decode cX10_relevantStates 31 = .ok (.aload_n 0, 1) := by decide +kernel
theorem dX10_relevantStates_32 : decode cX10_relevantStates 32 = .ok (.getfield 7, 3) := by decide +kernel
theorem dX10_relevantStates_35 : decode cX10_relevantStates 35 = .ok (.iload_n 1, 1) := by decide +kernel
theorem dX10_relevantStates_36 : decode cX10_relevantStates 36 = .ok (.iaload, 1) := by decide +kernel
theorem dX10_relevantStates_37 : decode cX10_relevantStates 37 = .ok (.if_icmp .ge 54, 3) := by decide +kernel
theorem dX10_relevantStates_40 : decode cX10_relevantStates 40 = .ok (.iconst 0, 1) := by decide +kernel
theorem dX10_relevantStates_41 : decode cX10_relevantStates 41 = .ok (.istore 5, 2) := by decide +kernel
theorem dX10_relevantStates_43 : decode cX10_relevantStates 43 = .ok (.iload 5, 2) := by decide +kernel
theorem dX10_relevantStates_45 : decode cX10_relevantStates 45 = .ok (.aload_n 0, 1) := by decide +kernel
theorem dX10_relevantStates_46 : decode cX10_relevantStates 46 = .ok (.getfield 13, 3) := by decide +kernel
theorem dX10_relevantStates_49 : decode cX10_relevantStates 49 = .ok (.iload_n 1, 1) := by decide +kernel
theorem dX10_relevantStates_50 : decode cX10_relevantStates 50 = .ok (.iaload, 1) := by decide +kernel
theorem dX10_relevantStates_51 : decode cX10_relevantStates 51 = .ok (.if_icmp .ge 34, 3) := by decide +kernel
theorem dX10_relevantStates_54 : decode cX10_relevantStates 54 = .ok (.iload_n 3, 1) := by decide +kernel
theorem dX10_relevantStates_55 : decode cX10_relevantStates 55 = .ok (.iload 4, 2) := by decide +kernel
theorem dX10_relevantStates_57 : decode cX10_relevantStates 57 = .ok (.ishr, 1) := by decide +kernel
theorem dX10_relevantStates_58 : decode cX10_relevantStates 58 = .ok (.iconst 1, 1) := by decide +kernel
theorem dX10_relevantStates_59 : decode cX10_relevantStates 59 = .ok (.iand, 1) := by decide +kernel
theorem dX10_relevantStates_60 : decode cX10_relevantStates 60 = .ok (.iconst 1, 1) := by decide +kernel
theorem dX10_relevantStates_61 : decode cX10_relevantStates 61 = .ok (.if_icmp .ne 24, 3) := by decide +kernel
theorem dX10_relevantStates_64 : decode cX10_relevantStates 64 = .ok (.iload_n 2, 1) := by decide +kernel
theorem dX10_relevantStates_65 : decode cX10_relevantStates 65 = .ok (.aload_n 0, 1) := by decide +kernel
theorem dX10_relevantStates_66 : decode cX10_relevantStates 66 = .ok (.iload_n 1, 1) := by decide +kernel
theorem dX10_relevantStates_67 : decode cX10_relevantStates 67 = .ok (.iload 4, 2) := by decide +kernel
theorem dX10_relevantStates_69 : decode cX10_relevantStates 69 = .ok (.iload 5, 2) := by decide +kernel
theorem dX10_relevantStates_71 : decode cX10_relevantStates 71 = .ok (.invokestatic 176, 3) := by decide +kernel
theorem dX10_relevantStates_74 : decode cX10_relevantStates 74 = .ok (.invokevirtual 282, 3) := by decide +kernel
theorem dX10_relevantStates_77 : decode cX10_relevantStates 77 = .ok (.ior, 1) := by decide +kernel
theorem dX10_relevantStates_78 : decode cX10_relevantStates 78 = .ok (.istore_n 2, 1) := by decide +kernel
theorem dX10_relevantStates_79 : decode cX10_relevantStates 79 = .ok (.iinc 5 1, 3) := by decide +kernel
theorem dX10_relevantStates_82 : decode cX10_relevantStates 82 = .ok (.goto (-39), 3) := by decide +kernel
theorem dX10_relevantStates_85 : decode cX10_relevantStates 85 = .ok (.iinc 4 1, 3) := by decide +kernel
theorem dX10_relevantStates_88 : decode cX10_relevantStates 88 = .ok (.goto (-59), 3) := by decide +kernel
theorem dX10_relevantStates_91 : decode cX10_relevantStates 91 = .ok (.goto (-72), 3) := by decide +kernel
theorem dX10_relevantStates_94 : decode cX10_relevantStates 94 = .ok (.iload_n 2, 1) := by decide +kernel
theorem dX10_relevantStates_95 : decode cX10_relevantStates 95 = .ok (.ireturn, 1) := by decide +kernel
theorem dX10_isBetter_0 : decode cX10_isBetter 0 = .ok (.aload_n 0, 1) := by decide +kernel
theorem dX10_isBetter_1 : decode cX10_isBetter 1 = .ok (.getfield 88, 3) := by decide +kernel
theorem dX10_isBetter_4 : decode cX10_isBetter 4 = .ok (.iload 5, 2) := by decide +kernel
theorem dX10_isBetter_6 : decode cX10_isBetter 6 = .ok (.iaload, 1) := by decide +kernel
theorem dX10_isBetter_7 : decode cX10_isBetter 7 = .ok (.ifCond .lt 14, 3) := by decide +kernel
theorem dX10_isBetter_10 : decode cX10_isBetter 10 = .ok (.iload_n 1, 1) := by decide +kernel
theorem dX10_isBetter_11 : decode cX10_isBetter 11 = .ok (.aload_n 0, 1) := by decide +kernel
theorem dX10_isBetter_12 : decode cX10_isBetter 12 = .ok (.getfield 88, 3) := by decide +kernel
theorem dX10_isBetter_15 : decode cX10_isBetter 15 = .ok (.iload 5, 2) := by decide +kernel
theorem dX10_isBetter_17 : decode cX10_isBetter 17 = .ok (.iaload, 1) := by decide +kernel
theorem dX10_isBetter_18 : decode cX10_isBetter 18 = .ok (.if_icmp .eq 30, 3) := by decide +kernel
theorem dX10_isBetter_21 : decode cX10_isBetter 21 = .ok (.aload_n 0, 1) := by decide +kernel
theorem dX10_isBetter_22 : decode cX10_isBetter 22 = .ok (.getfield 88, 3) := by decide +kernel
theorem dX10_isBetter_25 : decode cX10_isBetter 25 = .ok (.iload 5, 2) := by decide +kernel
theorem dX10_isBetter_27 : decode cX10_isBetter 27 = .ok (.iaload, 1) := by decide +kernel
theorem dX10_isBetter_28 : decode cX10_isBetter 28 = .ok (.ifCond .lt 14, 3) := by decide +kernel
theorem dX10_isBetter_31 : decode cX10_isBetter 31 = .ok (.iload_n 1, 1) := by decide +kernel
theorem dX10_isBetter_32 : decode cX10_isBetter 32 = .ok (.aload_n 0, 1) := by decide +kernel
theorem dX10_isBetter_33 : decode cX10_isBetter 33 = .ok (.getfield 88, 3) := by decide +kernel
theorem dX10_isBetter_36 : decode cX10_isBetter 36 = .ok (.iload 5, 2) := by decide +kernel
theorem dX10_isBetter_38 : decode cX10_isBetter 38 = .ok (.iaload, 1) := by decide +kernel
theorem dX10_isBetter_39 : decode cX10_isBetter 39 = .ok (.if_icmp .ge 7, 3) := by decide +kernel
theorem dX10_isBetter_42 : decode cX10_isBetter 42 = .ok (.iconst 1, 1) := by decide +kernel
theorem dX10_isBetter_43 : decode cX10_isBetter 43 = .ok (.goto 4, 3) := by decide +kernel
theorem dX10_isBetter_46 : decode cX10_isBetter 46 = .ok (.iconst 0, 1) := by decide +kernel
theorem dX10_isBetter_47 : decode cX10_isBetter 47 = .ok (.ireturn, 1) := by decide +kernel
theorem dX10_isBetter_48 : decode cX10_isBetter 48 = .ok (.iload_n 2, 1) := by decide +kernel
theorem dX10_isBetter_49 : decode cX10_isBetter 49 = .ok (.aload_n 0, 1) := by decide +kernel
theorem dX10_isBetter_50 : decode cX10_isBetter 50 = .ok (.getfield 91, 3) := by decide +kernel
theorem dX10_isBetter_53 : decode cX10_isBetter 53 = .ok (.iload 5, 2) := by decide +kernel
theorem dX10_isBetter_55 : decode cX10_isBetter 55 = .ok (.iaload, 1) := by decide +kernel
theorem dX10_isBetter_56 : decode cX10_isBetter 56 = .ok (.if_icmp .eq 20, 3) := by decide +kernel
theorem dX10_isBetter_59 : decode cX10_isBetter 59 = .ok (.iload_n 2, 1) := by decide +kernel
theorem dX10_isBetter_60 : decode cX10_isBetter 60 = .ok (.aload_n 0, 1) := by decide +kernel
theorem dX10_isBetter_61 : decode cX10_isBetter 61 = .ok (.getfield 91, 3) := by decide +kernel
theorem dX10_isBetter_64 : decode cX10_isBetter 64 = .ok (.iload 5, 2) := by decide +kernel
theorem dX10_isBetter_66 : decode cX10_isBetter 66 = .ok (.iaload, 1) := by decide +kernel
theorem dX10_isBetter_67 : decode cX10_isBetter 67 = .ok (.if_icmp .ge 7, 3) := by decide +kernel
theorem dX10_isBetter_70 : decode cX10_isBetter 70 = .ok (.iconst 1, 1) := by decide +kernel
theorem dX10_isBetter_71 : decode cX10_isBetter 71 = .ok (.goto 4, 3) := by decide +kernel
theorem dX10_isBetter_74 : decode cX10_isBetter 74 = .ok (.iconst 0, 1) := by decide +kernel
theorem dX10_isBetter_75 : decode cX10_isBetter 75 = .ok (.ireturn, 1) := by decide +kernel
theorem dX10_isBetter_76 : decode cX10_isBetter 76 = .ok (.iload_n 3, 1) := by decide +kernel
theorem dX10_isBetter_77 : decode cX10_isBetter 77 = .ok (.aload_n 0, 1) := by decide +kernel
theorem dX10_isBetter_78 : decode cX10_isBetter 78 = .ok (.getfield 94, 3) := by decide +kernel
theorem dX10_isBetter_81 : decode cX10_isBetter 81 = .ok (.iload 5, 2) := by decide +kernel
theorem dX10_isBetter_83 : decode cX10_isBetter 83 = .ok (.iaload, 1) := by decide +kernel
theorem dX10_isBetter_84 : decode cX10_isBetter 84 = .ok (.if_icmp .eq 20, 3) := by decide +kernel
theorem dX10_isBetter_87 : decode cX10_isBetter 87 = .ok (.iload_n 3, 1) := by decide +kernel
theorem dX10_isBetter_88 : decode cX10_isBetter 88 = .ok (.aload_n 0, 1) := by decide +kernel
theorem dX10_isBetter_89 : decode cX10_isBetter 89 = .ok (.getfield 94, 3) := by decide +kernel
theorem dX10_isBetter_92 : decode cX10_isBetter 92 = .ok (.iload 5, 2) := by decide +kernel
theorem dX10_isBetter_94 : decode cX10_isBetter 94 = .ok (.iaload, 1) := by decide +kernel
theorem dX10_isBetter_95 : decode cX10_isBetter 95 = .ok (.if_icmp .ge 7, 3) := by decide +kernel
theorem dX10_isBetter_98 : decode cX10_isBetter 98 = .ok (.iconst 1, 1) := by decide +kernel
theorem dX10_isBetter_99 : decode cX10_isBetter 99 = .ok (.goto 4, 3) := by decide +kernel
theorem dX10_isBetter_102 : decode cX10_isBetter 102 = .ok (.iconst 0, 1) := by decide +kernel
theorem dX10_isBetter_103 : decode cX10_isBetter 103 = .ok (.ireturn, 1) := by decide +kernel
theorem dX10_isBetter_104 : decode cX10_isBetter 104 = .ok (.iload 4, 2) := by decide +kernel
theorem dX10_isBetter_106 : decode cX10_isBetter 106 = .ok (.istore 6, 2) := by decide +kernel
theorem dX10_isBetter_108 : decode cX10_isBetter 108 = .ok (.aload_n 0, 1) := by decide +kernel
theorem dX10_isBetter_109 : decode cX10_isBetter 109 = .ok (.getfield 97, 3) := by decide +kernel
theorem dX10_isBetter_112 : decode cX10_isBetter 112 = .ok (.iload 5, 2) := by decide +kernel
theorem dX10_isBetter_114 : decode cX10_isBetter 114 = .ok (.iaload, 1) := by decide +kernel
theorem dX10_isBetter_115 : decode cX10_isBetter 115 = .ok (.istore 7, 2) := by decide +kernel
theorem dX10_isBetter_117 : decode cX10_isBetter 117 = .ok (.iconst 1, 1) := by decide +kernel
theorem dX10_isBetter_118 : decode cX10_isBetter 118 = .ok (.istore 8, 2) := by decide +kernel
theorem dX10_isBetter_120 : decode cX10_isBetter 120 = .ok (.iload 8, 2) := by decide +kernel
theorem dX10_isBetter_122 : decode cX10_isBetter 122 = .ok (.iload_n 2, 1) := by decide +kernel
theorem dX10_isBetter_123 : decode cX10_isBetter 123 = .ok (.if_icmp .ge 67, 3) := by decide +kernel
theorem dX10_isBetter_126 : decode cX10_isBetter 126 = .ok (.aload_n 0, 1) := by decide +kernel
theorem dX10_isBetter_127 : decode cX10_isBetter 127 = .ok (.getfield 94, 3) := by decide +kernel
theorem dX10_isBetter_130 : decode cX10_isBetter 130 = .ok (.iload 6, 2) := by decide +kernel
theorem dX10_isBetter_132 : decode cX10_isBetter 132 = .ok (.iaload, 1) := by decide +kernel
theorem dX10_isBetter_133 : decode cX10_isBetter 133 = .ok (.aload_n 0, 1) := by decide +kernel
theorem dX10_isBetter_134 : decode cX10_isBetter 134 = .ok (.getfield 94, 3) := by decide +kernel
theorem dX10_isBetter_137 : decode cX10_isBetter 137 = .ok (.iload 7, 2) := by decide +kernel
theorem dX10_isBetter_139 : decode cX10_isBetter 139 = .ok (.iaload, 1) := by decide +kernel
theorem dX10_isBetter_140 : decode cX10_isBetter 140 = .ok (.if_icmp .eq 26, 3) := by decide +kernel
theorem dX10_isBetter_143 : decode cX10_isBetter 143 = .ok (.aload_n 0, 1) := by decide +kernel
theorem dX10_isBetter_144 : decode cX10_isBetter 144 = .ok (.getfield 94, 3) := by decide +kernel
theorem dX10_isBetter_147 : decode cX10_isBetter 147 = .ok (.iload 6, 2) := by decide +kernel
theorem dX10_isBetter_149 : decode cX10_isBetter 149 = .ok (.iaload, 1) := by decide +kernel
theorem dX10_isBetter_150 : decode cX10_isBetter 150 = .ok (.aload_n 0, 1) := by decide +kernel
theorem dX10_isBetter_151 : decode cX10_isBetter 151 = .ok (.getfield 94, 3) := by decide +kernel
theorem dX10_isBetter_154 : decode cX10_isBetter 154 = .ok (.iload 7, 2) := by decide +kernel
theorem dX10_isBetter_156 : decode cX10_isBetter 156 = .ok (.iaload, 1) := by decide +kernel
theorem dX10_isBetter_157 : decode cX10_isBetter 157 = .ok (.if_icmp .ge 7, 3) := by decide +kernel
theorem dX10_isBetter_160 : decode cX10_isBetter 160 = .ok (.iconst 1, 1) := by decide +kernel
theorem dX10_isBetter_161 : decode cX10_isBetter 161 = .ok (.goto 4, 3) := by decide +kernel
theorem dX10_isBetter_164 : decode cX10_isBetter 164 = .ok (.iconst 0, 1) := by decide +kernel
theorem dX10_isBetter_165 : decode cX10_isBetter 165 = .ok (.ireturn, 1) := by decide +kernel
theorem dX10_isBetter_166 : decode cX10_isBetter 166 = .ok (.aload_n 0, 1) := by decide +kernel
theorem dX10_isBetter_167 : decode cX10_isBetter 167 = .ok (.getfield 97, 3) := by decide +kernel
theorem dX10_isBetter_170 : decode cX10_isBetter 170 = .ok (.iload 6, 2) := by decide +kernel
theorem dX10_isBetter_172 : decode cX10_isBetter 172 = .ok (.iaload, 1) := by decide +kernel
theorem dX10_isBetter_173 : decode cX10_isBetter 173 = .ok (.istore 6, 2) := by decide +kernel
theorem dX10_isBetter_175 : decode cX10_isBetter 175 = .ok (.aload_n 0, 1) := by decide +kernel
theorem dX10_isBetter_176 : decode cX10_isBetter 176 = .ok (.getfield 97, 3) := by decide +kernel
theorem dX10_isBetter_179 : decode cX10_isBetter 179 = .ok (.iload 7, 2) := by decide +kernel
theorem dX10_isBetter_181 : decode cX10_isBetter 181 = .ok (.iaload, 1) := by decide +kernel
theorem dX10_isBetter_182 : decode cX10_isBetter 182 = .ok (.istore 7, 2) := by decide +kernel
theorem dX10_isBetter_184 : decode cX10_isBetter 184 = .ok (.iinc 8 1, 3) := by decide +kernel
theorem dX10_isBetter_187 : decode cX10_isBetter 187 = .ok (.goto (-67), 3) := by decide +kernel
theorem dX10_isBetter_190 : decode cX10_isBetter 190 = .ok (.iconst 0, 1) := by decide +kernel
theorem dX10_isBetter_191 : decode cX10_isBetter 191 = .ok (.ireturn, 1) := by decide +kernel
theorem dX10_nearest_0 : decode cX10_nearest 0 = .ok (.iconst (-1), 1) := by decide +kernel
theorem dX10_nearest_1 : decode cX10_nearest 1 = .ok (.istore_n 1, 1) := by decide +kernel
theorem dX10_nearest_2 : decode cX10_nearest 2 = .ok (.iconst 0, 1) := by decide +kernel
theorem dX10_nearest_3 : decode cX10_nearest 3 = .ok (.istore_n 2, 1) := by decide +kernel
theorem dX10_nearest_4 : decode cX10_nearest 4 = .ok (.iload_n 2, 1) := by decide +kernel
theorem dX10_nearest_5 : decode cX10_nearest 5 = .ok (.bipush 64, 2) := by decide +kernel
theorem dX10_nearest_7 : decode cX10_nearest 7 = .ok (.if_icmp .ge 51, 3) := by decide +kernel
theorem dX10_nearest_10 : decode cX10_nearest 10 = .ok (.aload_n 0, 1) := by decide +kernel
theorem dX10_nearest_11 : decode cX10_nearest 11 = .ok (.getfield 88, 3) := by decide +kernel
theorem dX10_nearest_14 : decode cX10_nearest 14 = .ok (.iload_n 2, 1) := by decide +kernel
theorem dX10_nearest_15 : decode cX10_nearest 15 = .ok (.iaload, 1) := by decide +kernel
theorem dX10_nearest_16 : decode cX10_nearest 16 = .ok (.ifCond .lt 36, 3) := by decide +kernel
theorem dX10_nearest_19 : decode cX10_nearest 19 = .ok (.aload_n 0, 1) := by decide +kernel
theorem dX10_nearest_20 : decode cX10_nearest 20 = .ok (.getfield 100, 3) := by decide +kernel
theorem dX10_nearest_23 : decode cX10_nearest 23 = .ok (.iload_n 2, 1) := by decide +kernel
theorem dX10_nearest_24 : decode cX10_nearest 24 = .ok (.baload, 1) := by decide +kernel
theorem dX10_nearest_25 : decode cX10_nearest 25 = .ok (.ifCond .eq 6, 3) := by decide +kernel
theorem dX10_nearest_28 : decode cX10_nearest 28 = .ok (.goto 24, 3) := by decide +kernel
theorem dX10_nearest_31 : decode cX10_nearest 31 = .ok (.iload_n 1, 1) := by decide +kernel
theorem dX10_nearest_32 : decode cX10_nearest 32 = .ok (.ifCond .lt 18, 3) := by decide +kernel
theorem dX10_nearest_35 : decode cX10_nearest 35 = .ok (.aload_n 0, 1) := by decide +kernel
theorem dX10_nearest_36 : decode cX10_nearest 36 = .ok (.getfield 88, 3) := by decide +kernel
theorem dX10_nearest_39 : decode cX10_nearest 39 = .ok (.iload_n 2, 1) := by decide +kernel
theorem dX10_nearest_40 : decode cX10_nearest 40 = .ok (.iaload, 1) := by decide +kernel
theorem dX10_nearest_41 : decode cX10_nearest 41 = .ok (.aload_n 0, 1) := by decide +kernel
theorem dX10_nearest_42 : decode cX10_nearest 42 = .ok (.getfield 88, 3) := by decide +kernel
theorem dX10_nearest_45 : decode cX10_nearest 45 = .ok (.iload_n 1, 1) := by decide +kernel
theorem dX10_nearest_46 : decode cX10_nearest 46 = .ok (.iaload, 1) := by decide +kernel
theorem dX10_nearest_47 : decode cX10_nearest 47 = .ok (.if_icmp .ge 5, 3) := by decide +kernel
theorem dX10_nearest_50 : decode cX10_nearest 50 = .ok (.iload_n 2, 1) := by decide +kernel
theorem dX10_nearest_51 : decode cX10_nearest 51 = .ok (.istore_n 1, 1) := by decide +kernel
theorem dX10_nearest_52 : decode cX10_nearest 52 = .ok (.iinc 2 1, 3) := by decide +kernel
theorem dX10_nearest_55 : decode cX10_nearest 55 = .ok (.goto (-51), 3) := by decide +kernel
theorem dX10_nearest_58 : decode cX10_nearest 58 = .ok (.iload_n 1, 1) := by decide +kernel
theorem dX10_nearest_59 : decode cX10_nearest 59 = .ok (.ireturn, 1) := by decide +kernel
theorem dX10_findBest_0 : decode cX10_findBest 0 = .ok (.iconst 0, 1) := by decide +kernel
theorem dX10_findBest_1 : decode cX10_findBest 1 = .ok (.istore_n 2, 1) := by decide +kernel
theorem dX10_findBest_2 : decode cX10_findBest 2 = .ok (.iload_n 2, 1) := by decide +kernel
theorem dX10_findBest_3 : decode cX10_findBest 3 = .ok (.bipush 64, 2) := by decide +kernel
theorem dX10_findBest_5 : decode cX10_findBest 5 = .ok (.if_icmp .ge 23, 3) := by decide +kernel
theorem dX10_findBest_8 : decode cX10_findBest 8 = .ok (.aload_n 0, 1) := by decide +kernel
theorem dX10_findBest_9 : decode cX10_findBest 9 = .ok (.getfield 88, 3) := by decide +kernel
theorem dX10_findBest_12 : decode cX10_findBest 12 = .ok (.iload_n 2, 1) := by decide +kernel
theorem dX10_findBest_13 : decode cX10_findBest 13 = .ok (.iconst (-1), 1) := by decide +kernel
theorem dX10_findBest_14 : decode cX10_findBest 14 = .ok (.iastore, 1) := by decide +kernel
theorem dX10_findBest_15 : decode cX10_findBest 15 = .ok (.aload_n 0, 1) := by decide +kernel
theorem dX10_findBest_16 : decode cX10_findBest 16 = .ok (.getfield 100, 3) := by decide +kernel
theorem dX10_findBest_19 : decode cX10_findBest 19 = .ok (.iload_n 2, 1) := by decide +kernel
theorem dX10_findBest_20 : decode cX10_findBest 20 = .ok (.iconst 0, 1) := by decide +kernel
theorem dX10_findBest_21 : decode cX10_findBest 21 = .ok (.bastore, 1) := by decide +kernel
theorem dX10_findBest_22 : decode cX10_findBest 22 = .ok (.iinc 2 1, 3) := by decide +kernel
theorem dX10_findBest_25 : decode cX10_findBest 25 = .ok (.goto (-23), 3) := by decide +kernel
theorem dX10_findBest_28 : decode cX10_findBest 28 = .ok (.aload_n 0, 1) := by decide +kernel
theorem dX10_findBest_29 : decode cX10_findBest 29 = .ok (.getfield 88, 3) := by decide +kernel
theorem dX10_findBest_32 : decode cX10_findBest 32 = .ok (.aload_n 0, 1) := by decide +kernel
theorem dX10_findBest_33 : decode cX10_findBest 33 = .ok (.getfield 16, 3) := by decide +kernel
theorem dX10_findBest_36 : decode cX10_findBest 36 = .ok (.iload_n 1, 1) := by decide +kernel
theorem dX10_findBest_37 : decode cX10_findBest 37 = .ok (.iaload, 1) := by decide +kernel
theorem dX10_findBest_38 : decode cX10_findBest 38 = .ok (.iconst 0, 1) := by decide +kernel
theorem dX10_findBest_39 : decode cX10_findBest 39 = .ok (.iastore, 1) := by decide +kernel
theorem dX10_findBest_40 : decode cX10_findBest 40 = .ok (.aload_n 0, 1) := by decide +kernel
theorem dX10_findBest_41 : decode cX10_findBest 41 = .ok (.getfield 91, 3) := by decide +kernel
theorem dX10_findBest_44 : decode cX10_findBest 44 = .ok (.aload_n 0, 1) := by decide +kernel
theorem dX10_findBest_45 : decode cX10_findBest 45 = .ok (.getfield 16, 3) := by decide +kernel
theorem dX10_findBest_48 : decode cX10_findBest 48 = .ok (.iload_n 1, 1) := by decide +kernel
theorem dX10_findBest_49 : decode cX10_findBest 49 = .ok (.iaload, 1) := by decide +kernel
theorem dX10_findBest_50 : decode cX10_findBest 50 = .ok (.iconst 0, 1) := by decide +kernel
theorem dX10_findBest_51 : decode cX10_findBest 51 = .ok (.iastore, 1) := by decide +kernel
theorem dX10_findBest_52 : decode cX10_findBest 52 = .ok (.aload_n 0, 1) := by decide +kernel
theorem dX10_findBest_53 : decode cX10_findBest 53 = .ok (.getfield 16, 3) := by decide +kernel
theorem dX10_findBest_56 : decode cX10_findBest 56 = .ok (.iload_n 1, 1) := by decide +kernel
theorem dX10_findBest_57 : decode cX10_findBest 57 = .ok (.iaload, 1) := by decide +kernel
theorem dX10_findBest_58 : decode cX10_findBest 58 = .ok (.istore_n 2, 1) := by decide +kernel
theorem dX10_findBest_59 : decode cX10_findBest 59 = .ok (.iload_n 2, 1) := by decide +kernel
theorem dX10_findBest_60 : decode cX10_findBest 60 = .ok (.ifCond .lt 138, 3) := by decide +kernel
theorem dX10_findBest_63 : decode cX10_findBest 63 = .ok (.aload_n 0, 1) := by decide +kernel
theorem dX10_findBest_64 : decode cX10_findBest 64 = .ok (.getfield 100, 3) := by decide +kernel
theorem dX10_findBest_67 : decode cX10_findBest 67 = .ok (.iload_n 2, 1) := by decide +kernel
theorem dX10_findBest_68 : decode cX10_findBest 68 = .ok (.iconst 1, 1) := by decide +kernel
theorem dX10_findBest_69 : decode cX10_findBest 69 = .ok (.bastore, 1) := by decide +kernel
theorem dX10_findBest_70 : decode cX10_findBest 70 = .ok (.iconst 0, 1) := by decide +kernel
theorem dX10_findBest_71 : decode cX10_findBest 71 = .ok (.istore_n 3, 1) := by decide +kernel
theorem dX10_findBest_72 : decode cX10_findBest 72 = .ok (.iload_n 3, 1) := by decide +kernel
theorem dX10_findBest_73 : decode cX10_findBest 73 = .ok (.aload_n 0, 1) := by decide +kernel
theorem dX10_findBest_74 : decode cX10_findBest 74 = .ok (.getfield 13, 3) := by decide +kernel
theorem dX10_findBest_77 : decode cX10_findBest 77 = .ok (.iload_n 1, 1) := by decide +kernel
theorem dX10_findBest_78 : decode cX10_findBest 78 = .ok (.iaload, 1) := by decide +kernel
theorem dX10_findBest_79 : decode cX10_findBest 79 = .ok (.if_icmp .ge 111, 3) := by decide +kernel
theorem dX10_findBest_82 : decode cX10_findBest 82 = .ok (.aload_n 0, 1) := by decide +kernel
theorem dX10_findBest_83 : decode cX10_findBest 83 = .ok (.iload_n 1, 1) := by decide +kernel
theorem dX10_findBest_84 : decode cX10_findBest 84 = .ok (.iload_n 3, 1) := by decide +kernel
theorem dX10_findBest_85 : decode cX10_findBest 85 = .ok (.iload_n 2, 1) := by decide +kernel
theorem dX10_findBest_86 : decode cX10_findBest 86 = .ok (.invokevirtual 240, 3) := by decide +kernel
theorem dX10_findBest_89 : decode cX10_findBest 89 = .ok (.istore 4, 2) := by decide +kernel
theorem dX10_findBest_91 : decode cX10_findBest 91 = .ok (.aload_n 0, 1) := by decide +kernel
theorem dX10_findBest_92 : decode cX10_findBest 92 = .ok (.getfield 88, 3) := by decide +kernel
theorem dX10_findBest_95 : decode cX10_findBest 95 = .ok (.iload_n 2, 1) := by decide +kernel
theorem dX10_findBest_96 : decode cX10_findBest 96 = .ok (.iaload, 1) := by decide +kernel
theorem dX10_findBest_97 : decode cX10_findBest 97 = .ok (.aload_n 0, 1) := by decide +kernel
theorem dX10_findBest_98 : decode cX10_findBest 98 = .ok (.getfield 19, 3) := by decide +kernel
theorem dX10_findBest_101 : decode cX10_findBest 101 = .ok (.iconst 3, 1) := by decide +kernel
theorem dX10_findBest_102 : decode cX10_findBest 102 = .ok (.iload_n 1, 1) := by decide +kernel
theorem dX10_findBest_103 : decode cX10_findBest 103 = .ok (.imul, 1) := by decide +kernel
theorem dX10_findBest_104 : decode cX10_findBest 104 = .ok (.iload_n 3, 1) := by decide +kernel
theorem dX10_findBest_105 : decode cX10_findBest 105 = .ok (.iadd, 1) := by decide +kernel
theorem dX10_findBest_106 : decode cX10_findBest 106 = .ok (.iaload, 1) := by decide +kernel
theorem dX10_findBest_107 : decode cX10_findBest 107 = .ok (.iadd, 1) := by decide +kernel
theorem dX10_findBest_108 : decode cX10_findBest 108 = .ok (.istore 5, 2) := by decide +kernel
theorem dX10_findBest_110 : decode cX10_findBest 110 = .ok (.aload_n 0, 1) := by decide +kernel
theorem dX10_findBest_111 : decode cX10_findBest 111 = .ok (.getfield 100, 3) := by decide +kernel
theorem dX10_findBest_114 : decode cX10_findBest 114 = .ok (.iload 4, 2) := by decide +kernel
theorem dX10_findBest_116 : decode cX10_findBest 116 = .ok (.baload, 1) := by decide +kernel
theorem dX10_findBest_117 : decode cX10_findBest 117 = .ok (.ifCond .ne 67, 3) := by decide +kernel
theorem dX10_findBest_120 : decode cX10_findBest 120 = .ok (.aload_n 0, 1) := by decide +kernel
theorem dX10_findBest_121 : decode cX10_findBest 121 = .ok (.iload 5, 2) := by decide +kernel
theorem dX10_findBest_123 : decode cX10_findBest 123 = .ok (.aload_n 0, 1) := by decide +kernel
theorem dX10_findBest_124 : decode cX10_findBest 124 = .ok (.getfield 91, 3) := by decide +kernel
theorem dX10_findBest_127 : decode cX10_findBest 127 = .ok (.iload_n 2, 1) := by decide +kernel
theorem dX10_findBest_128 : decode cX10_findBest 128 = .ok (.iaload, 1) := by decide +kernel
theorem dX10_findBest_129 : decode cX10_findBest 129 = .ok (.iconst 1, 1) := by decide +kernel
theorem dX10_findBest_130 : decode cX10_findBest 130 = .ok (.iadd, 1) := by decide +kernel
theorem dX10_findBest_131 : decode cX10_findBest 131 = .ok (.iload_n 3, 1) := by decide +kernel
theorem dX10_findBest_132 : decode cX10_findBest 132 = .ok (.iload_n 2, 1) := by decide +kernel
theorem dX10_findBest_133 : decode cX10_findBest 133 = .ok (.iload 4, 2) := by decide +kernel
theorem dX10_findBest_135 : decode cX10_findBest 135 = .ok (.invokevirtual 285, 3) := by decide +kernel
theorem dX10_findBest_138 : decode cX10_findBest 138 = .ok (.ifCond .ne 6, 3) := by decide +kernel
theorem dX10_findBest_141 : decode cX10_findBest 141 = .ok (.goto 43, 3) := by decide +kernel
theorem dX10_findBest_144 : decode cX10_findBest 144 = .ok (.aload_n 0, 1) := by decide +kernel
theorem dX10_findBest_145 : decode cX10_findBest 145 = .ok (.getfield 88, 3) := by decide +kernel
theorem dX10_findBest_148 : decode cX10_findBest 148 = .ok (.iload 4, 2) := by decide +kernel
theorem dX10_findBest_150 : decode cX10_findBest 150 = .ok (.iload 5, 2) := by decide +kernel
theorem dX10_findBest_152 : decode cX10_findBest 152 = .ok (.iastore, 1) := by decide +kernel
theorem dX10_findBest_153 : decode cX10_findBest 153 = .ok (.aload_n 0, 1) := by decide +kernel
theorem dX10_findBest_154 : decode cX10_findBest 154 = .ok (.getfield 91, 3) := by decide +kernel
theorem dX10_findBest_157 : decode cX10_findBest 157 = .ok (.iload 4, 2) := by decide +kernel
theorem dX10_findBest_159 : decode cX10_findBest 159 = .ok (.aload_n 0, 1) := by decide +kernel
theorem dX10_findBest_160 : decode cX10_findBest 160 = .ok (.getfield 91, 3) := by decide +kernel
theorem dX10_findBest_163 : decode cX10_findBest 163 = .ok (.iload_n 2, 1) := by decide +kernel
theorem dX10_findBest_164 : decode cX10_findBest 164 = .ok (.iaload, 1) := by decide +kernel
theorem dX10_findBest_165 : decode cX10_findBest 165 = .ok (.iconst 1, 1) := by decide +kernel
theorem dX10_findBest_166 : decode cX10_findBest 166 = .ok (.iadd, 1) := by decide +kernel
theorem dX10_findBest_167 : decode cX10_findBest 167 = .ok (.iastore, 1) := by decide +kernel
theorem dX10_findBest_168 : decode cX10_findBest 168 = .ok (.aload_n 0, 1) := by decide +kernel
theorem dX10_findBest_169 : decode cX10_findBest 169 = .ok (.getfield 94, 3) := by decide +kernel
theorem dX10_findBest_172 : decode cX10_findBest 172 = .ok (.iload 4, 2) := by decide +kernel
theorem dX10_findBest_174 : decode cX10_findBest 174 = .ok (.iload_n 3, 1) := by decide +kernel
theorem dX10_findBest_175 : decode cX10_findBest 175 = .ok (.iastore, 1) := by decide +kernel
theorem dX10_findBest_176 : decode cX10_findBest 176 = .ok (.aload_n 0, 1) := by decide +kernel
theorem dX10_findBest_177 : decode cX10_findBest 177 = .ok (.getfield 97, 3) := by decide +kernel
theorem dX10_findBest_180 : decode cX10_findBest 180 = .ok (.iload 4, 2) := by decide +kernel
theorem dX10_findBest_182 : decode cX10_findBest 182 = .ok (.iload_n 2, 1) := by decide +kernel
theorem dX10_findBest_183 : decode cX10_findBest 183 = .ok (.iastore, 1) := by decide +kernel
theorem dX10_findBest_184 : decode cX10_findBest 184 = .ok (.iinc 3 1, 3) := by decide +kernel
theorem dX10_findBest_187 : decode cX10_findBest 187 = .ok (.goto (-115), 3) := by decide +kernel
theorem dX10_findBest_190 : decode cX10_findBest 190 = .ok (.aload_n 0, 1) := by decide +kernel
theorem dX10_findBest_191 : decode cX10_findBest 191 = .ok (.invokevirtual 289, 3) := by decide +kernel
theorem dX10_findBest_194 : decode cX10_findBest 194 = .ok (.istore_n 2, 1) := by decide +kernel
theorem dX10_findBest_195 : decode cX10_findBest 195 = .ok (.goto (-136), 3) := by decide +kernel
theorem dX10_findBest_198 : decode cX10_findBest 198 = .ok (.return_, 1) := by decide +kernel
theorem dX10_isAhead_0 : decode cX10_isAhead 0 = .ok (.aload_n 0, 1) := by decide +kernel
theorem dX10_isAhead_1 : decode cX10_isAhead 1 = .ok (.getfield 88, 3) := by decide +kernel
theorem dX10_isAhead_4 : decode cX10_isAhead 4 = .ok (.iload_n 1, 1) := by decide +kernel
theorem dX10_isAhead_5 : decode cX10_isAhead 5 = .ok (.iaload, 1) := by decide +kernel
theorem dX10_isAhead_6 : decode cX10_isAhead 6 = .ok (.aload_n 0, 1) := by decide +kernel
theorem dX10_isAhead_7 : decode cX10_isAhead 7 = .ok (.getfield 88, 3) := by decide +kernel
theorem dX10_isAhead_10 : decode cX10_isAhead 10 = .ok (.iload_n 2, 1) := by decide +kernel
theorem dX10_isAhead_11 : decode cX10_isAhead 11 = .ok (.iaload, 1) := by decide +kernel
theorem dX10_isAhead_12 : decode cX10_isAhead 12 = .ok (.if_icmp .eq 24, 3) := by decide +kernel
theorem dX10_isAhead_15 : decode cX10_isAhead 15 = .ok (.aload_n 0, 1) := by decide +kernel
theorem dX10_isAhead_16 : decode cX10_isAhead 16 = .ok (.getfield 88, 3) := by decide +kernel
theorem dX10_isAhead_19 : decode cX10_isAhead 19 = .ok (.iload_n 1, 1) := by decide +kernel
theorem dX10_isAhead_20 : decode cX10_isAhead 20 = .ok (.iaload, 1) := by decide +kernel
theorem dX10_isAhead_21 : decode cX10_isAhead 21 = .ok (.aload_n 0, 1) := by decide +kernel
theorem dX10_isAhead_22 : decode cX10_isAhead 22 = .ok (.getfield 88, 3) := by decide +kernel
theorem dX10_isAhead_25 : decode cX10_isAhead 25 = .ok (.iload_n 2, 1) := by decide +kernel
theorem dX10_isAhead_26 : decode cX10_isAhead 26 = .ok (.iaload, 1) := by decide +kernel
theorem dX10_isAhead_27 : decode cX10_isAhead 27 = .ok (.if_icmp .ge 7, 3) := by decide +kernel
theorem dX10_isAhead_30 : decode cX10_isAhead 30 = .ok (.iconst 1, 1) := by decide +kernel
theorem dX10_isAhead_31 : decode cX10_isAhead 31 = .ok (.goto 4, 3) := by decide +kernel
theorem dX10_isAhead_34 : decode cX10_isAhead 34 = .ok (.iconst 0, 1) := by decide +kernel
theorem dX10_isAhead_35 : decode cX10_isAhead 35 = .ok (.ireturn, 1) := by decide +kernel
theorem dX10_isAhead_36 : decode cX10_isAhead 36 = .ok (.aload_n 0, 1) := by decide +kernel
theorem dX10_isAhead_37 : decode cX10_isAhead 37 = .ok (.getfield 91, 3) := by decide +kernel
theorem dX10_isAhead_40 : decode cX10_isAhead 40 = .ok (.iload_n 1, 1) := by decide +kernel
theorem dX10_isAhead_41 : decode cX10_isAhead 41 = .ok (.iaload, 1) := by decide +kernel
theorem dX10_isAhead_42 : decode cX10_isAhead 42 = .ok (.aload_n 0, 1) := by decide +kernel
theorem dX10_isAhead_43 : decode cX10_isAhead 43 = .ok (.getfield 91, 3) := by decide +kernel
theorem dX10_isAhead_46 : decode cX10_isAhead 46 = .ok (.iload_n 2, 1) := by decide +kernel
theorem dX10_isAhead_47 : decode cX10_isAhead 47 = .ok (.iaload, 1) := by decide +kernel
theorem dX10_isAhead_48 : decode cX10_isAhead 48 = .ok (.if_icmp .eq 24, 3) := by decide +kernel
theorem dX10_isAhead_51 : decode cX10_isAhead 51 = .ok (.aload_n 0, 1) := by decide +kernel
theorem dX10_isAhead_52 : decode cX10_isAhead 52 = .ok (.getfield 91, 3) := by decide +kernel
theorem dX10_isAhead_55 : decode cX10_isAhead 55 = .ok (.iload_n 1, 1) := by decide +kernel
theorem dX10_isAhead_56 : decode cX10_isAhead 56 = .ok (.iaload, 1) := by decide +kernel
theorem dX10_isAhead_57 : decode cX10_isAhead 57 = .ok (.aload_n 0, 1) := by decide +kernel
theorem dX10_isAhead_58 : decode cX10_isAhead 58 = .ok (.getfield 91, 3) := by decide +kernel
theorem dX10_isAhead_61 : decode cX10_isAhead 61 = .ok (.iload_n 2, 1) := by decide +kernel
theorem dX10_isAhead_62 : decode cX10_isAhead 62 = .ok (.iaload, 1) := by decide +kernel
theorem dX10_isAhead_63 : decode cX10_isAhead 63 = .ok (.if_icmp .ge 7, 3) := by decide +kernel
theorem dX10_isAhead_66 : decode cX10_isAhead 66 = .ok (.iconst 1, 1) := by decide +kernel
theorem dX10_isAhead_67 : decode cX10_isAhead 67 = .ok (.goto 4, 3) := by decide +kernel
theorem dX10_isAhead_70 : decode cX10_isAhead 70 = .ok (.iconst 0, 1) := by decide +kernel
theorem dX10_isAhead_71 : decode cX10_isAhead 71 = .ok (.ireturn, 1) := by decide +kernel
theorem dX10_isAhead_72 : decode cX10_isAhead 72 = .ok (.iload_n 1, 1) := by decide +kernel
theorem dX10_isAhead_73 : decode cX10_isAhead 73 = .ok (.istore_n 3, 1) := by decide +kernel
theorem dX10_isAhead_74 : decode cX10_isAhead 74 = .ok (.iload_n 2, 1) := by decide +kernel
theorem dX10_isAhead_75 : decode cX10_isAhead 75 = .ok (.istore 4, 2) := by decide +kernel
theorem dX10_isAhead_77 : decode cX10_isAhead 77 = .ok (.iconst 0, 1) := by decide +kernel
theorem dX10_isAhead_78 : decode cX10_isAhead 78 = .ok (.istore 5, 2) := by decide +kernel
theorem dX10_isAhead_80 : decode cX10_isAhead 80 = .ok (.iload 5, 2) := by decide +kernel
theorem dX10_isAhead_82 : decode cX10_isAhead 82 = .ok (.aload_n 0, 1) := by decide +kernel
theorem dX10_isAhead_83 : decode cX10_isAhead 83 = .ok (.getfield 91, 3) := by decide +kernel
theorem dX10_isAhead_86 : decode cX10_isAhead 86 = .ok (.iload_n 1, 1) := by decide +kernel
theorem dX10_isAhead_87 : decode cX10_isAhead 87 = .ok (.iaload, 1) := by decide +kernel
theorem dX10_isAhead_88 : decode cX10_isAhead 88 = .ok (.if_icmp .ge 63, 3) := by decide +kernel
theorem dX10_isAhead_91 : decode cX10_isAhead 91 = .ok (.aload_n 0, 1) := by decide +kernel
theorem dX10_isAhead_92 : decode cX10_isAhead 92 = .ok (.getfield 94, 3) := by decide +kernel
theorem dX10_isAhead_95 : decode cX10_isAhead 95 = .ok (.iload_n 3, 1) := by decide +kernel
theorem dX10_isAhead_96 : decode cX10_isAhead 96 = .ok (.iaload, 1) := by decide +kernel
theorem dX10_isAhead_97 : decode cX10_isAhead 97 = .ok (.aload_n 0, 1) := by decide +kernel
theorem dX10_isAhead_98 : decode cX10_isAhead 98 = .ok (.getfield 94, 3) := by decide +kernel
theorem dX10_isAhead_101 : decode cX10_isAhead 101 = .ok (.iload 4, 2) := by decide +kernel
theorem dX10_isAhead_103 : decode cX10_isAhead 103 = .ok (.iaload, 1) := by decide +kernel
theorem dX10_isAhead_104 : decode cX10_isAhead 104 = .ok (.if_icmp .eq 25, 3) := by decide +kernel
theorem dX10_isAhead_107 : decode cX10_isAhead 107 = .ok (.aload_n 0, 1) := by decide +kernel
theorem dX10_isAhead_108 : decode cX10_isAhead 108 = .ok (.getfield 94, 3) := by decide +kernel
theorem dX10_isAhead_111 : decode cX10_isAhead 111 = .ok (.iload_n 3, 1) := by decide +kernel
theorem dX10_isAhead_112 : decode cX10_isAhead 112 = .ok (.iaload, 1) := by decide +kernel
theorem dX10_isAhead_113 : decode cX10_isAhead 113 = .ok (.aload_n 0, 1) := by decide +kernel
theorem dX10_isAhead_114 : decode cX10_isAhead 114 = .ok (.getfield 94, 3) := by decide +kernel
theorem dX10_isAhead_117 : decode cX10_isAhead 117 = .ok (.iload 4, 2) := by decide +kernel
theorem dX10_isAhead_119 : decode cX10_isAhead 119 = .ok (.iaload, 1) := by decide +kernel
theorem dX10_isAhead_120 : decode cX10_isAhead 120 = .ok (.if_icmp .ge 7, 3) := by decide +kernel
theorem dX10_isAhead_123 : decode cX10_isAhead 123 = .ok (.iconst 1, 1) := by decide +kernel
theorem dX10_isAhead_124 : decode cX10_isAhead 124 = .ok (.goto 4, 3) := by decide +kernel
theorem dX10_isAhead_127 : decode cX10_isAhead 127 = .ok (.iconst 0, 1) := by decide +kernel
theorem dX10_isAhead_128 : decode cX10_isAhead 128 = .ok (.ireturn, 1) := by decide +kernel
theorem dX10_isAhead_129 : decode cX10_isAhead 129 = .ok (.aload_n 0, 1) := by decide +kernel
theorem dX10_isAhead_130 : decode cX10_isAhead 130 = .ok (.getfield 97, 3) := by decide +kernel
theorem dX10_isAhead_133 : decode cX10_isAhead 133 = .ok (.iload_n 3, 1) := by decide +kernel
theorem dX10_isAhead_134 : decode cX10_isAhead 134 = .ok (.iaload, 1) := by decide +kernel
theorem dX10_isAhead_135 : decode cX10_isAhead 135 = .ok (.istore_n 3, 1) := by decide +kernel
theorem dX10_isAhead_136 : decode cX10_isAhead 136 = .ok (.aload_n 0, 1) := by decide +kernel
theorem dX10_isAhead_137 : decode cX10_isAhead 137 = .ok (.getfield 97, 3) := by decide +kernel
theorem dX10_isAhead_140 : decode cX10_isAhead 140 = .ok (.iload 4, 2) := by decide +kernel
theorem dX10_isAhead_142 : decode cX10_isAhead 142 = .ok (.iaload, 1) := by decide +kernel
theorem dX10_isAhead_143 : decode cX10_isAhead 143 = .ok (.istore 4, 2) := by decide +kernel
theorem dX10_isAhead_145 : decode cX10_isAhead 145 = .ok (.iinc 5 1, 3) := by decide +kernel
theorem dX10_isAhead_148 : decode cX10_isAhead 148 = .ok (.goto (-68), 3) := by decide +kernel
theorem dX10_isAhead_151 : decode cX10_isAhead 151 = .ok (.iconst 0, 1) := by decide +kernel
theorem dX10_isAhead_152 : decode cX10_isAhead 152 = .ok (.ireturn, 1) := by decide +kernel
theorem dX10_findCheapest_0 : decode cX10_findCheapest 0 = .ok (.iload_n 1, 1) := by decide +kernel
theorem dX10_findCheapest_1 : decode cX10_findCheapest 1 = .ok (.invokestatic 123, 3) := by decide +kernel
theorem dX10_findCheapest_4 : decode cX10_findCheapest 4 = .ok (.ifCond .ne 6, 3) := by decide +kernel
theorem dX10_findCheapest_7 : decode cX10_findCheapest 7 = .ok (.bipush (-2), 2) := by decide +kernel
theorem dX10_findCheapest_9 : decode cX10_findCheapest 9 = .ok (.ireturn, 1) := by decide +kernel
theorem dX10_findCheapest_10 : decode cX10_findCheapest 10 = .ok (.aload_n 0, 1) := by decide +kernel
theorem dX10_findCheapest_11 : decode cX10_findCheapest 11 = .ok (.iload_n 1, 1) := by decide +kernel
theorem dX10_findCheapest_12 : decode cX10_findCheapest 12 = .ok (.invokevirtual 292, 3) := by decide +kernel
theorem dX10_findCheapest_15 : decode cX10_findCheapest 15 = .ok (.iconst (-1), 1) := by decide +kernel
theorem dX10_findCheapest_16 : decode cX10_findCheapest 16 = .ok (.istore_n 2, 1) := by decide +kernel
theorem dX10_findCheapest_17 : decode cX10_findCheapest 17 = .ok (.iconst 0, 1) := by decide +kernel
theorem dX10_findCheapest_18 : decode cX10_findCheapest 18 = .ok (.istore_n 3, 1) := by decide +kernel
theorem dX10_findCheapest_19 : decode cX10_findCheapest 19 = .ok (.iload_n 3, 1) := by decide +kernel
theorem dX10_findCheapest_20 : decode cX10_findCheapest 20 = .ok (.bipush 64, 2) := by decide +kernel
theorem dX10_findCheapest_22 : decode cX10_findCheapest 22 = .ok (.if_icmp .ge 42, 3) := by decide +kernel
theorem dX10_findCheapest_25 : decode cX10_findCheapest 25 = .ok (.aload_n 0, 1) := by decide +kernel
theorem dX10_findCheapest_26 : decode cX10_findCheapest 26 = .ok (.getfield 88, 3) := by decide +kernel
theorem dX10_findCheapest_29 : decode cX10_findCheapest 29 = .ok (.iload_n 3, 1) := by decide +kernel
theorem dX10_findCheapest_30 : decode cX10_findCheapest 30 = .ok (.iaload, 1) := by decide +kernel
theorem dX10_findCheapest_31 : decode cX10_findCheapest 31 = .ok (.ifCond .lt 27, 3) := by decide +kernel
theorem dX10_findCheapest_34 : decode cX10_findCheapest 34 = .ok (.aload_n 0, 1) := by decide +kernel
theorem dX10_findCheapest_35 : decode cX10_findCheapest 35 = .ok (.iload_n 1, 1) := by decide +kernel
theorem dX10_findCheapest_36 : decode cX10_findCheapest 36 = .ok (.iload_n 3, 1) := by decide +kernel
theorem dX10_findCheapest_37 : decode cX10_findCheapest 37 = .ok (.invokevirtual 249, 3) := by decide +kernel
theorem dX10_findCheapest_40 : decode cX10_findCheapest 40 = .ok (.ifCond .eq 18, 3) := by decide +kernel
theorem dX10_findCheapest_43 : decode cX10_findCheapest 43 = .ok (.iload_n 2, 1) := by decide +kernel
theorem dX10_findCheapest_44 : decode cX10_findCheapest 44 = .ok (.ifCond .lt 12, 3) := by decide +kernel
theorem dX10_findCheapest_47 : decode cX10_findCheapest 47 = .ok (.aload_n 0, 1) := by decide +kernel
theorem dX10_findCheapest_48 : decode cX10_findCheapest 48 = .ok (.iload_n 3, 1) := by decide +kernel
theorem dX10_findCheapest_49 : decode cX10_findCheapest 49 = .ok (.iload_n 2, 1) := by decide +kernel
theorem dX10_findCheapest_50 : decode cX10_findCheapest 50 = .ok (.invokevirtual 295, 3) := by decide +kernel
theorem dX10_findCheapest_53 : decode cX10_findCheapest 53 = .ok (.ifCond .eq 5, 3) := by decide +kernel
theorem dX10_findCheapest_56 : decode cX10_findCheapest 56 = .ok (.iload_n 3, 1) := by decide +kernel
theorem dX10_findCheapest_57 : decode cX10_findCheapest 57 = .ok (.istore_n 2, 1) := by decide +kernel
theorem dX10_findCheapest_58 : decode cX10_findCheapest 58 = .ok (.iinc 3 1, 3) := by decide +kernel
theorem dX10_findCheapest_61 : decode cX10_findCheapest 61 = .ok (.goto (-42), 3) := by decide +kernel
theorem dX10_findCheapest_64 : decode cX10_findCheapest 64 = .ok (.iload_n 2, 1) := by decide +kernel
theorem dX10_findCheapest_65 : decode cX10_findCheapest 65 = .ok (.ifCond .ge 5, 3) := by decide +kernel
theorem dX10_findCheapest_68 : decode cX10_findCheapest 68 = .ok (.iconst (-1), 1) := by decide +kernel
theorem dX10_findCheapest_69 : decode cX10_findCheapest 69 = .ok (.ireturn, 1) := by decide +kernel
theorem dX10_findCheapest_70 : decode cX10_findCheapest 70 = .ok (.aload_n 0, 1) := by decide +kernel
theorem dX10_findCheapest_71 : decode cX10_findCheapest 71 = .ok (.aload_n 0, 1) := by decide +kernel
theorem dX10_findCheapest_72 : decode cX10_findCheapest 72 = .ok (.getfield 91, 3) := by decide +kernel
theorem dX10_findCheapest_75 : decode cX10_findCheapest 75 = .ok (.iload_n 2, 1) := by decide +kernel
theorem dX10_findCheapest_76 : decode cX10_findCheapest 76 = .ok (.iaload, 1) := by decide +kernel
theorem dX10_findCheapest_77 : decode cX10_findCheapest 77 = .ok (.putfield 298, 3) := by decide +kernel
theorem dX10_findCheapest_80 : decode cX10_findCheapest 80 = .ok (.aload_n 0, 1) := by decide +kernel
theorem dX10_findCheapest_81 : decode cX10_findCheapest 81 = .ok (.aload_n 0, 1) := by decide +kernel
theorem dX10_findCheapest_82 : decode cX10_findCheapest 82 = .ok (.getfield 88, 3) := by decide +kernel
theorem dX10_findCheapest_85 : decode cX10_findCheapest 85 = .ok (.iload_n 2, 1) := by decide +kernel
theorem dX10_findCheapest_86 : decode cX10_findCheapest 86 = .ok (.iaload, 1) := by decide +kernel
theorem dX10_findCheapest_87 : decode cX10_findCheapest 87 = .ok (.putfield 301, 3) := by decide +kernel
theorem dX10_findCheapest_90 : decode cX10_findCheapest 90 = .ok (.iload_n 2, 1) := by decide +kernel
theorem dX10_findCheapest_91 : decode cX10_findCheapest 91 = .ok (.istore_n 3, 1) := by decide +kernel
theorem dX10_findCheapest_92 : decode cX10_findCheapest 92 = .ok (.iconst 0, 1) := by decide +kernel
theorem dX10_findCheapest_93 : decode cX10_findCheapest 93 = .ok (.istore 4, 2) := by decide +kernel
theorem dX10_findCheapest_95 : decode cX10_findCheapest 95 = .ok (.iload 4, 2) := by decide +kernel
theorem dX10_findCheapest_97 : decode cX10_findCheapest 97 = .ok (.aload_n 0, 1) := by decide +kernel
theorem dX10_findCheapest_98 : decode cX10_findCheapest 98 = .ok (.getfield 298, 3) := by decide +kernel
theorem dX10_findCheapest_101 : decode cX10_findCheapest 101 = .ok (.if_icmp .ge 29, 3) := by decide +kernel
theorem dX10_findCheapest_104 : decode cX10_findCheapest 104 = .ok (.aload_n 0, 1) := by decide +kernel
theorem dX10_findCheapest_105 : decode cX10_findCheapest 105 = .ok (.getfield 79, 3) := by decide +kernel
theorem dX10_findCheapest_108 : decode cX10_findCheapest 108 = .ok (.iload 4, 2) := by decide +kernel
theorem dX10_findCheapest_110 : decode cX10_findCheapest 110 = .ok (.aload_n 0, 1) := by decide +kernel
theorem dX10_findCheapest_111 : decode cX10_findCheapest 111 = .ok (.getfield 94, 3) := by decide +kernel
theorem dX10_findCheapest_114 : decode cX10_findCheapest 114 = .ok (.iload_n 3, 1) := by decide +kernel
theorem dX10_findCheapest_115 : decode cX10_findCheapest 115 = .ok (.iaload, 1) := by decide +kernel
theorem dX10_findCheapest_116 : decode cX10_findCheapest 116 = .ok (.iastore, 1) := by decide +kernel
theorem dX10_findCheapest_117 : decode cX10_findCheapest 117 = .ok (.aload_n 0, 1) := by decide +kernel
theorem dX10_findCheapest_118 : decode cX10_findCheapest 118 = .ok (.getfield 97, 3) := by decide +kernel
theorem dX10_findCheapest_121 : decode cX10_findCheapest 121 = .ok (.iload_n 3, 1) := by decide +kernel
theorem dX10_findCheapest_122 : decode cX10_findCheapest 122 = .ok (.iaload, 1) := by decide +kernel
theorem dX10_findCheapest_123 : decode cX10_findCheapest 123 = .ok (.istore_n 3, 1) := by decide +kernel
theorem dX10_findCheapest_124 : decode cX10_findCheapest 124 = .ok (.iinc 4 1, 3) := by decide +kernel
theorem dX10_findCheapest_127 : decode cX10_findCheapest 127 = .ok (.goto (-32), 3) := by decide +kernel
theorem dX10_findCheapest_130 : decode cX10_findCheapest 130 = .ok (.aload_n 0, 1) := by decide +kernel
theorem dX10_findCheapest_131 : decode cX10_findCheapest 131 = .ok (.getfield 298, 3) := by decide +kernel
theorem dX10_findCheapest_134 : decode cX10_findCheapest 134 = .ok (.ireturn, 1) := by decide +kernel
theorem dX10_findPair_0 : decode cX10_findPair 0 = .ok (.iconst 0, 1) := by decide +kernel
theorem dX10_findPair_1 : decode cX10_findPair 1 = .ok (.istore 4, 2) := by decide +kernel
theorem dX10_findPair_3 : decode cX10_findPair 3 = .ok (.iload 4, 2) := by decide +kernel
theorem dX10_findPair_5 : decode cX10_findPair 5 = .ok (.sipush 4096, 3) := by decide +kernel
theorem dX10_findPair_8 : decode cX10_findPair 8 = .ok (.if_icmp .ge 17, 3) := by decide +kernel
theorem dX10_findPair_11 : decode cX10_findPair 11 = .ok (.aload_n 0, 1) := by decide +kernel
theorem dX10_findPair_12 : decode cX10_findPair 12 = .ok (.getfield 85, 3) := by decide +kernel
theorem dX10_findPair_15 : decode cX10_findPair 15 = .ok (.iload 4, 2) := by decide +kernel
theorem dX10_findPair_17 : decode cX10_findPair 17 = .ok (.iconst (-1), 1) := by decide +kernel
theorem dX10_findPair_18 : decode cX10_findPair 18 = .ok (.iastore, 1) := by decide +kernel
theorem dX10_findPair_19 : decode cX10_findPair 19 = .ok (.iinc 4 1, 3) := by decide +kernel
theorem dX10_findPair_22 : decode cX10_findPair 22 = .ok (.goto (-19), 3) := by decide +kernel
theorem dX10_findPair_25 : decode cX10_findPair 25 = .ok (.aload_n 0, 1) := by decide +kernel
theorem dX10_findPair_26 : decode cX10_findPair 26 = .ok (.getfield 82, 3) := by decide +kernel
theorem dX10_findPair_29 : decode cX10_findPair 29 = .ok (.iconst 0, 1) := by decide +kernel
theorem dX10_findPair_30 : decode cX10_findPair 30 = .ok (.bipush 64, 2) := by decide +kernel
theorem dX10_findPair_32 : decode cX10_findPair 32 = .ok (.aload_n 0, 1) := by decide +kernel
theorem dX10_findPair_33 : decode cX10_findPair 33 = .ok (.getfield 16, 3) := by decide +kernel
theorem dX10_findPair_36 : decode cX10_findPair 36 = .ok (.iload_n 1, 1) := by decide +kernel
theorem dX10_findPair_37 : decode cX10_findPair 37 = .ok (.iaload, 1) := by decide +kernel
theorem dX10_findPair_38 : decode cX10_findPair 38 = .ok (.imul, 1) := by decide +kernel
theorem dX10_findPair_39 : decode cX10_findPair 39 = .ok (.aload_n 0, 1) := by decide +kernel
theorem dX10_findPair_40 : decode cX10_findPair 40 = .ok (.getfield 16, 3) := by decide +kernel
theorem dX10_findPair_43 : decode cX10_findPair 43 = .ok (.iload_n 2, 1) := by decide +kernel
theorem dX10_findPair_44 : decode cX10_findPair 44 = .ok (.iaload, 1) := by decide +kernel
theorem dX10_findPair_45 : decode cX10_findPair 45 = .ok (.iadd, 1) := by decide +kernel
theorem dX10_findPair_46 : decode cX10_findPair 46 = .ok (.iastore, 1) := by decide +kernel
theorem dX10_findPair_47 : decode cX10_findPair 47 = .ok (.aload_n 0, 1) := by decide +kernel
theorem dX10_findPair_48 : decode cX10_findPair 48 = .ok (.getfield 85, 3) := by decide +kernel
theorem dX10_findPair_51 : decode cX10_findPair 51 = .ok (.aload_n 0, 1) := by decide +kernel
theorem dX10_findPair_52 : decode cX10_findPair 52 = .ok (.getfield 82, 3) := by decide +kernel
theorem dX10_findPair_55 : decode cX10_findPair 55 = .ok (.iconst 0, 1) := by decide +kernel
theorem dX10_findPair_56 : decode cX10_findPair 56 = .ok (.iaload, 1) := by decide +kernel
theorem dX10_findPair_57 : decode cX10_findPair 57 = .ok (.iconst 0, 1) := by decide +kernel
theorem dX10_findPair_58 : decode cX10_findPair 58 = .ok (.iastore, 1) := by decide +kernel
theorem dX10_findPair_59 : decode cX10_findPair 59 = .ok (.iconst 0, 1) := by decide +kernel
theorem dX10_findPair_60 : decode cX10_findPair 60 = .ok (.istore 4, 2) := by decide +kernel
theorem dX10_findPair_62 : decode cX10_findPair 62 = .ok (.iconst 1, 1) := by decide +kernel
theorem dX10_findPair_63 : decode cX10_findPair 63 = .ok (.istore 5, 2) := by decide +kernel
theorem dX10_findPair_65 : decode cX10_findPair 65 = .ok (.iload 4, 2) := by decide +kernel
theorem dX10_findPair_67 : decode cX10_findPair 67 = .ok (.iload 5, 2) := by decide +kernel
theorem dX10_findPair_69 : decode cX10_findPair 69 = .ok (.if_icmp .ge 209, 3) := by decide +kernel
theorem dX10_findPair_72 : decode cX10_findPair 72 = .ok (.iload 4, 2) := by decide +kernel
theorem dX10_findPair_74 : decode cX10_findPair 74 = .ok (.istore 6, 2) := by decide +kernel
theorem dX10_findPair_76 : decode cX10_findPair 76 = .ok (.iload 6, 2) := by decide +kernel
theorem dX10_findPair_78 : decode cX10_findPair 78 = .ok (.iload 5, 2) := by decide +kernel
theorem dX10_findPair_80 : decode cX10_findPair 80 = .ok (.if_icmp .ge 62, 3) := by decide +kernel
theorem dX10_findPair_83 : decode cX10_findPair 83 = .ok (.aload_n 0, 1) := by decide +kernel
theorem dX10_findPair_84 : decode cX10_findPair 84 = .ok (.iload_n 1, 1) := by decide +kernel
theorem dX10_findPair_85 : decode cX10_findPair 85 = .ok (.aload_n 0, 1) := by decide +kernel
theorem dX10_findPair_86 : decode cX10_findPair 86 = .ok (.getfield 82, 3) := by decide +kernel
theorem dX10_findPair_89 : decode cX10_findPair 89 = .ok (.iload 6, 2) := by decide +kernel
theorem dX10_findPair_91 : decode cX10_findPair 91 = .ok (.iaload, 1) := by decide +kernel
theorem dX10_findPair_92 : decode cX10_findPair 92 = .ok (.bipush 64, 2) := by decide +kernel
theorem dX10_findPair_94 : decode cX10_findPair 94 = .ok (.idiv, 1) := by decide +kernel
theorem dX10_findPair_95 : decode cX10_findPair 95 = .ok (.invokevirtual 249, 3) := by decide +kernel
theorem dX10_findPair_98 : decode cX10_findPair 98 = .ok (.istore 7, 2) := by decide +kernel
theorem dX10_findPair_100 : decode cX10_findPair 100 = .ok (.aload_n 0, 1) := by decide +kernel
theorem dX10_findPair_101 : decode cX10_findPair 101 = .ok (.iload_n 2, 1) := by decide +kernel
theorem dX10_findPair_102 : decode cX10_findPair 102 = .ok (.aload_n 0, 1) := by decide +kernel
theorem dX10_findPair_103 : decode cX10_findPair 103 = .ok (.getfield 82, 3) := by decide +kernel
theorem dX10_findPair_106 : decode cX10_findPair 106 = .ok (.iload 6, 2) := by decide +kernel
theorem dX10_findPair_108 : decode cX10_findPair 108 = .ok (.iaload, 1) := by decide +kernel
theorem dX10_findPair_109 : decode cX10_findPair 109 = .ok (.bipush 64, 2) := by decide +kernel
theorem dX10_findPair_111 : decode cX10_findPair 111 = .ok (.irem, 1) := by decide +kernel
theorem dX10_findPair_112 : decode cX10_findPair 112 = .ok (.invokevirtual 249, 3) := by decide +kernel
theorem dX10_findPair_115 : decode cX10_findPair 115 = .ok (.istore 8, 2) := by decide +kernel
theorem dX10_findPair_117 : decode cX10_findPair 117 = .ok (.iload 7, 2) := by decide +kernel
theorem dX10_findPair_119 : decode cX10_findPair 119 = .ok (.iload 8, 2) := by decide +kernel
theorem dX10_findPair_121 : decode cX10_findPair 121 = .ok (.if_icmp .eq 15, 3) := by decide +kernel
theorem dX10_findPair_124 : decode cX10_findPair 124 = .ok (.iload 7, 2) := by decide +kernel
theorem dX10_findPair_126 : decode cX10_findPair 126 = .ok (.ifCond .ne 7, 3) := by decide +kernel
theorem dX10_findPair_129 : decode cX10_findPair 129 = .ok (.iload_n 3, 1) := by decide +kernel
theorem dX10_findPair_130 : decode cX10_findPair 130 = .ok (.ifCond .ne 6, 3) := by decide +kernel
theorem dX10_findPair_133 : decode cX10_findPair 133 = .ok (.iload 6, 2) := by decide +kernel
theorem dX10_findPair_135 : decode cX10_findPair 135 = .ok (.ireturn, 1) := by decide +kernel
theorem dX10_findPair_136 : decode cX10_findPair 136 = .ok (.iinc 6 1, 3) := by decide +kernel
theorem dX10_findPair_139 : decode cX10_findPair 139 = .ok (.goto (-63), 3) := by decide +kernel
theorem dX10_findPair_142 : decode cX10_findPair 142 = .ok (.iload 5, 2) := by decide +kernel
theorem dX10_findPair_144 : decode cX10_findPair 144 = .ok (.istore 6, 2) := by decide +kernel
theorem dX10_findPair_146 : decode cX10_findPair 146 = .ok (.iconst 0, 1) := by decide +kernel
theorem dX10_findPair_147 : decode cX10_findPair 147 = .ok (.istore 7, 2) := by decide +kernel
theorem dX10_findPair_149 : decode cX10_findPair 149 = .ok (.iload 7, 2) := by decide +kernel
theorem dX10_findPair_151 : decode cX10_findPair 151 = .ok (.aload_n 0, 1) := by decide +kernel
theorem dX10_findPair_152 : decode cX10_findPair 152 = .ok (.getfield 13, 3) := by decide +kernel
theorem dX10_findPair_155 : decode cX10_findPair 155 = .ok (.iload_n 1, 1) := by decide +kernel
theorem dX10_findPair_156 : decode cX10_findPair 156 = .ok (.iaload, 1) := by decide +kernel
theorem dX10_findPair_157 : decode cX10_findPair 157 = .ok (.if_icmp .ge 110, 3) := by decide +kernel
theorem dX10_findPair_160 : decode cX10_findPair 160 = .ok (.iload 4, 2) := by decide +kernel
theorem dX10_findPair_162 : decode cX10_findPair 162 = .ok (.istore 8, 2) := by decide +kernel
theorem dX10_findPair_164 : decode cX10_findPair 164 = .ok (.iload 8, 2) := by decide +kernel
theorem dX10_findPair_166 : decode cX10_findPair 166 = .ok (.iload 5, 2) := by decide +kernel
theorem dX10_findPair_168 : decode cX10_findPair 168 = .ok (.if_icmp .ge 93, 3) := by decide +kernel
theorem dX10_findPair_171 : decode cX10_findPair 171 = .ok (.bipush 64, 2) := by decide +kernel
theorem dX10_findPair_173 : decode cX10_findPair 173 = .ok (.aload_n 0, 1) := by decide +kernel
theorem dX10_findPair_174 : decode cX10_findPair 174 = .ok (.iload_n 1, 1) := by decide +kernel
theorem dX10_findPair_175 : decode cX10_findPair 175 = .ok (.iload 7, 2) := by decide +kernel
theorem dX10_findPair_177 : decode cX10_findPair 177 = .ok (.aload_n 0, 1) := by decide +kernel
theorem dX10_findPair_178 : decode cX10_findPair 178 = .ok (.getfield 82, 3) := by decide +kernel
theorem dX10_findPair_181 : decode cX10_findPair 181 = .ok (.iload 8, 2) := by decide +kernel
theorem dX10_findPair_183 : decode cX10_findPair 183 = .ok (.iaload, 1) := by decide +kernel
theorem dX10_findPair_184 : decode cX10_findPair 184 = .ok (.bipush 64, 2) := by decide +kernel
theorem dX10_findPair_186 : decode cX10_findPair 186 = .ok (.idiv, 1) := by decide +kernel
theorem dX10_findPair_187 : decode cX10_findPair 187 = .ok (.invokevirtual 240, 3) := by decide +kernel
theorem dX10_findPair_190 : decode cX10_findPair 190 = .ok (.imul, 1) := by decide +kernel
theorem dX10_findPair_191 : decode cX10_findPair 191 = .ok (.aload_n 0, 1) := by decide +kernel
theorem dX10_findPair_192 : decode cX10_findPair 192 = .ok (.iload_n 2, 1) := by decide +kernel
theorem dX10_findPair_193 : decode cX10_findPair 193 = .ok (.iload 7, 2) := by decide +kernel
theorem dX10_findPair_195 : decode cX10_findPair 195 = .ok (.aload_n 0, 1) := by decide +kernel
theorem dX10_findPair_196 : decode cX10_findPair 196 = .ok (.getfield 82, 3) := by decide +kernel
theorem dX10_findPair_199 : decode cX10_findPair 199 = .ok (.iload 8, 2) := by decide +kernel
theorem dX10_findPair_201 : decode cX10_findPair 201 = .ok (.iaload, 1) := by decide +kernel
theorem dX10_findPair_202 : decode cX10_findPair 202 = .ok (.bipush 64, 2) := by decide +kernel
theorem dX10_findPair_204 : decode cX10_findPair 204 = .ok (.irem, 1) := by decide +kernel
theorem dX10_findPair_205 : decode cX10_findPair 205 = .ok (.invokevirtual 240, 3) := by decide +kernel
theorem dX10_findPair_208 : decode cX10_findPair 208 = .ok (.iadd, 1) := by decide +kernel
theorem dX10_findPair_209 : decode cX10_findPair 209 = .ok (.istore 9, 2) := by decide +kernel
theorem dX10_findPair_211 : decode cX10_findPair 211 = .ok (.aload_n 0, 1) := by decide +kernel
theorem dX10_findPair_212 : decode cX10_findPair 212 = .ok (.getfield 85, 3) := by decide +kernel
theorem dX10_findPair_215 : decode cX10_findPair 215 = .ok (.iload 9, 2) := by decide +kernel
theorem dX10_findPair_217 : decode cX10_findPair 217 = .ok (.iaload, 1) := by decide +kernel
theorem dX10_findPair_218 : decode cX10_findPair 218 = .ok (.ifCond .lt 6, 3) := by decide +kernel
theorem dX10_findPair_221 : decode cX10_findPair 221 = .ok (.goto 34, 3) := by decide +kernel
theorem dX10_findPair_224 : decode cX10_findPair 224 = .ok (.aload_n 0, 1) := by decide +kernel
theorem dX10_findPair_225 : decode cX10_findPair 225 = .ok (.getfield 85, 3) := by decide +kernel
theorem dX10_findPair_228 : decode cX10_findPair 228 = .ok (.iload 9, 2) := by decide +kernel
theorem dX10_findPair_230 : decode cX10_findPair 230 = .ok (.iconst 4, 1) := by decide +kernel
theorem dX10_findPair_231 : decode cX10_findPair 231 = .ok (.aload_n 0, 1) := by decide +kernel
theorem dX10_findPair_232 : decode cX10_findPair 232 = .ok (.getfield 82, 3) := by decide +kernel
theorem dX10_findPair_235 : decode cX10_findPair 235 = .ok (.iload 8, 2) := by decide +kernel
theorem dX10_findPair_237 : decode cX10_findPair 237 = .ok (.iaload, 1) := by decide +kernel
theorem dX10_findPair_238 : decode cX10_findPair 238 = .ok (.imul, 1) := by decide +kernel
theorem dX10_findPair_239 : decode cX10_findPair 239 = .ok (.iload 7, 2) := by decide +kernel
theorem dX10_findPair_241 : decode cX10_findPair 241 = .ok (.iadd, 1) := by decide +kernel
theorem dX10_findPair_242 : decode cX10_findPair 242 = .ok (.iastore, 1) := by decide +kernel
theorem dX10_findPair_243 : decode cX10_findPair 243 = .ok (.aload_n 0, 1) := by decide +kernel
theorem dX10_findPair_244 : decode cX10_findPair 244 = .ok (.getfield 82, 3) := by decide +kernel
theorem dX10_findPair_247 : decode cX10_findPair 247 = .ok (.iload 6, 2) := by decide +kernel
theorem dX10_findPair_249 : decode cX10_findPair 249 = .ok (.iload 9, 2) := by decide +kernel
theorem dX10_findPair_251 : decode cX10_findPair 251 = .ok (.iastore, 1) := by decide +kernel
theorem dX10_findPair_252 : decode cX10_findPair 252 = .ok (.iinc 6 1, 3) := by decide +kernel
theorem dX10_findPair_255 : decode cX10_findPair 255 = .ok (.iinc 8 1, 3) := by decide +kernel
theorem dX10_findPair_258 : decode cX10_findPair 258 = .ok (.goto (-94), 3) := by decide +kernel
theorem dX10_findPair_261 : decode cX10_findPair 261 = .ok (.iinc 7 1, 3) := by decide +kernel
theorem dX10_findPair_264 : decode cX10_findPair 264 = .ok (.goto (-115), 3) := by decide +kernel
theorem dX10_findPair_267 : decode cX10_findPair 267 = .ok (.iload 5, 2) := by decide +kernel
theorem dX10_findPair_269 : decode cX10_findPair 269 = .ok (.istore 4, 2) := by decide +kernel
theorem dX10_findPair_271 : decode cX10_findPair 271 = .ok (.iload 6, 2) := by decide +kernel
theorem dX10_findPair_273 : decode cX10_findPair 273 = .ok (.istore 5, 2) := by decide +kernel
theorem dX10_findPair_275 : decode cX10_findPair 275 = .ok (.goto (-210), 3) := by decide +kernel
theorem dX10_findPair_278 : decode cX10_findPair 278 = .ok (.iconst (-1), 1) := by decide +kernel
theorem dX10_findPair_279 : decode cX10_findPair 279 = .ok (.ireturn, 1) := by decide +kernel
theorem dX10_notPaired_0 : decode cX10_notPaired 0 = .ok (.iload_n 1, 1) := by decide +kernel
theorem dX10_notPaired_1 : decode cX10_notPaired 1 = .ok (.invokestatic 123, 3) := by decide +kernel
theorem dX10_notPaired_4 : decode cX10_notPaired 4 = .ok (.ifCond .eq 10, 3) := by decide +kernel
theorem dX10_notPaired_7 : decode cX10_notPaired 7 = .ok (.iload_n 2, 1) := by decide +kernel
theorem dX10_notPaired_8 : decode cX10_notPaired 8 = .ok (.invokestatic 123, 3) := by decide +kernel
theorem dX10_notPaired_11 : decode cX10_notPaired 11 = .ok (.ifCond .ne 8, 3) := by decide +kernel
theorem dX10_notPaired_14 : decode cX10_notPaired 14 = .ok (.bipush (-2), 2) := by decide +kernel
theorem dX10_notPaired_16 : decode cX10_notPaired 16 = .ok (.goto 24, 3) := by decide +kernel
theorem dX10_notPaired_19 : decode cX10_notPaired 19 = .ok (.aload_n 0, 1) := by decide +kernel
theorem dX10_notPaired_20 : decode cX10_notPaired 20 = .ok (.getfield 13, 3) := by decide +kernel
theorem dX10_notPaired_23 : decode cX10_notPaired 23 = .ok (.iload_n 1, 1) := by decide +kernel
theorem dX10_notPaired_24 : decode cX10_notPaired 24 = .ok (.iaload, 1) := by decide +kernel
theorem dX10_notPaired_25 : decode cX10_notPaired 25 = .ok (.aload_n 0, 1) := by decide +kernel
theorem dX10_notPaired_26 : decode cX10_notPaired 26 = .ok (.getfield 13, 3) := by decide +kernel
theorem dX10_notPaired_29 : decode cX10_notPaired 29 = .ok (.iload_n 2, 1) := by decide +kernel
theorem dX10_notPaired_30 : decode cX10_notPaired 30 = .ok (.iaload, 1) := by decide +kernel
theorem dX10_notPaired_31 : decode cX10_notPaired 31 = .ok (.if_icmp .eq 8, 3) := by decide +kernel
theorem dX10_notPaired_34 : decode cX10_notPaired 34 = .ok (.bipush (-4), 2) := by decide +kernel
theorem dX10_notPaired_36 : decode cX10_notPaired 36 = .ok (.goto 4, 3) := by decide +kernel
theorem dX10_notPaired_39 : decode cX10_notPaired 39 = .ok (.iconst 0, 1) := by decide +kernel
theorem dX10_notPaired_40 : decode cX10_notPaired 40 = .ok (.ireturn, 1) := by decide +kernel
theorem dX10_findDifference_0 : decode cX10_findDifference 0 = .ok (.aload_n 0, 1) := by decide +kernel
theorem dX10_findDifference_1 : decode cX10_findDifference 1 = .ok (.iload_n 1, 1) := by decide +kernel
theorem dX10_findDifference_2 : decode cX10_findDifference 2 = .ok (.iload_n 2, 1) := by decide +kernel
theorem dX10_findDifference_3 : decode cX10_findDifference 3 = .ok (.invokevirtual 304, 3) := by decide +kernel
theorem dX10_findDifference_6 : decode cX10_findDifference 6 = .ok (.istore_n 3, 1) := by decide +kernel
theorem dX10_findDifference_7 : decode cX10_findDifference 7 = .ok (.iload_n 3, 1) := by decide +kernel
theorem dX10_findDifference_8 : decode cX10_findDifference 8 = .ok (.ifCond .eq 5, 3) := by decide +kernel
theorem dX10_findDifference_11 : decode cX10_findDifference 11 = .ok (.iload_n 3, 1) := by decide +kernel
theorem dX10_findDifference_12 : decode cX10_findDifference 12 = .ok (.ireturn, 1) := by decide +kernel
theorem dX10_findDifference_13 : decode cX10_findDifference 13 = .ok (.aload_n 0, 1) := by decide +kernel
theorem dX10_findDifference_14 : decode cX10_findDifference 14 = .ok (.iload_n 1, 1) := by decide +kernel
theorem dX10_findDifference_15 : decode cX10_findDifference 15 = .ok (.iload_n 2, 1) := by decide +kernel
theorem dX10_findDifference_16 : decode cX10_findDifference 16 = .ok (.iconst 0, 1) := by decide +kernel
theorem dX10_findDifference_17 : decode cX10_findDifference 17 = .ok (.invokevirtual 307, 3) := by decide +kernel
theorem dX10_findDifference_20 : decode cX10_findDifference 20 = .ok (.istore 4, 2) := by decide +kernel
theorem dX10_findDifference_22 : decode cX10_findDifference 22 = .ok (.iload 4, 2) := by decide +kernel
theorem dX10_findDifference_24 : decode cX10_findDifference 24 = .ok (.ifCond .ge 5, 3) := by decide +kernel
theorem dX10_findDifference_27 : decode cX10_findDifference 27 = .ok (.iconst (-1), 1) := by decide +kernel
theorem dX10_findDifference_28 : decode cX10_findDifference 28 = .ok (.ireturn, 1) := by decide +kernel
theorem dX10_findDifference_29 : decode cX10_findDifference 29 = .ok (.aload_n 0, 1) := by decide +kernel
theorem dX10_findDifference_30 : decode cX10_findDifference 30 = .ok (.iconst 0, 1) := by decide +kernel
theorem dX10_findDifference_31 : decode cX10_findDifference 31 = .ok (.putfield 298, 3) := by decide +kernel
theorem dX10_findDifference_34 : decode cX10_findDifference 34 = .ok (.aload_n 0, 1) := by decide +kernel
theorem dX10_findDifference_35 : decode cX10_findDifference 35 = .ok (.iconst 0, 1) := by decide +kernel
theorem dX10_findDifference_36 : decode cX10_findDifference 36 = .ok (.putfield 301, 3) := by decide +kernel
theorem dX10_findDifference_39 : decode cX10_findDifference 39 = .ok (.aload_n 0, 1) := by decide +kernel
theorem dX10_findDifference_40 : decode cX10_findDifference 40 = .ok (.getfield 82, 3) := by decide +kernel
theorem dX10_findDifference_43 : decode cX10_findDifference 43 = .ok (.iconst 0, 1) := by decide +kernel
theorem dX10_findDifference_44 : decode cX10_findDifference 44 = .ok (.iaload, 1) := by decide +kernel
theorem dX10_findDifference_45 : decode cX10_findDifference 45 = .ok (.istore 5, 2) := by decide +kernel
theorem dX10_findDifference_47 : decode cX10_findDifference 47 = .ok (.aload_n 0, 1) := by decide +kernel
theorem dX10_findDifference_48 : decode cX10_findDifference 48 = .ok (.getfield 82, 3) := by decide +kernel
theorem dX10_findDifference_51 : decode cX10_findDifference 51 = .ok (.iload 4, 2) := by decide +kernel
theorem dX10_findDifference_53 : decode cX10_findDifference 53 = .ok (.iaload, 1) := by decide +kernel
theorem dX10_findDifference_54 : decode cX10_findDifference 54 = .ok (.istore 6, 2) := by decide +kernel
theorem dX10_findDifference_56 : decode cX10_findDifference 56 = .ok (.iload 6, 2) := by decide +kernel
theorem dX10_findDifference_58 : decode cX10_findDifference 58 = .ok (.iload 5, 2) := by decide +kernel
theorem dX10_findDifference_60 : decode cX10_findDifference 60 = .ok (.if_icmp .eq 72, 3) := by decide +kernel
theorem dX10_findDifference_63 : decode cX10_findDifference 63 = .ok (.aload_n 0, 1) := by decide +kernel
theorem dX10_findDifference_64 : decode cX10_findDifference 64 = .ok (.getfield 79, 3) := by decide +kernel
theorem dX10_findDifference_67 : decode cX10_findDifference 67 = .ok (.aload_n 0, 1) := by decide +kernel
theorem dX10_findDifference_68 : decode cX10_findDifference 68 = .ok (.getfield 298, 3) := by decide +kernel
theorem dX10_findDifference_71 : decode cX10_findDifference 71 = .ok (.aload_n 0, 1) := by decide +kernel
theorem dX10_findDifference_72 : decode cX10_findDifference 72 = .ok (.getfield 85, 3) := by decide +kernel
theorem dX10_findDifference_75 : decode cX10_findDifference 75 = .ok (.iload 6, 2) := by decide +kernel
theorem dX10_findDifference_77 : decode cX10_findDifference 77 = .ok (.iaload, 1) := by decide +kernel
theorem dX10_findDifference_78 : decode cX10_findDifference 78 = .ok (.iconst 4, 1) := by decide +kernel
theorem dX10_findDifference_79 : decode cX10_findDifference 79 = .ok (.irem, 1) := by decide +kernel
theorem dX10_findDifference_80 : decode cX10_findDifference 80 = .ok (.iastore, 1) := by decide +kernel
theorem dX10_findDifference_81 : decode cX10_findDifference 81 = .ok (.aload_n 0, 1) := by decide +kernel
theorem dX10_findDifference_82 : decode cX10_findDifference 82 = .ok (.dup, 1) := by decide +kernel
theorem dX10_findDifference_83 : decode cX10_findDifference 83 = .ok (.getfield 301, 3) := by decide +kernel
theorem dX10_findDifference_86 : decode cX10_findDifference 86 = .ok (.aload_n 0, 1) := by decide +kernel
theorem dX10_findDifference_87 : decode cX10_findDifference 87 = .ok (.getfield 19, 3) := by decide +kernel
theorem dX10_findDifference_90 : decode cX10_findDifference 90 = .ok (.iconst 3, 1) := by decide +kernel
theorem dX10_findDifference_91 : decode cX10_findDifference 91 = .ok (.iload_n 1, 1) := by decide +kernel
theorem dX10_findDifference_92 : decode cX10_findDifference 92 = .ok (.imul, 1) := by decide +kernel
theorem dX10_findDifference_93 : decode cX10_findDifference 93 = .ok (.aload_n 0, 1) := by decide +kernel
theorem dX10_findDifference_94 : decode cX10_findDifference 94 = .ok (.getfield 79, 3) := by decide +kernel
theorem dX10_findDifference_97 : decode cX10_findDifference 97 = .ok (.aload_n 0, 1) := by decide +kernel
theorem dX10_findDifference_98 : decode cX10_findDifference 98 = .ok (.getfield 298, 3) := by decide +kernel
theorem dX10_findDifference_101 : decode cX10_findDifference 101 = .ok (.iaload, 1) := by decide +kernel
theorem dX10_findDifference_102 : decode cX10_findDifference 102 = .ok (.iadd, 1) := by decide +kernel
theorem dX10_findDifference_103 : decode cX10_findDifference 103 = .ok (.iaload, 1) := by decide +kernel
theorem dX10_findDifference_104 : decode cX10_findDifference 104 = .ok (.iadd, 1) := by decide +kernel
theorem dX10_findDifference_105 : decode cX10_findDifference 105 = .ok (.putfield 301, 3) := by decide +kernel
theorem dX10_findDifference_108 : decode cX10_findDifference 108 = .ok (.aload_n 0, 1) := by decide +kernel
theorem dX10_findDifference_109 : decode cX10_findDifference 109 = .ok (.dup, 1) := by decide +kernel
theorem dX10_findDifference_110 : decode cX10_findDifference 110 = .ok (.getfield 298, 3) := by decide +kernel
theorem dX10_findDifference_113 : decode cX10_findDifference 113 = .ok (.iconst 1, 1) := by decide +kernel
theorem dX10_findDifference_114 : decode cX10_findDifference 114 = .ok (.iadd, 1) := by decide +kernel
theorem dX10_findDifference_115 : decode cX10_findDifference 115 = .ok (.putfield 298, 3) := by decide +kernel
theorem dX10_findDifference_118 : decode cX10_findDifference 118 = .ok (.aload_n 0, 1) := by decide +kernel
theorem dX10_findDifference_119 : decode cX10_findDifference 119 = .ok (.getfield 85, 3) := by decide +kernel
theorem dX10_findDifference_122 : decode cX10_findDifference 122 = .ok (.iload 6, 2) := by decide +kernel
theorem dX10_findDifference_124 : decode cX10_findDifference 124 = .ok (.iaload, 1) := by decide +kernel
theorem dX10_findDifference_125 : decode cX10_findDifference 125 = .ok (.iconst 4, 1) := by decide +kernel
theorem dX10_findDifference_126 : decode cX10_findDifference 126 = .ok (.idiv, 1) := by decide +kernel
theorem dX10_findDifference_127 : decode cX10_findDifference 127 = .ok (.istore 6, 2) := by decide +kernel
theorem dX10_findDifference_129 : decode cX10_findDifference 129 = .ok (.goto (-73), 3) := by decide +kernel
theorem dX10_findDifference_132 : decode cX10_findDifference 132 = .ok (.aload_n 0, 1) := by decide +kernel
theorem dX10_findDifference_133 : decode cX10_findDifference 133 = .ok (.getfield 298, 3) := by decide +kernel
theorem dX10_findDifference_136 : decode cX10_findDifference 136 = .ok (.ireturn, 1) := by decide +kernel
theorem dX10_foundLetter_0 : decode cX10_foundLetter 0 = .ok (.iload_n 1, 1) := by decide +kernel
theorem dX10_foundLetter_1 : decode cX10_foundLetter 1 = .ok (.iconst 0, 1) := by decide +kernel
theorem dX10_foundLetter_2 : decode cX10_foundLetter 2 = .ok (.aload_n 0, 1) := by decide +kernel
theorem dX10_foundLetter_3 : decode cX10_foundLetter 3 = .ok (.getfield 298, 3) := by decide +kernel
theorem dX10_foundLetter_6 : decode cX10_foundLetter 6 = .ok (.iconst 1, 1) := by decide +kernel
theorem dX10_foundLetter_7 : decode cX10_foundLetter 7 = .ok (.isub, 1) := by decide +kernel
theorem dX10_foundLetter_8 : decode cX10_foundLetter 8 = .ok (.invokestatic 127, 3) := by decide +kernel
theorem dX10_foundLetter_11 : decode cX10_foundLetter 11 = .ok (.ifCond .eq 12, 3) := by decide +kernel
theorem dX10_foundLetter_14 : decode cX10_foundLetter 14 = .ok (.aload_n 0, 1) := by decide +kernel
theorem dX10_foundLetter_15 : decode cX10_foundLetter 15 = .ok (.getfield 79, 3) := by decide +kernel
theorem dX10_foundLetter_18 : decode cX10_foundLetter 18 = .ok (.iload_n 1, 1) := by decide +kernel
theorem dX10_foundLetter_19 : decode cX10_foundLetter 19 = .ok (.iaload, 1) := by decide +kernel
theorem dX10_foundLetter_20 : decode cX10_foundLetter 20 = .ok (.goto 4, 3) := by decide +kernel
theorem dX10_foundLetter_23 : decode cX10_foundLetter 23 = .ok (.iconst (-1), 1) := by decide +kernel
theorem dX10_foundLetter_24 : decode cX10_foundLetter 24 = .ok (.ireturn, 1) := by decide +kernel
theorem dX10_foundCost_0 : decode cX10_foundCost 0 = .ok (.aload_n 0, 1) := by decide +kernel
theorem dX10_foundCost_1 : decode cX10_foundCost 1 = .ok (.getfield 301, 3) := by decide +kernel
theorem dX10_foundCost_4 : decode cX10_foundCost 4 = .ok (.ireturn, 1) := by decide +kernel
theorem dX10_isContained_0 : decode cX10_isContained 0 = .ok (.aload_n 0, 1) := by decide +kernel
theorem dX10_isContained_1 : decode cX10_isContained 1 = .ok (.iload_n 1, 1) := by decide +kernel
theorem dX10_isContained_2 : decode cX10_isContained 2 = .ok (.iload_n 2, 1) := by decide +kernel
theorem dX10_isContained_3 : decode cX10_isContained 3 = .ok (.invokevirtual 304, 3) := by decide +kernel
theorem dX10_isContained_6 : decode cX10_isContained 6 = .ok (.istore_n 3, 1) := by decide +kernel
theorem dX10_isContained_7 : decode cX10_isContained 7 = .ok (.iload_n 3, 1) := by decide +kernel
theorem dX10_isContained_8 : decode cX10_isContained 8 = .ok (.ifCond .eq 5, 3) := by decide +kernel
theorem dX10_isContained_11 : decode cX10_isContained 11 = .ok (.iload_n 3, 1) := by decide +kernel
theorem dX10_isContained_12 : decode cX10_isContained 12 = .ok (.ireturn, 1) := by decide +kernel
theorem dX10_isContained_13 : decode cX10_isContained 13 = .ok (.aload_n 0, 1) := by decide +kernel
theorem dX10_isContained_14 : decode cX10_isContained 14 = .ok (.iload_n 1, 1) := by decide +kernel
theorem dX10_isContained_15 : decode cX10_isContained 15 = .ok (.iload_n 2, 1) := by decide +kernel
theorem dX10_isContained_16 : decode cX10_isContained 16 = .ok (.iconst 1, 1) := by decide +kernel
theorem dX10_isContained_17 : decode cX10_isContained 17 = .ok (.invokevirtual 307, 3) := by decide +kernel
theorem dX10_isContained_20 : decode cX10_isContained 20 = .ok (.ifCond .ge 7, 3) := by decide +kernel
theorem dX10_isContained_23 : decode cX10_isContained 23 = .ok (.iconst 1, 1) := by decide +kernel
theorem dX10_isContained_24 : decode cX10_isContained 24 = .ok (.goto 4, 3) := by decide +kernel
theorem dX10_isContained_27 : decode cX10_isContained 27 = .ok (.iconst 0, 1) := by decide +kernel
theorem dX10_isContained_28 : decode cX10_isContained 28 = .ok (.ireturn, 1) := by decide +kernel
theorem dX10_countWords_0 : decode cX10_countWords 0 = .ok (.iload_n 1, 1) := by decide +kernel
theorem dX10_countWords_1 : decode cX10_countWords 1 = .ok (.invokestatic 123, 3) := by decide +kernel
theorem dX10_countWords_4 : decode cX10_countWords 4 = .ok (.ifCond .eq 13, 3) := by decide +kernel
theorem dX10_countWords_7 : decode cX10_countWords 7 = .ok (.iload_n 2, 1) := by decide +kernel
theorem dX10_countWords_8 : decode cX10_countWords 8 = .ok (.iconst 0, 1) := by decide +kernel
theorem dX10_countWords_9 : decode cX10_countWords 9 = .ok (.bipush 20, 2) := by decide +kernel
theorem dX10_countWords_11 : decode cX10_countWords 11 = .ok (.invokestatic 127, 3) := by decide +kernel
theorem dX10_countWords_14 : decode cX10_countWords 14 = .ok (.ifCond .ne 7, 3) := by decide +kernel
theorem dX10_countWords_17 : decode cX10_countWords 17 = .ok (.ldc2_w 311, 3) := by decide +kernel
theorem dX10_countWords_20 : decode cX10_countWords 20 = .ok (.lreturn, 1) := by decide +kernel
theorem dX10_countWords_21 : decode cX10_countWords 21 = .ok (.aload_n 0, 1) := by decide +kernel
theorem dX10_countWords_22 : decode cX10_countWords 22 = .ok (.iload_n 1, 1) := by decide +kernel
theorem dX10_countWords_23 : decode cX10_countWords 23 = .ok (.invokevirtual 273, 3) := by decide +kernel
theorem dX10_countWords_26 : decode cX10_countWords 26 = .ok (.iconst 0, 1) := by decide +kernel
theorem dX10_countWords_27 : decode cX10_countWords 27 = .ok (.istore_n 3, 1) := by decide +kernel
theorem dX10_countWords_28 : decode cX10_countWords 28 = .ok (.iload_n 3, 1) := by decide +kernel
theorem dX10_countWords_29 : decode cX10_countWords 29 = .ok (.aload_n 0, 1) := by decide +kernel
theorem dX10_countWords_30 : decode cX10_countWords 30 = .ok (.getfield 264, 3) := by decide +kernel
theorem dX10_countWords_33 : decode cX10_countWords 33 = .ok (.if_icmp .ge 24, 3) := by decide +kernel
theorem dX10_countWords_36 : decode cX10_countWords 36 = .ok (.aload_n 0, 1) := by decide +kernel
theorem dX10_countWords_37 : decode cX10_countWords 37 = .ok (.getfield 104, 3) := by decide +kernel
theorem dX10_countWords_40 : decode cX10_countWords 40 = .ok (.iload_n 3, 1) := by decide +kernel
theorem dX10_countWords_41 : decode cX10_countWords 41 = .ok (.iload_n 3, 1) := by decide +kernel
theorem dX10_countWords_42 : decode cX10_countWords 42 = .ok (.ifCond .ne 7, 3) := by decide +kernel
theorem dX10_countWords_45 : decode cX10_countWords 45 = .ok (.lconst 1, 1) := by decide +kernel
theorem dX10_countWords_46 : decode cX10_countWords 46 = .ok (.goto 4, 3) := by decide +kernel
theorem dX10_countWords_49 : decode cX10_countWords 49 = .ok (.lconst 0, 1) := by decide +kernel
theorem dX10_countWords_50 : decode cX10_countWords 50 = .ok (.lastore, 1) := by decide +kernel
theorem dX10_countWords_51 : decode cX10_countWords 51 = .ok (.iinc 3 1, 3) := by decide +kernel
theorem dX10_countWords_54 : decode cX10_countWords 54 = .ok (.goto (-26), 3) := by decide +kernel
theorem dX10_countWords_57 : decode cX10_countWords 57 = .ok (.iconst 0, 1) := by decide +kernel
theorem dX10_countWords_58 : decode cX10_countWords 58 = .ok (.istore_n 3, 1) := by decide +kernel
theorem dX10_countWords_59 : decode cX10_countWords 59 = .ok (.iload_n 3, 1) := by decide +kernel
theorem dX10_countWords_60 : decode cX10_countWords 60 = .ok (.iload_n 2, 1) := by decide +kernel
theorem dX10_countWords_61 : decode cX10_countWords 61 = .ok (.if_icmp .ge 151, 3) := by decide +kernel
theorem dX10_countWords_64 : decode cX10_countWords 64 = .ok (.iconst 0, 1) := by decide +kernel
theorem dX10_countWords_65 : decode cX10_countWords 65 = .ok (.istore 4, 2) := by decide +kernel
theorem dX10_countWords_67 : decode cX10_countWords 67 = .ok (.iload 4, 2) := by decide +kernel
theorem dX10_countWords_69 : decode cX10_countWords 69 = .ok (.aload_n 0, 1) := by decide +kernel
theorem dX10_countWords_70 : decode cX10_countWords 70 = .ok (.getfield 264, 3) := by decide +kernel
theorem dX10_countWords_73 : decode cX10_countWords 73 = .ok (.if_icmp .ge 17, 3) := by decide +kernel
theorem dX10_countWords_76 : decode cX10_countWords 76 = .ok (.aload_n 0, 1) := by decide +kernel
theorem dX10_countWords_77 : decode cX10_countWords 77 = .ok (.getfield 108, 3) := by decide +kernel
theorem dX10_countWords_80 : decode cX10_countWords 80 = .ok (.iload 4, 2) := by decide +kernel
theorem dX10_countWords_82 : decode cX10_countWords 82 = .ok (.lconst 0, 1) := by decide +kernel
theorem dX10_countWords_83 : decode cX10_countWords 83 = .ok (.lastore, 1) := by decide +kernel
theorem dX10_countWords_84 : decode cX10_countWords 84 = .ok (.iinc 4 1, 3) := by decide +kernel
theorem dX10_countWords_87 : decode cX10_countWords 87 = .ok (.goto (-20), 3) := by decide +kernel
theorem dX10_countWords_90 : decode cX10_countWords 90 = .ok (.iconst 0, 1) := by decide +kernel
theorem dX10_countWords_91 : decode cX10_countWords 91 = .ok (.istore 4, 2) := by decide +kernel
theorem dX10_countWords_93 : decode cX10_countWords 93 = .ok (.iload 4, 2) := by decide +kernel
theorem dX10_countWords_95 : decode cX10_countWords 95 = .ok (.aload_n 0, 1) := by decide +kernel
theorem dX10_countWords_96 : decode cX10_countWords 96 = .ok (.getfield 264, 3) := by decide +kernel
theorem dX10_countWords_99 : decode cX10_countWords 99 = .ok (.if_icmp .ge 75, 3) := by decide +kernel
theorem dX10_countWords_102 : decode cX10_countWords 102 = .ok (.iconst 0, 1) := by decide +kernel
theorem dX10_countWords_103 : decode cX10_countWords 103 = .ok (.istore 5, 2) := by decide +kernel
theorem dX10_countWords_105 : decode cX10_countWords 105 = .ok (.iload 5, 2) := by decide +kernel
theorem dX10_countWords_107 : decode cX10_countWords 107 = .ok (.aload_n 0, 1) := by decide +kernel
theorem dX10_countWords_108 : decode cX10_countWords 108 = .ok (.getfield 13, 3) := by decide +kernel
theorem dX10_countWords_111 : decode cX10_countWords 111 = .ok (.iload_n 1, 1) := by decide +kernel
theorem dX10_countWords_112 : decode cX10_countWords 112 = .ok (.iaload, 1) := by decide +kernel
theorem dX10_countWords_113 : decode cX10_countWords 113 = .ok (.if_icmp .ge 55, 3) := by decide +kernel
theorem dX10_countWords_116 : decode cX10_countWords 116 = .ok (.aload_n 0, 1) := by decide +kernel
theorem dX10_countWords_117 : decode cX10_countWords 117 = .ok (.getfield 104, 3) := by decide +kernel
theorem dX10_countWords_120 : decode cX10_countWords 120 = .ok (.iload 4, 2) := by decide +kernel
theorem dX10_countWords_122 : decode cX10_countWords 122 = .ok (.laload, 1) := by decide +kernel
theorem dX10_countWords_123 : decode cX10_countWords 123 = .ok (.lconst 0, 1) := by decide +kernel
theorem dX10_countWords_124 : decode cX10_countWords 124 = .ok (.lcmp, 1) := by decide +kernel
theorem dX10_countWords_125 : decode cX10_countWords 125 = .ok (.ifCond .le 43, 3) := by decide +kernel
theorem dX10_countWords_128 : decode cX10_countWords 128 = .ok (.aload_n 0, 1) := by decide +kernel
theorem dX10_countWords_129 : decode cX10_countWords 129 = .ok (.getfield 108, 3) := by decide +kernel
theorem dX10_countWords_132 : decode cX10_countWords 132 = .ok (.aload_n 0, 1) := by decide +kernel
theorem dX10_countWords_133 : decode cX10_countWords 133 = .ok (.getfield 67, 3) := by decide +kernel
theorem dX10_countWords_136 : decode cX10_countWords 136 = .ok (.aload_n 0, 1) := by decide +kernel
theorem dX10_countWords_137 : decode cX10_countWords 137 = .ok (.iload_n 1, 1) := by decide +kernel
theorem dX10_countWords_138 : decode cX10_countWords 138 = .ok (.iload 5, 2) := by decide +kernel
theorem dX10_countWords_140 : decode cX10_countWords 140 = .ok (.aload_n 0, 1) := by decide +kernel
theorem dX10_countWords_141 : decode cX10_countWords 141 = .ok (.getfield 64, 3) := by decide +kernel
theorem dX10_countWords_144 : decode cX10_countWords 144 = .ok (.iload 4, 2) := by decide +kernel
theorem dX10_countWords_146 : decode cX10_countWords 146 = .ok (.iaload, 1) := by decide +kernel
theorem dX10_countWords_147 : decode cX10_countWords 147 = .ok (.invokevirtual 240, 3) := by decide +kernel
theorem dX10_countWords_150 : decode cX10_countWords 150 = .ok (.iaload, 1) := by decide +kernel
theorem dX10_countWords_151 : decode cX10_countWords 151 = .ok (.dup2, 1) := by decide +kernel
theorem dX10_countWords_152 : decode cX10_countWords 152 = .ok (.laload, 1) := by decide +kernel
theorem dX10_countWords_153 : decode cX10_countWords 153 = .ok (.aload_n 0, 1) := by decide +kernel
theorem dX10_countWords_154 : decode cX10_countWords 154 = .ok (.getfield 104, 3) := by decide +kernel
theorem dX10_countWords_157 : decode cX10_countWords 157 = .ok (.iload 4, 2) := by decide +kernel
theorem dX10_countWords_159 : decode cX10_countWords 159 = .ok (.laload, 1) := by decide +kernel
theorem dX10_countWords_160 : decode cX10_countWords 160 = .ok (.ladd, 1) := by decide +kernel
theorem dX10_countWords_161 : decode cX10_countWords 161 = .ok (.lastore, 1) := by decide +kernel
theorem dX10_countWords_162 : decode cX10_countWords 162 = .ok (.iinc 5 1, 3) := by decide +kernel
theorem dX10_countWords_165 : decode cX10_countWords 165 = .ok (.goto (-60), 3) := by decide +kernel
theorem dX10_countWords_168 : decode cX10_countWords 168 = .ok (.iinc 4 1, 3) := by decide +kernel
theorem dX10_countWords_171 : decode cX10_countWords 171 = .ok (.goto (-78), 3) := by decide +kernel
theorem dX10_countWords_174 : decode cX10_countWords 174 = .ok (.iconst 0, 1) := by decide +kernel
theorem dX10_countWords_175 : decode cX10_countWords 175 = .ok (.istore 4, 2) := by decide +kernel
theorem dX10_countWords_177 : decode cX10_countWords 177 = .ok (.iload 4, 2) := by decide +kernel
theorem dX10_countWords_179 : decode cX10_countWords 179 = .ok (.aload_n 0, 1) := by decide +kernel
theorem dX10_countWords_180 : decode cX10_countWords 180 = .ok (.getfield 264, 3) := by decide +kernel
theorem dX10_countWords_183 : decode cX10_countWords 183 = .ok (.if_icmp .ge 23, 3) := by decide +kernel
theorem dX10_countWords_186 : decode cX10_countWords 186 = .ok (.aload_n 0, 1) := by decide +kernel
theorem dX10_countWords_187 : decode cX10_countWords 187 = .ok (.getfield 104, 3) := by decide +kernel
theorem dX10_countWords_190 : decode cX10_countWords 190 = .ok (.iload 4, 2) := by decide +kernel
theorem dX10_countWords_192 : decode cX10_countWords 192 = .ok (.aload_n 0, 1) := by decide +kernel
theorem dX10_countWords_193 : decode cX10_countWords 193 = .ok (.getfield 108, 3) := by decide +kernel
theorem dX10_countWords_196 : decode cX10_countWords 196 = .ok (.iload 4, 2) := by decide +kernel
theorem dX10_countWords_198 : decode cX10_countWords 198 = .ok (.laload, 1) := by decide +kernel
theorem dX10_countWords_199 : decode cX10_countWords 199 = .ok (.lastore, 1) := by decide +kernel
theorem dX10_countWords_200 : decode cX10_countWords 200 = .ok (.iinc 4 1, 3) := by decide +kernel
theorem dX10_countWords_203 : decode cX10_countWords 203 = .ok (.goto (-26), 3) := by decide +kernel
theorem dX10_countWords_206 : decode cX10_countWords 206 = .ok (.iinc 3 1, 3) := by decide +kernel
theorem dX10_countWords_209 : decode cX10_countWords 209 = .ok (.goto (-150), 3) := by decide +kernel
theorem dX10_countWords_212 : decode cX10_countWords 212 = .ok (.lconst 0, 1) := by decide +kernel
theorem dX10_countWords_213 : decode cX10_countWords 213 = .ok (.lstore_n 3, 1) := by decide +kernel
theorem dX10_countWords_214 : decode cX10_countWords 214 = .ok (.iconst 0, 1) := by decide +kernel
theorem dX10_countWords_215 : decode cX10_countWords 215 = .ok (.istore 5, 2) := by decide +kernel
theorem dX10_countWords_217 : decode cX10_countWords 217 = .ok (.iload 5, 2) := by decide +kernel
theorem dX10_countWords_219 : decode cX10_countWords 219 = .ok (.aload_n 0, 1) := by decide +kernel
theorem dX10_countWords_220 : decode cX10_countWords 220 = .ok (.getfield 264, 3) := by decide +kernel
theorem dX10_countWords_223 : decode cX10_countWords 223 = .ok (.if_icmp .ge 38, 3) := by decide +kernel
theorem dX10_countWords_226 : decode cX10_countWords 226 = .ok (.lload_n 3, 1) := by decide +kernel
theorem dX10_countWords_227 : decode cX10_countWords 227 = .ok (.aload_n 0, 1) := by decide +kernel
theorem dX10_countWords_228 : decode cX10_countWords 228 = .ok (.iload_n 1, 1) := by decide +kernel
theorem dX10_countWords_229 : decode cX10_countWords 229 = .ok (.aload_n 0, 1) := by decide +kernel
theorem dX10_countWords_230 : decode cX10_countWords 230 = .ok (.getfield 64, 3) := by decide +kernel
theorem dX10_countWords_233 : decode cX10_countWords 233 = .ok (.iload 5, 2) := by decide +kernel
theorem dX10_countWords_235 : decode cX10_countWords 235 = .ok (.iaload, 1) := by decide +kernel
theorem dX10_countWords_236 : decode cX10_countWords 236 = .ok (.invokevirtual 249, 3) := by decide +kernel
theorem dX10_countWords_239 : decode cX10_countWords 239 = .ok (.ifCond .eq 13, 3) := by decide +kernel
theorem dX10_countWords_242 : decode cX10_countWords 242 = .ok (.aload_n 0, 1) := by decide +kernel
theorem dX10_countWords_243 : decode cX10_countWords 243 = .ok (.getfield 104, 3) := by decide +kernel
theorem dX10_countWords_246 : decode cX10_countWords 246 = .ok (.iload 5, 2) := by decide +kernel
theorem dX10_countWords_248 : decode cX10_countWords 248 = .ok (.laload, 1) := by decide +kernel
theorem dX10_countWords_249 : decode cX10_countWords 249 = .ok (.goto 4, 3) := by decide +kernel
theorem dX10_countWords_252 : decode cX10_countWords 252 = .ok (.lconst 0, 1) := by decide +kernel
theorem dX10_countWords_253 : decode cX10_countWords 253 = .ok (.ladd, 1) := by decide +kernel
theorem dX10_countWords_254 : decode cX10_countWords 254 = .ok (.lstore_n 3, 1) := by decide +kernel
theorem dX10_countWords_255 : decode cX10_countWords 255 = .ok (.iinc 5 1, 3) := by decide +kernel
theorem dX10_countWords_258 : decode cX10_countWords 258 = .ok (.goto (-41), 3) := by decide +kernel
theorem dX10_countWords_261 : decode cX10_countWords 261 = .ok (.lload_n 3, 1) := by decide +kernel
theorem dX10_countWords_262 : decode cX10_countWords 262 = .ok (.lreturn, 1) := by decide +kernel
theorem dX10_dualOf_0 : decode cX10_dualOf 0 = .ok (.iload_n 0, 1) := by decide +kernel
theorem dX10_dualOf_1 : decode cX10_dualOf 1 = .ok (.bipush 8, 2) := by decide +kernel
theorem dX10_dualOf_3 : decode cX10_dualOf 3 = .ok (.if_icmp .ne 8, 3) := by decide +kernel
theorem dX10_dualOf_6 : decode cX10_dualOf 6 = .ok (.bipush 9, 2) := by decide +kernel
theorem dX10_dualOf_8 : decode cX10_dualOf 8 = .ok (.goto 37, 3) := by decide +kernel
theorem dX10_dualOf_11 : decode cX10_dualOf 11 = .ok (.iload_n 0, 1) := by decide +kernel
theorem dX10_dualOf_12 : decode cX10_dualOf 12 = .ok (.bipush 9, 2) := by decide +kernel
theorem dX10_dualOf_14 : decode cX10_dualOf 14 = .ok (.if_icmp .ne 8, 3) := by decide +kernel
theorem dX10_dualOf_17 : decode cX10_dualOf 17 = .ok (.bipush 8, 2) := by decide +kernel
theorem dX10_dualOf_19 : decode cX10_dualOf 19 = .ok (.goto 26, 3) := by decide +kernel
theorem dX10_dualOf_22 : decode cX10_dualOf 22 = .ok (.iload_n 0, 1) := by decide +kernel
theorem dX10_dualOf_23 : decode cX10_dualOf 23 = .ok (.bipush 10, 2) := by decide +kernel
theorem dX10_dualOf_25 : decode cX10_dualOf 25 = .ok (.if_icmp .ne 8, 3) := by decide +kernel
theorem dX10_dualOf_28 : decode cX10_dualOf 28 = .ok (.bipush 11, 2) := by decide +kernel
theorem dX10_dualOf_30 : decode cX10_dualOf 30 = .ok (.goto 15, 3) := by decide +kernel
theorem dX10_dualOf_33 : decode cX10_dualOf 33 = .ok (.iload_n 0, 1) := by decide +kernel
theorem dX10_dualOf_34 : decode cX10_dualOf 34 = .ok (.bipush 11, 2) := by decide +kernel
theorem dX10_dualOf_36 : decode cX10_dualOf 36 = .ok (.if_icmp .ne 8, 3) := by decide +kernel
theorem dX10_dualOf_39 : decode cX10_dualOf 39 = .ok (.bipush 10, 2) := by decide +kernel
theorem dX10_dualOf_41 : decode cX10_dualOf 41 = .ok (.goto 4, 3) := by decide +kernel
theorem dX10_dualOf_44 : decode cX10_dualOf 44 = .ok (.iload_n 0, 1) := by decide +kernel
theorem dX10_dualOf_45 : decode cX10_dualOf 45 = .ok (.ireturn, 1) := by decide +kernel
theorem dX10_dualize_0 : decode cX10_dualize 0 = .ok (.iload_n 1, 1) := by decide +kernel
theorem dX10_dualize_1 : decode cX10_dualize 1 = .ok (.invokestatic 123, 3) := by decide +kernel
theorem dX10_dualize_4 : decode cX10_dualize 4 = .ok (.ifCond .eq 10, 3) := by decide +kernel
theorem dX10_dualize_7 : decode cX10_dualize 7 = .ok (.iload_n 2, 1) := by decide +kernel
theorem dX10_dualize_8 : decode cX10_dualize 8 = .ok (.invokestatic 123, 3) := by decide +kernel
theorem dX10_dualize_11 : decode cX10_dualize 11 = .ok (.ifCond .ne 6, 3) := by decide +kernel
theorem dX10_dualize_14 : decode cX10_dualize 14 = .ok (.bipush (-2), 2) := by decide +kernel
theorem dX10_dualize_16 : decode cX10_dualize 16 = .ok (.ireturn, 1) := by decide +kernel
theorem dX10_dualize_17 : decode cX10_dualize 17 = .ok (.aload_n 0, 1) := by decide +kernel
theorem dX10_dualize_18 : decode cX10_dualize 18 = .ok (.iload_n 1, 1) := by decide +kernel
theorem dX10_dualize_19 : decode cX10_dualize 19 = .ok (.iload_n 2, 1) := by decide +kernel
theorem dX10_dualize_20 : decode cX10_dualize 20 = .ok (.invokevirtual 313, 3) := by decide +kernel
theorem dX10_dualize_23 : decode cX10_dualize 23 = .ok (.aload_n 0, 1) := by decide +kernel
theorem dX10_dualize_24 : decode cX10_dualize 24 = .ok (.getfield 16, 3) := by decide +kernel
theorem dX10_dualize_27 : decode cX10_dualize 27 = .ok (.iload_n 2, 1) := by decide +kernel
theorem dX10_dualize_28 : decode cX10_dualize 28 = .ok (.aload_n 0, 1) := by decide +kernel
theorem dX10_dualize_29 : decode cX10_dualize 29 = .ok (.iload_n 2, 1) := by decide +kernel
theorem dX10_dualize_30 : decode cX10_dualize 30 = .ok (.invokevirtual 115, 3) := by decide +kernel
theorem dX10_dualize_33 : decode cX10_dualize 33 = .ok (.aload_n 0, 1) := by decide +kernel
theorem dX10_dualize_34 : decode cX10_dualize 34 = .ok (.getfield 16, 3) := by decide +kernel
theorem dX10_dualize_37 : decode cX10_dualize 37 = .ok (.iload_n 2, 1) := by decide +kernel
theorem dX10_dualize_38 : decode cX10_dualize 38 = .ok (.iaload, 1) := by decide +kernel
theorem dX10_dualize_39 : decode cX10_dualize 39 = .ok (.iconst (-1), 1) := by decide +kernel
theorem dX10_dualize_40 : decode cX10_dualize 40 = .ok (.ixor, 1) := by decide +kernel
theorem dX10_dualize_41 : decode cX10_dualize 41 = .ok (.iand, 1) := by decide +kernel
theorem dX10_dualize_42 : decode cX10_dualize 42 = .ok (.iastore, 1) := by decide +kernel
theorem dX10_dualize_43 : decode cX10_dualize 43 = .ok (.iconst 0, 1) := by decide +kernel
theorem dX10_dualize_44 : decode cX10_dualize 44 = .ok (.istore_n 3, 1) := by decide +kernel
theorem dX10_dualize_45 : decode cX10_dualize 45 = .ok (.iload_n 3, 1) := by decide +kernel
theorem dX10_dualize_46 : decode cX10_dualize 46 = .ok (.bipush 19, 2) := by decide +kernel
theorem dX10_dualize_48 : decode cX10_dualize 48 = .ok (.if_icmp .ge 60, 3) := by decide +kernel
theorem dX10_dualize_51 : decode cX10_dualize 51 = .ok (.iconst 0, 1) := by decide +kernel
theorem dX10_dualize_52 : decode cX10_dualize 52 = .ok (.istore 4, 2) := by decide +kernel
theorem dX10_dualize_54 : decode cX10_dualize 54 = .ok (.iload 4, 2) := by decide +kernel
theorem dX10_dualize_56 : decode cX10_dualize 56 = .ok (.aload_n 0, 1) := by decide +kernel
theorem dX10_dualize_57 : decode cX10_dualize 57 = .ok (.iload_n 2, 1) := by decide +kernel
theorem dX10_dualize_58 : decode cX10_dualize 58 = .ok (.iload_n 3, 1) := by decide +kernel
theorem dX10_dualize_59 : decode cX10_dualize 59 = .ok (.invokevirtual 196, 3) := by decide +kernel
theorem dX10_dualize_62 : decode cX10_dualize 62 = .ok (.if_icmp .ge 40, 3) := by decide +kernel
theorem dX10_dualize_65 : decode cX10_dualize 65 = .ok (.aload_n 0, 1) := by decide +kernel
theorem dX10_dualize_66 : decode cX10_dualize 66 = .ok (.getfield 25, 3) := by decide +kernel
theorem dX10_dualize_69 : decode cX10_dualize 69 = .ok (.aload_n 0, 1) := by decide +kernel
theorem dX10_dualize_70 : decode cX10_dualize 70 = .ok (.iload_n 2, 1) := by decide +kernel
theorem dX10_dualize_71 : decode cX10_dualize 71 = .ok (.iload_n 3, 1) := by decide +kernel
theorem dX10_dualize_72 : decode cX10_dualize 72 = .ok (.invokevirtual 119, 3) := by decide +kernel
theorem dX10_dualize_75 : decode cX10_dualize 75 = .ok (.iload 4, 2) := by decide +kernel
theorem dX10_dualize_77 : decode cX10_dualize 77 = .ok (.iadd, 1) := by decide +kernel
theorem dX10_dualize_78 : decode cX10_dualize 78 = .ok (.aload_n 0, 1) := by decide +kernel
theorem dX10_dualize_79 : decode cX10_dualize 79 = .ok (.getfield 25, 3) := by decide +kernel
theorem dX10_dualize_82 : decode cX10_dualize 82 = .ok (.aload_n 0, 1) := by decide +kernel
theorem dX10_dualize_83 : decode cX10_dualize 83 = .ok (.iload_n 2, 1) := by decide +kernel
theorem dX10_dualize_84 : decode cX10_dualize 84 = .ok (.iload_n 3, 1) := by decide +kernel
theorem dX10_dualize_85 : decode cX10_dualize 85 = .ok (.invokevirtual 119, 3) := by decide +kernel
theorem dX10_dualize_88 : decode cX10_dualize 88 = .ok (.iload 4, 2) := by decide +kernel
theorem dX10_dualize_90 : decode cX10_dualize 90 = .ok (.iadd, 1) := by decide +kernel
theorem dX10_dualize_91 : decode cX10_dualize 91 = .ok (.iaload, 1) := by decide +kernel
theorem dX10_dualize_92 : decode cX10_dualize 92 = .ok (.invokestatic 316, 3) := by decide +kernel
theorem dX10_dualize_95 : decode cX10_dualize 95 = .ok (.iastore, 1) := by decide +kernel
theorem dX10_dualize_96 : decode cX10_dualize 96 = .ok (.iinc 4 1, 3) := by decide +kernel
theorem dX10_dualize_99 : decode cX10_dualize 99 = .ok (.goto (-45), 3) := by decide +kernel
theorem dX10_dualize_102 : decode cX10_dualize 102 = .ok (.iinc 3 1, 3) := by decide +kernel
theorem dX10_dualize_105 : decode cX10_dualize 105 = .ok (.goto (-60), 3) := by decide +kernel
theorem dX10_dualize_108 : decode cX10_dualize 108 = .ok (.aload_n 0, 1) := by decide +kernel
theorem dX10_dualize_109 : decode cX10_dualize 109 = .ok (.getfield 16, 3) := by decide +kernel
theorem dX10_dualize_112 : decode cX10_dualize 112 = .ok (.iload_n 2, 1) := by decide +kernel
theorem dX10_dualize_113 : decode cX10_dualize 113 = .ok (.iaload, 1) := by decide +kernel
theorem dX10_dualize_114 : decode cX10_dualize 114 = .ok (.ireturn, 1) := by decide +kernel
theorem dX10_adds_0 : decode cX10_adds 0 = .ok (.iconst 0, 1) := by decide +kernel
theorem dX10_adds_1 : decode cX10_adds 1 = .ok (.istore 5, 2) := by decide +kernel
theorem dX10_adds_3 : decode cX10_adds 3 = .ok (.iload 5, 2) := by decide +kernel
theorem dX10_adds_5 : decode cX10_adds 5 = .ok (.aload_n 0, 1) := by decide +kernel
theorem dX10_adds_6 : decode cX10_adds 6 = .ok (.iload_n 1, 1) := by decide +kernel
theorem dX10_adds_7 : decode cX10_adds 7 = .ok (.iload_n 2, 1) := by decide +kernel
theorem dX10_adds_8 : decode cX10_adds 8 = .ok (.invokevirtual 196, 3) := by decide +kernel
theorem dX10_adds_11 : decode cX10_adds 11 = .ok (.if_icmp .ge 77, 3) := by decide +kernel
theorem dX10_adds_14 : decode cX10_adds 14 = .ok (.aload_n 0, 1) := by decide +kernel
theorem dX10_adds_15 : decode cX10_adds 15 = .ok (.getfield 25, 3) := by decide +kernel
theorem dX10_adds_18 : decode cX10_adds 18 = .ok (.aload_n 0, 1) := by decide +kernel
theorem dX10_adds_19 : decode cX10_adds 19 = .ok (.iload_n 1, 1) := by decide +kernel
theorem dX10_adds_20 : decode cX10_adds 20 = .ok (.iload_n 2, 1) := by decide +kernel
theorem dX10_adds_21 : decode cX10_adds 21 = .ok (.invokevirtual 119, 3) := by decide +kernel
theorem dX10_adds_24 : decode cX10_adds 24 = .ok (.iload 5, 2) := by decide +kernel
theorem dX10_adds_26 : decode cX10_adds 26 = .ok (.iadd, 1) := by decide +kernel
theorem dX10_adds_27 : decode cX10_adds 27 = .ok (.iaload, 1) := by decide +kernel
theorem dX10_adds_28 : decode cX10_adds 28 = .ok (.istore 6, 2) := by decide +kernel
theorem dX10_adds_30 : decode cX10_adds 30 = .ok (.aload_n 0, 1) := by decide +kernel
theorem dX10_adds_31 : decode cX10_adds 31 = .ok (.getfield 25, 3) := by decide +kernel
theorem dX10_adds_34 : decode cX10_adds 34 = .ok (.aload_n 0, 1) := by decide +kernel
theorem dX10_adds_35 : decode cX10_adds 35 = .ok (.bipush 6, 2) := by decide +kernel
theorem dX10_adds_37 : decode cX10_adds 37 = .ok (.iload_n 3, 1) := by decide +kernel
theorem dX10_adds_38 : decode cX10_adds 38 = .ok (.invokevirtual 119, 3) := by decide +kernel
theorem dX10_adds_41 : decode cX10_adds 41 = .ok (.aload_n 0, 1) := by decide +kernel
theorem dX10_adds_42 : decode cX10_adds 42 = .ok (.getfield 22, 3) := by decide +kernel
theorem dX10_adds_45 : decode cX10_adds 45 = .ok (.bipush 114, 2) := by decide +kernel
theorem dX10_adds_47 : decode cX10_adds 47 = .ok (.iload_n 3, 1) := by decide +kernel
theorem dX10_adds_48 : decode cX10_adds 48 = .ok (.iadd, 1) := by decide +kernel
theorem dX10_adds_49 : decode cX10_adds 49 = .ok (.iaload, 1) := by decide +kernel
theorem dX10_adds_50 : decode cX10_adds 50 = .ok (.iadd, 1) := by decide +kernel
theorem dX10_adds_51 : decode cX10_adds 51 = .ok (.iload 6, 2) := by decide +kernel
theorem dX10_adds_53 : decode cX10_adds 53 = .ok (.bipush 8, 2) := by decide +kernel
theorem dX10_adds_55 : decode cX10_adds 55 = .ok (.if_icmp .ge 11, 3) := by decide +kernel
theorem dX10_adds_58 : decode cX10_adds 58 = .ok (.iload 6, 2) := by decide +kernel
theorem dX10_adds_60 : decode cX10_adds 60 = .ok (.iload 4, 2) := by decide +kernel
theorem dX10_adds_62 : decode cX10_adds 62 = .ok (.iadd, 1) := by decide +kernel
theorem dX10_adds_63 : decode cX10_adds 63 = .ok (.goto 5, 3) := by decide +kernel
theorem dX10_adds_66 : decode cX10_adds 66 = .ok (.iload 6, 2) := by decide +kernel
theorem dX10_adds_68 : decode cX10_adds 68 = .ok (.iastore, 1) := by decide +kernel
theorem dX10_adds_69 : decode cX10_adds 69 = .ok (.aload_n 0, 1) := by decide +kernel
theorem dX10_adds_70 : decode cX10_adds 70 = .ok (.getfield 22, 3) := by decide +kernel
theorem dX10_adds_73 : decode cX10_adds 73 = .ok (.bipush 114, 2) := by decide +kernel
theorem dX10_adds_75 : decode cX10_adds 75 = .ok (.iload_n 3, 1) := by decide +kernel
theorem dX10_adds_76 : decode cX10_adds 76 = .ok (.iadd, 1) := by decide +kernel
theorem dX10_adds_77 : decode cX10_adds 77 = .ok (.dup2, 1) := by decide +kernel
theorem dX10_adds_78 : decode cX10_adds 78 = .ok (.iaload, 1) := by decide +kernel
theorem dX10_adds_79 : decode cX10_adds 79 = .ok (.iconst 1, 1) := by decide +kernel
theorem dX10_adds_80 : decode cX10_adds 80 = .ok (.iadd, 1) := by decide +kernel
theorem dX10_adds_81 : decode cX10_adds 81 = .ok (.iastore, 1) := by decide +kernel
theorem dX10_adds_82 : decode cX10_adds 82 = .ok (.iinc 5 1, 3) := by decide +kernel
theorem dX10_adds_85 : decode cX10_adds 85 = .ok (.goto (-82), 3) := by decide +kernel
theorem dX10_adds_88 : decode cX10_adds 88 = .ok (.return_, 1) := by decide +kernel
theorem dX10_combine_0 : decode cX10_combine 0 = .ok (.iload_n 1, 1) := by decide +kernel
theorem dX10_combine_1 : decode cX10_combine 1 = .ok (.invokestatic 123, 3) := by decide +kernel
theorem dX10_combine_4 : decode cX10_combine 4 = .ok (.ifCond .eq 27, 3) := by decide +kernel
theorem dX10_combine_7 : decode cX10_combine 7 = .ok (.iload_n 2, 1) := by decide +kernel
theorem dX10_combine_8 : decode cX10_combine 8 = .ok (.invokestatic 123, 3) := by decide +kernel
theorem dX10_combine_11 : decode cX10_combine 11 = .ok (.ifCond .eq 20, 3) := by decide +kernel
theorem dX10_combine_14 : decode cX10_combine 14 = .ok (.iload_n 3, 1) := by decide +kernel
theorem dX10_combine_15 : decode cX10_combine 15 = .ok (.invokestatic 123, 3) := by decide +kernel
theorem dX10_combine_18 : decode cX10_combine 18 = .ok (.ifCond .eq 13, 3) := by decide +kernel
theorem dX10_combine_21 : decode cX10_combine 21 = .ok (.iload 4, 2) := by decide +kernel
theorem dX10_combine_23 : decode cX10_combine 23 = .ok (.iconst 0, 1) := by decide +kernel
theorem dX10_combine_24 : decode cX10_combine 24 = .ok (.iconst 1, 1) := by decide +kernel
theorem dX10_combine_25 : decode cX10_combine 25 = .ok (.invokestatic 127, 3) := by decide +kernel
theorem dX10_combine_28 : decode cX10_combine 28 = .ok (.ifCond .ne 6, 3) := by decide +kernel
theorem dX10_combine_31 : decode cX10_combine 31 = .ok (.bipush (-2), 2) := by decide +kernel
theorem dX10_combine_33 : decode cX10_combine 33 = .ok (.ireturn, 1) := by decide +kernel
theorem dX10_combine_34 : decode cX10_combine 34 = .ok (.aload_n 0, 1) := by decide +kernel
theorem dX10_combine_35 : decode cX10_combine 35 = .ok (.getfield 13, 3) := by decide +kernel
theorem dX10_combine_38 : decode cX10_combine 38 = .ok (.iload_n 1, 1) := by decide +kernel
theorem dX10_combine_39 : decode cX10_combine 39 = .ok (.iaload, 1) := by decide +kernel
theorem dX10_combine_40 : decode cX10_combine 40 = .ok (.aload_n 0, 1) := by decide +kernel
theorem dX10_combine_41 : decode cX10_combine 41 = .ok (.getfield 13, 3) := by decide +kernel
theorem dX10_combine_44 : decode cX10_combine 44 = .ok (.iload_n 2, 1) := by decide +kernel
theorem dX10_combine_45 : decode cX10_combine 45 = .ok (.iaload, 1) := by decide +kernel
theorem dX10_combine_46 : decode cX10_combine 46 = .ok (.if_icmp .eq 6, 3) := by decide +kernel
theorem dX10_combine_49 : decode cX10_combine 49 = .ok (.bipush (-4), 2) := by decide +kernel
theorem dX10_combine_51 : decode cX10_combine 51 = .ok (.ireturn, 1) := by decide +kernel
theorem dX10_combine_52 : decode cX10_combine 52 = .ok (.aload_n 0, 1) := by decide +kernel
theorem dX10_combine_53 : decode cX10_combine 53 = .ok (.getfield 7, 3) := by decide +kernel
theorem dX10_combine_56 : decode cX10_combine 56 = .ok (.iload_n 1, 1) := by decide +kernel
theorem dX10_combine_57 : decode cX10_combine 57 = .ok (.iaload, 1) := by decide +kernel
theorem dX10_combine_58 : decode cX10_combine 58 = .ok (.istore 5, 2) := by decide +kernel
theorem dX10_combine_60 : decode cX10_combine 60 = .ok (.iload 5, 2) := by decide +kernel
theorem dX10_combine_62 : decode cX10_combine 62 = .ok (.aload_n 0, 1) := by decide +kernel
theorem dX10_combine_63 : decode cX10_combine 63 = .ok (.getfield 7, 3) := by decide +kernel
theorem dX10_combine_66 : decode cX10_combine 66 = .ok (.iload_n 2, 1) := by decide +kernel
theorem dX10_combine_67 : decode cX10_combine 67 = .ok (.iaload, 1) := by decide +kernel
theorem dX10_combine_68 : decode cX10_combine 68 = .ok (.iadd, 1) := by decide +kernel
theorem dX10_combine_69 : decode cX10_combine 69 = .ok (.bipush 6, 2) := by decide +kernel
theorem dX10_combine_71 : decode cX10_combine 71 = .ok (.if_icmp .gt 23, 3) := by decide +kernel
theorem dX10_combine_74 : decode cX10_combine 74 = .ok (.aload_n 0, 1) := by decide +kernel
theorem dX10_combine_75 : decode cX10_combine 75 = .ok (.iload_n 1, 1) := by decide +kernel
theorem dX10_combine_76 : decode cX10_combine 76 = .ok (.iconst 0, 1) := by decide +kernel
theorem dX10_combine_77 : decode cX10_combine 77 = .ok (.invokevirtual 196, 3) := by decide +kernel
theorem dX10_combine_80 : decode cX10_combine 80 = .ok (.aload_n 0, 1) := by decide +kernel
theorem dX10_combine_81 : decode cX10_combine 81 = .ok (.iload_n 2, 1) := by decide +kernel
theorem dX10_combine_82 : decode cX10_combine 82 = .ok (.iconst 0, 1) := by decide +kernel
theorem dX10_combine_83 : decode cX10_combine 83 = .ok (.invokevirtual 196, 3) := by decide +kernel
theorem dX10_combine_86 : decode cX10_combine 86 = .ok (.iadd, 1) := by decide +kernel
theorem dX10_combine_87 : decode cX10_combine 87 = .ok (.iconst 1, 1) := by decide +kernel
theorem dX10_combine_88 : decode cX10_combine 88 = .ok (.iadd, 1) := by decide +kernel
theorem dX10_combine_89 : decode cX10_combine 89 = .ok (.bipush 40, 2) := by decide +kernel
theorem dX10_combine_91 : decode cX10_combine 91 = .ok (.if_icmp .le 6, 3) := by decide +kernel
theorem dX10_combine_94 : decode cX10_combine 94 = .ok (.bipush (-3), 2) := by decide +kernel
theorem dX10_combine_96 : decode cX10_combine 96 = .ok (.ireturn, 1) := by decide +kernel
theorem dX10_combine_97 : decode cX10_combine 97 = .ok (.aload_n 0, 1) := by decide +kernel
theorem dX10_combine_98 : decode cX10_combine 98 = .ok (.bipush 6, 2) := by decide +kernel
theorem dX10_combine_100 : decode cX10_combine 100 = .ok (.iload 5, 2) := by decide +kernel
theorem dX10_combine_102 : decode cX10_combine 102 = .ok (.aload_n 0, 1) := by decide +kernel
theorem dX10_combine_103 : decode cX10_combine 103 = .ok (.getfield 7, 3) := by decide +kernel
theorem dX10_combine_106 : decode cX10_combine 106 = .ok (.iload_n 2, 1) := by decide +kernel
theorem dX10_combine_107 : decode cX10_combine 107 = .ok (.iaload, 1) := by decide +kernel
theorem dX10_combine_108 : decode cX10_combine 108 = .ok (.iadd, 1) := by decide +kernel
theorem dX10_combine_109 : decode cX10_combine 109 = .ok (.aload_n 0, 1) := by decide +kernel
theorem dX10_combine_110 : decode cX10_combine 110 = .ok (.getfield 13, 3) := by decide +kernel
theorem dX10_combine_113 : decode cX10_combine 113 = .ok (.iload_n 1, 1) := by decide +kernel
theorem dX10_combine_114 : decode cX10_combine 114 = .ok (.iaload, 1) := by decide +kernel
theorem dX10_combine_115 : decode cX10_combine 115 = .ok (.invokevirtual 111, 3) := by decide +kernel
theorem dX10_combine_118 : decode cX10_combine 118 = .ok (.aload_n 0, 1) := by decide +kernel
theorem dX10_combine_119 : decode cX10_combine 119 = .ok (.getfield 16, 3) := by decide +kernel
theorem dX10_combine_122 : decode cX10_combine 122 = .ok (.bipush 6, 2) := by decide +kernel
theorem dX10_combine_124 : decode cX10_combine 124 = .ok (.aload_n 0, 1) := by decide +kernel
theorem dX10_combine_125 : decode cX10_combine 125 = .ok (.getfield 16, 3) := by decide +kernel
theorem dX10_combine_128 : decode cX10_combine 128 = .ok (.iload_n 1, 1) := by decide +kernel
theorem dX10_combine_129 : decode cX10_combine 129 = .ok (.iaload, 1) := by decide +kernel
theorem dX10_combine_130 : decode cX10_combine 130 = .ok (.aload_n 0, 1) := by decide +kernel
theorem dX10_combine_131 : decode cX10_combine 131 = .ok (.getfield 16, 3) := by decide +kernel
theorem dX10_combine_134 : decode cX10_combine 134 = .ok (.iload_n 2, 1) := by decide +kernel
theorem dX10_combine_135 : decode cX10_combine 135 = .ok (.iaload, 1) := by decide +kernel
theorem dX10_combine_136 : decode cX10_combine 136 = .ok (.iload 5, 2) := by decide +kernel
theorem dX10_combine_138 : decode cX10_combine 138 = .ok (.ishl, 1) := by decide +kernel
theorem dX10_combine_139 : decode cX10_combine 139 = .ok (.ior, 1) := by decide +kernel
theorem dX10_combine_140 : decode cX10_combine 140 = .ok (.iastore, 1) := by decide +kernel
theorem dX10_combine_141 : decode cX10_combine 141 = .ok (.iconst 0, 1) := by decide +kernel
theorem dX10_combine_142 : decode cX10_combine 142 = .ok (.istore 6, 2) := by decide +kernel
theorem dX10_combine_144 : decode cX10_combine 144 = .ok (.iload 6, 2) := by decide +kernel
theorem dX10_combine_146 : decode cX10_combine 146 = .ok (.iconst 3, 1) := by decide +kernel
theorem dX10_combine_147 : decode cX10_combine 147 = .ok (.if_icmp .ge 30, 3) := by decide +kernel
theorem dX10_combine_150 : decode cX10_combine 150 = .ok (.aload_n 0, 1) := by decide +kernel
theorem dX10_combine_151 : decode cX10_combine 151 = .ok (.getfield 19, 3) := by decide +kernel
theorem dX10_combine_154 : decode cX10_combine 154 = .ok (.bipush 18, 2) := by decide +kernel
theorem dX10_combine_156 : decode cX10_combine 156 = .ok (.iload 6, 2) := by decide +kernel
theorem dX10_combine_158 : decode cX10_combine 158 = .ok (.iadd, 1) := by decide +kernel
theorem dX10_combine_159 : decode cX10_combine 159 = .ok (.aload_n 0, 1) := by decide +kernel
theorem dX10_combine_160 : decode cX10_combine 160 = .ok (.getfield 19, 3) := by decide +kernel
theorem dX10_combine_163 : decode cX10_combine 163 = .ok (.iconst 3, 1) := by decide +kernel
theorem dX10_combine_164 : decode cX10_combine 164 = .ok (.iload_n 1, 1) := by decide +kernel
theorem dX10_combine_165 : decode cX10_combine 165 = .ok (.imul, 1) := by decide +kernel
theorem dX10_combine_166 : decode cX10_combine 166 = .ok (.iload 6, 2) := by decide +kernel
theorem dX10_combine_168 : decode cX10_combine 168 = .ok (.iadd, 1) := by decide +kernel
theorem dX10_combine_169 : decode cX10_combine 169 = .ok (.iaload, 1) := by decide +kernel
theorem dX10_combine_170 : decode cX10_combine 170 = .ok (.iastore, 1) := by decide +kernel
theorem dX10_combine_171 : decode cX10_combine 171 = .ok (.iinc 6 1, 3) := by decide +kernel
theorem dX10_combine_174 : decode cX10_combine 174 = .ok (.goto (-30), 3) := by decide +kernel
theorem dX10_combine_177 : decode cX10_combine 177 = .ok (.aload_n 0, 1) := by decide +kernel
theorem dX10_combine_178 : decode cX10_combine 178 = .ok (.getfield 22, 3) := by decide +kernel
theorem dX10_combine_181 : decode cX10_combine 181 = .ok (.bipush 114, 2) := by decide +kernel
theorem dX10_combine_183 : decode cX10_combine 183 = .ok (.iconst 0, 1) := by decide +kernel
theorem dX10_combine_184 : decode cX10_combine 184 = .ok (.iastore, 1) := by decide +kernel
theorem dX10_combine_185 : decode cX10_combine 185 = .ok (.aload_n 0, 1) := by decide +kernel
theorem dX10_combine_186 : decode cX10_combine 186 = .ok (.iload_n 1, 1) := by decide +kernel
theorem dX10_combine_187 : decode cX10_combine 187 = .ok (.iconst 0, 1) := by decide +kernel
theorem dX10_combine_188 : decode cX10_combine 188 = .ok (.iconst 0, 1) := by decide +kernel
theorem dX10_combine_189 : decode cX10_combine 189 = .ok (.iconst 0, 1) := by decide +kernel
theorem dX10_combine_190 : decode cX10_combine 190 = .ok (.invokevirtual 319, 3) := by decide +kernel
theorem dX10_combine_193 : decode cX10_combine 193 = .ok (.aload_n 0, 1) := by decide +kernel
theorem dX10_combine_194 : decode cX10_combine 194 = .ok (.iload_n 2, 1) := by decide +kernel
theorem dX10_combine_195 : decode cX10_combine 195 = .ok (.iconst 0, 1) := by decide +kernel
theorem dX10_combine_196 : decode cX10_combine 196 = .ok (.iconst 0, 1) := by decide +kernel
theorem dX10_combine_197 : decode cX10_combine 197 = .ok (.iload 5, 2) := by decide +kernel
theorem dX10_combine_199 : decode cX10_combine 199 = .ok (.invokevirtual 319, 3) := by decide +kernel
theorem dX10_combine_202 : decode cX10_combine 202 = .ok (.aload_n 0, 1) := by decide +kernel
theorem dX10_combine_203 : decode cX10_combine 203 = .ok (.getfield 25, 3) := by decide +kernel
theorem dX10_combine_206 : decode cX10_combine 206 = .ok (.aload_n 0, 1) := by decide +kernel
theorem dX10_combine_207 : decode cX10_combine 207 = .ok (.bipush 6, 2) := by decide +kernel
theorem dX10_combine_209 : decode cX10_combine 209 = .ok (.iconst 0, 1) := by decide +kernel
theorem dX10_combine_210 : decode cX10_combine 210 = .ok (.invokevirtual 119, 3) := by decide +kernel
theorem dX10_combine_213 : decode cX10_combine 213 = .ok (.aload_n 0, 1) := by decide +kernel
theorem dX10_combine_214 : decode cX10_combine 214 = .ok (.getfield 22, 3) := by decide +kernel
theorem dX10_combine_217 : decode cX10_combine 217 = .ok (.bipush 114, 2) := by decide +kernel
theorem dX10_combine_219 : decode cX10_combine 219 = .ok (.iaload, 1) := by decide +kernel
theorem dX10_combine_220 : decode cX10_combine 220 = .ok (.iadd, 1) := by decide +kernel
theorem dX10_combine_221 : decode cX10_combine 221 = .ok (.iload 4, 2) := by decide +kernel
theorem dX10_combine_223 : decode cX10_combine 223 = .ok (.ifCond .ne 8, 3) := by decide +kernel
theorem dX10_combine_226 : decode cX10_combine 226 = .ok (.bipush 11, 2) := by decide +kernel
theorem dX10_combine_228 : decode cX10_combine 228 = .ok (.goto 5, 3) := by decide +kernel
theorem dX10_combine_231 : decode cX10_combine 231 = .ok (.bipush 10, 2) := by decide +kernel
theorem dX10_combine_233 : decode cX10_combine 233 = .ok (.iastore, 1) := by decide +kernel
theorem dX10_combine_234 : decode cX10_combine 234 = .ok (.aload_n 0, 1) := by decide +kernel
theorem dX10_combine_235 : decode cX10_combine 235 = .ok (.getfield 22, 3) := by decide +kernel
theorem dX10_combine_238 : decode cX10_combine 238 = .ok (.bipush 114, 2) := by decide +kernel
theorem dX10_combine_240 : decode cX10_combine 240 = .ok (.dup2, 1) := by decide +kernel
theorem dX10_combine_241 : decode cX10_combine 241 = .ok (.iaload, 1) := by decide +kernel
theorem dX10_combine_242 : decode cX10_combine 242 = .ok (.iconst 1, 1) := by decide +kernel
theorem dX10_combine_243 : decode cX10_combine 243 = .ok (.iadd, 1) := by decide +kernel
theorem dX10_combine_244 : decode cX10_combine 244 = .ok (.iastore, 1) := by decide +kernel
theorem dX10_combine_245 : decode cX10_combine 245 = .ok (.iconst 0, 1) := by decide +kernel
theorem dX10_combine_246 : decode cX10_combine 246 = .ok (.istore 6, 2) := by decide +kernel
theorem dX10_combine_248 : decode cX10_combine 248 = .ok (.iload 6, 2) := by decide +kernel
theorem dX10_combine_250 : decode cX10_combine 250 = .ok (.aload_n 0, 1) := by decide +kernel
theorem dX10_combine_251 : decode cX10_combine 251 = .ok (.getfield 7, 3) := by decide +kernel
theorem dX10_combine_254 : decode cX10_combine 254 = .ok (.bipush 6, 2) := by decide +kernel
theorem dX10_combine_256 : decode cX10_combine 256 = .ok (.iaload, 1) := by decide +kernel
theorem dX10_combine_257 : decode cX10_combine 257 = .ok (.if_icmp .ge 99, 3) := by decide +kernel
theorem dX10_combine_260 : decode cX10_combine 260 = .ok (.iconst 0, 1) := by decide +kernel
theorem dX10_combine_261 : decode cX10_combine 261 = .ok (.istore 7, 2) := by decide +kernel
theorem dX10_combine_263 : decode cX10_combine 263 = .ok (.iload 7, 2) := by decide +kernel
theorem dX10_combine_265 : decode cX10_combine 265 = .ok (.aload_n 0, 1) := by decide +kernel
theorem dX10_combine_266 : decode cX10_combine 266 = .ok (.getfield 13, 3) := by decide +kernel
theorem dX10_combine_269 : decode cX10_combine 269 = .ok (.iload_n 1, 1) := by decide +kernel
theorem dX10_combine_270 : decode cX10_combine 270 = .ok (.iaload, 1) := by decide +kernel
theorem dX10_combine_271 : decode cX10_combine 271 = .ok (.if_icmp .ge 79, 3) := by decide +kernel
theorem dX10_combine_274 : decode cX10_combine 274 = .ok (.aload_n 0, 1) := by decide +kernel
theorem dX10_combine_275 : decode cX10_combine 275 = .ok (.getfield 22, 3) := by decide +kernel
theorem dX10_combine_278 : decode cX10_combine 278 = .ok (.bipush 114, 2) := by decide +kernel
theorem dX10_combine_280 : decode cX10_combine 280 = .ok (.iload 6, 2) := by decide +kernel
theorem dX10_combine_282 : decode cX10_combine 282 = .ok (.iload 7, 2) := by decide +kernel
theorem dX10_combine_284 : decode cX10_combine 284 = .ok (.invokestatic 176, 3) := by decide +kernel
theorem dX10_combine_287 : decode cX10_combine 287 = .ok (.iadd, 1) := by decide +kernel
theorem dX10_combine_288 : decode cX10_combine 288 = .ok (.iconst 0, 1) := by decide +kernel
theorem dX10_combine_289 : decode cX10_combine 289 = .ok (.iastore, 1) := by decide +kernel
theorem dX10_combine_290 : decode cX10_combine 290 = .ok (.iload 6, 2) := by decide +kernel
theorem dX10_combine_292 : decode cX10_combine 292 = .ok (.iload 5, 2) := by decide +kernel
theorem dX10_combine_294 : decode cX10_combine 294 = .ok (.if_icmp .ge 26, 3) := by decide +kernel
theorem dX10_combine_297 : decode cX10_combine 297 = .ok (.aload_n 0, 1) := by decide +kernel
theorem dX10_combine_298 : decode cX10_combine 298 = .ok (.iload_n 1, 1) := by decide +kernel
theorem dX10_combine_299 : decode cX10_combine 299 = .ok (.iload 6, 2) := by decide +kernel
theorem dX10_combine_301 : decode cX10_combine 301 = .ok (.iload 7, 2) := by decide +kernel
theorem dX10_combine_303 : decode cX10_combine 303 = .ok (.invokestatic 176, 3) := by decide +kernel
theorem dX10_combine_306 : decode cX10_combine 306 = .ok (.iload 6, 2) := by decide +kernel
theorem dX10_combine_308 : decode cX10_combine 308 = .ok (.iload 7, 2) := by decide +kernel
theorem dX10_combine_310 : decode cX10_combine 310 = .ok (.invokestatic 176, 3) := by decide +kernel
theorem dX10_combine_313 : decode cX10_combine 313 = .ok (.iconst 0, 1) := by decide +kernel
theorem dX10_combine_314 : decode cX10_combine 314 = .ok (.invokevirtual 319, 3) := by decide +kernel
theorem dX10_combine_317 : decode cX10_combine 317 = .ok (.goto 27, 3) := by decide +kernel
theorem dX10_combine_320 : decode cX10_combine 320 = .ok (.aload_n 0, 1) := by decide +kernel
theorem dX10_combine_321 : decode cX10_combine 321 = .ok (.iload_n 2, 1) := by decide +kernel
theorem dX10_combine_322 : decode cX10_combine 322 = .ok (.iload 6, 2) := by decide +kernel
theorem dX10_combine_324 : decode cX10_combine 324 = .ok (.iload 5, 2) := by decide +kernel
theorem dX10_combine_326 : decode cX10_combine 326 = .ok (.isub, 1) := by decide +kernel
theorem dX10_combine_327 : decode cX10_combine 327 = .ok (.iload 7, 2) := by decide +kernel
theorem dX10_combine_329 : decode cX10_combine 329 = .ok (.invokestatic 176, 3) := by decide +kernel
theorem dX10_combine_332 : decode cX10_combine 332 = .ok (.iload 6, 2) := by decide +kernel
theorem dX10_combine_334 : decode cX10_combine 334 = .ok (.iload 7, 2) := by decide +kernel
theorem dX10_combine_336 : decode cX10_combine 336 = .ok (.invokestatic 176, 3) := by decide +kernel
theorem dX10_combine_339 : decode cX10_combine 339 = .ok (.iload 5, 2) := by decide +kernel
theorem dX10_combine_341 : decode cX10_combine 341 = .ok (.invokevirtual 319, 3) := by decide +kernel
theorem dX10_combine_344 : decode cX10_combine 344 = .ok (.iinc 7 1, 3) := by decide +kernel
theorem dX10_combine_347 : decode cX10_combine 347 = .ok (.goto (-84), 3) := by decide +kernel
theorem dX10_combine_350 : decode cX10_combine 350 = .ok (.iinc 6 1, 3) := by decide +kernel
theorem dX10_combine_353 : decode cX10_combine 353 = .ok (.goto (-105), 3) := by decide +kernel
theorem dX10_combine_356 : decode cX10_combine 356 = .ok (.aload_n 0, 1) := by decide +kernel
theorem dX10_combine_357 : decode cX10_combine 357 = .ok (.bipush 6, 2) := by decide +kernel
theorem dX10_combine_359 : decode cX10_combine 359 = .ok (.iload_n 3, 1) := by decide +kernel
theorem dX10_combine_360 : decode cX10_combine 360 = .ok (.invokevirtual 313, 3) := by decide +kernel
theorem dX10_combine_363 : decode cX10_combine 363 = .ok (.aload_n 0, 1) := by decide +kernel
theorem dX10_combine_364 : decode cX10_combine 364 = .ok (.getfield 7, 3) := by decide +kernel
theorem dX10_combine_367 : decode cX10_combine 367 = .ok (.iload_n 3, 1) := by decide +kernel
theorem dX10_combine_368 : decode cX10_combine 368 = .ok (.iaload, 1) := by decide +kernel
theorem dX10_combine_369 : decode cX10_combine 369 = .ok (.ireturn, 1) := by decide +kernel
theorem dX10_allStates_0 : decode cX10_allStates 0 = .ok (.aload_n 0, 1) := by decide +kernel
theorem dX10_allStates_1 : decode cX10_allStates 1 = .ok (.getfield 7, 3) := by decide +kernel
theorem dX10_allStates_4 : decode cX10_allStates 4 = .ok (.iconst 0, 1) := by decide +kernel
theorem dX10_allStates_5 : decode cX10_allStates 5 = .ok (.iaload, 1) := by decide +kernel
theorem dX10_allStates_6 : decode cX10_allStates 6 = .ok (.aload_n 0, 1) := by decide +kernel
theorem dX10_allStates_7 : decode cX10_allStates 7 = .ok (.getfield 7, 3) := by decide +kernel
theorem dX10_allStates_10 : decode cX10_allStates 10 = .ok (.iconst 1, 1) := by decide +kernel
theorem dX10_allStates_11 : decode cX10_allStates 11 = .ok (.iaload, 1) := by decide +kernel
theorem dX10_allStates_12 : decode cX10_allStates 12 = .ok (.iadd, 1) := by decide +kernel
theorem dX10_allStates_13 : decode cX10_allStates 13 = .ok (.aload_n 0, 1) := by decide +kernel
theorem dX10_allStates_14 : decode cX10_allStates 14 = .ok (.getfield 7, 3) := by decide +kernel
theorem dX10_allStates_17 : decode cX10_allStates 17 = .ok (.iconst 2, 1) := by decide +kernel
theorem dX10_allStates_18 : decode cX10_allStates 18 = .ok (.iaload, 1) := by decide +kernel
theorem dX10_allStates_19 : decode cX10_allStates 19 = .ok (.iadd, 1) := by decide +kernel
theorem dX10_allStates_20 : decode cX10_allStates 20 = .ok (.ireturn, 1) := by decide +kernel
theorem dX10_save_0 : decode cX10_save 0 = .ok (.aload_n 0, 1) := by decide +kernel
theorem dX10_save_1 : decode cX10_save 1 = .ok (.iconst 1, 1) := by decide +kernel
theorem dX10_save_2 : decode cX10_save 2 = .ok (.putfield 322, 3) := by decide +kernel
theorem dX10_save_5 : decode cX10_save 5 = .ok (.iconst 0, 1) := by decide +kernel
theorem dX10_save_6 : decode cX10_save 6 = .ok (.istore_n 1, 1) := by decide +kernel
theorem dX10_save_7 : decode cX10_save 7 = .ok (.iload_n 1, 1) := by decide +kernel
theorem dX10_save_8 : decode cX10_save 8 = .ok (.iconst 3, 1) := by decide +kernel
theorem dX10_save_9 : decode cX10_save 9 = .ok (.if_icmp .ge 17, 3) := by decide +kernel
theorem dX10_save_12 : decode cX10_save 12 = .ok (.aload_n 0, 1) := by decide +kernel
theorem dX10_save_13 : decode cX10_save 13 = .ok (.iload_n 1, 1) := by decide +kernel
theorem dX10_save_14 : decode cX10_save 14 = .ok (.iconst 3, 1) := by decide +kernel
theorem dX10_save_15 : decode cX10_save 15 = .ok (.iload_n 1, 1) := by decide +kernel
theorem dX10_save_16 : decode cX10_save 16 = .ok (.iadd, 1) := by decide +kernel
theorem dX10_save_17 : decode cX10_save 17 = .ok (.invokevirtual 313, 3) := by decide +kernel
theorem dX10_save_20 : decode cX10_save 20 = .ok (.iinc 1 1, 3) := by decide +kernel
theorem dX10_save_23 : decode cX10_save 23 = .ok (.goto (-16), 3) := by decide +kernel
theorem dX10_save_26 : decode cX10_save 26 = .ok (.aload_n 0, 1) := by decide +kernel
theorem dX10_save_27 : decode cX10_save 27 = .ok (.invokevirtual 326, 3) := by decide +kernel
theorem dX10_save_30 : decode cX10_save 30 = .ok (.ireturn, 1) := by decide +kernel
theorem dX10_restore_0 : decode cX10_restore 0 = .ok (.aload_n 0, 1) := by decide +kernel
theorem dX10_restore_1 : decode cX10_restore 1 = .ok (.getfield 322, 3) := by decide +kernel
theorem dX10_restore_4 : decode cX10_restore 4 = .ok (.ifCond .ne 6, 3) := by decide +kernel
theorem dX10_restore_7 : decode cX10_restore 7 = .ok (.bipush (-5), 2) := by decide +kernel
theorem dX10_restore_9 : decode cX10_restore 9 = .ok (.ireturn, 1) := by decide +kernel
theorem dX10_restore_10 : decode cX10_restore 10 = .ok (.iconst 0, 1) := by decide +kernel
theorem dX10_restore_11 : decode cX10_restore 11 = .ok (.istore_n 1, 1) := by decide +kernel
theorem dX10_restore_12 : decode cX10_restore 12 = .ok (.iload_n 1, 1) := by decide +kernel
theorem dX10_restore_13 : decode cX10_restore 13 = .ok (.iconst 3, 1) := by decide +kernel
theorem dX10_restore_14 : decode cX10_restore 14 = .ok (.if_icmp .ge 17, 3) := by decide +kernel
theorem dX10_restore_17 : decode cX10_restore 17 = .ok (.aload_n 0, 1) := by decide +kernel
theorem dX10_restore_18 : decode cX10_restore 18 = .ok (.iconst 3, 1) := by decide +kernel
theorem dX10_restore_19 : decode cX10_restore 19 = .ok (.iload_n 1, 1) := by decide +kernel
theorem dX10_restore_20 : decode cX10_restore 20 = .ok (.iadd, 1) := by decide +kernel
theorem dX10_restore_21 : decode cX10_restore 21 = .ok (.iload_n 1, 1) := by decide +kernel
theorem dX10_restore_22 : decode cX10_restore 22 = .ok (.invokevirtual 313, 3) := by decide +kernel
theorem dX10_restore_25 : decode cX10_restore 25 = .ok (.iinc 1 1, 3) := by decide +kernel
theorem dX10_restore_28 : decode cX10_restore 28 = .ok (.goto (-16), 3) := by decide +kernel
theorem dX10_restore_31 : decode cX10_restore 31 = .ok (.aload_n 0, 1) := by decide +kernel
theorem dX10_restore_32 : decode cX10_restore 32 = .ok (.invokevirtual 326, 3) := by decide +kernel
theorem dX10_restore_35 : decode cX10_restore 35 = .ok (.ireturn, 1) := by decide +kernel
