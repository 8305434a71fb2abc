theorem dX7_isShown_140 : decode cX7_isShown 140 = .ok (.iload_n 2, 1) := by decide +kernel
theorem dX7_isShown_141 : decode cX7_isShown 141 = .ok (.iconst 3, 1) := by decide +kernel
theorem dX7_isShown_142 : decode cX7_isShown 142 = .ok (.if_icmp .eq 14, 3) := by decide +kernel
theorem dX7_isShown_145 : decode cX7_isShown 145 = .ok (.iload_n 1, 1) := by decide +kernel
theorem dX7_isShown_146 : decode cX7_isShown 146 = .ok (.bipush 6, 2) := by decide +kernel
theorem dX7_isShown_148 : decode cX7_isShown 148 = .ok (.if_icmp .ne 12, 3) := by decide +kernel
theorem dX7_isShown_151 : decode cX7_isShown 151 = .ok (.iload_n 2, 1) := by decide +kernel
theorem dX7_isShown_152 : decode cX7_isShown 152 = .ok (.iconst 3, 1) := by decide +kernel
theorem dX7_isShown_153 : decode cX7_isShown 153 = .ok (.if_icmp .ne 7, 3) := by decide +kernel
theorem dX7_isShown_156 : decode cX7_isShown 156 = .ok (.iconst 1, 1) := by decide +kernel
theorem dX7_isShown_157 : decode cX7_isShown 157 = .ok (.goto 4, 3) := by decide +kernel
theorem dX7_isShown_160 : decode cX7_isShown 160 = .ok (.iconst 0, 1) := by decide +kernel
theorem dX7_isShown_161 : decode cX7_isShown 161 = .ok (.istore 7, 2) := by decide +kernel
theorem dX7_isShown_163 : decode cX7_isShown 163 = .ok (.iconst 0, 1) := by decide +kernel
theorem dX7_isShown_164 : decode cX7_isShown 164 = .ok (.istore 8, 2) := by decide +kernel
theorem dX7_isShown_166 : decode cX7_isShown 166 = .ok (.iload 8, 2) := by decide +kernel
theorem dX7_isShown_168 : decode cX7_isShown 168 = .ok (.aload_n 0, 1) := by decide +kernel
theorem dX7_isShown_169 : decode cX7_isShown 169 = .ok (.getfield 7, 3) := by decide +kernel
theorem dX7_isShown_172 : decode cX7_isShown 172 = .ok (.if_icmp .ge 125, 3) := by decide +kernel
theorem dX7_isShown_175 : decode cX7_isShown 175 = .ok (.iload 7, 2) := by decide +kernel
theorem dX7_isShown_177 : decode cX7_isShown 177 = .ok (.ifCond .eq 120, 3) := by decide +kernel
theorem dX7_isShown_180 : decode cX7_isShown 180 = .ok (.bipush 16, 2) := by decide +kernel
theorem dX7_isShown_182 : decode cX7_isShown 182 = .ok (.iload_n 1, 1) := by decide +kernel
theorem dX7_isShown_183 : decode cX7_isShown 183 = .ok (.iconst 2, 1) := by decide +kernel
theorem dX7_isShown_184 : decode cX7_isShown 184 = .ok (.if_icmp .ge 7, 3) := by decide +kernel
theorem dX7_isShown_187 : decode cX7_isShown 187 = .ok (.iconst 0, 1) := by decide +kernel
theorem dX7_isShown_188 : decode cX7_isShown 188 = .ok (.goto 13, 3) := by decide +kernel
theorem dX7_isShown_191 : decode cX7_isShown 191 = .ok (.iload_n 1, 1) := by decide +kernel
theorem dX7_isShown_192 : decode cX7_isShown 192 = .ok (.iconst 4, 1) := by decide +kernel
theorem dX7_isShown_193 : decode cX7_isShown 193 = .ok (.if_icmp .ge 7, 3) := by decide +kernel
theorem dX7_isShown_196 : decode cX7_isShown 196 = .ok (.iconst 1, 1) := by decide +kernel
theorem dX7_isShown_197 : decode cX7_isShown 197 = .ok (.goto 4, 3) := by decide +kernel
theorem dX7_isShown_200 : decode cX7_isShown 200 = .ok (.iconst 3, 1) := by decide +kernel
theorem dX7_isShown_201 : decode cX7_isShown 201 = .ok (.imul, 1) := by decide +kernel
theorem dX7_isShown_202 : decode cX7_isShown 202 = .ok (.iconst 4, 1) := by decide +kernel
theorem dX7_isShown_203 : decode cX7_isShown 203 = .ok (.iload_n 3, 1) := by decide +kernel
theorem dX7_isShown_204 : decode cX7_isShown 204 = .ok (.imul, 1) := by decide +kernel
theorem dX7_isShown_205 : decode cX7_isShown 205 = .ok (.iadd, 1) := by decide +kernel
theorem dX7_isShown_206 : decode cX7_isShown 206 = .ok (.iload 8, 2) := by decide +kernel
theorem dX7_isShown_208 : decode cX7_isShown 208 = .ok (.iadd, 1) := by decide +kernel
theorem dX7_isShown_209 : decode cX7_isShown 209 = .ok (.istore 9, 2) := by decide +kernel
theorem dX7_isShown_211 : decode cX7_isShown 211 = .ok (.iload_n 1, 1) := by decide +kernel
theorem dX7_isShown_212 : decode cX7_isShown 212 = .ok (.bipush 6, 2) := by decide +kernel
theorem dX7_isShown_214 : decode cX7_isShown 214 = .ok (.if_icmp .ne 13, 3) := by decide +kernel
theorem dX7_isShown_217 : decode cX7_isShown 217 = .ok (.iconst 4, 1) := by decide +kernel
theorem dX7_isShown_218 : decode cX7_isShown 218 = .ok (.iload 4, 2) := by decide +kernel
theorem dX7_isShown_220 : decode cX7_isShown 220 = .ok (.imul, 1) := by decide +kernel
theorem dX7_isShown_221 : decode cX7_isShown 221 = .ok (.iload 8, 2) := by decide +kernel
theorem dX7_isShown_223 : decode cX7_isShown 223 = .ok (.iadd, 1) := by decide +kernel
theorem dX7_isShown_224 : decode cX7_isShown 224 = .ok (.goto 29, 3) := by decide +kernel
theorem dX7_isShown_227 : decode cX7_isShown 227 = .ok (.bipush 16, 2) := by decide +kernel
theorem dX7_isShown_229 : decode cX7_isShown 229 = .ok (.iload_n 1, 1) := by decide +kernel
theorem dX7_isShown_230 : decode cX7_isShown 230 = .ok (.iconst 1, 1) := by decide +kernel
theorem dX7_isShown_231 : decode cX7_isShown 231 = .ok (.if_icmp .eq 8, 3) := by decide +kernel
theorem dX7_isShown_234 : decode cX7_isShown 234 = .ok (.iload_n 1, 1) := by decide +kernel
theorem dX7_isShown_235 : decode cX7_isShown 235 = .ok (.iconst 3, 1) := by decide +kernel
theorem dX7_isShown_236 : decode cX7_isShown 236 = .ok (.if_icmp .ne 7, 3) := by decide +kernel
theorem dX7_isShown_239 : decode cX7_isShown 239 = .ok (.iconst 2, 1) := by decide +kernel
theorem dX7_isShown_240 : decode cX7_isShown 240 = .ok (.goto 4, 3) := by decide +kernel
theorem dX7_isShown_243 : decode cX7_isShown 243 = .ok (.iconst 0, 1) := by decide +kernel
theorem dX7_isShown_244 : decode cX7_isShown 244 = .ok (.imul, 1) := by decide +kernel
theorem dX7_isShown_245 : decode cX7_isShown 245 = .ok (.iconst 4, 1) := by decide +kernel
theorem dX7_isShown_246 : decode cX7_isShown 246 = .ok (.iload 8, 2) := by decide +kernel
theorem dX7_isShown_248 : decode cX7_isShown 248 = .ok (.imul, 1) := by decide +kernel
theorem dX7_isShown_249 : decode cX7_isShown 249 = .ok (.iadd, 1) := by decide +kernel
theorem dX7_isShown_250 : decode cX7_isShown 250 = .ok (.iload 4, 2) := by decide +kernel
theorem dX7_isShown_252 : decode cX7_isShown 252 = .ok (.iadd, 1) := by decide +kernel
theorem dX7_isShown_253 : decode cX7_isShown 253 = .ok (.istore 10, 2) := by decide +kernel
theorem dX7_isShown_255 : decode cX7_isShown 255 = .ok (.aload_n 0, 1) := by decide +kernel
theorem dX7_isShown_256 : decode cX7_isShown 256 = .ok (.iload 9, 2) := by decide +kernel
theorem dX7_isShown_258 : decode cX7_isShown 258 = .ok (.iload 5, 2) := by decide +kernel
theorem dX7_isShown_260 : decode cX7_isShown 260 = .ok (.invokevirtual 207, 3) := by decide +kernel
theorem dX7_isShown_263 : decode cX7_isShown 263 = .ok (.ifCond .eq 28, 3) := by decide +kernel
theorem dX7_isShown_266 : decode cX7_isShown 266 = .ok (.aload_n 0, 1) := by decide +kernel
theorem dX7_isShown_267 : decode cX7_isShown 267 = .ok (.iload 10, 2) := by decide +kernel
theorem dX7_isShown_269 : decode cX7_isShown 269 = .ok (.iload 5, 2) := by decide +kernel
theorem dX7_isShown_271 : decode cX7_isShown 271 = .ok (.invokevirtual 207, 3) := by decide +kernel
theorem dX7_isShown_274 : decode cX7_isShown 274 = .ok (.ifCond .eq 17, 3) := by decide +kernel
theorem dX7_isShown_277 : decode cX7_isShown 277 = .ok (.aload_n 0, 1) := by decide +kernel
theorem dX7_isShown_278 : decode cX7_isShown 278 = .ok (.iload 9, 2) := by decide +kernel
theorem dX7_isShown_280 : decode cX7_isShown 280 = .ok (.putfield 201, 3) := by decide +kernel
theorem dX7_isShown_283 : decode cX7_isShown 283 = .ok (.aload_n 0, 1) := by decide +kernel
theorem dX7_isShown_284 : decode cX7_isShown 284 = .ok (.iload 10, 2) := by decide +kernel
theorem dX7_isShown_286 : decode cX7_isShown 286 = .ok (.putfield 204, 3) := by decide +kernel
theorem dX7_isShown_289 : decode cX7_isShown 289 = .ok (.iconst 1, 1) := by decide +kernel
theorem dX7_isShown_290 : decode cX7_isShown 290 = .ok (.ireturn, 1) := by decide +kernel
theorem dX7_isShown_291 : decode cX7_isShown 291 = .ok (.iinc 8 1, 3) := by decide +kernel
theorem dX7_isShown_294 : decode cX7_isShown 294 = .ok (.goto (-128), 3) := by decide +kernel
theorem dX7_isShown_297 : decode cX7_isShown 297 = .ok (.iconst 0, 1) := by decide +kernel
theorem dX7_isShown_298 : decode cX7_isShown 298 = .ok (.ireturn, 1) := by decide +kernel
theorem dX7_isTold_0 : decode cX7_isTold 0 = .ok (.iconst 0, 1) := by decide +kernel
theorem dX7_isTold_1 : decode cX7_isTold 1 = .ok (.istore_n 3, 1) := by decide +kernel
theorem dX7_isTold_2 : decode cX7_isTold 2 = .ok (.iconst 0, 1) := by decide +kernel
theorem dX7_isTold_3 : decode cX7_isTold 3 = .ok (.istore 4, 2) := by decide +kernel
theorem dX7_isTold_5 : decode cX7_isTold 5 = .ok (.iload 4, 2) := by decide +kernel
theorem dX7_isTold_7 : decode cX7_isTold 7 = .ok (.bipush 10, 2) := by decide +kernel
theorem dX7_isTold_9 : decode cX7_isTold 9 = .ok (.if_icmp .ge 43, 3) := by decide +kernel
theorem dX7_isTold_12 : decode cX7_isTold 12 = .ok (.iload_n 3, 1) := by decide +kernel
theorem dX7_isTold_13 : decode cX7_isTold 13 = .ok (.iload_n 1, 1) := by decide +kernel
theorem dX7_isTold_14 : decode cX7_isTold 14 = .ok (.iload 4, 2) := by decide +kernel
theorem dX7_isTold_16 : decode cX7_isTold 16 = .ok (.ishr, 1) := by decide +kernel
theorem dX7_isTold_17 : decode cX7_isTold 17 = .ok (.iconst 1, 1) := by decide +kernel
theorem dX7_isTold_18 : decode cX7_isTold 18 = .ok (.iand, 1) := by decide +kernel
theorem dX7_isTold_19 : decode cX7_isTold 19 = .ok (.iconst 1, 1) := by decide +kernel
theorem dX7_isTold_20 : decode cX7_isTold 20 = .ok (.if_icmp .ne 23, 3) := by decide +kernel
theorem dX7_isTold_23 : decode cX7_isTold 23 = .ok (.aload_n 0, 1) := by decide +kernel
theorem dX7_isTold_24 : decode cX7_isTold 24 = .ok (.getfield 26, 3) := by decide +kernel
theorem dX7_isTold_27 : decode cX7_isTold 27 = .ok (.bipush 6, 2) := by decide +kernel
theorem dX7_isTold_29 : decode cX7_isTold 29 = .ok (.iload 4, 2) := by decide +kernel
theorem dX7_isTold_31 : decode cX7_isTold 31 = .ok (.imul, 1) := by decide +kernel
theorem dX7_isTold_32 : decode cX7_isTold 32 = .ok (.iconst 5, 1) := by decide +kernel
theorem dX7_isTold_33 : decode cX7_isTold 33 = .ok (.iadd, 1) := by decide +kernel
theorem dX7_isTold_34 : decode cX7_isTold 34 = .ok (.iaload, 1) := by decide +kernel
theorem dX7_isTold_35 : decode cX7_isTold 35 = .ok (.iload_n 2, 1) := by decide +kernel
theorem dX7_isTold_36 : decode cX7_isTold 36 = .ok (.if_icmp .ne 7, 3) := by decide +kernel
theorem dX7_isTold_39 : decode cX7_isTold 39 = .ok (.iconst 1, 1) := by decide +kernel
theorem dX7_isTold_40 : decode cX7_isTold 40 = .ok (.goto 4, 3) := by decide +kernel
theorem dX7_isTold_43 : decode cX7_isTold 43 = .ok (.iconst 0, 1) := by decide +kernel
theorem dX7_isTold_44 : decode cX7_isTold 44 = .ok (.ior, 1) := by decide +kernel
theorem dX7_isTold_45 : decode cX7_isTold 45 = .ok (.istore_n 3, 1) := by decide +kernel
theorem dX7_isTold_46 : decode cX7_isTold 46 = .ok (.iinc 4 1, 3) := by decide +kernel
theorem dX7_isTold_49 : decode cX7_isTold 49 = .ok (.goto (-44), 3) := by decide +kernel
theorem dX7_isTold_52 : decode cX7_isTold 52 = .ok (.iload_n 3, 1) := by decide +kernel
theorem dX7_isTold_53 : decode cX7_isTold 53 = .ok (.ireturn, 1) := by decide +kernel
theorem dX7_shows_0 : decode cX7_shows 0 = .ok (.iconst 0, 1) := by decide +kernel
theorem dX7_shows_1 : decode cX7_shows 1 = .ok (.istore_n 2, 1) := by decide +kernel
theorem dX7_shows_2 : decode cX7_shows 2 = .ok (.iload_n 2, 1) := by decide +kernel
theorem dX7_shows_3 : decode cX7_shows 3 = .ok (.bipush 64, 2) := by decide +kernel
theorem dX7_shows_5 : decode cX7_shows 5 = .ok (.if_icmp .ge 78, 3) := by decide +kernel
theorem dX7_shows_8 : decode cX7_shows 8 = .ok (.iload_n 2, 1) := by decide +kernel
theorem dX7_shows_9 : decode cX7_shows 9 = .ok (.bipush 16, 2) := by decide +kernel
theorem dX7_shows_11 : decode cX7_shows 11 = .ok (.if_icmp .ge 39, 3) := by decide +kernel
theorem dX7_shows_14 : decode cX7_shows 14 = .ok (.iload_n 2, 1) := by decide +kernel
theorem dX7_shows_15 : decode cX7_shows 15 = .ok (.iconst 4, 1) := by decide +kernel
theorem dX7_shows_16 : decode cX7_shows 16 = .ok (.idiv, 1) := by decide +kernel
theorem dX7_shows_17 : decode cX7_shows 17 = .ok (.iload_n 2, 1) := by decide +kernel
theorem dX7_shows_18 : decode cX7_shows 18 = .ok (.iconst 4, 1) := by decide +kernel
theorem dX7_shows_19 : decode cX7_shows 19 = .ok (.irem, 1) := by decide +kernel
theorem dX7_shows_20 : decode cX7_shows 20 = .ok (.if_icmp .ne 30, 3) := by decide +kernel
theorem dX7_shows_23 : decode cX7_shows 23 = .ok (.iload_n 2, 1) := by decide +kernel
theorem dX7_shows_24 : decode cX7_shows 24 = .ok (.iconst 4, 1) := by decide +kernel
theorem dX7_shows_25 : decode cX7_shows 25 = .ok (.idiv, 1) := by decide +kernel
theorem dX7_shows_26 : decode cX7_shows 26 = .ok (.aload_n 0, 1) := by decide +kernel
theorem dX7_shows_27 : decode cX7_shows 27 = .ok (.getfield 7, 3) := by decide +kernel
theorem dX7_shows_30 : decode cX7_shows 30 = .ok (.if_icmp .ge 20, 3) := by decide +kernel
theorem dX7_shows_33 : decode cX7_shows 33 = .ok (.aload_n 0, 1) := by decide +kernel
theorem dX7_shows_34 : decode cX7_shows 34 = .ok (.getfield 16, 3) := by decide +kernel
theorem dX7_shows_37 : decode cX7_shows 37 = .ok (.bipush 7, 2) := by decide +kernel
theorem dX7_shows_39 : decode cX7_shows 39 = .ok (.ishr, 1) := by decide +kernel
theorem dX7_shows_40 : decode cX7_shows 40 = .ok (.iconst 1, 1) := by decide +kernel
theorem dX7_shows_41 : decode cX7_shows 41 = .ok (.iand, 1) := by decide +kernel
theorem dX7_shows_42 : decode cX7_shows 42 = .ok (.iconst 1, 1) := by decide +kernel
theorem dX7_shows_43 : decode cX7_shows 43 = .ok (.if_icmp .ne 7, 3) := by decide +kernel
theorem dX7_shows_46 : decode cX7_shows 46 = .ok (.iconst 1, 1) := by decide +kernel
theorem dX7_shows_47 : decode cX7_shows 47 = .ok (.goto 4, 3) := by decide +kernel
theorem dX7_shows_50 : decode cX7_shows 50 = .ok (.iconst 0, 1) := by decide +kernel
theorem dX7_shows_51 : decode cX7_shows 51 = .ok (.istore_n 3, 1) := by decide +kernel
theorem dX7_shows_52 : decode cX7_shows 52 = .ok (.aload_n 0, 1) := by decide +kernel
theorem dX7_shows_53 : decode cX7_shows 53 = .ok (.getfield 51, 3) := by decide +kernel
theorem dX7_shows_56 : decode cX7_shows 56 = .ok (.iload_n 2, 1) := by decide +kernel
theorem dX7_shows_57 : decode cX7_shows 57 = .ok (.iload_n 3, 1) := by decide +kernel
theorem dX7_shows_58 : decode cX7_shows 58 = .ok (.ifCond .ne 12, 3) := by decide +kernel
theorem dX7_shows_61 : decode cX7_shows 61 = .ok (.aload_n 0, 1) := by decide +kernel
theorem dX7_shows_62 : decode cX7_shows 62 = .ok (.iload_n 1, 1) := by decide +kernel
theorem dX7_shows_63 : decode cX7_shows 63 = .ok (.iload_n 2, 1) := by decide +kernel
theorem dX7_shows_64 : decode cX7_shows 64 = .ok (.invokevirtual 210, 3) := by decide +kernel
theorem dX7_shows_67 : decode cX7_shows 67 = .ok (.ifCond .eq 7, 3) := by decide +kernel
theorem dX7_shows_70 : decode cX7_shows 70 = .ok (.iconst 0, 1) := by decide +kernel
theorem dX7_shows_71 : decode cX7_shows 71 = .ok (.goto 5, 3) := by decide +kernel
theorem dX7_shows_74 : decode cX7_shows 74 = .ok (.bipush (-9), 2) := by decide +kernel
theorem dX7_shows_76 : decode cX7_shows 76 = .ok (.iastore, 1) := by decide +kernel
theorem dX7_shows_77 : decode cX7_shows 77 = .ok (.iinc 2 1, 3) := by decide +kernel
theorem dX7_shows_80 : decode cX7_shows 80 = .ok (.goto (-78), 3) := by decide +kernel
theorem dX7_shows_83 : decode cX7_shows 83 = .ok (.aload_n 0, 1) := by decide +kernel
theorem dX7_shows_84 : decode cX7_shows 84 = .ok (.iconst 0, 1) := by decide +kernel
theorem dX7_shows_85 : decode cX7_shows 85 = .ok (.putfield 213, 3) := by decide +kernel
theorem dX7_shows_88 : decode cX7_shows 88 = .ok (.iconst 1, 1) := by decide +kernel
theorem dX7_shows_89 : decode cX7_shows 89 = .ok (.istore_n 2, 1) := by decide +kernel
theorem dX7_shows_90 : decode cX7_shows 90 = .ok (.iload_n 2, 1) := by decide +kernel
theorem dX7_shows_91 : decode cX7_shows 91 = .ok (.ifCond .eq 175, 3) := by decide +kernel
theorem dX7_shows_94 : decode cX7_shows 94 = .ok (.iconst 0, 1) := by decide +kernel
theorem dX7_shows_95 : decode cX7_shows 95 = .ok (.istore_n 2, 1) := by decide +kernel
theorem dX7_shows_96 : decode cX7_shows 96 = .ok (.iconst 0, 1) := by decide +kernel
theorem dX7_shows_97 : decode cX7_shows 97 = .ok (.istore_n 3, 1) := by decide +kernel
theorem dX7_shows_98 : decode cX7_shows 98 = .ok (.iload_n 3, 1) := by decide +kernel
theorem dX7_shows_99 : decode cX7_shows 99 = .ok (.bipush 64, 2) := by decide +kernel
theorem dX7_shows_101 : decode cX7_shows 101 = .ok (.if_icmp .ge 144, 3) := by decide +kernel
theorem dX7_shows_104 : decode cX7_shows 104 = .ok (.iload_n 3, 1) := by decide +kernel
theorem dX7_shows_105 : decode cX7_shows 105 = .ok (.iconst 4, 1) := by decide +kernel
theorem dX7_shows_106 : decode cX7_shows 106 = .ok (.idiv, 1) := by decide +kernel
theorem dX7_shows_107 : decode cX7_shows 107 = .ok (.iconst 4, 1) := by decide +kernel
theorem dX7_shows_108 : decode cX7_shows 108 = .ok (.irem, 1) := by decide +kernel
theorem dX7_shows_109 : decode cX7_shows 109 = .ok (.aload_n 0, 1) := by decide +kernel
theorem dX7_shows_110 : decode cX7_shows 110 = .ok (.getfield 7, 3) := by decide +kernel
theorem dX7_shows_113 : decode cX7_shows 113 = .ok (.if_icmp .ge 28, 3) := by decide +kernel
theorem dX7_shows_116 : decode cX7_shows 116 = .ok (.iload_n 3, 1) := by decide +kernel
theorem dX7_shows_117 : decode cX7_shows 117 = .ok (.iconst 4, 1) := by decide +kernel
theorem dX7_shows_118 : decode cX7_shows 118 = .ok (.irem, 1) := by decide +kernel
theorem dX7_shows_119 : decode cX7_shows 119 = .ok (.aload_n 0, 1) := by decide +kernel
theorem dX7_shows_120 : decode cX7_shows 120 = .ok (.getfield 7, 3) := by decide +kernel
theorem dX7_shows_123 : decode cX7_shows 123 = .ok (.if_icmp .ge 18, 3) := by decide +kernel
theorem dX7_shows_126 : decode cX7_shows 126 = .ok (.aload_n 0, 1) := by decide +kernel
theorem dX7_shows_127 : decode cX7_shows 127 = .ok (.getfield 51, 3) := by decide +kernel
theorem dX7_shows_130 : decode cX7_shows 130 = .ok (.iload_n 3, 1) := by decide +kernel
theorem dX7_shows_131 : decode cX7_shows 131 = .ok (.iaload, 1) := by decide +kernel
theorem dX7_shows_132 : decode cX7_shows 132 = .ok (.bipush (-9), 2) := by decide +kernel
theorem dX7_shows_134 : decode cX7_shows 134 = .ok (.if_icmp .ne 7, 3) := by decide +kernel
theorem dX7_shows_137 : decode cX7_shows 137 = .ok (.iconst 1, 1) := by decide +kernel
theorem dX7_shows_138 : decode cX7_shows 138 = .ok (.goto 4, 3) := by decide +kernel
theorem dX7_shows_141 : decode cX7_shows 141 = .ok (.iconst 0, 1) := by decide +kernel
theorem dX7_shows_142 : decode cX7_shows 142 = .ok (.istore 4, 2) := by decide +kernel
theorem dX7_shows_144 : decode cX7_shows 144 = .ok (.iconst 0, 1) := by decide +kernel
theorem dX7_shows_145 : decode cX7_shows 145 = .ok (.istore 5, 2) := by decide +kernel
theorem dX7_shows_147 : decode cX7_shows 147 = .ok (.iconst 0, 1) := by decide +kernel
theorem dX7_shows_148 : decode cX7_shows 148 = .ok (.istore 6, 2) := by decide +kernel
theorem dX7_shows_150 : decode cX7_shows 150 = .ok (.iload 6, 2) := by decide +kernel
theorem dX7_shows_152 : decode cX7_shows 152 = .ok (.bipush 9, 2) := by decide +kernel
theorem dX7_shows_154 : decode cX7_shows 154 = .ok (.if_icmp .ge 66, 3) := by decide +kernel
theorem dX7_shows_157 : decode cX7_shows 157 = .ok (.iload 4, 2) := by decide +kernel
theorem dX7_shows_159 : decode cX7_shows 159 = .ok (.ifCond .eq 61, 3) := by decide +kernel
theorem dX7_shows_162 : decode cX7_shows 162 = .ok (.iload 5, 2) := by decide +kernel
theorem dX7_shows_164 : decode cX7_shows 164 = .ok (.ifCond .ne 56, 3) := by decide +kernel
theorem dX7_shows_167 : decode cX7_shows 167 = .ok (.aload_n 0, 1) := by decide +kernel
theorem dX7_shows_168 : decode cX7_shows 168 = .ok (.getfield 16, 3) := by decide +kernel
theorem dX7_shows_171 : decode cX7_shows 171 = .ok (.iload 6, 2) := by decide +kernel
theorem dX7_shows_173 : decode cX7_shows 173 = .ok (.ishr, 1) := by decide +kernel
theorem dX7_shows_174 : decode cX7_shows 174 = .ok (.iconst 1, 1) := by decide +kernel
theorem dX7_shows_175 : decode cX7_shows 175 = .ok (.iand, 1) := by decide +kernel
theorem dX7_shows_176 : decode cX7_shows 176 = .ok (.iconst 1, 1) := by decide +kernel
theorem dX7_shows_177 : decode cX7_shows 177 = .ok (.if_icmp .ne 34, 3) := by decide +kernel
theorem dX7_shows_180 : decode cX7_shows 180 = .ok (.aload_n 0, 1) := by decide +kernel
theorem dX7_shows_181 : decode cX7_shows 181 = .ok (.iload 6, 2) := by decide +kernel
theorem dX7_shows_183 : decode cX7_shows 183 = .ok (.iload_n 3, 1) := by decide +kernel
theorem dX7_shows_184 : decode cX7_shows 184 = .ok (.bipush 16, 2) := by decide +kernel
theorem dX7_shows_186 : decode cX7_shows 186 = .ok (.idiv, 1) := by decide +kernel
theorem dX7_shows_187 : decode cX7_shows 187 = .ok (.iload_n 3, 1) := by decide +kernel
theorem dX7_shows_188 : decode cX7_shows 188 = .ok (.iconst 4, 1) := by decide +kernel
theorem dX7_shows_189 : decode cX7_shows 189 = .ok (.idiv, 1) := by decide +kernel
theorem dX7_shows_190 : decode cX7_shows 190 = .ok (.iconst 4, 1) := by decide +kernel
theorem dX7_shows_191 : decode cX7_shows 191 = .ok (.irem, 1) := by decide +kernel
theorem dX7_shows_192 : decode cX7_shows 192 = .ok (.iload_n 3, 1) := by decide +kernel
theorem dX7_shows_193 : decode cX7_shows 193 = .ok (.iconst 4, 1) := by decide +kernel
theorem dX7_shows_194 : decode cX7_shows 194 = .ok (.irem, 1) := by decide +kernel
theorem dX7_shows_195 : decode cX7_shows 195 = .ok (.aload_n 0, 1) := by decide +kernel
theorem dX7_shows_196 : decode cX7_shows 196 = .ok (.getfield 213, 3) := by decide +kernel
theorem dX7_shows_199 : decode cX7_shows 199 = .ok (.iconst 1, 1) := by decide +kernel
theorem dX7_shows_200 : decode cX7_shows 200 = .ok (.iadd, 1) := by decide +kernel
theorem dX7_shows_201 : decode cX7_shows 201 = .ok (.invokevirtual 216, 3) := by decide +kernel
theorem dX7_shows_204 : decode cX7_shows 204 = .ok (.ifCond .eq 7, 3) := by decide +kernel
theorem dX7_shows_207 : decode cX7_shows 207 = .ok (.iconst 1, 1) := by decide +kernel
theorem dX7_shows_208 : decode cX7_shows 208 = .ok (.goto 4, 3) := by decide +kernel
theorem dX7_shows_211 : decode cX7_shows 211 = .ok (.iconst 0, 1) := by decide +kernel
theorem dX7_shows_212 : decode cX7_shows 212 = .ok (.istore 5, 2) := by decide +kernel
theorem dX7_shows_214 : decode cX7_shows 214 = .ok (.iinc 6 1, 3) := by decide +kernel
theorem dX7_shows_217 : decode cX7_shows 217 = .ok (.goto (-67), 3) := by decide +kernel
theorem dX7_shows_220 : decode cX7_shows 220 = .ok (.iload 5, 2) := by decide +kernel
theorem dX7_shows_222 : decode cX7_shows 222 = .ok (.ifCond .eq 17, 3) := by decide +kernel
theorem dX7_shows_225 : decode cX7_shows 225 = .ok (.aload_n 0, 1) := by decide +kernel
theorem dX7_shows_226 : decode cX7_shows 226 = .ok (.getfield 51, 3) := by decide +kernel
theorem dX7_shows_229 : decode cX7_shows 229 = .ok (.iload_n 3, 1) := by decide +kernel
theorem dX7_shows_230 : decode cX7_shows 230 = .ok (.aload_n 0, 1) := by decide +kernel
theorem dX7_shows_231 : decode cX7_shows 231 = .ok (.getfield 213, 3) := by decide +kernel
theorem dX7_shows_234 : decode cX7_shows 234 = .ok (.iconst 1, 1) := by decide +kernel
theorem dX7_shows_235 : decode cX7_shows 235 = .ok (.iadd, 1) := by decide +kernel
theorem dX7_shows_236 : decode cX7_shows 236 = .ok (.iastore, 1) := by decide +kernel
theorem dX7_shows_237 : decode cX7_shows 237 = .ok (.iconst 1, 1) := by decide +kernel
theorem dX7_shows_238 : decode cX7_shows 238 = .ok (.istore_n 2, 1) := by decide +kernel
theorem dX7_shows_239 : decode cX7_shows 239 = .ok (.iinc 3 1, 3) := by decide +kernel
theorem dX7_shows_242 : decode cX7_shows 242 = .ok (.goto (-144), 3) := by decide +kernel
theorem dX7_shows_245 : decode cX7_shows 245 = .ok (.aload_n 0, 1) := by decide +kernel
theorem dX7_shows_246 : decode cX7_shows 246 = .ok (.dup, 1) := by decide +kernel
theorem dX7_shows_247 : decode cX7_shows 247 = .ok (.getfield 213, 3) := by decide +kernel
theorem dX7_shows_250 : decode cX7_shows 250 = .ok (.iload_n 2, 1) := by decide +kernel
theorem dX7_shows_251 : decode cX7_shows 251 = .ok (.ifCond .eq 7, 3) := by decide +kernel
theorem dX7_shows_254 : decode cX7_shows 254 = .ok (.iconst 1, 1) := by decide +kernel
theorem dX7_shows_255 : decode cX7_shows 255 = .ok (.goto 4, 3) := by decide +kernel
theorem dX7_shows_258 : decode cX7_shows 258 = .ok (.iconst 0, 1) := by decide +kernel
theorem dX7_shows_259 : decode cX7_shows 259 = .ok (.iadd, 1) := by decide +kernel
theorem dX7_shows_260 : decode cX7_shows 260 = .ok (.putfield 213, 3) := by decide +kernel
theorem dX7_shows_263 : decode cX7_shows 263 = .ok (.goto (-173), 3) := by decide +kernel
theorem dX7_shows_266 : decode cX7_shows 266 = .ok (.return_, 1) := by decide +kernel
theorem dX7_isAsked_0 : decode cX7_isAsked 0 = .ok (.iload_n 1, 1) := by decide +kernel
theorem dX7_isAsked_1 : decode cX7_isAsked 1 = .ok (.invokestatic 182, 3) := by decide +kernel
theorem dX7_isAsked_4 : decode cX7_isAsked 4 = .ok (.ifCond .eq 45, 3) := by decide +kernel
theorem dX7_isAsked_7 : decode cX7_isAsked 7 = .ok (.iload_n 2, 1) := by decide +kernel
theorem dX7_isAsked_8 : decode cX7_isAsked 8 = .ok (.iconst 0, 1) := by decide +kernel
theorem dX7_isAsked_9 : decode cX7_isAsked 9 = .ok (.iconst 3, 1) := by decide +kernel
theorem dX7_isAsked_10 : decode cX7_isAsked 10 = .ok (.invokestatic 72, 3) := by decide +kernel
theorem dX7_isAsked_13 : decode cX7_isAsked 13 = .ok (.ifCond .eq 36, 3) := by decide +kernel
theorem dX7_isAsked_16 : decode cX7_isAsked 16 = .ok (.iload_n 3, 1) := by decide +kernel
theorem dX7_isAsked_17 : decode cX7_isAsked 17 = .ok (.iconst 0, 1) := by decide +kernel
theorem dX7_isAsked_18 : decode cX7_isAsked 18 = .ok (.aload_n 0, 1) := by decide +kernel
theorem dX7_isAsked_19 : decode cX7_isAsked 19 = .ok (.getfield 7, 3) := by decide +kernel
theorem dX7_isAsked_22 : decode cX7_isAsked 22 = .ok (.iconst 1, 1) := by decide +kernel
theorem dX7_isAsked_23 : decode cX7_isAsked 23 = .ok (.isub, 1) := by decide +kernel
theorem dX7_isAsked_24 : decode cX7_isAsked 24 = .ok (.invokestatic 72, 3) := by decide +kernel
theorem dX7_isAsked_27 : decode cX7_isAsked 27 = .ok (.ifCond .eq 22, 3) := by decide +kernel
theorem dX7_isAsked_30 : decode cX7_isAsked 30 = .ok (.iload 4, 2) := by decide +kernel
theorem dX7_isAsked_32 : decode cX7_isAsked 32 = .ok (.iconst 0, 1) := by decide +kernel
theorem dX7_isAsked_33 : decode cX7_isAsked 33 = .ok (.aload_n 0, 1) := by decide +kernel
theorem dX7_isAsked_34 : decode cX7_isAsked 34 = .ok (.getfield 7, 3) := by decide +kernel
theorem dX7_isAsked_37 : decode cX7_isAsked 37 = .ok (.iconst 1, 1) := by decide +kernel
theorem dX7_isAsked_38 : decode cX7_isAsked 38 = .ok (.isub, 1) := by decide +kernel
theorem dX7_isAsked_39 : decode cX7_isAsked 39 = .ok (.invokestatic 72, 3) := by decide +kernel
theorem dX7_isAsked_42 : decode cX7_isAsked 42 = .ok (.ifCond .eq 7, 3) := by decide +kernel
theorem dX7_isAsked_45 : decode cX7_isAsked 45 = .ok (.iconst 1, 1) := by decide +kernel
theorem dX7_isAsked_46 : decode cX7_isAsked 46 = .ok (.goto 4, 3) := by decide +kernel
theorem dX7_isAsked_49 : decode cX7_isAsked 49 = .ok (.iconst 0, 1) := by decide +kernel
theorem dX7_isAsked_50 : decode cX7_isAsked 50 = .ok (.ireturn, 1) := by decide +kernel
theorem dX7_round_0 : decode cX7_round 0 = .ok (.aload_n 0, 1) := by decide +kernel
theorem dX7_round_1 : decode cX7_round 1 = .ok (.iconst 0, 1) := by decide +kernel
theorem dX7_round_2 : decode cX7_round 2 = .ok (.putfield 57, 3) := by decide +kernel
theorem dX7_round_5 : decode cX7_round 5 = .ok (.aload_n 0, 1) := by decide +kernel
theorem dX7_round_6 : decode cX7_round 6 = .ok (.iload_n 1, 1) := by decide +kernel
theorem dX7_round_7 : decode cX7_round 7 = .ok (.iload_n 2, 1) := by decide +kernel
theorem dX7_round_8 : decode cX7_round 8 = .ok (.iload_n 3, 1) := by decide +kernel
theorem dX7_round_9 : decode cX7_round 9 = .ok (.iload 4, 2) := by decide +kernel
theorem dX7_round_11 : decode cX7_round 11 = .ok (.invokevirtual 220, 3) := by decide +kernel
theorem dX7_round_14 : decode cX7_round 14 = .ok (.ifCond .ne 5, 3) := by decide +kernel
theorem dX7_round_17 : decode cX7_round 17 = .ok (.iconst (-1), 1) := by decide +kernel
theorem dX7_round_18 : decode cX7_round 18 = .ok (.ireturn, 1) := by decide +kernel
theorem dX7_round_19 : decode cX7_round 19 = .ok (.aload_n 0, 1) := by decide +kernel
theorem dX7_round_20 : decode cX7_round 20 = .ok (.iload_n 1, 1) := by decide +kernel
theorem dX7_round_21 : decode cX7_round 21 = .ok (.invokevirtual 224, 3) := by decide +kernel
theorem dX7_round_24 : decode cX7_round 24 = .ok (.aload_n 0, 1) := by decide +kernel
theorem dX7_round_25 : decode cX7_round 25 = .ok (.getfield 51, 3) := by decide +kernel
theorem dX7_round_28 : decode cX7_round 28 = .ok (.bipush 16, 2) := by decide +kernel
theorem dX7_round_30 : decode cX7_round 30 = .ok (.iload_n 2, 1) := by decide +kernel
theorem dX7_round_31 : decode cX7_round 31 = .ok (.imul, 1) := by decide +kernel
theorem dX7_round_32 : decode cX7_round 32 = .ok (.iconst 4, 1) := by decide +kernel
theorem dX7_round_33 : decode cX7_round 33 = .ok (.iload_n 3, 1) := by decide +kernel
theorem dX7_round_34 : decode cX7_round 34 = .ok (.imul, 1) := by decide +kernel
theorem dX7_round_35 : decode cX7_round 35 = .ok (.iadd, 1) := by decide +kernel
theorem dX7_round_36 : decode cX7_round 36 = .ok (.iload 4, 2) := by decide +kernel
theorem dX7_round_38 : decode cX7_round 38 = .ok (.iadd, 1) := by decide +kernel
theorem dX7_round_39 : decode cX7_round 39 = .ok (.iaload, 1) := by decide +kernel
theorem dX7_round_40 : decode cX7_round 40 = .ok (.ireturn, 1) := by decide +kernel
theorem dX7_by_0 : decode cX7_by 0 = .ok (.aload_n 0, 1) := by decide +kernel
theorem dX7_by_1 : decode cX7_by 1 = .ok (.iconst 0, 1) := by decide +kernel
theorem dX7_by_2 : decode cX7_by 2 = .ok (.putfield 57, 3) := by decide +kernel
theorem dX7_by_5 : decode cX7_by 5 = .ok (.aload_n 0, 1) := by decide +kernel
theorem dX7_by_6 : decode cX7_by 6 = .ok (.iload_n 1, 1) := by decide +kernel
theorem dX7_by_7 : decode cX7_by 7 = .ok (.iload_n 2, 1) := by decide +kernel
theorem dX7_by_8 : decode cX7_by 8 = .ok (.iload_n 3, 1) := by decide +kernel
theorem dX7_by_9 : decode cX7_by 9 = .ok (.iload 4, 2) := by decide +kernel
theorem dX7_by_11 : decode cX7_by 11 = .ok (.invokevirtual 220, 3) := by decide +kernel
theorem dX7_by_14 : decode cX7_by 14 = .ok (.ifCond .eq 13, 3) := by decide +kernel
theorem dX7_by_17 : decode cX7_by 17 = .ok (.iload 5, 2) := by decide +kernel
theorem dX7_by_19 : decode cX7_by 19 = .ok (.iconst 0, 1) := by decide +kernel
theorem dX7_by_20 : decode cX7_by 20 = .ok (.iconst 2, 1) := by decide +kernel
theorem dX7_by_21 : decode cX7_by 21 = .ok (.invokestatic 72, 3) := by decide +kernel
theorem dX7_by_24 : decode cX7_by 24 = .ok (.ifCond .ne 5, 3) := by decide +kernel
theorem dX7_by_27 : decode cX7_by 27 = .ok (.iconst (-1), 1) := by decide +kernel
theorem dX7_by_28 : decode cX7_by 28 = .ok (.ireturn, 1) := by decide +kernel
theorem dX7_by_29 : decode cX7_by 29 = .ok (.aload_n 0, 1) := by decide +kernel
theorem dX7_by_30 : decode cX7_by 30 = .ok (.iload_n 1, 1) := by decide +kernel
theorem dX7_by_31 : decode cX7_by 31 = .ok (.invokevirtual 224, 3) := by decide +kernel
theorem dX7_by_34 : decode cX7_by 34 = .ok (.bipush 16, 2) := by decide +kernel
theorem dX7_by_36 : decode cX7_by 36 = .ok (.iload_n 2, 1) := by decide +kernel
theorem dX7_by_37 : decode cX7_by 37 = .ok (.imul, 1) := by decide +kernel
theorem dX7_by_38 : decode cX7_by 38 = .ok (.iconst 4, 1) := by decide +kernel
theorem dX7_by_39 : decode cX7_by 39 = .ok (.iload_n 3, 1) := by decide +kernel
theorem dX7_by_40 : decode cX7_by 40 = .ok (.imul, 1) := by decide +kernel
theorem dX7_by_41 : decode cX7_by 41 = .ok (.iadd, 1) := by decide +kernel
theorem dX7_by_42 : decode cX7_by 42 = .ok (.iload 4, 2) := by decide +kernel
theorem dX7_by_44 : decode cX7_by 44 = .ok (.iadd, 1) := by decide +kernel
theorem dX7_by_45 : decode cX7_by 45 = .ok (.istore 6, 2) := by decide +kernel
theorem dX7_by_47 : decode cX7_by 47 = .ok (.aload_n 0, 1) := by decide +kernel
theorem dX7_by_48 : decode cX7_by 48 = .ok (.getfield 51, 3) := by decide +kernel
theorem dX7_by_51 : decode cX7_by 51 = .ok (.iload 6, 2) := by decide +kernel
theorem dX7_by_53 : decode cX7_by 53 = .ok (.iaload, 1) := by decide +kernel
theorem dX7_by_54 : decode cX7_by 54 = .ok (.istore 7, 2) := by decide +kernel
theorem dX7_by_56 : decode cX7_by 56 = .ok (.iload 7, 2) := by decide +kernel
theorem dX7_by_58 : decode cX7_by 58 = .ok (.bipush (-9), 2) := by decide +kernel
theorem dX7_by_60 : decode cX7_by 60 = .ok (.if_icmp .eq 13, 3) := by decide +kernel
theorem dX7_by_63 : decode cX7_by 63 = .ok (.aload_n 0, 1) := by decide +kernel
theorem dX7_by_64 : decode cX7_by 64 = .ok (.iload_n 1, 1) := by decide +kernel
theorem dX7_by_65 : decode cX7_by 65 = .ok (.iload 6, 2) := by decide +kernel
theorem dX7_by_67 : decode cX7_by 67 = .ok (.invokevirtual 210, 3) := by decide +kernel
theorem dX7_by_70 : decode cX7_by 70 = .ok (.ifCond .eq 6, 3) := by decide +kernel
theorem dX7_by_73 : decode cX7_by 73 = .ok (.bipush (-9), 2) := by decide +kernel
theorem dX7_by_75 : decode cX7_by 75 = .ok (.ireturn, 1) := by decide +kernel
theorem dX7_by_76 : decode cX7_by 76 = .ok (.iload 7, 2) := by decide +kernel
theorem dX7_by_78 : decode cX7_by 78 = .ok (.ifCond .ne 16, 3) := by decide +kernel
theorem dX7_by_81 : decode cX7_by 81 = .ok (.iload 5, 2) := by decide +kernel
theorem dX7_by_83 : decode cX7_by 83 = .ok (.ifCond .ne 8, 3) := by decide +kernel
theorem dX7_by_86 : decode cX7_by 86 = .ok (.bipush 7, 2) := by decide +kernel
theorem dX7_by_88 : decode cX7_by 88 = .ok (.goto 5, 3) := by decide +kernel
theorem dX7_by_91 : decode cX7_by 91 = .ok (.bipush (-9), 2) := by decide +kernel
theorem dX7_by_93 : decode cX7_by 93 = .ok (.ireturn, 1) := by decide +kernel
theorem dX7_by_94 : decode cX7_by 94 = .ok (.iconst 0, 1) := by decide +kernel
theorem dX7_by_95 : decode cX7_by 95 = .ok (.istore 8, 2) := by decide +kernel
theorem dX7_by_97 : decode cX7_by 97 = .ok (.iload 8, 2) := by decide +kernel
theorem dX7_by_99 : decode cX7_by 99 = .ok (.bipush 9, 2) := by decide +kernel
theorem dX7_by_101 : decode cX7_by 101 = .ok (.if_icmp .ge 67, 3) := by decide +kernel
theorem dX7_by_104 : decode cX7_by 104 = .ok (.aload_n 0, 1) := by decide +kernel
theorem dX7_by_105 : decode cX7_by 105 = .ok (.getfield 16, 3) := by decide +kernel
theorem dX7_by_108 : decode cX7_by 108 = .ok (.iload 8, 2) := by decide +kernel
theorem dX7_by_110 : decode cX7_by 110 = .ok (.ishr, 1) := by decide +kernel
theorem dX7_by_111 : decode cX7_by 111 = .ok (.iconst 1, 1) := by decide +kernel
theorem dX7_by_112 : decode cX7_by 112 = .ok (.iand, 1) := by decide +kernel
theorem dX7_by_113 : decode cX7_by 113 = .ok (.iconst 1, 1) := by decide +kernel
theorem dX7_by_114 : decode cX7_by 114 = .ok (.if_icmp .ne 48, 3) := by decide +kernel
theorem dX7_by_117 : decode cX7_by 117 = .ok (.aload_n 0, 1) := by decide +kernel
theorem dX7_by_118 : decode cX7_by 118 = .ok (.iload 8, 2) := by decide +kernel
theorem dX7_by_120 : decode cX7_by 120 = .ok (.iload_n 2, 1) := by decide +kernel
theorem dX7_by_121 : decode cX7_by 121 = .ok (.iload_n 3, 1) := by decide +kernel
theorem dX7_by_122 : decode cX7_by 122 = .ok (.iload 4, 2) := by decide +kernel
theorem dX7_by_124 : decode cX7_by 124 = .ok (.iload 7, 2) := by decide +kernel
theorem dX7_by_126 : decode cX7_by 126 = .ok (.invokevirtual 216, 3) := by decide +kernel
theorem dX7_by_129 : decode cX7_by 129 = .ok (.ifCond .eq 33, 3) := by decide +kernel
theorem dX7_by_132 : decode cX7_by 132 = .ok (.iload 5, 2) := by decide +kernel
theorem dX7_by_134 : decode cX7_by 134 = .ok (.ifCond .ne 10, 3) := by decide +kernel
theorem dX7_by_137 : decode cX7_by 137 = .ok (.aload_n 0, 1) := by decide +kernel
theorem dX7_by_138 : decode cX7_by 138 = .ok (.getfield 198, 3) := by decide +kernel
theorem dX7_by_141 : decode cX7_by 141 = .ok (.goto 20, 3) := by decide +kernel
theorem dX7_by_144 : decode cX7_by 144 = .ok (.iload 5, 2) := by decide +kernel
theorem dX7_by_146 : decode cX7_by 146 = .ok (.iconst 1, 1) := by decide +kernel
theorem dX7_by_147 : decode cX7_by 147 = .ok (.if_icmp .ne 10, 3) := by decide +kernel
theorem dX7_by_150 : decode cX7_by 150 = .ok (.aload_n 0, 1) := by decide +kernel
theorem dX7_by_151 : decode cX7_by 151 = .ok (.getfield 201, 3) := by decide +kernel
theorem dX7_by_154 : decode cX7_by 154 = .ok (.goto 7, 3) := by decide +kernel
theorem dX7_by_157 : decode cX7_by 157 = .ok (.aload_n 0, 1) := by decide +kernel
theorem dX7_by_158 : decode cX7_by 158 = .ok (.getfield 204, 3) := by decide +kernel
theorem dX7_by_161 : decode cX7_by 161 = .ok (.ireturn, 1) := by decide +kernel
theorem dX7_by_162 : decode cX7_by 162 = .ok (.iinc 8 1, 3) := by decide +kernel
theorem dX7_by_165 : decode cX7_by 165 = .ok (.goto (-68), 3) := by decide +kernel
theorem dX7_by_168 : decode cX7_by 168 = .ok (.bipush (-9), 2) := by decide +kernel
theorem dX7_by_170 : decode cX7_by 170 = .ok (.ireturn, 1) := by decide +kernel
theorem dX7_shown_0 : decode cX7_shown 0 = .ok (.aload_n 0, 1) := by decide +kernel
theorem dX7_shown_1 : decode cX7_shown 1 = .ok (.iconst 0, 1) := by decide +kernel
theorem dX7_shown_2 : decode cX7_shown 2 = .ok (.putfield 57, 3) := by decide +kernel
theorem dX7_shown_5 : decode cX7_shown 5 = .ok (.iload_n 1, 1) := by decide +kernel
theorem dX7_shown_6 : decode cX7_shown 6 = .ok (.invokestatic 182, 3) := by decide +kernel
theorem dX7_shown_9 : decode cX7_shown 9 = .ok (.ifCond .eq 12, 3) := by decide +kernel
theorem dX7_shown_12 : decode cX7_shown 12 = .ok (.iload_n 2, 1) := by decide +kernel
theorem dX7_shown_13 : decode cX7_shown 13 = .ok (.iconst 0, 1) := by decide +kernel
theorem dX7_shown_14 : decode cX7_shown 14 = .ok (.iconst 3, 1) := by decide +kernel
theorem dX7_shown_15 : decode cX7_shown 15 = .ok (.invokestatic 72, 3) := by decide +kernel
theorem dX7_shown_18 : decode cX7_shown 18 = .ok (.ifCond .ne 5, 3) := by decide +kernel
theorem dX7_shown_21 : decode cX7_shown 21 = .ok (.iconst (-1), 1) := by decide +kernel
theorem dX7_shown_22 : decode cX7_shown 22 = .ok (.ireturn, 1) := by decide +kernel
theorem dX7_shown_23 : decode cX7_shown 23 = .ok (.aload_n 0, 1) := by decide +kernel
theorem dX7_shown_24 : decode cX7_shown 24 = .ok (.iload_n 1, 1) := by decide +kernel
theorem dX7_shown_25 : decode cX7_shown 25 = .ok (.invokevirtual 224, 3) := by decide +kernel
theorem dX7_shown_28 : decode cX7_shown 28 = .ok (.iload_n 2, 1) := by decide +kernel
theorem dX7_shown_29 : decode cX7_shown 29 = .ok (.iconst 1, 1) := by decide +kernel
theorem dX7_shown_30 : decode cX7_shown 30 = .ok (.if_icmp .ne 8, 3) := by decide +kernel
theorem dX7_shown_33 : decode cX7_shown 33 = .ok (.aload_n 0, 1) := by decide +kernel
theorem dX7_shown_34 : decode cX7_shown 34 = .ok (.getfield 213, 3) := by decide +kernel
theorem dX7_shown_37 : decode cX7_shown 37 = .ok (.ireturn, 1) := by decide +kernel
theorem dX7_shown_38 : decode cX7_shown 38 = .ok (.iconst 0, 1) := by decide +kernel
theorem dX7_shown_39 : decode cX7_shown 39 = .ok (.istore_n 3, 1) := by decide +kernel
theorem dX7_shown_40 : decode cX7_shown 40 = .ok (.iload_n 2, 1) := by decide +kernel
theorem dX7_shown_41 : decode cX7_shown 41 = .ok (.iconst 2, 1) := by decide +kernel
theorem dX7_shown_42 : decode cX7_shown 42 = .ok (.if_icmp .ne 86, 3) := by decide +kernel
theorem dX7_shown_45 : decode cX7_shown 45 = .ok (.iconst 0, 1) := by decide +kernel
theorem dX7_shown_46 : decode cX7_shown 46 = .ok (.istore 4, 2) := by decide +kernel
theorem dX7_shown_48 : decode cX7_shown 48 = .ok (.iload 4, 2) := by decide +kernel
theorem dX7_shown_50 : decode cX7_shown 50 = .ok (.bipush 16, 2) := by decide +kernel
theorem dX7_shown_52 : decode cX7_shown 52 = .ok (.if_icmp .ge 74, 3) := by decide +kernel
theorem dX7_shown_55 : decode cX7_shown 55 = .ok (.iload_n 3, 1) := by decide +kernel
theorem dX7_shown_56 : decode cX7_shown 56 = .ok (.aload_n 0, 1) := by decide +kernel
theorem dX7_shown_57 : decode cX7_shown 57 = .ok (.getfield 51, 3) := by decide +kernel
theorem dX7_shown_60 : decode cX7_shown 60 = .ok (.iload 4, 2) := by decide +kernel
theorem dX7_shown_62 : decode cX7_shown 62 = .ok (.iaload, 1) := by decide +kernel
theorem dX7_shown_63 : decode cX7_shown 63 = .ok (.bipush (-9), 2) := by decide +kernel
theorem dX7_shown_65 : decode cX7_shown 65 = .ok (.if_icmp .eq 18, 3) := by decide +kernel
theorem dX7_shown_68 : decode cX7_shown 68 = .ok (.aload_n 0, 1) := by decide +kernel
theorem dX7_shown_69 : decode cX7_shown 69 = .ok (.getfield 51, 3) := by decide +kernel
theorem dX7_shown_72 : decode cX7_shown 72 = .ok (.bipush 48, 2) := by decide +kernel
theorem dX7_shown_74 : decode cX7_shown 74 = .ok (.iload 4, 2) := by decide +kernel
theorem dX7_shown_76 : decode cX7_shown 76 = .ok (.iadd, 1) := by decide +kernel
theorem dX7_shown_77 : decode cX7_shown 77 = .ok (.iaload, 1) := by decide +kernel
theorem dX7_shown_78 : decode cX7_shown 78 = .ok (.bipush (-9), 2) := by decide +kernel
theorem dX7_shown_80 : decode cX7_shown 80 = .ok (.if_icmp .ne 33, 3) := by decide +kernel
theorem dX7_shown_83 : decode cX7_shown 83 = .ok (.aload_n 0, 1) := by decide +kernel
theorem dX7_shown_84 : decode cX7_shown 84 = .ok (.getfield 51, 3) := by decide +kernel
theorem dX7_shown_87 : decode cX7_shown 87 = .ok (.bipush 16, 2) := by decide +kernel
theorem dX7_shown_89 : decode cX7_shown 89 = .ok (.iload 4, 2) := by decide +kernel
theorem dX7_shown_91 : decode cX7_shown 91 = .ok (.iadd, 1) := by decide +kernel
theorem dX7_shown_92 : decode cX7_shown 92 = .ok (.iaload, 1) := by decide +kernel
theorem dX7_shown_93 : decode cX7_shown 93 = .ok (.bipush (-9), 2) := by decide +kernel
theorem dX7_shown_95 : decode cX7_shown 95 = .ok (.if_icmp .eq 22, 3) := by decide +kernel
theorem dX7_shown_98 : decode cX7_shown 98 = .ok (.aload_n 0, 1) := by decide +kernel
theorem dX7_shown_99 : decode cX7_shown 99 = .ok (.getfield 51, 3) := by decide +kernel
theorem dX7_shown_102 : decode cX7_shown 102 = .ok (.bipush 32, 2) := by decide +kernel
theorem dX7_shown_104 : decode cX7_shown 104 = .ok (.iload 4, 2) := by decide +kernel
theorem dX7_shown_106 : decode cX7_shown 106 = .ok (.iadd, 1) := by decide +kernel
theorem dX7_shown_107 : decode cX7_shown 107 = .ok (.iaload, 1) := by decide +kernel
theorem dX7_shown_108 : decode cX7_shown 108 = .ok (.bipush (-9), 2) := by decide +kernel
theorem dX7_shown_110 : decode cX7_shown 110 = .ok (.if_icmp .eq 7, 3) := by decide +kernel
theorem dX7_shown_113 : decode cX7_shown 113 = .ok (.iconst 1, 1) := by decide +kernel
theorem dX7_shown_114 : decode cX7_shown 114 = .ok (.goto 4, 3) := by decide +kernel
theorem dX7_shown_117 : decode cX7_shown 117 = .ok (.iconst 0, 1) := by decide +kernel
theorem dX7_shown_118 : decode cX7_shown 118 = .ok (.ior, 1) := by decide +kernel
theorem dX7_shown_119 : decode cX7_shown 119 = .ok (.istore_n 3, 1) := by decide +kernel
theorem dX7_shown_120 : decode cX7_shown 120 = .ok (.iinc 4 1, 3) := by decide +kernel
theorem dX7_shown_123 : decode cX7_shown 123 = .ok (.goto (-75), 3) := by decide +kernel
theorem dX7_shown_126 : decode cX7_shown 126 = .ok (.iload_n 3, 1) := by decide +kernel
theorem dX7_shown_127 : decode cX7_shown 127 = .ok (.ireturn, 1) := by decide +kernel
theorem dX7_shown_128 : decode cX7_shown 128 = .ok (.iload_n 2, 1) := by decide +kernel
theorem dX7_shown_129 : decode cX7_shown 129 = .ok (.ifCond .ne 41, 3) := by decide +kernel
theorem dX7_shown_132 : decode cX7_shown 132 = .ok (.iconst 0, 1) := by decide +kernel
theorem dX7_shown_133 : decode cX7_shown 133 = .ok (.istore 4, 2) := by decide +kernel
theorem dX7_shown_135 : decode cX7_shown 135 = .ok (.iload 4, 2) := by decide +kernel
theorem dX7_shown_137 : decode cX7_shown 137 = .ok (.bipush 64, 2) := by decide +kernel
theorem dX7_shown_139 : decode cX7_shown 139 = .ok (.if_icmp .ge 29, 3) := by decide +kernel
theorem dX7_shown_142 : decode cX7_shown 142 = .ok (.iload_n 3, 1) := by decide +kernel
theorem dX7_shown_143 : decode cX7_shown 143 = .ok (.aload_n 0, 1) := by decide +kernel
theorem dX7_shown_144 : decode cX7_shown 144 = .ok (.getfield 51, 3) := by decide +kernel
theorem dX7_shown_147 : decode cX7_shown 147 = .ok (.iload 4, 2) := by decide +kernel
theorem dX7_shown_149 : decode cX7_shown 149 = .ok (.iaload, 1) := by decide +kernel
theorem dX7_shown_150 : decode cX7_shown 150 = .ok (.bipush (-9), 2) := by decide +kernel
theorem dX7_shown_152 : decode cX7_shown 152 = .ok (.if_icmp .ne 7, 3) := by decide +kernel
theorem dX7_shown_155 : decode cX7_shown 155 = .ok (.iconst 0, 1) := by decide +kernel
theorem dX7_shown_156 : decode cX7_shown 156 = .ok (.goto 4, 3) := by decide +kernel
theorem dX7_shown_159 : decode cX7_shown 159 = .ok (.iconst 1, 1) := by decide +kernel
theorem dX7_shown_160 : decode cX7_shown 160 = .ok (.iadd, 1) := by decide +kernel
theorem dX7_shown_161 : decode cX7_shown 161 = .ok (.istore_n 3, 1) := by decide +kernel
theorem dX7_shown_162 : decode cX7_shown 162 = .ok (.iinc 4 1, 3) := by decide +kernel
theorem dX7_shown_165 : decode cX7_shown 165 = .ok (.goto (-30), 3) := by decide +kernel
theorem dX7_shown_168 : decode cX7_shown 168 = .ok (.iload_n 3, 1) := by decide +kernel
theorem dX7_shown_169 : decode cX7_shown 169 = .ok (.ireturn, 1) := by decide +kernel
theorem dX7_shown_170 : decode cX7_shown 170 = .ok (.aload_n 0, 1) := by decide +kernel
theorem dX7_shown_171 : decode cX7_shown 171 = .ok (.invokevirtual 76, 3) := by decide +kernel
theorem dX7_shown_174 : decode cX7_shown 174 = .ok (.ldc2_w 170, 3) := by decide +kernel
theorem dX7_shown_177 : decode cX7_shown 177 = .ok (.lstore 4, 2) := by decide +kernel
theorem dX7_shown_179 : decode cX7_shown 179 = .ok (.iconst 0, 1) := by decide +kernel
theorem dX7_shown_180 : decode cX7_shown 180 = .ok (.istore 6, 2) := by decide +kernel
theorem dX7_shown_182 : decode cX7_shown 182 = .ok (.iload 6, 2) := by decide +kernel
theorem dX7_shown_184 : decode cX7_shown 184 = .ok (.sipush 1024, 3) := by decide +kernel
theorem dX7_shown_187 : decode cX7_shown 187 = .ok (.if_icmp .ge 46, 3) := by decide +kernel
theorem dX7_shown_190 : decode cX7_shown 190 = .ok (.lload 4, 2) := by decide +kernel
theorem dX7_shown_192 : decode cX7_shown 192 = .ok (.aload_n 0, 1) := by decide +kernel
theorem dX7_shown_193 : decode cX7_shown 193 = .ok (.getfield 38, 3) := by decide +kernel
theorem dX7_shown_196 : decode cX7_shown 196 = .ok (.iload 6, 2) := by decide +kernel
theorem dX7_shown_198 : decode cX7_shown 198 = .ok (.iaload, 1) := by decide +kernel
theorem dX7_shown_199 : decode cX7_shown 199 = .ok (.ifCond .le 22, 3) := by decide +kernel
theorem dX7_shown_202 : decode cX7_shown 202 = .ok (.iload_n 1, 1) := by decide +kernel
theorem dX7_shown_203 : decode cX7_shown 203 = .ok (.iload 6, 2) := by decide +kernel
theorem dX7_shown_205 : decode cX7_shown 205 = .ok (.invokestatic 178, 3) := by decide +kernel
theorem dX7_shown_208 : decode cX7_shown 208 = .ok (.ifCond .eq 13, 3) := by decide +kernel
theorem dX7_shown_211 : decode cX7_shown 211 = .ok (.aload_n 0, 1) := by decide +kernel
theorem dX7_shown_212 : decode cX7_shown 212 = .ok (.getfield 47, 3) := by decide +kernel
theorem dX7_shown_215 : decode cX7_shown 215 = .ok (.iload 6, 2) := by decide +kernel
theorem dX7_shown_217 : decode cX7_shown 217 = .ok (.laload, 1) := by decide +kernel
theorem dX7_shown_218 : decode cX7_shown 218 = .ok (.goto 6, 3) := by decide +kernel
theorem dX7_shown_221 : decode cX7_shown 221 = .ok (.ldc2_w 170, 3) := by decide +kernel
theorem dX7_shown_224 : decode cX7_shown 224 = .ok (.land, 1) := by decide +kernel
theorem dX7_shown_225 : decode cX7_shown 225 = .ok (.lstore 4, 2) := by decide +kernel
theorem dX7_shown_227 : decode cX7_shown 227 = .ok (.iinc 6 1, 3) := by decide +kernel
theorem dX7_shown_230 : decode cX7_shown 230 = .ok (.goto (-48), 3) := by decide +kernel
theorem dX7_shown_233 : decode cX7_shown 233 = .ok (.iconst 0, 1) := by decide +kernel
theorem dX7_shown_234 : decode cX7_shown 234 = .ok (.istore 6, 2) := by decide +kernel
theorem dX7_shown_236 : decode cX7_shown 236 = .ok (.iload 6, 2) := by decide +kernel
theorem dX7_shown_238 : decode cX7_shown 238 = .ok (.bipush 64, 2) := by decide +kernel
theorem dX7_shown_240 : decode cX7_shown 240 = .ok (.if_icmp .ge 65, 3) := by decide +kernel
theorem dX7_shown_243 : decode cX7_shown 243 = .ok (.iload_n 3, 1) := by decide +kernel
theorem dX7_shown_244 : decode cX7_shown 244 = .ok (.iload 6, 2) := by decide +kernel
theorem dX7_shown_246 : decode cX7_shown 246 = .ok (.iconst 4, 1) := by decide +kernel
theorem dX7_shown_247 : decode cX7_shown 247 = .ok (.idiv, 1) := by decide +kernel
theorem dX7_shown_248 : decode cX7_shown 248 = .ok (.iconst 4, 1) := by decide +kernel
theorem dX7_shown_249 : decode cX7_shown 249 = .ok (.irem, 1) := by decide +kernel
theorem dX7_shown_250 : decode cX7_shown 250 = .ok (.aload_n 0, 1) := by decide +kernel
theorem dX7_shown_251 : decode cX7_shown 251 = .ok (.getfield 7, 3) := by decide +kernel
theorem dX7_shown_254 : decode cX7_shown 254 = .ok (.if_icmp .ge 42, 3) := by decide +kernel
theorem dX7_shown_257 : decode cX7_shown 257 = .ok (.iload 6, 2) := by decide +kernel
theorem dX7_shown_259 : decode cX7_shown 259 = .ok (.iconst 4, 1) := by decide +kernel
theorem dX7_shown_260 : decode cX7_shown 260 = .ok (.irem, 1) := by decide +kernel
theorem dX7_shown_261 : decode cX7_shown 261 = .ok (.aload_n 0, 1) := by decide +kernel
theorem dX7_shown_262 : decode cX7_shown 262 = .ok (.getfield 7, 3) := by decide +kernel
theorem dX7_shown_265 : decode cX7_shown 265 = .ok (.if_icmp .ge 31, 3) := by decide +kernel
theorem dX7_shown_268 : decode cX7_shown 268 = .ok (.lload 4, 2) := by decide +kernel
theorem dX7_shown_270 : decode cX7_shown 270 = .ok (.iload 6, 2) := by decide +kernel
theorem dX7_shown_272 : decode cX7_shown 272 = .ok (.lshr, 1) := by decide +kernel
theorem dX7_shown_273 : decode cX7_shown 273 = .ok (.lconst 1, 1) := by decide +kernel
theorem dX7_shown_274 : decode cX7_shown 274 = .ok (.land, 1) := by decide +kernel
theorem dX7_shown_275 : decode cX7_shown 275 = .ok (.lconst 1, 1) := by decide +kernel
theorem dX7_shown_276 : decode cX7_shown 276 = .ok (.lcmp, 1) := by decide +kernel
theorem dX7_shown_277 : decode cX7_shown 277 = .ok (.ifCond .ne 19, 3) := by decide +kernel
theorem dX7_shown_280 : decode cX7_shown 280 = .ok (.aload_n 0, 1) := by decide +kernel
theorem dX7_shown_281 : decode cX7_shown 281 = .ok (.getfield 51, 3) := by decide +kernel
theorem dX7_shown_284 : decode cX7_shown 284 = .ok (.iload 6, 2) := by decide +kernel
theorem dX7_shown_286 : decode cX7_shown 286 = .ok (.iaload, 1) := by decide +kernel
theorem dX7_shown_287 : decode cX7_shown 287 = .ok (.bipush (-9), 2) := by decide +kernel
theorem dX7_shown_289 : decode cX7_shown 289 = .ok (.if_icmp .ne 7, 3) := by decide +kernel
theorem dX7_shown_292 : decode cX7_shown 292 = .ok (.iconst 1, 1) := by decide +kernel
theorem dX7_shown_293 : decode cX7_shown 293 = .ok (.goto 4, 3) := by decide +kernel
theorem dX7_shown_296 : decode cX7_shown 296 = .ok (.iconst 0, 1) := by decide +kernel
theorem dX7_shown_297 : decode cX7_shown 297 = .ok (.iadd, 1) := by decide +kernel
theorem dX7_shown_298 : decode cX7_shown 298 = .ok (.istore_n 3, 1) := by decide +kernel
theorem dX7_shown_299 : decode cX7_shown 299 = .ok (.iinc 6 1, 3) := by decide +kernel
theorem dX7_shown_302 : decode cX7_shown 302 = .ok (.goto (-66), 3) := by decide +kernel
theorem dX7_shown_305 : decode cX7_shown 305 = .ok (.iload_n 3, 1) := by decide +kernel
theorem dX7_shown_306 : decode cX7_shown 306 = .ok (.ireturn, 1) := by decide +kernel
theorem dX7_count_0 : decode cX7_count 0 = .ok (.aload_n 0, 1) := by decide +kernel
theorem dX7_count_1 : decode cX7_count 1 = .ok (.iconst 0, 1) := by decide +kernel
theorem dX7_count_2 : decode cX7_count 2 = .ok (.putfield 57, 3) := by decide +kernel
theorem dX7_count_5 : decode cX7_count 5 = .ok (.iconst 0, 1) := by decide +kernel
theorem dX7_count_6 : decode cX7_count 6 = .ok (.istore_n 2, 1) := by decide +kernel
theorem dX7_count_7 : decode cX7_count 7 = .ok (.iconst 0, 1) := by decide +kernel
theorem dX7_count_8 : decode cX7_count 8 = .ok (.istore_n 3, 1) := by decide +kernel
theorem dX7_count_9 : decode cX7_count 9 = .ok (.iload_n 3, 1) := by decide +kernel
theorem dX7_count_10 : decode cX7_count 10 = .ok (.bipush 10, 2) := by decide +kernel
theorem dX7_count_12 : decode cX7_count 12 = .ok (.if_icmp .ge 35, 3) := by decide +kernel
theorem dX7_count_15 : decode cX7_count 15 = .ok (.iload_n 2, 1) := by decide +kernel
theorem dX7_count_16 : decode cX7_count 16 = .ok (.aload_n 0, 1) := by decide +kernel
theorem dX7_count_17 : decode cX7_count 17 = .ok (.getfield 26, 3) := by decide +kernel
theorem dX7_count_20 : decode cX7_count 20 = .ok (.bipush 6, 2) := by decide +kernel
theorem dX7_count_22 : decode cX7_count 22 = .ok (.iload_n 3, 1) := by decide +kernel
theorem dX7_count_23 : decode cX7_count 23 = .ok (.imul, 1) := by decide +kernel
theorem dX7_count_24 : decode cX7_count 24 = .ok (.iconst 5, 1) := by decide +kernel
theorem dX7_count_25 : decode cX7_count 25 = .ok (.iadd, 1) := by decide +kernel
theorem dX7_count_26 : decode cX7_count 26 = .ok (.iaload, 1) := by decide +kernel
theorem dX7_count_27 : decode cX7_count 27 = .ok (.bipush (-9), 2) := by decide +kernel
theorem dX7_count_29 : decode cX7_count 29 = .ok (.if_icmp .ne 7, 3) := by decide +kernel
theorem dX7_count_32 : decode cX7_count 32 = .ok (.iconst 0, 1) := by decide +kernel
theorem dX7_count_33 : decode cX7_count 33 = .ok (.goto 6, 3) := by decide +kernel
theorem dX7_count_36 : decode cX7_count 36 = .ok (.iconst 1, 1) := by decide +kernel
theorem dX7_count_37 : decode cX7_count 37 = .ok (.iload_n 3, 1) := by decide +kernel
theorem dX7_count_38 : decode cX7_count 38 = .ok (.ishl, 1) := by decide +kernel
theorem dX7_count_39 : decode cX7_count 39 = .ok (.ior, 1) := by decide +kernel
theorem dX7_count_40 : decode cX7_count 40 = .ok (.istore_n 2, 1) := by decide +kernel
theorem dX7_count_41 : decode cX7_count 41 = .ok (.iinc 3 1, 3) := by decide +kernel
theorem dX7_count_44 : decode cX7_count 44 = .ok (.goto (-35), 3) := by decide +kernel
theorem dX7_count_47 : decode cX7_count 47 = .ok (.iload_n 1, 1) := by decide +kernel
theorem dX7_count_48 : decode cX7_count 48 = .ok (.ifCond .ne 10, 3) := by decide +kernel
theorem dX7_count_51 : decode cX7_count 51 = .ok (.aload_n 0, 1) := by decide +kernel
theorem dX7_count_52 : decode cX7_count 52 = .ok (.getfield 7, 3) := by decide +kernel
theorem dX7_count_55 : decode cX7_count 55 = .ok (.goto 53, 3) := by decide +kernel
theorem dX7_count_58 : decode cX7_count 58 = .ok (.iload_n 1, 1) := by decide +kernel
theorem dX7_count_59 : decode cX7_count 59 = .ok (.iconst 1, 1) := by decide +kernel
theorem dX7_count_60 : decode cX7_count 60 = .ok (.if_icmp .ne 10, 3) := by decide +kernel
theorem dX7_count_63 : decode cX7_count 63 = .ok (.aload_n 0, 1) := by decide +kernel
theorem dX7_count_64 : decode cX7_count 64 = .ok (.getfield 13, 3) := by decide +kernel
theorem dX7_count_67 : decode cX7_count 67 = .ok (.goto 41, 3) := by decide +kernel
theorem dX7_count_70 : decode cX7_count 70 = .ok (.iload_n 1, 1) := by decide +kernel
theorem dX7_count_71 : decode cX7_count 71 = .ok (.iconst 2, 1) := by decide +kernel
theorem dX7_count_72 : decode cX7_count 72 = .ok (.if_icmp .ne 14, 3) := by decide +kernel
theorem dX7_count_75 : decode cX7_count 75 = .ok (.aload_n 0, 1) := by decide +kernel
theorem dX7_count_76 : decode cX7_count 76 = .ok (.aload_n 0, 1) := by decide +kernel
theorem dX7_count_77 : decode cX7_count 77 = .ok (.getfield 19, 3) := by decide +kernel
theorem dX7_count_80 : decode cX7_count 80 = .ok (.invokevirtual 82, 3) := by decide +kernel
theorem dX7_count_83 : decode cX7_count 83 = .ok (.goto 25, 3) := by decide +kernel
theorem dX7_count_86 : decode cX7_count 86 = .ok (.iload_n 1, 1) := by decide +kernel
theorem dX7_count_87 : decode cX7_count 87 = .ok (.iconst 3, 1) := by decide +kernel
theorem dX7_count_88 : decode cX7_count 88 = .ok (.if_icmp .ne 10, 3) := by decide +kernel
theorem dX7_count_91 : decode cX7_count 91 = .ok (.aload_n 0, 1) := by decide +kernel
theorem dX7_count_92 : decode cX7_count 92 = .ok (.getfield 98, 3) := by decide +kernel
theorem dX7_count_95 : decode cX7_count 95 = .ok (.goto 13, 3) := by decide +kernel
theorem dX7_count_98 : decode cX7_count 98 = .ok (.iload_n 1, 1) := by decide +kernel
theorem dX7_count_99 : decode cX7_count 99 = .ok (.iconst 4, 1) := by decide +kernel
theorem dX7_count_100 : decode cX7_count 100 = .ok (.if_icmp .ne 7, 3) := by decide +kernel
theorem dX7_count_103 : decode cX7_count 103 = .ok (.iload_n 2, 1) := by decide +kernel
theorem dX7_count_104 : decode cX7_count 104 = .ok (.goto 4, 3) := by decide +kernel
theorem dX7_count_107 : decode cX7_count 107 = .ok (.iconst (-1), 1) := by decide +kernel
theorem dX7_count_108 : decode cX7_count 108 = .ok (.ireturn, 1) := by decide +kernel
theorem dJ6_bitCount_0f7a4_0 : decode cJ6_bitCount_0f7a4 0 = .ok (.iload_n 0, 1) := by decide +kernel
theorem dJ6_bitCount_0f7a4_1 : decode cJ6_bitCount_0f7a4 1 = .ok (.iload_n 0, 1) := by decide +kernel
theorem dJ6_bitCount_0f7a4_2 : decode cJ6_bitCount_0f7a4 2 = .ok (.iconst 1, 1) := by decide +kernel
theorem dJ6_bitCount_0f7a4_3 : decode cJ6_bitCount_0f7a4 3 = .ok (.iushr, 1) := by decide +kernel
theorem dJ6_bitCount_0f7a4_4 : decode cJ6_bitCount_0f7a4 4 = .ok (.ldc_w 265, 3) := by decide +kernel
theorem dJ6_bitCount_0f7a4_7 : decode cJ6_bitCount_0f7a4 7 = .ok (.iand, 1) := by decide +kernel
theorem dJ6_bitCount_0f7a4_8 : decode cJ6_bitCount_0f7a4 8 = .ok (.isub, 1) := by decide +kernel
theorem dJ6_bitCount_0f7a4_9 : decode cJ6_bitCount_0f7a4 9 = .ok (.istore_n 0, 1) := by decide +kernel
theorem dJ6_bitCount_0f7a4_10 : decode cJ6_bitCount_0f7a4 10 = .ok (.iload_n 0, 1) := by decide +kernel
theorem dJ6_bitCount_0f7a4_11 : decode cJ6_bitCount_0f7a4 11 = .ok (.ldc_w 266, 3) := by decide +kernel
theorem dJ6_bitCount_0f7a4_14 : decode cJ6_bitCount_0f7a4 14 = .ok (.iand, 1) := by decide +kernel
theorem dJ6_bitCount_0f7a4_15 : decode cJ6_bitCount_0f7a4 15 = .ok (.iload_n 0, 1) := by decide +kernel
theorem dJ6_bitCount_0f7a4_16 : decode cJ6_bitCount_0f7a4 16 = .ok (.iconst 2, 1) := by decide +kernel
theorem dJ6_bitCount_0f7a4_17 : decode cJ6_bitCount_0f7a4 17 = .ok (.iushr, 1) := by decide +kernel
theorem dJ6_bitCount_0f7a4_18 : decode cJ6_bitCount_0f7a4 18 = .ok (.ldc_w 266, 3) := by decide +kernel
theorem dJ6_bitCount_0f7a4_21 : decode cJ6_bitCount_0f7a4 21 = .ok (.iand, 1) := by decide +kernel
theorem dJ6_bitCount_0f7a4_22 : decode cJ6_bitCount_0f7a4 22 = .ok (.iadd, 1) := by decide +kernel
theorem dJ6_bitCount_0f7a4_23 : decode cJ6_bitCount_0f7a4 23 = .ok (.istore_n 0, 1) := by decide +kernel
theorem dJ6_bitCount_0f7a4_24 : decode cJ6_bitCount_0f7a4 24 = .ok (.iload_n 0, 1) := by decide +kernel
theorem dJ6_bitCount_0f7a4_25 : decode cJ6_bitCount_0f7a4 25 = .ok (.iload_n 0, 1) := by decide +kernel
theorem dJ6_bitCount_0f7a4_26 : decode cJ6_bitCount_0f7a4 26 = .ok (.iconst 4, 1) := by decide +kernel
theorem dJ6_bitCount_0f7a4_27 : decode cJ6_bitCount_0f7a4 27 = .ok (.iushr, 1) := by decide +kernel
theorem dJ6_bitCount_0f7a4_28 : decode cJ6_bitCount_0f7a4 28 = .ok (.iadd, 1) := by decide +kernel
theorem dJ6_bitCount_0f7a4_29 : decode cJ6_bitCount_0f7a4 29 = .ok (.ldc_w 267, 3) := by decide +kernel
theorem dJ6_bitCount_0f7a4_32 : decode cJ6_bitCount_0f7a4 32 = .ok (.iand, 1) := by decide +kernel
theorem dJ6_bitCount_0f7a4_33 : decode cJ6_bitCount_0f7a4 33 = .ok (.istore_n 0, 1) := by decide +kernel
theorem dJ6_bitCount_0f7a4_34 : decode cJ6_bitCount_0f7a4 34 = .ok (.iload_n 0, 1) := by decide +kernel
theorem dJ6_bitCount_0f7a4_35 : decode cJ6_bitCount_0f7a4 35 = .ok (.iload_n 0, 1) := by decide +kernel
theorem dJ6_bitCount_0f7a4_36 : decode cJ6_bitCount_0f7a4 36 = .ok (.bipush 8, 2) := by decide +kernel
theorem dJ6_bitCount_0f7a4_38 : decode cJ6_bitCount_0f7a4 38 = .ok (.iushr, 1) := by decide +kernel
theorem dJ6_bitCount_0f7a4_39 : decode cJ6_bitCount_0f7a4 39 = .ok (.iadd, 1) := by decide +kernel
theorem dJ6_bitCount_0f7a4_40 : decode cJ6_bitCount_0f7a4 40 = .ok (.istore_n 0, 1) := by decide +kernel
theorem dJ6_bitCount_0f7a4_41 : decode cJ6_bitCount_0f7a4 41 = .ok (.iload_n 0, 1) := by decide +kernel
theorem dJ6_bitCount_0f7a4_42 : decode cJ6_bitCount_0f7a4 42 = .ok (.iload_n 0, 1) := by decide +kernel
theorem dJ6_bitCount_0f7a4_43 : decode cJ6_bitCount_0f7a4 43 = .ok (.bipush 16, 2) := by decide +kernel
theorem dJ6_bitCount_0f7a4_45 : decode cJ6_bitCount_0f7a4 45 = .ok (.iushr, 1) := by decide +kernel
theorem dJ6_bitCount_0f7a4_46 : decode cJ6_bitCount_0f7a4 46 = .ok (.iadd, 1) := by decide +kernel
theorem dJ6_bitCount_0f7a4_47 : decode cJ6_bitCount_0f7a4 47 = .ok (.istore_n 0, 1) := by decide +kernel
theorem dJ6_bitCount_0f7a4_48 : decode cJ6_bitCount_0f7a4 48 = .ok (.iload_n 0, 1) := by decide +kernel
theorem dJ6_bitCount_0f7a4_49 : decode cJ6_bitCount_0f7a4 49 = .ok (.bipush 63, 2) := by decide +kernel
theorem dJ6_bitCount_0f7a4_51 : decode cJ6_bitCount_0f7a4 51 = .ok (.iand, 1) := by decide +kernel
theorem dJ6_bitCount_0f7a4_52 : decode cJ6_bitCount_0f7a4 52 = .ok (.ireturn, 1) := by decide +kernel
theorem dJ13_bitCount_95d88_0 : decode cJ13_bitCount_95d88 0 = .ok (.lload_n 0, 1) := by decide +kernel
theorem dJ13_bitCount_95d88_1 : decode cJ13_bitCount_95d88 1 = .ok (.lload_n 0, 1) := by decide +kernel
theorem dJ13_bitCount_95d88_2 : decode cJ13_bitCount_95d88 2 = .ok (.iconst 1, 1) := by decide +kernel
theorem dJ13_bitCount_95d88_3 : decode cJ13_bitCount_95d88 3 = .ok (.lushr, 1) := by decide +kernel
theorem dJ13_bitCount_95d88_4 : decode cJ13_bitCount_95d88 4 = .ok (.ldc2_w 314, 3) := by decide +kernel
theorem dJ13_bitCount_95d88_7 : decode cJ13_bitCount_95d88 7 = .ok (.land, 1) := by decide +kernel
theorem dJ13_bitCount_95d88_8 : decode cJ13_bitCount_95d88 8 = .ok (.lsub, 1) := by decide +kernel
theorem dJ13_bitCount_95d88_9 : decode cJ13_bitCount_95d88 9 = .ok (.lstore_n 0, 1) := by decide +kernel
theorem dJ13_bitCount_95d88_10 : decode cJ13_bitCount_95d88 10 = .ok (.lload_n 0, 1) := by decide +kernel
theorem dJ13_bitCount_95d88_11 : decode cJ13_bitCount_95d88 11 = .ok (.ldc2_w 316, 3) := by decide +kernel
theorem dJ13_bitCount_95d88_14 : decode cJ13_bitCount_95d88 14 = .ok (.land, 1) := by decide +kernel
theorem dJ13_bitCount_95d88_15 : decode cJ13_bitCount_95d88 15 = .ok (.lload_n 0, 1) := by decide +kernel
theorem dJ13_bitCount_95d88_16 : decode cJ13_bitCount_95d88 16 = .ok (.iconst 2, 1) := by decide +kernel
theorem dJ13_bitCount_95d88_17 : decode cJ13_bitCount_95d88 17 = .ok (.lushr, 1) := by decide +kernel
theorem dJ13_bitCount_95d88_18 : decode cJ13_bitCount_95d88 18 = .ok (.ldc2_w 316, 3) := by decide +kernel
theorem dJ13_bitCount_95d88_21 : decode cJ13_bitCount_95d88 21 = .ok (.land, 1) := by decide +kernel
theorem dJ13_bitCount_95d88_22 : decode cJ13_bitCount_95d88 22 = .ok (.ladd, 1) := by decide +kernel
theorem dJ13_bitCount_95d88_23 : decode cJ13_bitCount_95d88 23 = .ok (.lstore_n 0, 1) := by decide +kernel
theorem dJ13_bitCount_95d88_24 : decode cJ13_bitCount_95d88 24 = .ok (.lload_n 0, 1) := by decide +kernel
theorem dJ13_bitCount_95d88_25 : decode cJ13_bitCount_95d88 25 = .ok (.lload_n 0, 1) := by decide +kernel
theorem dJ13_bitCount_95d88_26 : decode cJ13_bitCount_95d88 26 = .ok (.iconst 4, 1) := by decide +kernel
theorem dJ13_bitCount_95d88_27 : decode cJ13_bitCount_95d88 27 = .ok (.lushr, 1) := by decide +kernel
theorem dJ13_bitCount_95d88_28 : decode cJ13_bitCount_95d88 28 = .ok (.ladd, 1) := by decide +kernel
theorem dJ13_bitCount_95d88_29 : decode cJ13_bitCount_95d88 29 = .ok (.ldc2_w 318, 3) := by decide +kernel
theorem dJ13_bitCount_95d88_32 : decode cJ13_bitCount_95d88 32 = .ok (.land, 1) := by decide +kernel
theorem dJ13_bitCount_95d88_33 : decode cJ13_bitCount_95d88 33 = .ok (.lstore_n 0, 1) := by decide +kernel
theorem dJ13_bitCount_95d88_34 : decode cJ13_bitCount_95d88 34 = .ok (.lload_n 0, 1) := by decide +kernel
theorem dJ13_bitCount_95d88_35 : decode cJ13_bitCount_95d88 35 = .ok (.lload_n 0, 1) := by decide +kernel
theorem dJ13_bitCount_95d88_36 : decode cJ13_bitCount_95d88 36 = .ok (.bipush 8, 2) := by decide +kernel
theorem dJ13_bitCount_95d88_38 : decode cJ13_bitCount_95d88 38 = .ok (.lushr, 1) := by decide +kernel
theorem dJ13_bitCount_95d88_39 : decode cJ13_bitCount_95d88 39 = .ok (.ladd, 1) := by decide +kernel
theorem dJ13_bitCount_95d88_40 : decode cJ13_bitCount_95d88 40 = .ok (.lstore_n 0, 1) := by decide +kernel
theorem dJ13_bitCount_95d88_41 : decode cJ13_bitCount_95d88 41 = .ok (.lload_n 0, 1) := by decide +kernel
theorem dJ13_bitCount_95d88_42 : decode cJ13_bitCount_95d88 42 = .ok (.lload_n 0, 1) := by decide +kernel
theorem dJ13_bitCount_95d88_43 : decode cJ13_bitCount_95d88 43 = .ok (.bipush 16, 2) := by decide +kernel
theorem dJ13_bitCount_95d88_45 : decode cJ13_bitCount_95d88 45 = .ok (.lushr, 1) := by decide +kernel
theorem dJ13_bitCount_95d88_46 : decode cJ13_bitCount_95d88 46 = .ok (.ladd, 1) := by decide +kernel
theorem dJ13_bitCount_95d88_47 : decode cJ13_bitCount_95d88 47 = .ok (.lstore_n 0, 1) := by decide +kernel
theorem dJ13_bitCount_95d88_48 : decode cJ13_bitCount_95d88 48 = .ok (.lload_n 0, 1) := by decide +kernel
theorem dJ13_bitCount_95d88_49 : decode cJ13_bitCount_95d88 49 = .ok (.lload_n 0, 1) := by decide +kernel
theorem dJ13_bitCount_95d88_50 : decode cJ13_bitCount_95d88 50 = .ok (.bipush 32, 2) := by decide +kernel
theorem dJ13_bitCount_95d88_52 : decode cJ13_bitCount_95d88 52 = .ok (.lushr, 1) := by decide +kernel
theorem dJ13_bitCount_95d88_53 : decode cJ13_bitCount_95d88 53 = .ok (.ladd, 1) := by decide +kernel
theorem dJ13_bitCount_95d88_54 : decode cJ13_bitCount_95d88 54 = .ok (.lstore_n 0, 1) := by decide +kernel
theorem dJ13_bitCount_95d88_55 : decode cJ13_bitCount_95d88 55 = .ok (.lload_n 0, 1) := by decide +kernel
theorem dJ13_bitCount_95d88_56 : decode cJ13_bitCount_95d88 56 = .ok (.l2i, 1) := by decide +kernel
theorem dJ13_bitCount_95d88_57 : decode cJ13_bitCount_95d88 57 = .ok (.bipush 127, 2) := by decide +kernel
theorem dJ13_bitCount_95d88_59 : decode cJ13_bitCount_95d88 59 = .ok (.iand, 1) := by decide +kernel
theorem dJ13_bitCount_95d88_60 : decode cJ13_bitCount_95d88 60 = .ok (.ireturn, 1) := by decide +kernel
theorem dJ9_max_7cf53_0 : decode cJ9_max_7cf53 0 = .ok (.iload_n 0, 1) := by decide +kernel
theorem dJ9_max_7cf53_1 : decode cJ9_max_7cf53 1 = .ok (.iload_n 1, 1) := by decide +kernel
theorem dJ9_max_7cf53_2 : decode cJ9_max_7cf53 2 = .ok (.if_icmp .lt 7, 3) := by decide +kernel
theorem dJ9_max_7cf53_5 : decode cJ9_max_7cf53 5 = .ok (.iload_n 0, 1) := by decide +kernel
theorem dJ9_max_7cf53_6 : decode cJ9_max_7cf53 6 = .ok (.goto 4, 3) := by decide +kernel
theorem dJ9_max_7cf53_9 : decode cJ9_max_7cf53 9 = .ok (.iload_n 1, 1) := by decide +kernel
theorem dJ9_max_7cf53_10 : decode cJ9_max_7cf53 10 = .ok (.ireturn, 1) := by decide +kernel
theorem dJ9_min_7cf53_0 : decode cJ9_min_7cf53 0 = .ok (.iload_n 0, 1) := by decide +kernel
theorem dJ9_min_7cf53_1 : decode cJ9_min_7cf53 1 = .ok (.iload_n 1, 1) := by decide +kernel
theorem dJ9_min_7cf53_2 : decode cJ9_min_7cf53 2 = .ok (.if_icmp .gt 7, 3) := by decide +kernel
theorem dJ9_min_7cf53_5 : decode cJ9_min_7cf53 5 = .ok (.iload_n 0, 1) := by decide +kernel
theorem dJ9_min_7cf53_6 : decode cJ9_min_7cf53 6 = .ok (.goto 4, 3) := by decide +kernel
theorem dJ9_min_7cf53_9 : decode cJ9_min_7cf53 9 = .ok (.iload_n 1, 1) := by decide +kernel
theorem dJ9_min_7cf53_10 : decode cJ9_min_7cf53 10 = .ok (.ireturn, 1) := by decide +kernel
theorem dL_law_0 : decode cL_law 0 = .ok (.new 7, 3) := by decide +kernel
theorem dL_law_3 : decode cL_law 3 = .ok (.dup, 1) := by decide +kernel
theorem dL_law_4 : decode cL_law 4 = .ok (.invokespecial 9, 3) := by decide +kernel
theorem dL_law_7 : decode cL_law 7 = .ok (.astore_n 1, 1) := by decide +kernel
theorem dL_law_8 : decode cL_law 8 = .ok (.new 10, 3) := by decide +kernel
theorem dL_law_11 : decode cL_law 11 = .ok (.dup, 1) := by decide +kernel
theorem dL_law_12 : decode cL_law 12 = .ok (.invokespecial 12, 3) := by decide +kernel
theorem dL_law_15 : decode cL_law 15 = .ok (.astore_n 2, 1) := by decide +kernel
theorem dL_law_16 : decode cL_law 16 = .ok (.iconst 0, 1) := by decide +kernel
theorem dL_law_17 : decode cL_law 17 = .ok (.istore_n 3, 1) := by decide +kernel
theorem dL_law_18 : decode cL_law 18 = .ok (.iload_n 3, 1) := by decide +kernel
theorem dL_law_19 : decode cL_law 19 = .ok (.aload_n 0, 1) := by decide +kernel
theorem dL_law_20 : decode cL_law 20 = .ok (.arraylength, 1) := by decide +kernel
theorem dL_law_21 : decode cL_law 21 = .ok (.bipush 6, 2) := by decide +kernel
theorem dL_law_23 : decode cL_law 23 = .ok (.isub, 1) := by decide +kernel
theorem dL_law_24 : decode cL_law 24 = .ok (.if_icmp .gt 858, 3) := by decide +kernel
theorem dL_law_27 : decode cL_law 27 = .ok (.aload_n 0, 1) := by decide +kernel
theorem dL_law_28 : decode cL_law 28 = .ok (.iload_n 3, 1) := by decide +kernel
theorem dL_law_29 : decode cL_law 29 = .ok (.iaload, 1) := by decide +kernel
theorem dL_law_30 : decode cL_law 30 = .ok (.bipush 31, 2) := by decide +kernel
theorem dL_law_32 : decode cL_law 32 = .ok (.iand, 1) := by decide +kernel
theorem dL_law_33 : decode cL_law 33 = .ok (.tableswitch 843 0 23 #[111, 134, 157, 170, 203, 226, 259, 322, 335, 358, 391, 414, 447, 480, 523, 546, 579, 602, 625, 648, 671, 724, 787, 820], 111) := by decide +kernel
theorem dL_law_144 : decode cL_law 144 = .ok (.aload_n 1, 1) := by decide +kernel
theorem dL_law_145 : decode cL_law 145 = .ok (.aload_n 0, 1) := by decide +kernel
theorem dL_law_146 : decode cL_law 146 = .ok (.iload_n 3, 1) := by decide +kernel
theorem dL_law_147 : decode cL_law 147 = .ok (.iconst 1, 1) := by decide +kernel
theorem dL_law_148 : decode cL_law 148 = .ok (.iadd, 1) := by decide +kernel
theorem dL_law_149 : decode cL_law 149 = .ok (.iaload, 1) := by decide +kernel
theorem dL_law_150 : decode cL_law 150 = .ok (.invokevirtual 13, 3) := by decide +kernel
theorem dL_law_153 : decode cL_law 153 = .ok (.aload_n 2, 1) := by decide +kernel
theorem dL_law_154 : decode cL_law 154 = .ok (.aload_n 0, 1) := by decide +kernel
theorem dL_law_155 : decode cL_law 155 = .ok (.iload_n 3, 1) := by decide +kernel
theorem dL_law_156 : decode cL_law 156 = .ok (.iconst 1, 1) := by decide +kernel
theorem dL_law_157 : decode cL_law 157 = .ok (.iadd, 1) := by decide +kernel
theorem dL_law_158 : decode cL_law 158 = .ok (.iaload, 1) := by decide +kernel
theorem dL_law_159 : decode cL_law 159 = .ok (.invokevirtual 17, 3) := by decide +kernel
theorem dL_law_162 : decode cL_law 162 = .ok (.if_icmp .eq 714, 3) := by decide +kernel
theorem dL_law_165 : decode cL_law 165 = .ok (.iconst 0, 1) := by decide +kernel
theorem dL_law_166 : decode cL_law 166 = .ok (.ireturn, 1) := by decide +kernel
theorem dL_law_167 : decode cL_law 167 = .ok (.aload_n 1, 1) := by decide +kernel
theorem dL_law_168 : decode cL_law 168 = .ok (.aload_n 0, 1) := by decide +kernel
theorem dL_law_169 : decode cL_law 169 = .ok (.iload_n 3, 1) := by decide +kernel
theorem dL_law_170 : decode cL_law 170 = .ok (.iconst 1, 1) := by decide +kernel
theorem dL_law_171 : decode cL_law 171 = .ok (.iadd, 1) := by decide +kernel
theorem dL_law_172 : decode cL_law 172 = .ok (.iaload, 1) := by decide +kernel
theorem dL_law_173 : decode cL_law 173 = .ok (.invokevirtual 18, 3) := by decide +kernel
theorem dL_law_176 : decode cL_law 176 = .ok (.aload_n 2, 1) := by decide +kernel
theorem dL_law_177 : decode cL_law 177 = .ok (.aload_n 0, 1) := by decide +kernel
theorem dL_law_178 : decode cL_law 178 = .ok (.iload_n 3, 1) := by decide +kernel
theorem dL_law_179 : decode cL_law 179 = .ok (.iconst 1, 1) := by decide +kernel
theorem dL_law_180 : decode cL_law 180 = .ok (.iadd, 1) := by decide +kernel
theorem dL_law_181 : decode cL_law 181 = .ok (.iaload, 1) := by decide +kernel
theorem dL_law_182 : decode cL_law 182 = .ok (.invokevirtual 21, 3) := by decide +kernel
theorem dL_law_185 : decode cL_law 185 = .ok (.if_icmp .eq 691, 3) := by decide +kernel
theorem dL_law_188 : decode cL_law 188 = .ok (.iconst 0, 1) := by decide +kernel
theorem dL_law_189 : decode cL_law 189 = .ok (.ireturn, 1) := by decide +kernel
theorem dL_law_190 : decode cL_law 190 = .ok (.aload_n 1, 1) := by decide +kernel
theorem dL_law_191 : decode cL_law 191 = .ok (.invokevirtual 22, 3) := by decide +kernel
theorem dL_law_194 : decode cL_law 194 = .ok (.aload_n 2, 1) := by decide +kernel
theorem dL_law_195 : decode cL_law 195 = .ok (.invokevirtual 26, 3) := by decide +kernel
theorem dL_law_198 : decode cL_law 198 = .ok (.if_icmp .eq 678, 3) := by decide +kernel
theorem dL_law_201 : decode cL_law 201 = .ok (.iconst 0, 1) := by decide +kernel
theorem dL_law_202 : decode cL_law 202 = .ok (.ireturn, 1) := by decide +kernel
theorem dL_law_203 : decode cL_law 203 = .ok (.aload_n 1, 1) := by decide +kernel
theorem dL_law_204 : decode cL_law 204 = .ok (.aload_n 0, 1) := by decide +kernel
theorem dL_law_205 : decode cL_law 205 = .ok (.iload_n 3, 1) := by decide +kernel
theorem dL_law_206 : decode cL_law 206 = .ok (.iconst 1, 1) := by decide +kernel
theorem dL_law_207 : decode cL_law 207 = .ok (.iadd, 1) := by decide +kernel
theorem dL_law_208 : decode cL_law 208 = .ok (.iaload, 1) := by decide +kernel
theorem dL_law_209 : decode cL_law 209 = .ok (.aload_n 0, 1) := by decide +kernel
theorem dL_law_210 : decode cL_law 210 = .ok (.iload_n 3, 1) := by decide +kernel
theorem dL_law_211 : decode cL_law 211 = .ok (.iconst 2, 1) := by decide +kernel
theorem dL_law_212 : decode cL_law 212 = .ok (.iadd, 1) := by decide +kernel
theorem dL_law_213 : decode cL_law 213 = .ok (.iaload, 1) := by decide +kernel
theorem dL_law_214 : decode cL_law 214 = .ok (.invokevirtual 27, 3) := by decide +kernel
theorem dL_law_217 : decode cL_law 217 = .ok (.aload_n 2, 1) := by decide +kernel
theorem dL_law_218 : decode cL_law 218 = .ok (.aload_n 0, 1) := by decide +kernel
theorem dL_law_219 : decode cL_law 219 = .ok (.iload_n 3, 1) := by decide +kernel
theorem dL_law_220 : decode cL_law 220 = .ok (.iconst 1, 1) := by decide +kernel
theorem dL_law_221 : decode cL_law 221 = .ok (.iadd, 1) := by decide +kernel
theorem dL_law_222 : decode cL_law 222 = .ok (.iaload, 1) := by decide +kernel
theorem dL_law_223 : decode cL_law 223 = .ok (.aload_n 0, 1) := by decide +kernel
theorem dL_law_224 : decode cL_law 224 = .ok (.iload_n 3, 1) := by decide +kernel
theorem dL_law_225 : decode cL_law 225 = .ok (.iconst 2, 1) := by decide +kernel
theorem dL_law_226 : decode cL_law 226 = .ok (.iadd, 1) := by decide +kernel
theorem dL_law_227 : decode cL_law 227 = .ok (.iaload, 1) := by decide +kernel
theorem dL_law_228 : decode cL_law 228 = .ok (.invokevirtual 31, 3) := by decide +kernel
theorem dL_law_231 : decode cL_law 231 = .ok (.if_icmp .eq 645, 3) := by decide +kernel
theorem dL_law_234 : decode cL_law 234 = .ok (.iconst 0, 1) := by decide +kernel
theorem dL_law_235 : decode cL_law 235 = .ok (.ireturn, 1) := by decide +kernel
theorem dL_law_236 : decode cL_law 236 = .ok (.aload_n 1, 1) := by decide +kernel
theorem dL_law_237 : decode cL_law 237 = .ok (.aload_n 0, 1) := by decide +kernel
theorem dL_law_238 : decode cL_law 238 = .ok (.iload_n 3, 1) := by decide +kernel
theorem dL_law_239 : decode cL_law 239 = .ok (.iconst 1, 1) := by decide +kernel
theorem dL_law_240 : decode cL_law 240 = .ok (.iadd, 1) := by decide +kernel
theorem dL_law_241 : decode cL_law 241 = .ok (.iaload, 1) := by decide +kernel
theorem dL_law_242 : decode cL_law 242 = .ok (.invokevirtual 32, 3) := by decide +kernel
theorem dL_law_245 : decode cL_law 245 = .ok (.aload_n 2, 1) := by decide +kernel
theorem dL_law_246 : decode cL_law 246 = .ok (.aload_n 0, 1) := by decide +kernel
theorem dL_law_247 : decode cL_law 247 = .ok (.iload_n 3, 1) := by decide +kernel
theorem dL_law_248 : decode cL_law 248 = .ok (.iconst 1, 1) := by decide +kernel
theorem dL_law_249 : decode cL_law 249 = .ok (.iadd, 1) := by decide +kernel
theorem dL_law_250 : decode cL_law 250 = .ok (.iaload, 1) := by decide +kernel
theorem dL_law_251 : decode cL_law 251 = .ok (.invokevirtual 35, 3) := by decide +kernel
theorem dL_law_254 : decode cL_law 254 = .ok (.if_icmp .eq 622, 3) := by decide +kernel
theorem dL_law_257 : decode cL_law 257 = .ok (.iconst 0, 1) := by decide +kernel
theorem dL_law_258 : decode cL_law 258 = .ok (.ireturn, 1) := by decide +kernel
theorem dL_law_259 : decode cL_law 259 = .ok (.aload_n 1, 1) := by decide +kernel
theorem dL_law_260 : decode cL_law 260 = .ok (.aload_n 0, 1) := by decide +kernel
theorem dL_law_261 : decode cL_law 261 = .ok (.iload_n 3, 1) := by decide +kernel
theorem dL_law_262 : decode cL_law 262 = .ok (.iconst 1, 1) := by decide +kernel
theorem dL_law_263 : decode cL_law 263 = .ok (.iadd, 1) := by decide +kernel
theorem dL_law_264 : decode cL_law 264 = .ok (.iaload, 1) := by decide +kernel
theorem dL_law_265 : decode cL_law 265 = .ok (.aload_n 0, 1) := by decide +kernel
theorem dL_law_266 : decode cL_law 266 = .ok (.iload_n 3, 1) := by decide +kernel
theorem dL_law_267 : decode cL_law 267 = .ok (.iconst 2, 1) := by decide +kernel
theorem dL_law_268 : decode cL_law 268 = .ok (.iadd, 1) := by decide +kernel
theorem dL_law_269 : decode cL_law 269 = .ok (.iaload, 1) := by decide +kernel
theorem dL_law_270 : decode cL_law 270 = .ok (.invokevirtual 36, 3) := by decide +kernel
theorem dL_law_273 : decode cL_law 273 = .ok (.aload_n 2, 1) := by decide +kernel
theorem dL_law_274 : decode cL_law 274 = .ok (.aload_n 0, 1) := by decide +kernel
theorem dL_law_275 : decode cL_law 275 = .ok (.iload_n 3, 1) := by decide +kernel
theorem dL_law_276 : decode cL_law 276 = .ok (.iconst 1, 1) := by decide +kernel
theorem dL_law_277 : decode cL_law 277 = .ok (.iadd, 1) := by decide +kernel
theorem dL_law_278 : decode cL_law 278 = .ok (.iaload, 1) := by decide +kernel
theorem dL_law_279 : decode cL_law 279 = .ok (.aload_n 0, 1) := by decide +kernel
theorem dL_law_280 : decode cL_law 280 = .ok (.iload_n 3, 1) := by decide +kernel
theorem dL_law_281 : decode cL_law 281 = .ok (.iconst 2, 1) := by decide +kernel
theorem dL_law_282 : decode cL_law 282 = .ok (.iadd, 1) := by decide +kernel
theorem dL_law_283 : decode cL_law 283 = .ok (.iaload, 1) := by decide +kernel
theorem dL_law_284 : decode cL_law 284 = .ok (.invokevirtual 39, 3) := by decide +kernel
theorem dL_law_287 : decode cL_law 287 = .ok (.if_icmp .eq 589, 3) := by decide +kernel
theorem dL_law_290 : decode cL_law 290 = .ok (.iconst 0, 1) := by decide +kernel
theorem dL_law_291 : decode cL_law 291 = .ok (.ireturn, 1) := by decide +kernel
theorem dL_law_292 : decode cL_law 292 = .ok (.aload_n 1, 1) := by decide +kernel
theorem dL_law_293 : decode cL_law 293 = .ok (.aload_n 0, 1) := by decide +kernel
theorem dL_law_294 : decode cL_law 294 = .ok (.iload_n 3, 1) := by decide +kernel
theorem dL_law_295 : decode cL_law 295 = .ok (.iconst 1, 1) := by decide +kernel
theorem dL_law_296 : decode cL_law 296 = .ok (.iadd, 1) := by decide +kernel
theorem dL_law_297 : decode cL_law 297 = .ok (.iaload, 1) := by decide +kernel
theorem dL_law_298 : decode cL_law 298 = .ok (.i2l, 1) := by decide +kernel
theorem dL_law_299 : decode cL_law 299 = .ok (.bipush 32, 2) := by decide +kernel
theorem dL_law_301 : decode cL_law 301 = .ok (.lshl, 1) := by decide +kernel
theorem dL_law_302 : decode cL_law 302 = .ok (.aload_n 0, 1) := by decide +kernel
theorem dL_law_303 : decode cL_law 303 = .ok (.iload_n 3, 1) := by decide +kernel
theorem dL_law_304 : decode cL_law 304 = .ok (.iconst 2, 1) := by decide +kernel
theorem dL_law_305 : decode cL_law 305 = .ok (.iadd, 1) := by decide +kernel
theorem dL_law_306 : decode cL_law 306 = .ok (.iaload, 1) := by decide +kernel
theorem dL_law_307 : decode cL_law 307 = .ok (.i2l, 1) := by decide +kernel
theorem dL_law_308 : decode cL_law 308 = .ok (.ldc2_w 40, 3) := by decide +kernel
theorem dL_law_311 : decode cL_law 311 = .ok (.land, 1) := by decide +kernel
theorem dL_law_312 : decode cL_law 312 = .ok (.lor, 1) := by decide +kernel
theorem dL_law_313 : decode cL_law 313 = .ok (.aload_n 0, 1) := by decide +kernel
theorem dL_law_314 : decode cL_law 314 = .ok (.iload_n 3, 1) := by decide +kernel
theorem dL_law_315 : decode cL_law 315 = .ok (.iconst 3, 1) := by decide +kernel
theorem dL_law_316 : decode cL_law 316 = .ok (.iadd, 1) := by decide +kernel
theorem dL_law_317 : decode cL_law 317 = .ok (.iaload, 1) := by decide +kernel
theorem dL_law_318 : decode cL_law 318 = .ok (.invokevirtual 42, 3) := by decide +kernel
theorem dL_law_321 : decode cL_law 321 = .ok (.aload_n 2, 1) := by decide +kernel
theorem dL_law_322 : decode cL_law 322 = .ok (.aload_n 0, 1) := by decide +kernel
theorem dL_law_323 : decode cL_law 323 = .ok (.iload_n 3, 1) := by decide +kernel
theorem dL_law_324 : decode cL_law 324 = .ok (.iconst 1, 1) := by decide +kernel
theorem dL_law_325 : decode cL_law 325 = .ok (.iadd, 1) := by decide +kernel
theorem dL_law_326 : decode cL_law 326 = .ok (.iaload, 1) := by decide +kernel
theorem dL_law_327 : decode cL_law 327 = .ok (.i2l, 1) := by decide +kernel
theorem dL_law_328 : decode cL_law 328 = .ok (.bipush 32, 2) := by decide +kernel
theorem dL_law_330 : decode cL_law 330 = .ok (.lshl, 1) := by decide +kernel
theorem dL_law_331 : decode cL_law 331 = .ok (.aload_n 0, 1) := by decide +kernel
theorem dL_law_332 : decode cL_law 332 = .ok (.iload_n 3, 1) := by decide +kernel
theorem dL_law_333 : decode cL_law 333 = .ok (.iconst 2, 1) := by decide +kernel
theorem dL_law_334 : decode cL_law 334 = .ok (.iadd, 1) := by decide +kernel
theorem dL_law_335 : decode cL_law 335 = .ok (.iaload, 1) := by decide +kernel
theorem dL_law_336 : decode cL_law 336 = .ok (.i2l, 1) := by decide +kernel
theorem dL_law_337 : decode cL_law 337 = .ok (.ldc2_w 40, 3) := by decide +kernel
theorem dL_law_340 : decode cL_law 340 = .ok (.land, 1) := by decide +kernel
theorem dL_law_341 : decode cL_law 341 = .ok (.lor, 1) := by decide +kernel
theorem dL_law_342 : decode cL_law 342 = .ok (.aload_n 0, 1) := by decide +kernel
theorem dL_law_343 : decode cL_law 343 = .ok (.iload_n 3, 1) := by decide +kernel
theorem dL_law_344 : decode cL_law 344 = .ok (.iconst 3, 1) := by decide +kernel
theorem dL_law_345 : decode cL_law 345 = .ok (.iadd, 1) := by decide +kernel
theorem dL_law_346 : decode cL_law 346 = .ok (.iaload, 1) := by decide +kernel
theorem dL_law_347 : decode cL_law 347 = .ok (.invokevirtual 46, 3) := by decide +kernel
theorem dL_law_350 : decode cL_law 350 = .ok (.if_icmp .eq 526, 3) := by decide +kernel
theorem dL_law_353 : decode cL_law 353 = .ok (.iconst 0, 1) := by decide +kernel
theorem dL_law_354 : decode cL_law 354 = .ok (.ireturn, 1) := by decide +kernel
theorem dL_law_355 : decode cL_law 355 = .ok (.aload_n 1, 1) := by decide +kernel
theorem dL_law_356 : decode cL_law 356 = .ok (.invokevirtual 47, 3) := by decide +kernel
theorem dL_law_359 : decode cL_law 359 = .ok (.aload_n 2, 1) := by decide +kernel
theorem dL_law_360 : decode cL_law 360 = .ok (.invokevirtual 50, 3) := by decide +kernel
theorem dL_law_363 : decode cL_law 363 = .ok (.if_icmp .eq 513, 3) := by decide +kernel
theorem dL_law_366 : decode cL_law 366 = .ok (.iconst 0, 1) := by decide +kernel
theorem dL_law_367 : decode cL_law 367 = .ok (.ireturn, 1) := by decide +kernel
theorem dL_law_368 : decode cL_law 368 = .ok (.aload_n 1, 1) := by decide +kernel
theorem dL_law_369 : decode cL_law 369 = .ok (.aload_n 0, 1) := by decide +kernel
theorem dL_law_370 : decode cL_law 370 = .ok (.iload_n 3, 1) := by decide +kernel
theorem dL_law_371 : decode cL_law 371 = .ok (.iconst 1, 1) := by decide +kernel
theorem dL_law_372 : decode cL_law 372 = .ok (.iadd, 1) := by decide +kernel
theorem dL_law_373 : decode cL_law 373 = .ok (.iaload, 1) := by decide +kernel
theorem dL_law_374 : decode cL_law 374 = .ok (.invokevirtual 51, 3) := by decide +kernel
theorem dL_law_377 : decode cL_law 377 = .ok (.aload_n 2, 1) := by decide +kernel
theorem dL_law_378 : decode cL_law 378 = .ok (.aload_n 0, 1) := by decide +kernel
theorem dL_law_379 : decode cL_law 379 = .ok (.iload_n 3, 1) := by decide +kernel
theorem dL_law_380 : decode cL_law 380 = .ok (.iconst 1, 1) := by decide +kernel
theorem dL_law_381 : decode cL_law 381 = .ok (.iadd, 1) := by decide +kernel
theorem dL_law_382 : decode cL_law 382 = .ok (.iaload, 1) := by decide +kernel
theorem dL_law_383 : decode cL_law 383 = .ok (.invokevirtual 54, 3) := by decide +kernel
theorem dL_law_386 : decode cL_law 386 = .ok (.if_icmp .eq 490, 3) := by decide +kernel
theorem dL_law_389 : decode cL_law 389 = .ok (.iconst 0, 1) := by decide +kernel
theorem dL_law_390 : decode cL_law 390 = .ok (.ireturn, 1) := by decide +kernel
theorem dL_law_391 : decode cL_law 391 = .ok (.aload_n 1, 1) := by decide +kernel
theorem dL_law_392 : decode cL_law 392 = .ok (.aload_n 0, 1) := by decide +kernel
theorem dL_law_393 : decode cL_law 393 = .ok (.iload_n 3, 1) := by decide +kernel
theorem dL_law_394 : decode cL_law 394 = .ok (.iconst 1, 1) := by decide +kernel
theorem dL_law_395 : decode cL_law 395 = .ok (.iadd, 1) := by decide +kernel
theorem dL_law_396 : decode cL_law 396 = .ok (.iaload, 1) := by decide +kernel
theorem dL_law_397 : decode cL_law 397 = .ok (.aload_n 0, 1) := by decide +kernel
theorem dL_law_398 : decode cL_law 398 = .ok (.iload_n 3, 1) := by decide +kernel
theorem dL_law_399 : decode cL_law 399 = .ok (.iconst 2, 1) := by decide +kernel
theorem dL_law_400 : decode cL_law 400 = .ok (.iadd, 1) := by decide +kernel
theorem dL_law_401 : decode cL_law 401 = .ok (.iaload, 1) := by decide +kernel
theorem dL_law_402 : decode cL_law 402 = .ok (.invokevirtual 55, 3) := by decide +kernel
theorem dL_law_405 : decode cL_law 405 = .ok (.aload_n 2, 1) := by decide +kernel
theorem dL_law_406 : decode cL_law 406 = .ok (.aload_n 0, 1) := by decide +kernel
theorem dL_law_407 : decode cL_law 407 = .ok (.iload_n 3, 1) := by decide +kernel
theorem dL_law_408 : decode cL_law 408 = .ok (.iconst 1, 1) := by decide +kernel
theorem dL_law_409 : decode cL_law 409 = .ok (.iadd, 1) := by decide +kernel
theorem dL_law_410 : decode cL_law 410 = .ok (.iaload, 1) := by decide +kernel
theorem dL_law_411 : decode cL_law 411 = .ok (.aload_n 0, 1) := by decide +kernel
theorem dL_law_412 : decode cL_law 412 = .ok (.iload_n 3, 1) := by decide +kernel
theorem dL_law_413 : decode cL_law 413 = .ok (.iconst 2, 1) := by decide +kernel
theorem dL_law_414 : decode cL_law 414 = .ok (.iadd, 1) := by decide +kernel
theorem dL_law_415 : decode cL_law 415 = .ok (.iaload, 1) := by decide +kernel
theorem dL_law_416 : decode cL_law 416 = .ok (.invokevirtual 58, 3) := by decide +kernel
theorem dL_law_419 : decode cL_law 419 = .ok (.if_icmp .eq 457, 3) := by decide +kernel
theorem dL_law_422 : decode cL_law 422 = .ok (.iconst 0, 1) := by decide +kernel
theorem dL_law_423 : decode cL_law 423 = .ok (.ireturn, 1) := by decide +kernel
theorem dL_law_424 : decode cL_law 424 = .ok (.aload_n 1, 1) := by decide +kernel
theorem dL_law_425 : decode cL_law 425 = .ok (.aload_n 0, 1) := by decide +kernel
theorem dL_law_426 : decode cL_law 426 = .ok (.iload_n 3, 1) := by decide +kernel
theorem dL_law_427 : decode cL_law 427 = .ok (.iconst 1, 1) := by decide +kernel
theorem dL_law_428 : decode cL_law 428 = .ok (.iadd, 1) := by decide +kernel
theorem dL_law_429 : decode cL_law 429 = .ok (.iaload, 1) := by decide +kernel
theorem dL_law_430 : decode cL_law 430 = .ok (.invokevirtual 59, 3) := by decide +kernel
theorem dL_law_433 : decode cL_law 433 = .ok (.aload_n 2, 1) := by decide +kernel
theorem dL_law_434 : decode cL_law 434 = .ok (.aload_n 0, 1) := by decide +kernel
theorem dL_law_435 : decode cL_law 435 = .ok (.iload_n 3, 1) := by decide +kernel
theorem dL_law_436 : decode cL_law 436 = .ok (.iconst 1, 1) := by decide +kernel
theorem dL_law_437 : decode cL_law 437 = .ok (.iadd, 1) := by decide +kernel
theorem dL_law_438 : decode cL_law 438 = .ok (.iaload, 1) := by decide +kernel
theorem dL_law_439 : decode cL_law 439 = .ok (.invokevirtual 62, 3) := by decide +kernel
theorem dL_law_442 : decode cL_law 442 = .ok (.if_icmp .eq 434, 3) := by decide +kernel
theorem dL_law_445 : decode cL_law 445 = .ok (.iconst 0, 1) := by decide +kernel
theorem dL_law_446 : decode cL_law 446 = .ok (.ireturn, 1) := by decide +kernel
theorem dL_law_447 : decode cL_law 447 = .ok (.aload_n 1, 1) := by decide +kernel
theorem dL_law_448 : decode cL_law 448 = .ok (.aload_n 0, 1) := by decide +kernel
theorem dL_law_449 : decode cL_law 449 = .ok (.iload_n 3, 1) := by decide +kernel
theorem dL_law_450 : decode cL_law 450 = .ok (.iconst 1, 1) := by decide +kernel
theorem dL_law_451 : decode cL_law 451 = .ok (.iadd, 1) := by decide +kernel
theorem dL_law_452 : decode cL_law 452 = .ok (.iaload, 1) := by decide +kernel
theorem dL_law_453 : decode cL_law 453 = .ok (.aload_n 0, 1) := by decide +kernel
theorem dL_law_454 : decode cL_law 454 = .ok (.iload_n 3, 1) := by decide +kernel
theorem dL_law_455 : decode cL_law 455 = .ok (.iconst 2, 1) := by decide +kernel
theorem dL_law_456 : decode cL_law 456 = .ok (.iadd, 1) := by decide +kernel
theorem dL_law_457 : decode cL_law 457 = .ok (.iaload, 1) := by decide +kernel
theorem dL_law_458 : decode cL_law 458 = .ok (.invokevirtual 63, 3) := by decide +kernel
theorem dL_law_461 : decode cL_law 461 = .ok (.aload_n 2, 1) := by decide +kernel
theorem dL_law_462 : decode cL_law 462 = .ok (.aload_n 0, 1) := by decide +kernel
theorem dL_law_463 : decode cL_law 463 = .ok (.iload_n 3, 1) := by decide +kernel
theorem dL_law_464 : decode cL_law 464 = .ok (.iconst 1, 1) := by decide +kernel
theorem dL_law_465 : decode cL_law 465 = .ok (.iadd, 1) := by decide +kernel
theorem dL_law_466 : decode cL_law 466 = .ok (.iaload, 1) := by decide +kernel
theorem dL_law_467 : decode cL_law 467 = .ok (.aload_n 0, 1) := by decide +kernel
theorem dL_law_468 : decode cL_law 468 = .ok (.iload_n 3, 1) := by decide +kernel
theorem dL_law_469 : decode cL_law 469 = .ok (.iconst 2, 1) := by decide +kernel
theorem dL_law_470 : decode cL_law 470 = .ok (.iadd, 1) := by decide +kernel
theorem dL_law_471 : decode cL_law 471 = .ok (.iaload, 1) := by decide +kernel
theorem dL_law_472 : decode cL_law 472 = .ok (.invokevirtual 66, 3) := by decide +kernel
theorem dL_law_475 : decode cL_law 475 = .ok (.if_icmp .eq 401, 3) := by decide +kernel
theorem dL_law_478 : decode cL_law 478 = .ok (.iconst 0, 1) := by decide +kernel
theorem dL_law_479 : decode cL_law 479 = .ok (.ireturn, 1) := by decide +kernel
theorem dL_law_480 : decode cL_law 480 = .ok (.aload_n 1, 1) := by decide +kernel
theorem dL_law_481 : decode cL_law 481 = .ok (.aload_n 0, 1) := by decide +kernel
theorem dL_law_482 : decode cL_law 482 = .ok (.iload_n 3, 1) := by decide +kernel
theorem dL_law_483 : decode cL_law 483 = .ok (.iconst 1, 1) := by decide +kernel
theorem dL_law_484 : decode cL_law 484 = .ok (.iadd, 1) := by decide +kernel
theorem dL_law_485 : decode cL_law 485 = .ok (.iaload, 1) := by decide +kernel
theorem dL_law_486 : decode cL_law 486 = .ok (.aload_n 0, 1) := by decide +kernel
theorem dL_law_487 : decode cL_law 487 = .ok (.iload_n 3, 1) := by decide +kernel
theorem dL_law_488 : decode cL_law 488 = .ok (.iconst 2, 1) := by decide +kernel
theorem dL_law_489 : decode cL_law 489 = .ok (.iadd, 1) := by decide +kernel
theorem dL_law_490 : decode cL_law 490 = .ok (.iaload, 1) := by decide +kernel
theorem dL_law_491 : decode cL_law 491 = .ok (.invokevirtual 67, 3) := by decide +kernel
theorem dL_law_494 : decode cL_law 494 = .ok (.aload_n 2, 1) := by decide +kernel
theorem dL_law_495 : decode cL_law 495 = .ok (.aload_n 0, 1) := by decide +kernel
theorem dL_law_496 : decode cL_law 496 = .ok (.iload_n 3, 1) := by decide +kernel
theorem dL_law_497 : decode cL_law 497 = .ok (.iconst 1, 1) := by decide +kernel
theorem dL_law_498 : decode cL_law 498 = .ok (.iadd, 1) := by decide +kernel
theorem dL_law_499 : decode cL_law 499 = .ok (.iaload, 1) := by decide +kernel
theorem dL_law_500 : decode cL_law 500 = .ok (.aload_n 0, 1) := by decide +kernel
theorem dL_law_501 : decode cL_law 501 = .ok (.iload_n 3, 1) := by decide +kernel
theorem dL_law_502 : decode cL_law 502 = .ok (.iconst 2, 1) := by decide +kernel
theorem dL_law_503 : decode cL_law 503 = .ok (.iadd, 1) := by decide +kernel
theorem dL_law_504 : decode cL_law 504 = .ok (.iaload, 1) := by decide +kernel
theorem dL_law_505 : decode cL_law 505 = .ok (.invokevirtual 70, 3) := by decide +kernel
theorem dL_law_508 : decode cL_law 508 = .ok (.if_icmp .eq 368, 3) := by decide +kernel
theorem dL_law_511 : decode cL_law 511 = .ok (.iconst 0, 1) := by decide +kernel
theorem dL_law_512 : decode cL_law 512 = .ok (.ireturn, 1) := by decide +kernel
theorem dL_law_513 : decode cL_law 513 = .ok (.aload_n 1, 1) := by decide +kernel
theorem dL_law_514 : decode cL_law 514 = .ok (.aload_n 0, 1) := by decide +kernel
theorem dL_law_515 : decode cL_law 515 = .ok (.iload_n 3, 1) := by decide +kernel
theorem dL_law_516 : decode cL_law 516 = .ok (.iconst 1, 1) := by decide +kernel
theorem dL_law_517 : decode cL_law 517 = .ok (.iadd, 1) := by decide +kernel
theorem dL_law_518 : decode cL_law 518 = .ok (.iaload, 1) := by decide +kernel
theorem dL_law_519 : decode cL_law 519 = .ok (.aload_n 0, 1) := by decide +kernel
theorem dL_law_520 : decode cL_law 520 = .ok (.iload_n 3, 1) := by decide +kernel
theorem dL_law_521 : decode cL_law 521 = .ok (.iconst 2, 1) := by decide +kernel
theorem dL_law_522 : decode cL_law 522 = .ok (.iadd, 1) := by decide +kernel
theorem dL_law_523 : decode cL_law 523 = .ok (.iaload, 1) := by decide +kernel
theorem dL_law_524 : decode cL_law 524 = .ok (.aload_n 0, 1) := by decide +kernel
theorem dL_law_525 : decode cL_law 525 = .ok (.iload_n 3, 1) := by decide +kernel
theorem dL_law_526 : decode cL_law 526 = .ok (.iconst 3, 1) := by decide +kernel
theorem dL_law_527 : decode cL_law 527 = .ok (.iadd, 1) := by decide +kernel
theorem dL_law_528 : decode cL_law 528 = .ok (.iaload, 1) := by decide +kernel
theorem dL_law_529 : decode cL_law 529 = .ok (.invokevirtual 71, 3) := by decide +kernel
theorem dL_law_532 : decode cL_law 532 = .ok (.aload_n 2, 1) := by decide +kernel
theorem dL_law_533 : decode cL_law 533 = .ok (.aload_n 0, 1) := by decide +kernel
theorem dL_law_534 : decode cL_law 534 = .ok (.iload_n 3, 1) := by decide +kernel
theorem dL_law_535 : decode cL_law 535 = .ok (.iconst 1, 1) := by decide +kernel
theorem dL_law_536 : decode cL_law 536 = .ok (.iadd, 1) := by decide +kernel
theorem dL_law_537 : decode cL_law 537 = .ok (.iaload, 1) := by decide +kernel
theorem dL_law_538 : decode cL_law 538 = .ok (.aload_n 0, 1) := by decide +kernel
theorem dL_law_539 : decode cL_law 539 = .ok (.iload_n 3, 1) := by decide +kernel
theorem dL_law_540 : decode cL_law 540 = .ok (.iconst 2, 1) := by decide +kernel
theorem dL_law_541 : decode cL_law 541 = .ok (.iadd, 1) := by decide +kernel
theorem dL_law_542 : decode cL_law 542 = .ok (.iaload, 1) := by decide +kernel
theorem dL_law_543 : decode cL_law 543 = .ok (.aload_n 0, 1) := by decide +kernel
theorem dL_law_544 : decode cL_law 544 = .ok (.iload_n 3, 1) := by decide +kernel
theorem dL_law_545 : decode cL_law 545 = .ok (.iconst 3, 1) := by decide +kernel
theorem dL_law_546 : decode cL_law 546 = .ok (.iadd, 1) := by decide +kernel
theorem dL_law_547 : decode cL_law 547 = .ok (.iaload, 1) := by decide +kernel
theorem dL_law_548 : decode cL_law 548 = .ok (.invokevirtual 75, 3) := by decide +kernel
theorem dL_law_551 : decode cL_law 551 = .ok (.if_icmp .eq 325, 3) := by decide +kernel
theorem dL_law_554 : decode cL_law 554 = .ok (.iconst 0, 1) := by decide +kernel
theorem dL_law_555 : decode cL_law 555 = .ok (.ireturn, 1) := by decide +kernel
theorem dL_law_556 : decode cL_law 556 = .ok (.aload_n 1, 1) := by decide +kernel
theorem dL_law_557 : decode cL_law 557 = .ok (.aload_n 0, 1) := by decide +kernel
theorem dL_law_558 : decode cL_law 558 = .ok (.iload_n 3, 1) := by decide +kernel
theorem dL_law_559 : decode cL_law 559 = .ok (.iconst 1, 1) := by decide +kernel
theorem dL_law_560 : decode cL_law 560 = .ok (.iadd, 1) := by decide +kernel
theorem dL_law_561 : decode cL_law 561 = .ok (.iaload, 1) := by decide +kernel
theorem dL_law_562 : decode cL_law 562 = .ok (.invokevirtual 76, 3) := by decide +kernel
theorem dL_law_565 : decode cL_law 565 = .ok (.aload_n 2, 1) := by decide +kernel
theorem dL_law_566 : decode cL_law 566 = .ok (.aload_n 0, 1) := by decide +kernel
theorem dL_law_567 : decode cL_law 567 = .ok (.iload_n 3, 1) := by decide +kernel
theorem dL_law_568 : decode cL_law 568 = .ok (.iconst 1, 1) := by decide +kernel
theorem dL_law_569 : decode cL_law 569 = .ok (.iadd, 1) := by decide +kernel
theorem dL_law_570 : decode cL_law 570 = .ok (.iaload, 1) := by decide +kernel
theorem dL_law_571 : decode cL_law 571 = .ok (.invokevirtual 79, 3) := by decide +kernel
theorem dL_law_574 : decode cL_law 574 = .ok (.if_icmp .eq 302, 3) := by decide +kernel
theorem dL_law_577 : decode cL_law 577 = .ok (.iconst 0, 1) := by decide +kernel
theorem dL_law_578 : decode cL_law 578 = .ok (.ireturn, 1) := by decide +kernel
theorem dL_law_579 : decode cL_law 579 = .ok (.aload_n 1, 1) := by decide +kernel
theorem dL_law_580 : decode cL_law 580 = .ok (.aload_n 0, 1) := by decide +kernel
theorem dL_law_581 : decode cL_law 581 = .ok (.iload_n 3, 1) := by decide +kernel
theorem dL_law_582 : decode cL_law 582 = .ok (.iconst 1, 1) := by decide +kernel
theorem dL_law_583 : decode cL_law 583 = .ok (.iadd, 1) := by decide +kernel
theorem dL_law_584 : decode cL_law 584 = .ok (.iaload, 1) := by decide +kernel
theorem dL_law_585 : decode cL_law 585 = .ok (.aload_n 0, 1) := by decide +kernel
theorem dL_law_586 : decode cL_law 586 = .ok (.iload_n 3, 1) := by decide +kernel
theorem dL_law_587 : decode cL_law 587 = .ok (.iconst 2, 1) := by decide +kernel
theorem dL_law_588 : decode cL_law 588 = .ok (.iadd, 1) := by decide +kernel
theorem dL_law_589 : decode cL_law 589 = .ok (.iaload, 1) := by decide +kernel
theorem dL_law_590 : decode cL_law 590 = .ok (.invokevirtual 80, 3) := by decide +kernel
theorem dL_law_593 : decode cL_law 593 = .ok (.aload_n 2, 1) := by decide +kernel
theorem dL_law_594 : decode cL_law 594 = .ok (.aload_n 0, 1) := by decide +kernel
theorem dL_law_595 : decode cL_law 595 = .ok (.iload_n 3, 1) := by decide +kernel
theorem dL_law_596 : decode cL_law 596 = .ok (.iconst 1, 1) := by decide +kernel
theorem dL_law_597 : decode cL_law 597 = .ok (.iadd, 1) := by decide +kernel
theorem dL_law_598 : decode cL_law 598 = .ok (.iaload, 1) := by decide +kernel
theorem dL_law_599 : decode cL_law 599 = .ok (.aload_n 0, 1) := by decide +kernel
theorem dL_law_600 : decode cL_law 600 = .ok (.iload_n 3, 1) := by decide +kernel
theorem dL_law_601 : decode cL_law 601 = .ok (.iconst 2, 1) := by decide +kernel
theorem dL_law_602 : decode cL_law 602 = .ok (.iadd, 1) := by decide +kernel
theorem dL_law_603 : decode cL_law 603 = .ok (.iaload, 1) := by decide +kernel
theorem dL_law_604 : decode cL_law 604 = .ok (.invokevirtual 83, 3) := by decide +kernel
theorem dL_law_607 : decode cL_law 607 = .ok (.if_icmp .eq 269, 3) := by decide +kernel
theorem dL_law_610 : decode cL_law 610 = .ok (.iconst 0, 1) := by decide +kernel
theorem dL_law_611 : decode cL_law 611 = .ok (.ireturn, 1) := by decide +kernel
theorem dL_law_612 : decode cL_law 612 = .ok (.aload_n 1, 1) := by decide +kernel
theorem dL_law_613 : decode cL_law 613 = .ok (.aload_n 0, 1) := by decide +kernel
theorem dL_law_614 : decode cL_law 614 = .ok (.iload_n 3, 1) := by decide +kernel
theorem dL_law_615 : decode cL_law 615 = .ok (.iconst 1, 1) := by decide +kernel
theorem dL_law_616 : decode cL_law 616 = .ok (.iadd, 1) := by decide +kernel
theorem dL_law_617 : decode cL_law 617 = .ok (.iaload, 1) := by decide +kernel
theorem dL_law_618 : decode cL_law 618 = .ok (.invokevirtual 84, 3) := by decide +kernel
theorem dL_law_621 : decode cL_law 621 = .ok (.aload_n 2, 1) := by decide +kernel
theorem dL_law_622 : decode cL_law 622 = .ok (.aload_n 0, 1) := by decide +kernel
theorem dL_law_623 : decode cL_law 623 = .ok (.iload_n 3, 1) := by decide +kernel
theorem dL_law_624 : decode cL_law 624 = .ok (.iconst 1, 1) := by decide +kernel
theorem dL_law_625 : decode cL_law 625 = .ok (.iadd, 1) := by decide +kernel
theorem dL_law_626 : decode cL_law 626 = .ok (.iaload, 1) := by decide +kernel
theorem dL_law_627 : decode cL_law 627 = .ok (.invokevirtual 87, 3) := by decide +kernel
theorem dL_law_630 : decode cL_law 630 = .ok (.if_icmp .eq 246, 3) := by decide +kernel
theorem dL_law_633 : decode cL_law 633 = .ok (.iconst 0, 1) := by decide +kernel
theorem dL_law_634 : decode cL_law 634 = .ok (.ireturn, 1) := by decide +kernel
theorem dL_law_635 : decode cL_law 635 = .ok (.aload_n 1, 1) := by decide +kernel
theorem dL_law_636 : decode cL_law 636 = .ok (.aload_n 0, 1) := by decide +kernel
theorem dL_law_637 : decode cL_law 637 = .ok (.iload_n 3, 1) := by decide +kernel
theorem dL_law_638 : decode cL_law 638 = .ok (.iconst 1, 1) := by decide +kernel
theorem dL_law_639 : decode cL_law 639 = .ok (.iadd, 1) := by decide +kernel
theorem dL_law_640 : decode cL_law 640 = .ok (.iaload, 1) := by decide +kernel
theorem dL_law_641 : decode cL_law 641 = .ok (.invokevirtual 88, 3) := by decide +kernel
theorem dL_law_644 : decode cL_law 644 = .ok (.aload_n 2, 1) := by decide +kernel
theorem dL_law_645 : decode cL_law 645 = .ok (.aload_n 0, 1) := by decide +kernel
theorem dL_law_646 : decode cL_law 646 = .ok (.iload_n 3, 1) := by decide +kernel
theorem dL_law_647 : decode cL_law 647 = .ok (.iconst 1, 1) := by decide +kernel
theorem dL_law_648 : decode cL_law 648 = .ok (.iadd, 1) := by decide +kernel
theorem dL_law_649 : decode cL_law 649 = .ok (.iaload, 1) := by decide +kernel
theorem dL_law_650 : decode cL_law 650 = .ok (.invokevirtual 91, 3) := by decide +kernel
theorem dL_law_653 : decode cL_law 653 = .ok (.if_icmp .eq 223, 3) := by decide +kernel
theorem dL_law_656 : decode cL_law 656 = .ok (.iconst 0, 1) := by decide +kernel
theorem dL_law_657 : decode cL_law 657 = .ok (.ireturn, 1) := by decide +kernel
theorem dL_law_658 : decode cL_law 658 = .ok (.aload_n 1, 1) := by decide +kernel
theorem dL_law_659 : decode cL_law 659 = .ok (.aload_n 0, 1) := by decide +kernel
theorem dL_law_660 : decode cL_law 660 = .ok (.iload_n 3, 1) := by decide +kernel
theorem dL_law_661 : decode cL_law 661 = .ok (.iconst 1, 1) := by decide +kernel
theorem dL_law_662 : decode cL_law 662 = .ok (.iadd, 1) := by decide +kernel
theorem dL_law_663 : decode cL_law 663 = .ok (.iaload, 1) := by decide +kernel
theorem dL_law_664 : decode cL_law 664 = .ok (.invokevirtual 92, 3) := by decide +kernel
theorem dL_law_667 : decode cL_law 667 = .ok (.aload_n 2, 1) := by decide +kernel
theorem dL_law_668 : decode cL_law 668 = .ok (.aload_n 0, 1) := by decide +kernel
theorem dL_law_669 : decode cL_law 669 = .ok (.iload_n 3, 1) := by decide +kernel
theorem dL_law_670 : decode cL_law 670 = .ok (.iconst 1, 1) := by decide +kernel
theorem dL_law_671 : decode cL_law 671 = .ok (.iadd, 1) := by decide +kernel
theorem dL_law_672 : decode cL_law 672 = .ok (.iaload, 1) := by decide +kernel
theorem dL_law_673 : decode cL_law 673 = .ok (.invokevirtual 95, 3) := by decide +kernel
theorem dL_law_676 : decode cL_law 676 = .ok (.if_icmp .eq 200, 3) := by decide +kernel
theorem dL_law_679 : decode cL_law 679 = .ok (.iconst 0, 1) := by decide +kernel
theorem dL_law_680 : decode cL_law 680 = .ok (.ireturn, 1) := by decide +kernel
theorem dL_law_681 : decode cL_law 681 = .ok (.aload_n 1, 1) := by decide +kernel
theorem dL_law_682 : decode cL_law 682 = .ok (.aload_n 0, 1) := by decide +kernel
theorem dL_law_683 : decode cL_law 683 = .ok (.iload_n 3, 1) := by decide +kernel
theorem dL_law_684 : decode cL_law 684 = .ok (.iconst 1, 1) := by decide +kernel
theorem dL_law_685 : decode cL_law 685 = .ok (.iadd, 1) := by decide +kernel
theorem dL_law_686 : decode cL_law 686 = .ok (.iaload, 1) := by decide +kernel
theorem dL_law_687 : decode cL_law 687 = .ok (.invokevirtual 96, 3) := by decide +kernel
theorem dL_law_690 : decode cL_law 690 = .ok (.aload_n 2, 1) := by decide +kernel
theorem dL_law_691 : decode cL_law 691 = .ok (.aload_n 0, 1) := by decide +kernel
theorem dL_law_692 : decode cL_law 692 = .ok (.iload_n 3, 1) := by decide +kernel
theorem dL_law_693 : decode cL_law 693 = .ok (.iconst 1, 1) := by decide +kernel
theorem dL_law_694 : decode cL_law 694 = .ok (.iadd, 1) := by decide +kernel
theorem dL_law_695 : decode cL_law 695 = .ok (.iaload, 1) := by decide +kernel
theorem dL_law_696 : decode cL_law 696 = .ok (.invokevirtual 99, 3) := by decide +kernel
theorem dL_law_699 : decode cL_law 699 = .ok (.if_icmp .eq 177, 3) := by decide +kernel
theorem dL_law_702 : decode cL_law 702 = .ok (.iconst 0, 1) := by decide +kernel
theorem dL_law_703 : decode cL_law 703 = .ok (.ireturn, 1) := by decide +kernel
theorem dL_law_704 : decode cL_law 704 = .ok (.aload_n 1, 1) := by decide +kernel
theorem dL_law_705 : decode cL_law 705 = .ok (.aload_n 0, 1) := by decide +kernel
theorem dL_law_706 : decode cL_law 706 = .ok (.iload_n 3, 1) := by decide +kernel
theorem dL_law_707 : decode cL_law 707 = .ok (.iconst 1, 1) := by decide +kernel
theorem dL_law_708 : decode cL_law 708 = .ok (.iadd, 1) := by decide +kernel
theorem dL_law_709 : decode cL_law 709 = .ok (.iaload, 1) := by decide +kernel
theorem dL_law_710 : decode cL_law 710 = .ok (.aload_n 0, 1) := by decide +kernel
theorem dL_law_711 : decode cL_law 711 = .ok (.iload_n 3, 1) := by decide +kernel
theorem dL_law_712 : decode cL_law 712 = .ok (.iconst 2, 1) := by decide +kernel
theorem dL_law_713 : decode cL_law 713 = .ok (.iadd, 1) := by decide +kernel
theorem dL_law_714 : decode cL_law 714 = .ok (.iaload, 1) := by decide +kernel
theorem dL_law_715 : decode cL_law 715 = .ok (.aload_n 0, 1) := by decide +kernel
theorem dL_law_716 : decode cL_law 716 = .ok (.iload_n 3, 1) := by decide +kernel
theorem dL_law_717 : decode cL_law 717 = .ok (.iconst 3, 1) := by decide +kernel
theorem dL_law_718 : decode cL_law 718 = .ok (.iadd, 1) := by decide +kernel
theorem dL_law_719 : decode cL_law 719 = .ok (.iaload, 1) := by decide +kernel
theorem dL_law_720 : decode cL_law 720 = .ok (.aload_n 0, 1) := by decide +kernel
theorem dL_law_721 : decode cL_law 721 = .ok (.iload_n 3, 1) := by decide +kernel
theorem dL_law_722 : decode cL_law 722 = .ok (.iconst 4, 1) := by decide +kernel
theorem dL_law_723 : decode cL_law 723 = .ok (.iadd, 1) := by decide +kernel
theorem dL_law_724 : decode cL_law 724 = .ok (.iaload, 1) := by decide +kernel
theorem dL_law_725 : decode cL_law 725 = .ok (.invokevirtual 100, 3) := by decide +kernel
theorem dL_law_728 : decode cL_law 728 = .ok (.aload_n 2, 1) := by decide +kernel
theorem dL_law_729 : decode cL_law 729 = .ok (.aload_n 0, 1) := by decide +kernel
theorem dL_law_730 : decode cL_law 730 = .ok (.iload_n 3, 1) := by decide +kernel
theorem dL_law_731 : decode cL_law 731 = .ok (.iconst 1, 1) := by decide +kernel
theorem dL_law_732 : decode cL_law 732 = .ok (.iadd, 1) := by decide +kernel
theorem dL_law_733 : decode cL_law 733 = .ok (.iaload, 1) := by decide +kernel
theorem dL_law_734 : decode cL_law 734 = .ok (.aload_n 0, 1) := by decide +kernel
theorem dL_law_735 : decode cL_law 735 = .ok (.iload_n 3, 1) := by decide +kernel
theorem dL_law_736 : decode cL_law 736 = .ok (.iconst 2, 1) := by decide +kernel
theorem dL_law_737 : decode cL_law 737 = .ok (.iadd, 1) := by decide +kernel
theorem dL_law_738 : decode cL_law 738 = .ok (.iaload, 1) := by decide +kernel
theorem dL_law_739 : decode cL_law 739 = .ok (.aload_n 0, 1) := by decide +kernel
theorem dL_law_740 : decode cL_law 740 = .ok (.iload_n 3, 1) := by decide +kernel
theorem dL_law_741 : decode cL_law 741 = .ok (.iconst 3, 1) := by decide +kernel
theorem dL_law_742 : decode cL_law 742 = .ok (.iadd, 1) := by decide +kernel
theorem dL_law_743 : decode cL_law 743 = .ok (.iaload, 1) := by decide +kernel
theorem dL_law_744 : decode cL_law 744 = .ok (.aload_n 0, 1) := by decide +kernel
theorem dL_law_745 : decode cL_law 745 = .ok (.iload_n 3, 1) := by decide +kernel
theorem dL_law_746 : decode cL_law 746 = .ok (.iconst 4, 1) := by decide +kernel
theorem dL_law_747 : decode cL_law 747 = .ok (.iadd, 1) := by decide +kernel
theorem dL_law_748 : decode cL_law 748 = .ok (.iaload, 1) := by decide +kernel
theorem dL_law_749 : decode cL_law 749 = .ok (.invokevirtual 104, 3) := by decide +kernel
theorem dL_law_752 : decode cL_law 752 = .ok (.if_icmp .eq 124, 3) := by decide +kernel
theorem dL_law_755 : decode cL_law 755 = .ok (.iconst 0, 1) := by decide +kernel
theorem dL_law_756 : decode cL_law 756 = .ok (.ireturn, 1) := by decide +kernel
theorem dL_law_757 : decode cL_law 757 = .ok (.aload_n 1, 1) := by decide +kernel
theorem dL_law_758 : decode cL_law 758 = .ok (.aload_n 0, 1) := by decide +kernel
theorem dL_law_759 : decode cL_law 759 = .ok (.iload_n 3, 1) := by decide +kernel
theorem dL_law_760 : decode cL_law 760 = .ok (.iconst 1, 1) := by decide +kernel
theorem dL_law_761 : decode cL_law 761 = .ok (.iadd, 1) := by decide +kernel
theorem dL_law_762 : decode cL_law 762 = .ok (.iaload, 1) := by decide +kernel
theorem dL_law_763 : decode cL_law 763 = .ok (.aload_n 0, 1) := by decide +kernel
theorem dL_law_764 : decode cL_law 764 = .ok (.iload_n 3, 1) := by decide +kernel
theorem dL_law_765 : decode cL_law 765 = .ok (.iconst 2, 1) := by decide +kernel
theorem dL_law_766 : decode cL_law 766 = .ok (.iadd, 1) := by decide +kernel
theorem dL_law_767 : decode cL_law 767 = .ok (.iaload, 1) := by decide +kernel
theorem dL_law_768 : decode cL_law 768 = .ok (.aload_n 0, 1) := by decide +kernel
theorem dL_law_769 : decode cL_law 769 = .ok (.iload_n 3, 1) := by decide +kernel
theorem dL_law_770 : decode cL_law 770 = .ok (.iconst 3, 1) := by decide +kernel
theorem dL_law_771 : decode cL_law 771 = .ok (.iadd, 1) := by decide +kernel
theorem dL_law_772 : decode cL_law 772 = .ok (.iaload, 1) := by decide +kernel
theorem dL_law_773 : decode cL_law 773 = .ok (.aload_n 0, 1) := by decide +kernel
theorem dL_law_774 : decode cL_law 774 = .ok (.iload_n 3, 1) := by decide +kernel
theorem dL_law_775 : decode cL_law 775 = .ok (.iconst 4, 1) := by decide +kernel
theorem dL_law_776 : decode cL_law 776 = .ok (.iadd, 1) := by decide +kernel
theorem dL_law_777 : decode cL_law 777 = .ok (.iaload, 1) := by decide +kernel
theorem dL_law_778 : decode cL_law 778 = .ok (.aload_n 0, 1) := by decide +kernel
theorem dL_law_779 : decode cL_law 779 = .ok (.iload_n 3, 1) := by decide +kernel
theorem dL_law_780 : decode cL_law 780 = .ok (.iconst 5, 1) := by decide +kernel
theorem dL_law_781 : decode cL_law 781 = .ok (.iadd, 1) := by decide +kernel
theorem dL_law_782 : decode cL_law 782 = .ok (.iaload, 1) := by decide +kernel
theorem dL_law_783 : decode cL_law 783 = .ok (.invokevirtual 105, 3) := by decide +kernel
theorem dL_law_786 : decode cL_law 786 = .ok (.aload_n 2, 1) := by decide +kernel
theorem dL_law_787 : decode cL_law 787 = .ok (.aload_n 0, 1) := by decide +kernel
theorem dL_law_788 : decode cL_law 788 = .ok (.iload_n 3, 1) := by decide +kernel
theorem dL_law_789 : decode cL_law 789 = .ok (.iconst 1, 1) := by decide +kernel
theorem dL_law_790 : decode cL_law 790 = .ok (.iadd, 1) := by decide +kernel
theorem dL_law_791 : decode cL_law 791 = .ok (.iaload, 1) := by decide +kernel
theorem dL_law_792 : decode cL_law 792 = .ok (.aload_n 0, 1) := by decide +kernel
theorem dL_law_793 : decode cL_law 793 = .ok (.iload_n 3, 1) := by decide +kernel
theorem dL_law_794 : decode cL_law 794 = .ok (.iconst 2, 1) := by decide +kernel
theorem dL_law_795 : decode cL_law 795 = .ok (.iadd, 1) := by decide +kernel
theorem dL_law_796 : decode cL_law 796 = .ok (.iaload, 1) := by decide +kernel
theorem dL_law_797 : decode cL_law 797 = .ok (.aload_n 0, 1) := by decide +kernel
theorem dL_law_798 : decode cL_law 798 = .ok (.iload_n 3, 1) := by decide +kernel
theorem dL_law_799 : decode cL_law 799 = .ok (.iconst 3, 1) := by decide +kernel
theorem dL_law_800 : decode cL_law 800 = .ok (.iadd, 1) := by decide +kernel
theorem dL_law_801 : decode cL_law 801 = .ok (.iaload, 1) := by decide +kernel
theorem dL_law_802 : decode cL_law 802 = .ok (.aload_n 0, 1) := by decide +kernel
theorem dL_law_803 : decode cL_law 803 = .ok (.iload_n 3, 1) := by decide +kernel
theorem dL_law_804 : decode cL_law 804 = .ok (.iconst 4, 1) := by decide +kernel
theorem dL_law_805 : decode cL_law 805 = .ok (.iadd, 1) := by decide +kernel
theorem dL_law_806 : decode cL_law 806 = .ok (.iaload, 1) := by decide +kernel
theorem dL_law_807 : decode cL_law 807 = .ok (.aload_n 0, 1) := by decide +kernel
theorem dL_law_808 : decode cL_law 808 = .ok (.iload_n 3, 1) := by decide +kernel
theorem dL_law_809 : decode cL_law 809 = .ok (.iconst 5, 1) := by decide +kernel
theorem dL_law_810 : decode cL_law 810 = .ok (.iadd, 1) := by decide +kernel
theorem dL_law_811 : decode cL_law 811 = .ok (.iaload, 1) := by decide +kernel
theorem dL_law_812 : decode cL_law 812 = .ok (.invokevirtual 109, 3) := by decide +kernel
theorem dL_law_815 : decode cL_law 815 = .ok (.if_icmp .eq 61, 3) := by decide +kernel
theorem dL_law_818 : decode cL_law 818 = .ok (.iconst 0, 1) := by decide +kernel
theorem dL_law_819 : decode cL_law 819 = .ok (.ireturn, 1) := by decide +kernel
theorem dL_law_820 : decode cL_law 820 = .ok (.aload_n 1, 1) := by decide +kernel
theorem dL_law_821 : decode cL_law 821 = .ok (.aload_n 0, 1) := by decide +kernel
theorem dL_law_822 : decode cL_law 822 = .ok (.iload_n 3, 1) := by decide +kernel
theorem dL_law_823 : decode cL_law 823 = .ok (.iconst 1, 1) := by decide +kernel
theorem dL_law_824 : decode cL_law 824 = .ok (.iadd, 1) := by decide +kernel
theorem dL_law_825 : decode cL_law 825 = .ok (.iaload, 1) := by decide +kernel
theorem dL_law_826 : decode cL_law 826 = .ok (.aload_n 0, 1) := by decide +kernel
theorem dL_law_827 : decode cL_law 827 = .ok (.iload_n 3, 1) := by decide +kernel
theorem dL_law_828 : decode cL_law 828 = .ok (.iconst 2, 1) := by decide +kernel
theorem dL_law_829 : decode cL_law 829 = .ok (.iadd, 1) := by decide +kernel
theorem dL_law_830 : decode cL_law 830 = .ok (.iaload, 1) := by decide +kernel
theorem dL_law_831 : decode cL_law 831 = .ok (.invokevirtual 110, 3) := by decide +kernel
theorem dL_law_834 : decode cL_law 834 = .ok (.aload_n 2, 1) := by decide +kernel
theorem dL_law_835 : decode cL_law 835 = .ok (.aload_n 0, 1) := by decide +kernel
theorem dL_law_836 : decode cL_law 836 = .ok (.iload_n 3, 1) := by decide +kernel
theorem dL_law_837 : decode cL_law 837 = .ok (.iconst 1, 1) := by decide +kernel
theorem dL_law_838 : decode cL_law 838 = .ok (.iadd, 1) := by decide +kernel
theorem dL_law_839 : decode cL_law 839 = .ok (.iaload, 1) := by decide +kernel
theorem dL_law_840 : decode cL_law 840 = .ok (.aload_n 0, 1) := by decide +kernel
theorem dL_law_841 : decode cL_law 841 = .ok (.iload_n 3, 1) := by decide +kernel
theorem dL_law_842 : decode cL_law 842 = .ok (.iconst 2, 1) := by decide +kernel
theorem dL_law_843 : decode cL_law 843 = .ok (.iadd, 1) := by decide +kernel
theorem dL_law_844 : decode cL_law 844 = .ok (.iaload, 1) := by decide +kernel
theorem dL_law_845 : decode cL_law 845 = .ok (.invokevirtual 113, 3) := by decide +kernel
theorem dL_law_848 : decode cL_law 848 = .ok (.if_icmp .eq 28, 3) := by decide +kernel
theorem dL_law_851 : decode cL_law 851 = .ok (.iconst 0, 1) := by decide +kernel
theorem dL_law_852 : decode cL_law 852 = .ok (.ireturn, 1) := by decide +kernel
theorem dL_law_853 : decode cL_law 853 = .ok (.aload_n 1, 1) := by decide +kernel
theorem dL_law_854 : decode cL_law 854 = .ok (.aload_n 0, 1) := by decide +kernel
theorem dL_law_855 : decode cL_law 855 = .ok (.iload_n 3, 1) := by decide +kernel
theorem dL_law_856 : decode cL_law 856 = .ok (.iconst 1, 1) := by decide +kernel
theorem dL_law_857 : decode cL_law 857 = .ok (.iadd, 1) := by decide +kernel
theorem dL_law_858 : decode cL_law 858 = .ok (.iaload, 1) := by decide +kernel
theorem dL_law_859 : decode cL_law 859 = .ok (.invokevirtual 114, 3) := by decide +kernel
theorem dL_law_862 : decode cL_law 862 = .ok (.aload_n 2, 1) := by decide +kernel
theorem dL_law_863 : decode cL_law 863 = .ok (.aload_n 0, 1) := by decide +kernel
theorem dL_law_864 : decode cL_law 864 = .ok (.iload_n 3, 1) := by decide +kernel
theorem dL_law_865 : decode cL_law 865 = .ok (.iconst 1, 1) := by decide +kernel
theorem dL_law_866 : decode cL_law 866 = .ok (.iadd, 1) := by decide +kernel
theorem dL_law_867 : decode cL_law 867 = .ok (.iaload, 1) := by decide +kernel
theorem dL_law_868 : decode cL_law 868 = .ok (.invokevirtual 117, 3) := by decide +kernel
theorem dL_law_871 : decode cL_law 871 = .ok (.if_icmp .eq 5, 3) := by decide +kernel
theorem dL_law_874 : decode cL_law 874 = .ok (.iconst 0, 1) := by decide +kernel
theorem dL_law_875 : decode cL_law 875 = .ok (.ireturn, 1) := by decide +kernel
theorem dL_law_876 : decode cL_law 876 = .ok (.iinc 3 6, 3) := by decide +kernel
theorem dL_law_879 : decode cL_law 879 = .ok (.goto (-861), 3) := by decide +kernel
theorem dL_law_882 : decode cL_law 882 = .ok (.iconst 1, 1) := by decide +kernel
theorem dL_law_883 : decode cL_law 883 = .ok (.ireturn, 1) := by decide +kernel
