theorem dL_stored_19 : decode cL_stored 19 = .ok (.iload 4, 2) := by decide +kernel
theorem dL_stored_21 : decode cL_stored 21 = .ok (.iload_n 1, 1) := by decide +kernel
theorem dL_stored_22 : decode cL_stored 22 = .ok (.if_icmp .eq 70, 3) := by decide +kernel
theorem dL_stored_25 : decode cL_stored 25 = .ok (.aload_n 0, 1) := by decide +kernel
theorem dL_stored_26 : decode cL_stored 26 = .ok (.iload 4, 2) := by decide +kernel
theorem dL_stored_28 : decode cL_stored 28 = .ok (.invokevirtual 27, 3) := by decide +kernel
theorem dL_stored_31 : decode cL_stored 31 = .ok (.ifCond .eq 61, 3) := by decide +kernel
theorem dL_stored_34 : decode cL_stored 34 = .ok (.ldc2_w 31, 3) := by decide +kernel
theorem dL_stored_37 : decode cL_stored 37 = .ok (.ldc2_w 31, 3) := by decide +kernel
theorem dL_stored_40 : decode cL_stored 40 = .ok (.lload_n 2, 1) := by decide +kernel
theorem dL_stored_41 : decode cL_stored 41 = .ok (.lmul, 1) := by decide +kernel
theorem dL_stored_42 : decode cL_stored 42 = .ok (.iload 4, 2) := by decide +kernel
theorem dL_stored_44 : decode cL_stored 44 = .ok (.i2l, 1) := by decide +kernel
theorem dL_stored_45 : decode cL_stored 45 = .ok (.ladd, 1) := by decide +kernel
theorem dL_stored_46 : decode cL_stored 46 = .ok (.lmul, 1) := by decide +kernel
theorem dL_stored_47 : decode cL_stored 47 = .ok (.aload_n 0, 1) := by decide +kernel
theorem dL_stored_48 : decode cL_stored 48 = .ok (.iload 4, 2) := by decide +kernel
theorem dL_stored_50 : decode cL_stored 50 = .ok (.invokevirtual 33, 3) := by decide +kernel
theorem dL_stored_53 : decode cL_stored 53 = .ok (.i2l, 1) := by decide +kernel
theorem dL_stored_54 : decode cL_stored 54 = .ok (.ladd, 1) := by decide +kernel
theorem dL_stored_55 : decode cL_stored 55 = .ok (.lstore_n 2, 1) := by decide +kernel
theorem dL_stored_56 : decode cL_stored 56 = .ok (.iconst 0, 1) := by decide +kernel
theorem dL_stored_57 : decode cL_stored 57 = .ok (.istore 5, 2) := by decide +kernel
theorem dL_stored_59 : decode cL_stored 59 = .ok (.iload 5, 2) := by decide +kernel
theorem dL_stored_61 : decode cL_stored 61 = .ok (.aload_n 0, 1) := by decide +kernel
theorem dL_stored_62 : decode cL_stored 62 = .ok (.iload 4, 2) := by decide +kernel
theorem dL_stored_64 : decode cL_stored 64 = .ok (.invokevirtual 33, 3) := by decide +kernel
theorem dL_stored_67 : decode cL_stored 67 = .ok (.if_icmp .ge 25, 3) := by decide +kernel
theorem dL_stored_70 : decode cL_stored 70 = .ok (.ldc2_w 36, 3) := by decide +kernel
theorem dL_stored_73 : decode cL_stored 73 = .ok (.lload_n 2, 1) := by decide +kernel
theorem dL_stored_74 : decode cL_stored 74 = .ok (.lmul, 1) := by decide +kernel
theorem dL_stored_75 : decode cL_stored 75 = .ok (.aload_n 0, 1) := by decide +kernel
theorem dL_stored_76 : decode cL_stored 76 = .ok (.iload 4, 2) := by decide +kernel
theorem dL_stored_78 : decode cL_stored 78 = .ok (.iload 5, 2) := by decide +kernel
theorem dL_stored_80 : decode cL_stored 80 = .ok (.invokevirtual 38, 3) := by decide +kernel
theorem dL_stored_83 : decode cL_stored 83 = .ok (.i2l, 1) := by decide +kernel
theorem dL_stored_84 : decode cL_stored 84 = .ok (.ladd, 1) := by decide +kernel
theorem dL_stored_85 : decode cL_stored 85 = .ok (.lstore_n 2, 1) := by decide +kernel
theorem dL_stored_86 : decode cL_stored 86 = .ok (.iinc 5 1, 3) := by decide +kernel
theorem dL_stored_89 : decode cL_stored 89 = .ok (.goto (-30), 3) := by decide +kernel
theorem dL_stored_92 : decode cL_stored 92 = .ok (.iinc 4 1, 3) := by decide +kernel
theorem dL_stored_95 : decode cL_stored 95 = .ok (.goto (-88), 3) := by decide +kernel
theorem dL_stored_98 : decode cL_stored 98 = .ok (.lload_n 2, 1) := by decide +kernel
theorem dL_stored_99 : decode cL_stored 99 = .ok (.lreturn, 1) := by decide +kernel
theorem dL_holds_0 : decode cL_holds 0 = .ok (.iconst 0, 1) := by decide +kernel
theorem dL_holds_1 : decode cL_holds 1 = .ok (.istore_n 1, 1) := by decide +kernel
theorem dL_holds_2 : decode cL_holds 2 = .ok (.iconst 0, 1) := by decide +kernel
theorem dL_holds_3 : decode cL_holds 3 = .ok (.istore_n 2, 1) := by decide +kernel
theorem dL_holds_4 : decode cL_holds 4 = .ok (.iconst 0, 1) := by decide +kernel
theorem dL_holds_5 : decode cL_holds 5 = .ok (.istore_n 3, 1) := by decide +kernel
theorem dL_holds_6 : decode cL_holds 6 = .ok (.aload_n 0, 1) := by decide +kernel
theorem dL_holds_7 : decode cL_holds 7 = .ok (.invokevirtual 24, 3) := by decide +kernel
theorem dL_holds_10 : decode cL_holds 10 = .ok (.bipush 8, 2) := by decide +kernel
theorem dL_holds_12 : decode cL_holds 12 = .ok (.if_icmp .gt 7, 3) := by decide +kernel
theorem dL_holds_15 : decode cL_holds 15 = .ok (.iconst 1, 1) := by decide +kernel
theorem dL_holds_16 : decode cL_holds 16 = .ok (.goto 4, 3) := by decide +kernel
theorem dL_holds_19 : decode cL_holds 19 = .ok (.iconst 0, 1) := by decide +kernel
theorem dL_holds_20 : decode cL_holds 20 = .ok (.istore 4, 2) := by decide +kernel
theorem dL_holds_22 : decode cL_holds 22 = .ok (.iconst 0, 1) := by decide +kernel
theorem dL_holds_23 : decode cL_holds 23 = .ok (.istore 5, 2) := by decide +kernel
theorem dL_holds_25 : decode cL_holds 25 = .ok (.iload 5, 2) := by decide +kernel
theorem dL_holds_27 : decode cL_holds 27 = .ok (.bipush 100, 2) := by decide +kernel
theorem dL_holds_29 : decode cL_holds 29 = .ok (.aload_n 0, 1) := by decide +kernel
theorem dL_holds_30 : decode cL_holds 30 = .ok (.invokevirtual 24, 3) := by decide +kernel
theorem dL_holds_33 : decode cL_holds 33 = .ok (.imul, 1) := by decide +kernel
theorem dL_holds_34 : decode cL_holds 34 = .ok (.if_icmp .ge 231, 3) := by decide +kernel
theorem dL_holds_37 : decode cL_holds 37 = .ok (.aload_n 0, 1) := by decide +kernel
theorem dL_holds_38 : decode cL_holds 38 = .ok (.iload 5, 2) := by decide +kernel
theorem dL_holds_40 : decode cL_holds 40 = .ok (.invokevirtual 42, 3) := by decide +kernel
theorem dL_holds_43 : decode cL_holds 43 = .ok (.istore 6, 2) := by decide +kernel
theorem dL_holds_45 : decode cL_holds 45 = .ok (.iload 6, 2) := by decide +kernel
theorem dL_holds_47 : decode cL_holds 47 = .ok (.iconst 1, 1) := by decide +kernel
theorem dL_holds_48 : decode cL_holds 48 = .ok (.if_icmp .eq 9, 3) := by decide +kernel
theorem dL_holds_51 : decode cL_holds 51 = .ok (.iload 6, 2) := by decide +kernel
theorem dL_holds_53 : decode cL_holds 53 = .ok (.iconst 2, 1) := by decide +kernel
theorem dL_holds_54 : decode cL_holds 54 = .ok (.if_icmp .ne 7, 3) := by decide +kernel
theorem dL_holds_57 : decode cL_holds 57 = .ok (.iconst 1, 1) := by decide +kernel
theorem dL_holds_58 : decode cL_holds 58 = .ok (.goto 4, 3) := by decide +kernel
theorem dL_holds_61 : decode cL_holds 61 = .ok (.iconst 0, 1) := by decide +kernel
theorem dL_holds_62 : decode cL_holds 62 = .ok (.istore 7, 2) := by decide +kernel
theorem dL_holds_64 : decode cL_holds 64 = .ok (.iload_n 1, 1) := by decide +kernel
theorem dL_holds_65 : decode cL_holds 65 = .ok (.iload 7, 2) := by decide +kernel
theorem dL_holds_67 : decode cL_holds 67 = .ok (.ifCond .eq 7, 3) := by decide +kernel
theorem dL_holds_70 : decode cL_holds 70 = .ok (.iconst 1, 1) := by decide +kernel
theorem dL_holds_71 : decode cL_holds 71 = .ok (.goto 4, 3) := by decide +kernel
theorem dL_holds_74 : decode cL_holds 74 = .ok (.iconst 0, 1) := by decide +kernel
theorem dL_holds_75 : decode cL_holds 75 = .ok (.iadd, 1) := by decide +kernel
theorem dL_holds_76 : decode cL_holds 76 = .ok (.istore_n 1, 1) := by decide +kernel
theorem dL_holds_77 : decode cL_holds 77 = .ok (.iload_n 2, 1) := by decide +kernel
theorem dL_holds_78 : decode cL_holds 78 = .ok (.iload 6, 2) := by decide +kernel
theorem dL_holds_80 : decode cL_holds 80 = .ok (.iconst 2, 1) := by decide +kernel
theorem dL_holds_81 : decode cL_holds 81 = .ok (.if_icmp .ne 7, 3) := by decide +kernel
theorem dL_holds_84 : decode cL_holds 84 = .ok (.iconst 1, 1) := by decide +kernel
theorem dL_holds_85 : decode cL_holds 85 = .ok (.goto 4, 3) := by decide +kernel
theorem dL_holds_88 : decode cL_holds 88 = .ok (.iconst 0, 1) := by decide +kernel
theorem dL_holds_89 : decode cL_holds 89 = .ok (.iadd, 1) := by decide +kernel
theorem dL_holds_90 : decode cL_holds 90 = .ok (.istore_n 2, 1) := by decide +kernel
theorem dL_holds_91 : decode cL_holds 91 = .ok (.iload_n 3, 1) := by decide +kernel
theorem dL_holds_92 : decode cL_holds 92 = .ok (.iload 6, 2) := by decide +kernel
theorem dL_holds_94 : decode cL_holds 94 = .ok (.iconst 3, 1) := by decide +kernel
theorem dL_holds_95 : decode cL_holds 95 = .ok (.if_icmp .ne 7, 3) := by decide +kernel
theorem dL_holds_98 : decode cL_holds 98 = .ok (.iconst 1, 1) := by decide +kernel
theorem dL_holds_99 : decode cL_holds 99 = .ok (.goto 4, 3) := by decide +kernel
theorem dL_holds_102 : decode cL_holds 102 = .ok (.iconst 0, 1) := by decide +kernel
theorem dL_holds_103 : decode cL_holds 103 = .ok (.iadd, 1) := by decide +kernel
theorem dL_holds_104 : decode cL_holds 104 = .ok (.istore_n 3, 1) := by decide +kernel
theorem dL_holds_105 : decode cL_holds 105 = .ok (.iload 4, 2) := by decide +kernel
theorem dL_holds_107 : decode cL_holds 107 = .ok (.ifCond .eq 89, 3) := by decide +kernel
theorem dL_holds_110 : decode cL_holds 110 = .ok (.aload_n 0, 1) := by decide +kernel
theorem dL_holds_111 : decode cL_holds 111 = .ok (.iload 5, 2) := by decide +kernel
theorem dL_holds_113 : decode cL_holds 113 = .ok (.invokevirtual 27, 3) := by decide +kernel
theorem dL_holds_116 : decode cL_holds 116 = .ok (.iload 7, 2) := by decide +kernel
theorem dL_holds_118 : decode cL_holds 118 = .ok (.if_icmp .ne 78, 3) := by decide +kernel
theorem dL_holds_121 : decode cL_holds 121 = .ok (.iload 6, 2) := by decide +kernel
theorem dL_holds_123 : decode cL_holds 123 = .ok (.iconst 1, 1) := by decide +kernel
theorem dL_holds_124 : decode cL_holds 124 = .ok (.if_icmp .ne 25, 3) := by decide +kernel
theorem dL_holds_127 : decode cL_holds 127 = .ok (.aload_n 0, 1) := by decide +kernel
theorem dL_holds_128 : decode cL_holds 128 = .ok (.iload 5, 2) := by decide +kernel
theorem dL_holds_130 : decode cL_holds 130 = .ok (.invokevirtual 45, 3) := by decide +kernel
theorem dL_holds_133 : decode cL_holds 133 = .ok (.iload 5, 2) := by decide +kernel
theorem dL_holds_135 : decode cL_holds 135 = .ok (.if_icmp .ne 61, 3) := by decide +kernel
theorem dL_holds_138 : decode cL_holds 138 = .ok (.aload_n 0, 1) := by decide +kernel
theorem dL_holds_139 : decode cL_holds 139 = .ok (.iload 5, 2) := by decide +kernel
theorem dL_holds_141 : decode cL_holds 141 = .ok (.invokevirtual 19, 3) := by decide +kernel
theorem dL_holds_144 : decode cL_holds 144 = .ok (.iload 5, 2) := by decide +kernel
theorem dL_holds_146 : decode cL_holds 146 = .ok (.if_icmp .ne 50, 3) := by decide +kernel
theorem dL_holds_149 : decode cL_holds 149 = .ok (.iload 6, 2) := by decide +kernel
theorem dL_holds_151 : decode cL_holds 151 = .ok (.iconst 1, 1) := by decide +kernel
theorem dL_holds_152 : decode cL_holds 152 = .ok (.if_icmp .eq 19, 3) := by decide +kernel
theorem dL_holds_155 : decode cL_holds 155 = .ok (.iload 6, 2) := by decide +kernel
theorem dL_holds_157 : decode cL_holds 157 = .ok (.iconst 3, 1) := by decide +kernel
theorem dL_holds_158 : decode cL_holds 158 = .ok (.if_icmp .eq 13, 3) := by decide +kernel
theorem dL_holds_161 : decode cL_holds 161 = .ok (.aload_n 0, 1) := by decide +kernel
theorem dL_holds_162 : decode cL_holds 162 = .ok (.iload 5, 2) := by decide +kernel
theorem dL_holds_164 : decode cL_holds 164 = .ok (.invokevirtual 19, 3) := by decide +kernel
theorem dL_holds_167 : decode cL_holds 167 = .ok (.iconst (-1), 1) := by decide +kernel
theorem dL_holds_168 : decode cL_holds 168 = .ok (.if_icmp .ne 28, 3) := by decide +kernel
theorem dL_holds_171 : decode cL_holds 171 = .ok (.iload 6, 2) := by decide +kernel
theorem dL_holds_173 : decode cL_holds 173 = .ok (.iconst 3, 1) := by decide +kernel
theorem dL_holds_174 : decode cL_holds 174 = .ok (.if_icmp .ne 18, 3) := by decide +kernel
theorem dL_holds_177 : decode cL_holds 177 = .ok (.aload_n 0, 1) := by decide +kernel
theorem dL_holds_178 : decode cL_holds 178 = .ok (.aload_n 0, 1) := by decide +kernel
theorem dL_holds_179 : decode cL_holds 179 = .ok (.iload 5, 2) := by decide +kernel
theorem dL_holds_181 : decode cL_holds 181 = .ok (.invokevirtual 19, 3) := by decide +kernel
theorem dL_holds_184 : decode cL_holds 184 = .ok (.invokevirtual 45, 3) := by decide +kernel
theorem dL_holds_187 : decode cL_holds 187 = .ok (.iload 5, 2) := by decide +kernel
theorem dL_holds_189 : decode cL_holds 189 = .ok (.if_icmp .ne 7, 3) := by decide +kernel
theorem dL_holds_192 : decode cL_holds 192 = .ok (.iconst 1, 1) := by decide +kernel
theorem dL_holds_193 : decode cL_holds 193 = .ok (.goto 4, 3) := by decide +kernel
theorem dL_holds_196 : decode cL_holds 196 = .ok (.iconst 0, 1) := by decide +kernel
theorem dL_holds_197 : decode cL_holds 197 = .ok (.istore 4, 2) := by decide +kernel
theorem dL_holds_199 : decode cL_holds 199 = .ok (.iload 6, 2) := by decide +kernel
theorem dL_holds_201 : decode cL_holds 201 = .ok (.iconst 2, 1) := by decide +kernel
theorem dL_holds_202 : decode cL_holds 202 = .ok (.if_icmp .ne 57, 3) := by decide +kernel
theorem dL_holds_205 : decode cL_holds 205 = .ok (.aload_n 0, 1) := by decide +kernel
theorem dL_holds_206 : decode cL_holds 206 = .ok (.iload 5, 2) := by decide +kernel
theorem dL_holds_208 : decode cL_holds 208 = .ok (.invokevirtual 45, 3) := by decide +kernel
theorem dL_holds_211 : decode cL_holds 211 = .ok (.istore 8, 2) := by decide +kernel
theorem dL_holds_213 : decode cL_holds 213 = .ok (.iload 4, 2) := by decide +kernel
theorem dL_holds_215 : decode cL_holds 215 = .ok (.ifCond .eq 41, 3) := by decide +kernel
theorem dL_holds_218 : decode cL_holds 218 = .ok (.aload_n 0, 1) := by decide +kernel
theorem dL_holds_219 : decode cL_holds 219 = .ok (.iload 8, 2) := by decide +kernel
theorem dL_holds_221 : decode cL_holds 221 = .ok (.invokevirtual 42, 3) := by decide +kernel
theorem dL_holds_224 : decode cL_holds 224 = .ok (.iconst 3, 1) := by decide +kernel
theorem dL_holds_225 : decode cL_holds 225 = .ok (.if_icmp .ne 31, 3) := by decide +kernel
theorem dL_holds_228 : decode cL_holds 228 = .ok (.aload_n 0, 1) := by decide +kernel
theorem dL_holds_229 : decode cL_holds 229 = .ok (.iload 8, 2) := by decide +kernel
theorem dL_holds_231 : decode cL_holds 231 = .ok (.invokevirtual 19, 3) := by decide +kernel
theorem dL_holds_234 : decode cL_holds 234 = .ok (.iload 5, 2) := by decide +kernel
theorem dL_holds_236 : decode cL_holds 236 = .ok (.if_icmp .ne 20, 3) := by decide +kernel
theorem dL_holds_239 : decode cL_holds 239 = .ok (.iload 8, 2) := by decide +kernel
theorem dL_holds_241 : decode cL_holds 241 = .ok (.bipush 100, 2) := by decide +kernel
theorem dL_holds_243 : decode cL_holds 243 = .ok (.idiv, 1) := by decide +kernel
theorem dL_holds_244 : decode cL_holds 244 = .ok (.iload 5, 2) := by decide +kernel
theorem dL_holds_246 : decode cL_holds 246 = .ok (.bipush 100, 2) := by decide +kernel
theorem dL_holds_248 : decode cL_holds 248 = .ok (.idiv, 1) := by decide +kernel
theorem dL_holds_249 : decode cL_holds 249 = .ok (.if_icmp .eq 7, 3) := by decide +kernel
theorem dL_holds_252 : decode cL_holds 252 = .ok (.iconst 1, 1) := by decide +kernel
theorem dL_holds_253 : decode cL_holds 253 = .ok (.goto 4, 3) := by decide +kernel
theorem dL_holds_256 : decode cL_holds 256 = .ok (.iconst 0, 1) := by decide +kernel
theorem dL_holds_257 : decode cL_holds 257 = .ok (.istore 4, 2) := by decide +kernel
theorem dL_holds_259 : decode cL_holds 259 = .ok (.iinc 5 1, 3) := by decide +kernel
theorem dL_holds_262 : decode cL_holds 262 = .ok (.goto (-237), 3) := by decide +kernel
theorem dL_holds_265 : decode cL_holds 265 = .ok (.iconst 0, 1) := by decide +kernel
theorem dL_holds_266 : decode cL_holds 266 = .ok (.istore 5, 2) := by decide +kernel
theorem dL_holds_268 : decode cL_holds 268 = .ok (.aload_n 0, 1) := by decide +kernel
theorem dL_holds_269 : decode cL_holds 269 = .ok (.iconst (-1), 1) := by decide +kernel
theorem dL_holds_270 : decode cL_holds 270 = .ok (.invokevirtual 15, 3) := by decide +kernel
theorem dL_holds_273 : decode cL_holds 273 = .ok (.istore 6, 2) := by decide +kernel
theorem dL_holds_275 : decode cL_holds 275 = .ok (.iload 6, 2) := by decide +kernel
theorem dL_holds_277 : decode cL_holds 277 = .ok (.ifCond .lt 23, 3) := by decide +kernel
theorem dL_holds_280 : decode cL_holds 280 = .ok (.iload 5, 2) := by decide +kernel
theorem dL_holds_282 : decode cL_holds 282 = .ok (.iload_n 1, 1) := by decide +kernel
theorem dL_holds_283 : decode cL_holds 283 = .ok (.if_icmp .gt 17, 3) := by decide +kernel
theorem dL_holds_286 : decode cL_holds 286 = .ok (.iinc 5 1, 3) := by decide +kernel
theorem dL_holds_289 : decode cL_holds 289 = .ok (.aload_n 0, 1) := by decide +kernel
theorem dL_holds_290 : decode cL_holds 290 = .ok (.iload 6, 2) := by decide +kernel
theorem dL_holds_292 : decode cL_holds 292 = .ok (.invokevirtual 15, 3) := by decide +kernel
theorem dL_holds_295 : decode cL_holds 295 = .ok (.istore 6, 2) := by decide +kernel
theorem dL_holds_297 : decode cL_holds 297 = .ok (.goto (-22), 3) := by decide +kernel
theorem dL_holds_300 : decode cL_holds 300 = .ok (.iload 4, 2) := by decide +kernel
theorem dL_holds_302 : decode cL_holds 302 = .ok (.ifCond .eq 83, 3) := by decide +kernel
theorem dL_holds_305 : decode cL_holds 305 = .ok (.iload 5, 2) := by decide +kernel
theorem dL_holds_307 : decode cL_holds 307 = .ok (.iload_n 1, 1) := by decide +kernel
theorem dL_holds_308 : decode cL_holds 308 = .ok (.if_icmp .ne 77, 3) := by decide +kernel
theorem dL_holds_311 : decode cL_holds 311 = .ok (.aload_n 0, 1) := by decide +kernel
theorem dL_holds_312 : decode cL_holds 312 = .ok (.invokevirtual 9, 3) := by decide +kernel
theorem dL_holds_315 : decode cL_holds 315 = .ok (.iload_n 1, 1) := by decide +kernel
theorem dL_holds_316 : decode cL_holds 316 = .ok (.if_icmp .ne 69, 3) := by decide +kernel
theorem dL_holds_319 : decode cL_holds 319 = .ok (.aload_n 0, 1) := by decide +kernel
theorem dL_holds_320 : decode cL_holds 320 = .ok (.invokevirtual 48, 3) := by decide +kernel
theorem dL_holds_323 : decode cL_holds 323 = .ok (.iload_n 2, 1) := by decide +kernel
theorem dL_holds_324 : decode cL_holds 324 = .ok (.if_icmp .ne 61, 3) := by decide +kernel
theorem dL_holds_327 : decode cL_holds 327 = .ok (.iload_n 3, 1) := by decide +kernel
theorem dL_holds_328 : decode cL_holds 328 = .ok (.iload_n 2, 1) := by decide +kernel
theorem dL_holds_329 : decode cL_holds 329 = .ok (.if_icmp .ne 56, 3) := by decide +kernel
theorem dL_holds_332 : decode cL_holds 332 = .ok (.aload_n 0, 1) := by decide +kernel
theorem dL_holds_333 : decode cL_holds 333 = .ok (.invokevirtual 51, 3) := by decide +kernel
theorem dL_holds_336 : decode cL_holds 336 = .ok (.dconst 0, 1) := by decide +kernel
theorem dL_holds_337 : decode cL_holds 337 = .ok (.dcmp .l, 1) := by decide +kernel
theorem dL_holds_338 : decode cL_holds 338 = .ok (.ifCond .lt 47, 3) := by decide +kernel
theorem dL_holds_341 : decode cL_holds 341 = .ok (.aload_n 0, 1) := by decide +kernel
theorem dL_holds_342 : decode cL_holds 342 = .ok (.invokevirtual 51, 3) := by decide +kernel
theorem dL_holds_345 : decode cL_holds 345 = .ok (.dconst 1, 1) := by decide +kernel
theorem dL_holds_346 : decode cL_holds 346 = .ok (.dcmp .g, 1) := by decide +kernel
theorem dL_holds_347 : decode cL_holds 347 = .ok (.ifCond .gt 38, 3) := by decide +kernel
theorem dL_holds_350 : decode cL_holds 350 = .ok (.aload_n 0, 1) := by decide +kernel
theorem dL_holds_351 : decode cL_holds 351 = .ok (.iconst (-1), 1) := by decide +kernel
theorem dL_holds_352 : decode cL_holds 352 = .ok (.invokevirtual 42, 3) := by decide +kernel
theorem dL_holds_355 : decode cL_holds 355 = .ok (.ifCond .ne 30, 3) := by decide +kernel
theorem dL_holds_358 : decode cL_holds 358 = .ok (.aload_n 0, 1) := by decide +kernel
theorem dL_holds_359 : decode cL_holds 359 = .ok (.bipush 99, 2) := by decide +kernel
theorem dL_holds_361 : decode cL_holds 361 = .ok (.invokevirtual 42, 3) := by decide +kernel
theorem dL_holds_364 : decode cL_holds 364 = .ok (.ifCond .ne 21, 3) := by decide +kernel
theorem dL_holds_367 : decode cL_holds 367 = .ok (.aload_n 0, 1) := by decide +kernel
theorem dL_holds_368 : decode cL_holds 368 = .ok (.bipush 100, 2) := by decide +kernel
theorem dL_holds_370 : decode cL_holds 370 = .ok (.aload_n 0, 1) := by decide +kernel
theorem dL_holds_371 : decode cL_holds 371 = .ok (.invokevirtual 24, 3) := by decide +kernel
theorem dL_holds_374 : decode cL_holds 374 = .ok (.imul, 1) := by decide +kernel
theorem dL_holds_375 : decode cL_holds 375 = .ok (.invokevirtual 42, 3) := by decide +kernel
theorem dL_holds_378 : decode cL_holds 378 = .ok (.ifCond .ne 7, 3) := by decide +kernel
theorem dL_holds_381 : decode cL_holds 381 = .ok (.iconst 1, 1) := by decide +kernel
theorem dL_holds_382 : decode cL_holds 382 = .ok (.goto 4, 3) := by decide +kernel
theorem dL_holds_385 : decode cL_holds 385 = .ok (.iconst 0, 1) := by decide +kernel
theorem dL_holds_386 : decode cL_holds 386 = .ok (.ireturn, 1) := by decide +kernel
theorem dL_acts_0 : decode cL_acts 0 = .ok (.iload_n 2, 1) := by decide +kernel
theorem dL_acts_1 : decode cL_acts 1 = .ok (.iload_n 2, 1) := by decide +kernel
theorem dL_acts_2 : decode cL_acts 2 = .ok (.bipush 9, 2) := by decide +kernel
theorem dL_acts_4 : decode cL_acts 4 = .ok (.ishr, 1) := by decide +kernel
theorem dL_acts_5 : decode cL_acts 5 = .ok (.iconst 1, 1) := by decide +kernel
theorem dL_acts_6 : decode cL_acts 6 = .ok (.iand, 1) := by decide +kernel
theorem dL_acts_7 : decode cL_acts 7 = .ok (.ifCond .ne 8, 3) := by decide +kernel
theorem dL_acts_10 : decode cL_acts 10 = .ok (.bipush 61, 2) := by decide +kernel
theorem dL_acts_12 : decode cL_acts 12 = .ok (.goto 5, 3) := by decide +kernel
theorem dL_acts_15 : decode cL_acts 15 = .ok (.bipush 10, 2) := by decide +kernel
theorem dL_acts_17 : decode cL_acts 17 = .ok (.invokestatic 55, 3) := by decide +kernel
theorem dL_acts_20 : decode cL_acts 20 = .ok (.istore_n 3, 1) := by decide +kernel
theorem dL_acts_21 : decode cL_acts 21 = .ok (.aload_n 0, 1) := by decide +kernel
theorem dL_acts_22 : decode cL_acts 22 = .ok (.iload_n 2, 1) := by decide +kernel
theorem dL_acts_23 : decode cL_acts 23 = .ok (.iconst 3, 1) := by decide +kernel
theorem dL_acts_24 : decode cL_acts 24 = .ok (.ishr, 1) := by decide +kernel
theorem dL_acts_25 : decode cL_acts 25 = .ok (.bipush 40, 2) := by decide +kernel
theorem dL_acts_27 : decode cL_acts 27 = .ok (.invokestatic 55, 3) := by decide +kernel
theorem dL_acts_30 : decode cL_acts 30 = .ok (.aload_n 0, 1) := by decide +kernel
theorem dL_acts_31 : decode cL_acts 31 = .ok (.invokevirtual 9, 3) := by decide +kernel
theorem dL_acts_34 : decode cL_acts 34 = .ok (.iconst 1, 1) := by decide +kernel
theorem dL_acts_35 : decode cL_acts 35 = .ok (.iadd, 1) := by decide +kernel
theorem dL_acts_36 : decode cL_acts 36 = .ok (.irem, 1) := by decide +kernel
theorem dL_acts_37 : decode cL_acts 37 = .ok (.invokestatic 60, 3) := by decide +kernel
theorem dL_acts_40 : decode cL_acts 40 = .ok (.istore 4, 2) := by decide +kernel
theorem dL_acts_42 : decode cL_acts 42 = .ok (.aload_n 0, 1) := by decide +kernel
theorem dL_acts_43 : decode cL_acts 43 = .ok (.invokevirtual 9, 3) := by decide +kernel
theorem dL_acts_46 : decode cL_acts 46 = .ok (.ifCond .eq 8, 3) := by decide +kernel
theorem dL_acts_49 : decode cL_acts 49 = .ok (.iload 4, 2) := by decide +kernel
theorem dL_acts_51 : decode cL_acts 51 = .ok (.ifCond .ge 7, 3) := by decide +kernel
theorem dL_acts_54 : decode cL_acts 54 = .ok (.iconst 0, 1) := by decide +kernel
theorem dL_acts_55 : decode cL_acts 55 = .ok (.goto 9, 3) := by decide +kernel
theorem dL_acts_58 : decode cL_acts 58 = .ok (.iload_n 1, 1) := by decide +kernel
theorem dL_acts_59 : decode cL_acts 59 = .ok (.bipush 16, 2) := by decide +kernel
theorem dL_acts_61 : decode cL_acts 61 = .ok (.invokestatic 55, 3) := by decide +kernel
theorem dL_acts_64 : decode cL_acts 64 = .ok (.istore 5, 2) := by decide +kernel
theorem dL_acts_66 : decode cL_acts 66 = .ok (.iload_n 3, 1) := by decide +kernel
theorem dL_acts_67 : decode cL_acts 67 = .ok (.ifCond .le 28, 3) := by decide +kernel
theorem dL_acts_70 : decode cL_acts 70 = .ok (.iload 5, 2) := by decide +kernel
theorem dL_acts_72 : decode cL_acts 72 = .ok (.bipush 12, 2) := by decide +kernel
theorem dL_acts_74 : decode cL_acts 74 = .ok (.if_icmp .ge 21, 3) := by decide +kernel
theorem dL_acts_77 : decode cL_acts 77 = .ok (.aload_n 0, 1) := by decide +kernel
theorem dL_acts_78 : decode cL_acts 78 = .ok (.iload_n 3, 1) := by decide +kernel
theorem dL_acts_79 : decode cL_acts 79 = .ok (.iload_n 2, 1) := by decide +kernel
theorem dL_acts_80 : decode cL_acts 80 = .ok (.bipush 6, 2) := by decide +kernel
theorem dL_acts_82 : decode cL_acts 82 = .ok (.ishr, 1) := by decide +kernel
theorem dL_acts_83 : decode cL_acts 83 = .ok (.sipush 256, 3) := by decide +kernel
theorem dL_acts_86 : decode cL_acts 86 = .ok (.invokestatic 55, 3) := by decide +kernel
theorem dL_acts_89 : decode cL_acts 89 = .ok (.invokevirtual 64, 3) := by decide +kernel
theorem dL_acts_92 : decode cL_acts 92 = .ok (.goto 4, 3) := by decide +kernel
theorem dL_acts_95 : decode cL_acts 95 = .ok (.iconst 0, 1) := by decide +kernel
theorem dL_acts_96 : decode cL_acts 96 = .ok (.istore 6, 2) := by decide +kernel
theorem dL_acts_98 : decode cL_acts 98 = .ok (.aload_n 0, 1) := by decide +kernel
theorem dL_acts_99 : decode cL_acts 99 = .ok (.iconst (-1), 1) := by decide +kernel
theorem dL_acts_100 : decode cL_acts 100 = .ok (.invokestatic 67, 3) := by decide +kernel
theorem dL_acts_103 : decode cL_acts 103 = .ok (.lstore 7, 2) := by decide +kernel
theorem dL_acts_105 : decode cL_acts 105 = .ok (.aload_n 0, 1) := by decide +kernel
theorem dL_acts_106 : decode cL_acts 106 = .ok (.invokevirtual 9, 3) := by decide +kernel
theorem dL_acts_109 : decode cL_acts 109 = .ok (.istore 9, 2) := by decide +kernel
theorem dL_acts_111 : decode cL_acts 111 = .ok (.iload 5, 2) := by decide +kernel
theorem dL_acts_113 : decode cL_acts 113 = .ok (.bipush 6, 2) := by decide +kernel
theorem dL_acts_115 : decode cL_acts 115 = .ok (.if_icmp .ge 107, 3) := by decide +kernel
theorem dL_acts_118 : decode cL_acts 118 = .ok (.aload_n 0, 1) := by decide +kernel
theorem dL_acts_119 : decode cL_acts 119 = .ok (.iload_n 3, 1) := by decide +kernel
theorem dL_acts_120 : decode cL_acts 120 = .ok (.invokevirtual 71, 3) := by decide +kernel
theorem dL_acts_123 : decode cL_acts 123 = .ok (.istore 10, 2) := by decide +kernel
theorem dL_acts_125 : decode cL_acts 125 = .ok (.aload_n 0, 1) := by decide +kernel
theorem dL_acts_126 : decode cL_acts 126 = .ok (.iload_n 3, 1) := by decide +kernel
theorem dL_acts_127 : decode cL_acts 127 = .ok (.invokevirtual 74, 3) := by decide +kernel
theorem dL_acts_130 : decode cL_acts 130 = .ok (.istore 11, 2) := by decide +kernel
theorem dL_acts_132 : decode cL_acts 132 = .ok (.iload 10, 2) := by decide +kernel
theorem dL_acts_134 : decode cL_acts 134 = .ok (.ifCond .ge 28, 3) := by decide +kernel
theorem dL_acts_137 : decode cL_acts 137 = .ok (.iload 11, 2) := by decide +kernel
theorem dL_acts_139 : decode cL_acts 139 = .ok (.ifCond .ne 21, 3) := by decide +kernel
theorem dL_acts_142 : decode cL_acts 142 = .ok (.aload_n 0, 1) := by decide +kernel
theorem dL_acts_143 : decode cL_acts 143 = .ok (.invokevirtual 77, 3) := by decide +kernel
theorem dL_acts_146 : decode cL_acts 146 = .ok (.iload_n 3, 1) := by decide +kernel
theorem dL_acts_147 : decode cL_acts 147 = .ok (.if_icmp .ne 13, 3) := by decide +kernel
theorem dL_acts_150 : decode cL_acts 150 = .ok (.iload 6, 2) := by decide +kernel
theorem dL_acts_152 : decode cL_acts 152 = .ok (.iload_n 3, 1) := by decide +kernel
theorem dL_acts_153 : decode cL_acts 153 = .ok (.if_icmp .ne 7, 3) := by decide +kernel
theorem dL_acts_156 : decode cL_acts 156 = .ok (.iconst 1, 1) := by decide +kernel
theorem dL_acts_157 : decode cL_acts 157 = .ok (.goto 4, 3) := by decide +kernel
theorem dL_acts_160 : decode cL_acts 160 = .ok (.iconst 0, 1) := by decide +kernel
theorem dL_acts_161 : decode cL_acts 161 = .ok (.ireturn, 1) := by decide +kernel
theorem dL_acts_162 : decode cL_acts 162 = .ok (.aload_n 0, 1) := by decide +kernel
theorem dL_acts_163 : decode cL_acts 163 = .ok (.invokevirtual 80, 3) := by decide +kernel
theorem dL_acts_166 : decode cL_acts 166 = .ok (.iload 10, 2) := by decide +kernel
theorem dL_acts_168 : decode cL_acts 168 = .ok (.if_icmp .ne 52, 3) := by decide +kernel
theorem dL_acts_171 : decode cL_acts 171 = .ok (.aload_n 0, 1) := by decide +kernel
theorem dL_acts_172 : decode cL_acts 172 = .ok (.iload_n 3, 1) := by decide +kernel
theorem dL_acts_173 : decode cL_acts 173 = .ok (.invokevirtual 74, 3) := by decide +kernel
theorem dL_acts_176 : decode cL_acts 176 = .ok (.iload 11, 2) := by decide +kernel
theorem dL_acts_178 : decode cL_acts 178 = .ok (.iconst 1, 1) := by decide +kernel
theorem dL_acts_179 : decode cL_acts 179 = .ok (.isub, 1) := by decide +kernel
theorem dL_acts_180 : decode cL_acts 180 = .ok (.if_icmp .ne 40, 3) := by decide +kernel
theorem dL_acts_183 : decode cL_acts 183 = .ok (.aload_n 0, 1) := by decide +kernel
theorem dL_acts_184 : decode cL_acts 184 = .ok (.iload 10, 2) := by decide +kernel
theorem dL_acts_186 : decode cL_acts 186 = .ok (.invokestatic 67, 3) := by decide +kernel
theorem dL_acts_189 : decode cL_acts 189 = .ok (.lload 7, 2) := by decide +kernel
theorem dL_acts_191 : decode cL_acts 191 = .ok (.lcmp, 1) := by decide +kernel
theorem dL_acts_192 : decode cL_acts 192 = .ok (.ifCond .ne 28, 3) := by decide +kernel
theorem dL_acts_195 : decode cL_acts 195 = .ok (.aload_n 0, 1) := by decide +kernel
theorem dL_acts_196 : decode cL_acts 196 = .ok (.iload 10, 2) := by decide +kernel
theorem dL_acts_198 : decode cL_acts 198 = .ok (.invokevirtual 33, 3) := by decide +kernel
theorem dL_acts_201 : decode cL_acts 201 = .ok (.iload_n 3, 1) := by decide +kernel
theorem dL_acts_202 : decode cL_acts 202 = .ok (.if_icmp .ne 18, 3) := by decide +kernel
theorem dL_acts_205 : decode cL_acts 205 = .ok (.aload_n 0, 1) := by decide +kernel
theorem dL_acts_206 : decode cL_acts 206 = .ok (.invokevirtual 9, 3) := by decide +kernel
theorem dL_acts_209 : decode cL_acts 209 = .ok (.iload 9, 2) := by decide +kernel
theorem dL_acts_211 : decode cL_acts 211 = .ok (.iconst 1, 1) := by decide +kernel
theorem dL_acts_212 : decode cL_acts 212 = .ok (.iadd, 1) := by decide +kernel
theorem dL_acts_213 : decode cL_acts 213 = .ok (.if_icmp .ne 7, 3) := by decide +kernel
theorem dL_acts_216 : decode cL_acts 216 = .ok (.iconst 1, 1) := by decide +kernel
theorem dL_acts_217 : decode cL_acts 217 = .ok (.goto 4, 3) := by decide +kernel
theorem dL_acts_220 : decode cL_acts 220 = .ok (.iconst 0, 1) := by decide +kernel
theorem dL_acts_221 : decode cL_acts 221 = .ok (.ireturn, 1) := by decide +kernel
theorem dL_acts_222 : decode cL_acts 222 = .ok (.aload_n 0, 1) := by decide +kernel
theorem dL_acts_223 : decode cL_acts 223 = .ok (.iload 4, 2) := by decide +kernel
theorem dL_acts_225 : decode cL_acts 225 = .ok (.invokestatic 67, 3) := by decide +kernel
theorem dL_acts_228 : decode cL_acts 228 = .ok (.lstore 10, 2) := by decide +kernel
theorem dL_acts_230 : decode cL_acts 230 = .ok (.iload 5, 2) := by decide +kernel
theorem dL_acts_232 : decode cL_acts 232 = .ok (.bipush 12, 2) := by decide +kernel
theorem dL_acts_234 : decode cL_acts 234 = .ok (.if_icmp .ge 147, 3) := by decide +kernel
theorem dL_acts_237 : decode cL_acts 237 = .ok (.aload_n 0, 1) := by decide +kernel
theorem dL_acts_238 : decode cL_acts 238 = .ok (.iload 4, 2) := by decide +kernel
theorem dL_acts_240 : decode cL_acts 240 = .ok (.iload_n 3, 1) := by decide +kernel
theorem dL_acts_241 : decode cL_acts 241 = .ok (.invokevirtual 83, 3) := by decide +kernel
theorem dL_acts_244 : decode cL_acts 244 = .ok (.istore 12, 2) := by decide +kernel
theorem dL_acts_246 : decode cL_acts 246 = .ok (.iload_n 3, 1) := by decide +kernel
theorem dL_acts_247 : decode cL_acts 247 = .ok (.aload_n 0, 1) := by decide +kernel
theorem dL_acts_248 : decode cL_acts 248 = .ok (.iload 4, 2) := by decide +kernel
theorem dL_acts_250 : decode cL_acts 250 = .ok (.invokevirtual 86, 3) := by decide +kernel
theorem dL_acts_253 : decode cL_acts 253 = .ok (.if_icmp .gt 7, 3) := by decide +kernel
theorem dL_acts_256 : decode cL_acts 256 = .ok (.iconst 1, 1) := by decide +kernel
theorem dL_acts_257 : decode cL_acts 257 = .ok (.goto 4, 3) := by decide +kernel
theorem dL_acts_260 : decode cL_acts 260 = .ok (.iconst 0, 1) := by decide +kernel
theorem dL_acts_261 : decode cL_acts 261 = .ok (.istore 13, 2) := by decide +kernel
theorem dL_acts_263 : decode cL_acts 263 = .ok (.iload 12, 2) := by decide +kernel
theorem dL_acts_265 : decode cL_acts 265 = .ok (.ifCond .ge 22, 3) := by decide +kernel
theorem dL_acts_268 : decode cL_acts 268 = .ok (.iload 13, 2) := by decide +kernel
theorem dL_acts_270 : decode cL_acts 270 = .ok (.ifCond .ne 15, 3) := by decide +kernel
theorem dL_acts_273 : decode cL_acts 273 = .ok (.aload_n 0, 1) := by decide +kernel
theorem dL_acts_274 : decode cL_acts 274 = .ok (.invokevirtual 77, 3) := by decide +kernel
theorem dL_acts_277 : decode cL_acts 277 = .ok (.iload_n 3, 1) := by decide +kernel
theorem dL_acts_278 : decode cL_acts 278 = .ok (.if_icmp .ne 7, 3) := by decide +kernel
theorem dL_acts_281 : decode cL_acts 281 = .ok (.iconst 1, 1) := by decide +kernel
theorem dL_acts_282 : decode cL_acts 282 = .ok (.goto 4, 3) := by decide +kernel
theorem dL_acts_285 : decode cL_acts 285 = .ok (.iconst 0, 1) := by decide +kernel
theorem dL_acts_286 : decode cL_acts 286 = .ok (.ireturn, 1) := by decide +kernel
theorem dL_acts_287 : decode cL_acts 287 = .ok (.aload_n 0, 1) := by decide +kernel
theorem dL_acts_288 : decode cL_acts 288 = .ok (.iload 4, 2) := by decide +kernel
theorem dL_acts_290 : decode cL_acts 290 = .ok (.invokevirtual 89, 3) := by decide +kernel
theorem dL_acts_293 : decode cL_acts 293 = .ok (.iload 12, 2) := by decide +kernel
theorem dL_acts_295 : decode cL_acts 295 = .ok (.if_icmp .ne 84, 3) := by decide +kernel
theorem dL_acts_298 : decode cL_acts 298 = .ok (.iload 13, 2) := by decide +kernel
theorem dL_acts_300 : decode cL_acts 300 = .ok (.iload 12, 2) := by decide +kernel
theorem dL_acts_302 : decode cL_acts 302 = .ok (.iconst 1, 1) := by decide +kernel
theorem dL_acts_303 : decode cL_acts 303 = .ok (.if_icmp .ne 7, 3) := by decide +kernel
theorem dL_acts_306 : decode cL_acts 306 = .ok (.iconst 1, 1) := by decide +kernel
theorem dL_acts_307 : decode cL_acts 307 = .ok (.goto 4, 3) := by decide +kernel
theorem dL_acts_310 : decode cL_acts 310 = .ok (.iconst 0, 1) := by decide +kernel
theorem dL_acts_311 : decode cL_acts 311 = .ok (.if_icmp .ne 68, 3) := by decide +kernel
theorem dL_acts_314 : decode cL_acts 314 = .ok (.aload_n 0, 1) := by decide +kernel
theorem dL_acts_315 : decode cL_acts 315 = .ok (.iload 4, 2) := by decide +kernel
theorem dL_acts_317 : decode cL_acts 317 = .ok (.invokevirtual 42, 3) := by decide +kernel
theorem dL_acts_320 : decode cL_acts 320 = .ok (.iload 12, 2) := by decide +kernel
theorem dL_acts_322 : decode cL_acts 322 = .ok (.iconst 1, 1) := by decide +kernel
theorem dL_acts_323 : decode cL_acts 323 = .ok (.if_icmp .ne 7, 3) := by decide +kernel
theorem dL_acts_326 : decode cL_acts 326 = .ok (.iconst 1, 1) := by decide +kernel
theorem dL_acts_327 : decode cL_acts 327 = .ok (.goto 4, 3) := by decide +kernel
theorem dL_acts_330 : decode cL_acts 330 = .ok (.iconst 2, 1) := by decide +kernel
theorem dL_acts_331 : decode cL_acts 331 = .ok (.if_icmp .ne 48, 3) := by decide +kernel
theorem dL_acts_334 : decode cL_acts 334 = .ok (.aload_n 0, 1) := by decide +kernel
theorem dL_acts_335 : decode cL_acts 335 = .ok (.iload 4, 2) := by decide +kernel
theorem dL_acts_337 : decode cL_acts 337 = .ok (.invokestatic 67, 3) := by decide +kernel
theorem dL_acts_340 : decode cL_acts 340 = .ok (.lload 10, 2) := by decide +kernel
theorem dL_acts_342 : decode cL_acts 342 = .ok (.lcmp, 1) := by decide +kernel
theorem dL_acts_343 : decode cL_acts 343 = .ok (.ifCond .ne 36, 3) := by decide +kernel
theorem dL_acts_346 : decode cL_acts 346 = .ok (.aload_n 0, 1) := by decide +kernel
theorem dL_acts_347 : decode cL_acts 347 = .ok (.iload 4, 2) := by decide +kernel
theorem dL_acts_349 : decode cL_acts 349 = .ok (.invokevirtual 33, 3) := by decide +kernel
theorem dL_acts_352 : decode cL_acts 352 = .ok (.iload_n 3, 1) := by decide +kernel
theorem dL_acts_353 : decode cL_acts 353 = .ok (.if_icmp .ne 26, 3) := by decide +kernel
theorem dL_acts_356 : decode cL_acts 356 = .ok (.aload_n 0, 1) := by decide +kernel
theorem dL_acts_357 : decode cL_acts 357 = .ok (.iload 4, 2) := by decide +kernel
theorem dL_acts_359 : decode cL_acts 359 = .ok (.invokevirtual 86, 3) := by decide +kernel
theorem dL_acts_362 : decode cL_acts 362 = .ok (.iload 13, 2) := by decide +kernel
theorem dL_acts_364 : decode cL_acts 364 = .ok (.ifCond .eq 7, 3) := by decide +kernel
theorem dL_acts_367 : decode cL_acts 367 = .ok (.iload_n 3, 1) := by decide +kernel
theorem dL_acts_368 : decode cL_acts 368 = .ok (.goto 4, 3) := by decide +kernel
theorem dL_acts_371 : decode cL_acts 371 = .ok (.iconst 1, 1) := by decide +kernel
theorem dL_acts_372 : decode cL_acts 372 = .ok (.if_icmp .lt 7, 3) := by decide +kernel
theorem dL_acts_375 : decode cL_acts 375 = .ok (.iconst 1, 1) := by decide +kernel
theorem dL_acts_376 : decode cL_acts 376 = .ok (.goto 4, 3) := by decide +kernel
theorem dL_acts_379 : decode cL_acts 379 = .ok (.iconst 0, 1) := by decide +kernel
theorem dL_acts_380 : decode cL_acts 380 = .ok (.ireturn, 1) := by decide +kernel
theorem dL_acts_381 : decode cL_acts 381 = .ok (.iload 5, 2) := by decide +kernel
theorem dL_acts_383 : decode cL_acts 383 = .ok (.bipush 12, 2) := by decide +kernel
theorem dL_acts_385 : decode cL_acts 385 = .ok (.if_icmp .ne 40, 3) := by decide +kernel
theorem dL_acts_388 : decode cL_acts 388 = .ok (.aload_n 0, 1) := by decide +kernel
theorem dL_acts_389 : decode cL_acts 389 = .ok (.iload 4, 2) := by decide +kernel
theorem dL_acts_391 : decode cL_acts 391 = .ok (.invokevirtual 92, 3) := by decide +kernel
theorem dL_acts_394 : decode cL_acts 394 = .ok (.ifCond .lt 29, 3) := by decide +kernel
theorem dL_acts_397 : decode cL_acts 397 = .ok (.aload_n 0, 1) := by decide +kernel
theorem dL_acts_398 : decode cL_acts 398 = .ok (.iconst (-1), 1) := by decide +kernel
theorem dL_acts_399 : decode cL_acts 399 = .ok (.invokestatic 67, 3) := by decide +kernel
theorem dL_acts_402 : decode cL_acts 402 = .ok (.lload 10, 2) := by decide +kernel
theorem dL_acts_404 : decode cL_acts 404 = .ok (.lcmp, 1) := by decide +kernel
theorem dL_acts_405 : decode cL_acts 405 = .ok (.ifCond .ne 18, 3) := by decide +kernel
theorem dL_acts_408 : decode cL_acts 408 = .ok (.aload_n 0, 1) := by decide +kernel
theorem dL_acts_409 : decode cL_acts 409 = .ok (.invokevirtual 9, 3) := by decide +kernel
theorem dL_acts_412 : decode cL_acts 412 = .ok (.iload 9, 2) := by decide +kernel
theorem dL_acts_414 : decode cL_acts 414 = .ok (.iconst 1, 1) := by decide +kernel
theorem dL_acts_415 : decode cL_acts 415 = .ok (.isub, 1) := by decide +kernel
theorem dL_acts_416 : decode cL_acts 416 = .ok (.if_icmp .ne 7, 3) := by decide +kernel
theorem dL_acts_419 : decode cL_acts 419 = .ok (.iconst 1, 1) := by decide +kernel
theorem dL_acts_420 : decode cL_acts 420 = .ok (.goto 4, 3) := by decide +kernel
theorem dL_acts_423 : decode cL_acts 423 = .ok (.iconst 0, 1) := by decide +kernel
theorem dL_acts_424 : decode cL_acts 424 = .ok (.ireturn, 1) := by decide +kernel
theorem dL_acts_425 : decode cL_acts 425 = .ok (.iload 5, 2) := by decide +kernel
theorem dL_acts_427 : decode cL_acts 427 = .ok (.bipush 13, 2) := by decide +kernel
theorem dL_acts_429 : decode cL_acts 429 = .ok (.if_icmp .ne 56, 3) := by decide +kernel
theorem dL_acts_432 : decode cL_acts 432 = .ok (.aload_n 0, 1) := by decide +kernel
theorem dL_acts_433 : decode cL_acts 433 = .ok (.invokevirtual 48, 3) := by decide +kernel
theorem dL_acts_436 : decode cL_acts 436 = .ok (.istore 12, 2) := by decide +kernel
theorem dL_acts_438 : decode cL_acts 438 = .ok (.aload_n 0, 1) := by decide +kernel
theorem dL_acts_439 : decode cL_acts 439 = .ok (.invokevirtual 95, 3) := by decide +kernel
theorem dL_acts_442 : decode cL_acts 442 = .ok (.istore 13, 2) := by decide +kernel
theorem dL_acts_444 : decode cL_acts 444 = .ok (.iload 13, 2) := by decide +kernel
theorem dL_acts_446 : decode cL_acts 446 = .ok (.ifCond .lt 37, 3) := by decide +kernel
theorem dL_acts_449 : decode cL_acts 449 = .ok (.iload 13, 2) := by decide +kernel
theorem dL_acts_451 : decode cL_acts 451 = .ok (.iload 12, 2) := by decide +kernel
theorem dL_acts_453 : decode cL_acts 453 = .ok (.if_icmp .gt 30, 3) := by decide +kernel
theorem dL_acts_456 : decode cL_acts 456 = .ok (.aload_n 0, 1) := by decide +kernel
theorem dL_acts_457 : decode cL_acts 457 = .ok (.invokevirtual 48, 3) := by decide +kernel
theorem dL_acts_460 : decode cL_acts 460 = .ok (.iload 12, 2) := by decide +kernel
theorem dL_acts_462 : decode cL_acts 462 = .ok (.iload 13, 2) := by decide +kernel
theorem dL_acts_464 : decode cL_acts 464 = .ok (.isub, 1) := by decide +kernel
theorem dL_acts_465 : decode cL_acts 465 = .ok (.if_icmp .ne 18, 3) := by decide +kernel
theorem dL_acts_468 : decode cL_acts 468 = .ok (.aload_n 0, 1) := by decide +kernel
theorem dL_acts_469 : decode cL_acts 469 = .ok (.iconst (-1), 1) := by decide +kernel
theorem dL_acts_470 : decode cL_acts 470 = .ok (.invokestatic 67, 3) := by decide +kernel
theorem dL_acts_473 : decode cL_acts 473 = .ok (.lload 7, 2) := by decide +kernel
theorem dL_acts_475 : decode cL_acts 475 = .ok (.lcmp, 1) := by decide +kernel
theorem dL_acts_476 : decode cL_acts 476 = .ok (.ifCond .ne 7, 3) := by decide +kernel
theorem dL_acts_479 : decode cL_acts 479 = .ok (.iconst 1, 1) := by decide +kernel
theorem dL_acts_480 : decode cL_acts 480 = .ok (.goto 4, 3) := by decide +kernel
theorem dL_acts_483 : decode cL_acts 483 = .ok (.iconst 0, 1) := by decide +kernel
theorem dL_acts_484 : decode cL_acts 484 = .ok (.ireturn, 1) := by decide +kernel
theorem dL_acts_485 : decode cL_acts 485 = .ok (.iload_n 2, 1) := by decide +kernel
theorem dL_acts_486 : decode cL_acts 486 = .ok (.aload_n 0, 1) := by decide +kernel
theorem dL_acts_487 : decode cL_acts 487 = .ok (.invokevirtual 24, 3) := by decide +kernel
theorem dL_acts_490 : decode cL_acts 490 = .ok (.invokestatic 55, 3) := by decide +kernel
theorem dL_acts_493 : decode cL_acts 493 = .ok (.istore 12, 2) := by decide +kernel
theorem dL_acts_495 : decode cL_acts 495 = .ok (.aload_n 0, 1) := by decide +kernel
theorem dL_acts_496 : decode cL_acts 496 = .ok (.iload 12, 2) := by decide +kernel
theorem dL_acts_498 : decode cL_acts 498 = .ok (.invokevirtual 98, 3) := by decide +kernel
theorem dL_acts_501 : decode cL_acts 501 = .ok (.istore 13, 2) := by decide +kernel
theorem dL_acts_503 : decode cL_acts 503 = .ok (.aload_n 0, 1) := by decide +kernel
theorem dL_acts_504 : decode cL_acts 504 = .ok (.iload 12, 2) := by decide +kernel
theorem dL_acts_506 : decode cL_acts 506 = .ok (.invokevirtual 101, 3) := by decide +kernel
theorem dL_acts_509 : decode cL_acts 509 = .ok (.ifCond .lt 40, 3) := by decide +kernel
theorem dL_acts_512 : decode cL_acts 512 = .ok (.aload_n 0, 1) := by decide +kernel
theorem dL_acts_513 : decode cL_acts 513 = .ok (.iload 12, 2) := by decide +kernel
theorem dL_acts_515 : decode cL_acts 515 = .ok (.invokevirtual 104, 3) := by decide +kernel
theorem dL_acts_518 : decode cL_acts 518 = .ok (.iload 13, 2) := by decide +kernel
theorem dL_acts_520 : decode cL_acts 520 = .ok (.if_icmp .ne 29, 3) := by decide +kernel
theorem dL_acts_523 : decode cL_acts 523 = .ok (.aload_n 0, 1) := by decide +kernel
theorem dL_acts_524 : decode cL_acts 524 = .ok (.iload 12, 2) := by decide +kernel
theorem dL_acts_526 : decode cL_acts 526 = .ok (.invokevirtual 98, 3) := by decide +kernel
theorem dL_acts_529 : decode cL_acts 529 = .ok (.iload 13, 2) := by decide +kernel
theorem dL_acts_531 : decode cL_acts 531 = .ok (.if_icmp .ne 18, 3) := by decide +kernel
theorem dL_acts_534 : decode cL_acts 534 = .ok (.aload_n 0, 1) := by decide +kernel
theorem dL_acts_535 : decode cL_acts 535 = .ok (.iconst (-1), 1) := by decide +kernel
theorem dL_acts_536 : decode cL_acts 536 = .ok (.invokestatic 67, 3) := by decide +kernel
theorem dL_acts_539 : decode cL_acts 539 = .ok (.lload 7, 2) := by decide +kernel
theorem dL_acts_541 : decode cL_acts 541 = .ok (.lcmp, 1) := by decide +kernel
theorem dL_acts_542 : decode cL_acts 542 = .ok (.ifCond .ne 7, 3) := by decide +kernel
theorem dL_acts_545 : decode cL_acts 545 = .ok (.iconst 1, 1) := by decide +kernel
theorem dL_acts_546 : decode cL_acts 546 = .ok (.goto 4, 3) := by decide +kernel
theorem dL_acts_549 : decode cL_acts 549 = .ok (.iconst 0, 1) := by decide +kernel
theorem dL_acts_550 : decode cL_acts 550 = .ok (.ireturn, 1) := by decide +kernel
theorem dL_law_0 : decode cL_law 0 = .ok (.new 10, 3) := by decide +kernel
theorem dL_law_3 : decode cL_law 3 = .ok (.dup, 1) := by decide +kernel
theorem dL_law_4 : decode cL_law 4 = .ok (.invokespecial 107, 3) := by decide +kernel
theorem dL_law_7 : decode cL_law 7 = .ok (.astore_n 1, 1) := by decide +kernel
theorem dL_law_8 : decode cL_law 8 = .ok (.aload_n 1, 1) := by decide +kernel
theorem dL_law_9 : decode cL_law 9 = .ok (.invokestatic 108, 3) := by decide +kernel
theorem dL_law_12 : decode cL_law 12 = .ok (.ifCond .eq 24, 3) := by decide +kernel
theorem dL_law_15 : decode cL_law 15 = .ok (.aload_n 1, 1) := by decide +kernel
theorem dL_law_16 : decode cL_law 16 = .ok (.iconst 0, 1) := by decide +kernel
theorem dL_law_17 : decode cL_law 17 = .ok (.invokevirtual 15, 3) := by decide +kernel
theorem dL_law_20 : decode cL_law 20 = .ok (.iconst (-1), 1) := by decide +kernel
theorem dL_law_21 : decode cL_law 21 = .ok (.if_icmp .ne 15, 3) := by decide +kernel
theorem dL_law_24 : decode cL_law 24 = .ok (.aload_n 1, 1) := by decide +kernel
theorem dL_law_25 : decode cL_law 25 = .ok (.iconst 0, 1) := by decide +kernel
theorem dL_law_26 : decode cL_law 26 = .ok (.invokevirtual 71, 3) := by decide +kernel
theorem dL_law_29 : decode cL_law 29 = .ok (.ifCond .ne 7, 3) := by decide +kernel
theorem dL_law_32 : decode cL_law 32 = .ok (.iconst 1, 1) := by decide +kernel
theorem dL_law_33 : decode cL_law 33 = .ok (.goto 4, 3) := by decide +kernel
theorem dL_law_36 : decode cL_law 36 = .ok (.iconst 0, 1) := by decide +kernel
theorem dL_law_37 : decode cL_law 37 = .ok (.istore_n 2, 1) := by decide +kernel
theorem dL_law_38 : decode cL_law 38 = .ok (.iconst 0, 1) := by decide +kernel
theorem dL_law_39 : decode cL_law 39 = .ok (.istore_n 3, 1) := by decide +kernel
theorem dL_law_40 : decode cL_law 40 = .ok (.iload_n 3, 1) := by decide +kernel
theorem dL_law_41 : decode cL_law 41 = .ok (.bipush 44, 2) := by decide +kernel
theorem dL_law_43 : decode cL_law 43 = .ok (.if_icmp .ge 183, 3) := by decide +kernel
theorem dL_law_46 : decode cL_law 46 = .ok (.iload_n 2, 1) := by decide +kernel
theorem dL_law_47 : decode cL_law 47 = .ok (.ifCond .eq 179, 3) := by decide +kernel
theorem dL_law_50 : decode cL_law 50 = .ok (.aload_n 0, 1) := by decide +kernel
theorem dL_law_51 : decode cL_law 51 = .ok (.iconst 2, 1) := by decide +kernel
theorem dL_law_52 : decode cL_law 52 = .ok (.iload_n 3, 1) := by decide +kernel
theorem dL_law_53 : decode cL_law 53 = .ok (.imul, 1) := by decide +kernel
theorem dL_law_54 : decode cL_law 54 = .ok (.invokestatic 112, 3) := by decide +kernel
theorem dL_law_57 : decode cL_law 57 = .ok (.istore 4, 2) := by decide +kernel
theorem dL_law_59 : decode cL_law 59 = .ok (.aload_n 0, 1) := by decide +kernel
theorem dL_law_60 : decode cL_law 60 = .ok (.iconst 2, 1) := by decide +kernel
theorem dL_law_61 : decode cL_law 61 = .ok (.iload_n 3, 1) := by decide +kernel
theorem dL_law_62 : decode cL_law 62 = .ok (.imul, 1) := by decide +kernel
theorem dL_law_63 : decode cL_law 63 = .ok (.iconst 1, 1) := by decide +kernel
theorem dL_law_64 : decode cL_law 64 = .ok (.iadd, 1) := by decide +kernel
theorem dL_law_65 : decode cL_law 65 = .ok (.invokestatic 112, 3) := by decide +kernel
theorem dL_law_68 : decode cL_law 68 = .ok (.istore 5, 2) := by decide +kernel
theorem dL_law_70 : decode cL_law 70 = .ok (.aload_n 1, 1) := by decide +kernel
theorem dL_law_71 : decode cL_law 71 = .ok (.invokevirtual 116, 3) := by decide +kernel
theorem dL_law_74 : decode cL_law 74 = .ok (.lstore 6, 2) := by decide +kernel
theorem dL_law_76 : decode cL_law 76 = .ok (.aload_n 1, 1) := by decide +kernel
theorem dL_law_77 : decode cL_law 77 = .ok (.invokevirtual 120, 3) := by decide +kernel
theorem dL_law_80 : decode cL_law 80 = .ok (.istore 8, 2) := by decide +kernel
theorem dL_law_82 : decode cL_law 82 = .ok (.aload_n 1, 1) := by decide +kernel
theorem dL_law_83 : decode cL_law 83 = .ok (.iload 4, 2) := by decide +kernel
theorem dL_law_85 : decode cL_law 85 = .ok (.iload 5, 2) := by decide +kernel
theorem dL_law_87 : decode cL_law 87 = .ok (.invokestatic 123, 3) := by decide +kernel
theorem dL_law_90 : decode cL_law 90 = .ok (.istore_n 2, 1) := by decide +kernel
theorem dL_law_91 : decode cL_law 91 = .ok (.aload_n 1, 1) := by decide +kernel
theorem dL_law_92 : decode cL_law 92 = .ok (.invokevirtual 120, 3) := by decide +kernel
theorem dL_law_95 : decode cL_law 95 = .ok (.iload 8, 2) := by decide +kernel
theorem dL_law_97 : decode cL_law 97 = .ok (.if_icmp .ne 20, 3) := by decide +kernel
theorem dL_law_100 : decode cL_law 100 = .ok (.iload 8, 2) := by decide +kernel
theorem dL_law_102 : decode cL_law 102 = .ok (.bipush 6, 2) := by decide +kernel
theorem dL_law_104 : decode cL_law 104 = .ok (.if_icmp .ne 17, 3) := by decide +kernel
theorem dL_law_107 : decode cL_law 107 = .ok (.aload_n 1, 1) := by decide +kernel
theorem dL_law_108 : decode cL_law 108 = .ok (.invokevirtual 116, 3) := by decide +kernel
theorem dL_law_111 : decode cL_law 111 = .ok (.lload 6, 2) := by decide +kernel
theorem dL_law_113 : decode cL_law 113 = .ok (.lcmp, 1) := by decide +kernel
theorem dL_law_114 : decode cL_law 114 = .ok (.ifCond .eq 7, 3) := by decide +kernel
theorem dL_law_117 : decode cL_law 117 = .ok (.iconst 1, 1) := by decide +kernel
theorem dL_law_118 : decode cL_law 118 = .ok (.goto 4, 3) := by decide +kernel
theorem dL_law_121 : decode cL_law 121 = .ok (.iconst 0, 1) := by decide +kernel
theorem dL_law_122 : decode cL_law 122 = .ok (.istore 9, 2) := by decide +kernel
theorem dL_law_124 : decode cL_law 124 = .ok (.iload_n 2, 1) := by decide +kernel
theorem dL_law_125 : decode cL_law 125 = .ok (.ifCond .eq 78, 3) := by decide +kernel
theorem dL_law_128 : decode cL_law 128 = .ok (.iload 9, 2) := by decide +kernel
theorem dL_law_130 : decode cL_law 130 = .ok (.ifCond .eq 73, 3) := by decide +kernel
theorem dL_law_133 : decode cL_law 133 = .ok (.iload 4, 2) := by decide +kernel
theorem dL_law_135 : decode cL_law 135 = .ok (.bipush 8, 2) := by decide +kernel
theorem dL_law_137 : decode cL_law 137 = .ok (.ishr, 1) := by decide +kernel
theorem dL_law_138 : decode cL_law 138 = .ok (.iconst 3, 1) := by decide +kernel
theorem dL_law_139 : decode cL_law 139 = .ok (.iand, 1) := by decide +kernel
theorem dL_law_140 : decode cL_law 140 = .ok (.ifCond .ne 63, 3) := by decide +kernel
theorem dL_law_143 : decode cL_law 143 = .ok (.aload_n 1, 1) := by decide +kernel
theorem dL_law_144 : decode cL_law 144 = .ok (.invokevirtual 116, 3) := by decide +kernel
theorem dL_law_147 : decode cL_law 147 = .ok (.lstore 10, 2) := by decide +kernel
theorem dL_law_149 : decode cL_law 149 = .ok (.aload_n 1, 1) := by decide +kernel
theorem dL_law_150 : decode cL_law 150 = .ok (.invokevirtual 120, 3) := by decide +kernel
theorem dL_law_153 : decode cL_law 153 = .ok (.iconst 1, 1) := by decide +kernel
theorem dL_law_154 : decode cL_law 154 = .ok (.isub, 1) := by decide +kernel
theorem dL_law_155 : decode cL_law 155 = .ok (.istore 12, 2) := by decide +kernel
theorem dL_law_157 : decode cL_law 157 = .ok (.aload_n 1, 1) := by decide +kernel
theorem dL_law_158 : decode cL_law 158 = .ok (.invokevirtual 127, 3) := by decide +kernel
theorem dL_law_161 : decode cL_law 161 = .ok (.iload 12, 2) := by decide +kernel
theorem dL_law_163 : decode cL_law 163 = .ok (.if_icmp .ne 38, 3) := by decide +kernel
theorem dL_law_166 : decode cL_law 166 = .ok (.aload_n 1, 1) := by decide +kernel
theorem dL_law_167 : decode cL_law 167 = .ok (.invokevirtual 116, 3) := by decide +kernel
theorem dL_law_170 : decode cL_law 170 = .ok (.lload 6, 2) := by decide +kernel
theorem dL_law_172 : decode cL_law 172 = .ok (.lcmp, 1) := by decide +kernel
theorem dL_law_173 : decode cL_law 173 = .ok (.ifCond .ne 28, 3) := by decide +kernel
theorem dL_law_176 : decode cL_law 176 = .ok (.aload_n 1, 1) := by decide +kernel
theorem dL_law_177 : decode cL_law 177 = .ok (.iload 4, 2) := by decide +kernel
theorem dL_law_179 : decode cL_law 179 = .ok (.iload 5, 2) := by decide +kernel
theorem dL_law_181 : decode cL_law 181 = .ok (.invokestatic 123, 3) := by decide +kernel
theorem dL_law_184 : decode cL_law 184 = .ok (.ifCond .eq 17, 3) := by decide +kernel
theorem dL_law_187 : decode cL_law 187 = .ok (.aload_n 1, 1) := by decide +kernel
theorem dL_law_188 : decode cL_law 188 = .ok (.invokevirtual 116, 3) := by decide +kernel
theorem dL_law_191 : decode cL_law 191 = .ok (.lload 10, 2) := by decide +kernel
theorem dL_law_193 : decode cL_law 193 = .ok (.lcmp, 1) := by decide +kernel
theorem dL_law_194 : decode cL_law 194 = .ok (.ifCond .ne 7, 3) := by decide +kernel
theorem dL_law_197 : decode cL_law 197 = .ok (.iconst 1, 1) := by decide +kernel
theorem dL_law_198 : decode cL_law 198 = .ok (.goto 4, 3) := by decide +kernel
theorem dL_law_201 : decode cL_law 201 = .ok (.iconst 0, 1) := by decide +kernel
theorem dL_law_202 : decode cL_law 202 = .ok (.istore_n 2, 1) := by decide +kernel
theorem dL_law_203 : decode cL_law 203 = .ok (.iload_n 2, 1) := by decide +kernel
theorem dL_law_204 : decode cL_law 204 = .ok (.ifCond .eq 14, 3) := by decide +kernel
theorem dL_law_207 : decode cL_law 207 = .ok (.aload_n 1, 1) := by decide +kernel
theorem dL_law_208 : decode cL_law 208 = .ok (.invokestatic 108, 3) := by decide +kernel
theorem dL_law_211 : decode cL_law 211 = .ok (.ifCond .eq 7, 3) := by decide +kernel
theorem dL_law_214 : decode cL_law 214 = .ok (.iconst 1, 1) := by decide +kernel
theorem dL_law_215 : decode cL_law 215 = .ok (.goto 4, 3) := by decide +kernel
theorem dL_law_218 : decode cL_law 218 = .ok (.iconst 0, 1) := by decide +kernel
theorem dL_law_219 : decode cL_law 219 = .ok (.istore_n 2, 1) := by decide +kernel
theorem dL_law_220 : decode cL_law 220 = .ok (.iinc 3 1, 3) := by decide +kernel
theorem dL_law_223 : decode cL_law 223 = .ok (.goto (-183), 3) := by decide +kernel
theorem dL_law_226 : decode cL_law 226 = .ok (.iload_n 2, 1) := by decide +kernel
theorem dL_law_227 : decode cL_law 227 = .ok (.ireturn, 1) := by decide +kernel
