theorem dX8_layThird_0 : decode cX8_layThird 0 = .ok (.aload_n 0, 1) := by decide +kernel
theorem dX8_layThird_1 : decode cX8_layThird 1 = .ok (.getfield 81, 3) := by decide +kernel
theorem dX8_layThird_4 : decode cX8_layThird 4 = .ok (.sipush 1480, 3) := by decide +kernel
theorem dX8_layThird_7 : decode cX8_layThird 7 = .ok (.laload, 1) := by decide +kernel
theorem dX8_layThird_8 : decode cX8_layThird 8 = .ok (.l2i, 1) := by decide +kernel
theorem dX8_layThird_9 : decode cX8_layThird 9 = .ok (.istore 4, 2) := by decide +kernel
theorem dX8_layThird_11 : decode cX8_layThird 11 = .ok (.aload_n 0, 1) := by decide +kernel
theorem dX8_layThird_12 : decode cX8_layThird 12 = .ok (.getfield 118, 3) := by decide +kernel
theorem dX8_layThird_15 : decode cX8_layThird 15 = .ok (.bipush 16, 2) := by decide +kernel
theorem dX8_layThird_17 : decode cX8_layThird 17 = .ok (.if_icmp .gt 10, 3) := by decide +kernel
theorem dX8_layThird_20 : decode cX8_layThird 20 = .ok (.iload 4, 2) := by decide +kernel
theorem dX8_layThird_22 : decode cX8_layThird 22 = .ok (.bipush 40, 2) := by decide +kernel
theorem dX8_layThird_24 : decode cX8_layThird 24 = .ok (.if_icmp .ne 7, 3) := by decide +kernel
theorem dX8_layThird_27 : decode cX8_layThird 27 = .ok (.ldc2_w 162, 3) := by decide +kernel
theorem dX8_layThird_30 : decode cX8_layThird 30 = .ok (.lreturn, 1) := by decide +kernel
theorem dX8_layThird_31 : decode cX8_layThird 31 = .ok (.sipush 1481, 3) := by decide +kernel
theorem dX8_layThird_34 : decode cX8_layThird 34 = .ok (.iload_n 2, 1) := by decide +kernel
theorem dX8_layThird_35 : decode cX8_layThird 35 = .ok (.imul, 1) := by decide +kernel
theorem dX8_layThird_36 : decode cX8_layThird 36 = .ok (.bipush 37, 2) := by decide +kernel
theorem dX8_layThird_38 : decode cX8_layThird 38 = .ok (.iload_n 3, 1) := by decide +kernel
theorem dX8_layThird_39 : decode cX8_layThird 39 = .ok (.imul, 1) := by decide +kernel
theorem dX8_layThird_40 : decode cX8_layThird 40 = .ok (.iadd, 1) := by decide +kernel
theorem dX8_layThird_41 : decode cX8_layThird 41 = .ok (.istore 5, 2) := by decide +kernel
theorem dX8_layThird_43 : decode cX8_layThird 43 = .ok (.aload_n 0, 1) := by decide +kernel
theorem dX8_layThird_44 : decode cX8_layThird 44 = .ok (.getfield 19, 3) := by decide +kernel
theorem dX8_layThird_47 : decode cX8_layThird 47 = .ok (.iload 5, 2) := by decide +kernel
theorem dX8_layThird_49 : decode cX8_layThird 49 = .ok (.bipush 33, 2) := by decide +kernel
theorem dX8_layThird_51 : decode cX8_layThird 51 = .ok (.iadd, 1) := by decide +kernel
theorem dX8_layThird_52 : decode cX8_layThird 52 = .ok (.laload, 1) := by decide +kernel
theorem dX8_layThird_53 : decode cX8_layThird 53 = .ok (.lstore 6, 2) := by decide +kernel
theorem dX8_layThird_55 : decode cX8_layThird 55 = .ok (.iconst 1, 1) := by decide +kernel
theorem dX8_layThird_56 : decode cX8_layThird 56 = .ok (.istore 8, 2) := by decide +kernel
theorem dX8_layThird_58 : decode cX8_layThird 58 = .ok (.iconst 0, 1) := by decide +kernel
theorem dX8_layThird_59 : decode cX8_layThird 59 = .ok (.istore 9, 2) := by decide +kernel
theorem dX8_layThird_61 : decode cX8_layThird 61 = .ok (.iload 9, 2) := by decide +kernel
theorem dX8_layThird_63 : decode cX8_layThird 63 = .ok (.aload_n 0, 1) := by decide +kernel
theorem dX8_layThird_64 : decode cX8_layThird 64 = .ok (.getfield 118, 3) := by decide +kernel
theorem dX8_layThird_67 : decode cX8_layThird 67 = .ok (.if_icmp .ge 69, 3) := by decide +kernel
theorem dX8_layThird_70 : decode cX8_layThird 70 = .ok (.iload 8, 2) := by decide +kernel
theorem dX8_layThird_72 : decode cX8_layThird 72 = .ok (.ifCond .eq 55, 3) := by decide +kernel
theorem dX8_layThird_75 : decode cX8_layThird 75 = .ok (.lload 6, 2) := by decide +kernel
theorem dX8_layThird_77 : decode cX8_layThird 77 = .ok (.aload_n 0, 1) := by decide +kernel
theorem dX8_layThird_78 : decode cX8_layThird 78 = .ok (.getfield 60, 3) := by decide +kernel
theorem dX8_layThird_81 : decode cX8_layThird 81 = .ok (.iload 9, 2) := by decide +kernel
theorem dX8_layThird_83 : decode cX8_layThird 83 = .ok (.laload, 1) := by decide +kernel
theorem dX8_layThird_84 : decode cX8_layThird 84 = .ok (.lmul, 1) := by decide +kernel
theorem dX8_layThird_85 : decode cX8_layThird 85 = .ok (.aload_n 0, 1) := by decide +kernel
theorem dX8_layThird_86 : decode cX8_layThird 86 = .ok (.getfield 19, 3) := by decide +kernel
theorem dX8_layThird_89 : decode cX8_layThird 89 = .ok (.iload 5, 2) := by decide +kernel
theorem dX8_layThird_91 : decode cX8_layThird 91 = .ok (.bipush 34, 2) := by decide +kernel
theorem dX8_layThird_93 : decode cX8_layThird 93 = .ok (.iadd, 1) := by decide +kernel
theorem dX8_layThird_94 : decode cX8_layThird 94 = .ok (.laload, 1) := by decide +kernel
theorem dX8_layThird_95 : decode cX8_layThird 95 = .ok (.ladd, 1) := by decide +kernel
theorem dX8_layThird_96 : decode cX8_layThird 96 = .ok (.lload 6, 2) := by decide +kernel
theorem dX8_layThird_98 : decode cX8_layThird 98 = .ok (.aload_n 0, 1) := by decide +kernel
theorem dX8_layThird_99 : decode cX8_layThird 99 = .ok (.getfield 63, 3) := by decide +kernel
theorem dX8_layThird_102 : decode cX8_layThird 102 = .ok (.iload 9, 2) := by decide +kernel
theorem dX8_layThird_104 : decode cX8_layThird 104 = .ok (.laload, 1) := by decide +kernel
theorem dX8_layThird_105 : decode cX8_layThird 105 = .ok (.lmul, 1) := by decide +kernel
theorem dX8_layThird_106 : decode cX8_layThird 106 = .ok (.aload_n 0, 1) := by decide +kernel
theorem dX8_layThird_107 : decode cX8_layThird 107 = .ok (.getfield 19, 3) := by decide +kernel
theorem dX8_layThird_110 : decode cX8_layThird 110 = .ok (.iload 5, 2) := by decide +kernel
theorem dX8_layThird_112 : decode cX8_layThird 112 = .ok (.bipush 35, 2) := by decide +kernel
theorem dX8_layThird_114 : decode cX8_layThird 114 = .ok (.iadd, 1) := by decide +kernel
theorem dX8_layThird_115 : decode cX8_layThird 115 = .ok (.laload, 1) := by decide +kernel
theorem dX8_layThird_116 : decode cX8_layThird 116 = .ok (.ladd, 1) := by decide +kernel
theorem dX8_layThird_117 : decode cX8_layThird 117 = .ok (.invokestatic 156, 3) := by decide +kernel
theorem dX8_layThird_120 : decode cX8_layThird 120 = .ok (.ifCond .eq 7, 3) := by decide +kernel
theorem dX8_layThird_123 : decode cX8_layThird 123 = .ok (.iconst 1, 1) := by decide +kernel
theorem dX8_layThird_124 : decode cX8_layThird 124 = .ok (.goto 4, 3) := by decide +kernel
theorem dX8_layThird_127 : decode cX8_layThird 127 = .ok (.iconst 0, 1) := by decide +kernel
theorem dX8_layThird_128 : decode cX8_layThird 128 = .ok (.istore 8, 2) := by decide +kernel
theorem dX8_layThird_130 : decode cX8_layThird 130 = .ok (.iinc 9 1, 3) := by decide +kernel
theorem dX8_layThird_133 : decode cX8_layThird 133 = .ok (.goto (-72), 3) := by decide +kernel
theorem dX8_layThird_136 : decode cX8_layThird 136 = .ok (.iload 8, 2) := by decide +kernel
theorem dX8_layThird_138 : decode cX8_layThird 138 = .ok (.ifCond .ne 7, 3) := by decide +kernel
theorem dX8_layThird_141 : decode cX8_layThird 141 = .ok (.ldc2_w 160, 3) := by decide +kernel
theorem dX8_layThird_144 : decode cX8_layThird 144 = .ok (.lreturn, 1) := by decide +kernel
theorem dX8_layThird_145 : decode cX8_layThird 145 = .ok (.iconst 0, 1) := by decide +kernel
theorem dX8_layThird_146 : decode cX8_layThird 146 = .ok (.istore 9, 2) := by decide +kernel
theorem dX8_layThird_148 : decode cX8_layThird 148 = .ok (.iload 9, 2) := by decide +kernel
theorem dX8_layThird_150 : decode cX8_layThird 150 = .ok (.bipush 37, 2) := by decide +kernel
theorem dX8_layThird_152 : decode cX8_layThird 152 = .ok (.if_icmp .ge 23, 3) := by decide +kernel
theorem dX8_layThird_155 : decode cX8_layThird 155 = .ok (.aload_n 0, 1) := by decide +kernel
theorem dX8_layThird_156 : decode cX8_layThird 156 = .ok (.getfield 84, 3) := by decide +kernel
theorem dX8_layThird_159 : decode cX8_layThird 159 = .ok (.iload 9, 2) := by decide +kernel
theorem dX8_layThird_161 : decode cX8_layThird 161 = .ok (.aload_n 0, 1) := by decide +kernel
theorem dX8_layThird_162 : decode cX8_layThird 162 = .ok (.getfield 7, 3) := by decide +kernel
theorem dX8_layThird_165 : decode cX8_layThird 165 = .ok (.iload 9, 2) := by decide +kernel
theorem dX8_layThird_167 : decode cX8_layThird 167 = .ok (.laload, 1) := by decide +kernel
theorem dX8_layThird_168 : decode cX8_layThird 168 = .ok (.lastore, 1) := by decide +kernel
theorem dX8_layThird_169 : decode cX8_layThird 169 = .ok (.iinc 9 1, 3) := by decide +kernel
theorem dX8_layThird_172 : decode cX8_layThird 172 = .ok (.goto (-24), 3) := by decide +kernel
theorem dX8_layThird_175 : decode cX8_layThird 175 = .ok (.aload_n 0, 1) := by decide +kernel
theorem dX8_layThird_176 : decode cX8_layThird 176 = .ok (.iconst 0, 1) := by decide +kernel
theorem dX8_layThird_177 : decode cX8_layThird 177 = .ok (.aload_n 0, 1) := by decide +kernel
theorem dX8_layThird_178 : decode cX8_layThird 178 = .ok (.iload_n 1, 1) := by decide +kernel
theorem dX8_layThird_179 : decode cX8_layThird 179 = .ok (.bipush 33, 2) := by decide +kernel
theorem dX8_layThird_181 : decode cX8_layThird 181 = .ok (.invokevirtual 103, 3) := by decide +kernel
theorem dX8_layThird_184 : decode cX8_layThird 184 = .ok (.aload_n 0, 1) := by decide +kernel
theorem dX8_layThird_185 : decode cX8_layThird 185 = .ok (.iload_n 1, 1) := by decide +kernel
theorem dX8_layThird_186 : decode cX8_layThird 186 = .ok (.bipush 34, 2) := by decide +kernel
theorem dX8_layThird_188 : decode cX8_layThird 188 = .ok (.invokevirtual 103, 3) := by decide +kernel
theorem dX8_layThird_191 : decode cX8_layThird 191 = .ok (.aload_n 0, 1) := by decide +kernel
theorem dX8_layThird_192 : decode cX8_layThird 192 = .ok (.iload_n 1, 1) := by decide +kernel
theorem dX8_layThird_193 : decode cX8_layThird 193 = .ok (.bipush 35, 2) := by decide +kernel
theorem dX8_layThird_195 : decode cX8_layThird 195 = .ok (.invokevirtual 103, 3) := by decide +kernel
theorem dX8_layThird_198 : decode cX8_layThird 198 = .ok (.invokevirtual 177, 3) := by decide +kernel
theorem dX8_layThird_201 : decode cX8_layThird 201 = .ok (.iconst 0, 1) := by decide +kernel
theorem dX8_layThird_202 : decode cX8_layThird 202 = .ok (.istore 9, 2) := by decide +kernel
theorem dX8_layThird_204 : decode cX8_layThird 204 = .ok (.iload 9, 2) := by decide +kernel
theorem dX8_layThird_206 : decode cX8_layThird 206 = .ok (.bipush 33, 2) := by decide +kernel
theorem dX8_layThird_208 : decode cX8_layThird 208 = .ok (.if_icmp .ge 29, 3) := by decide +kernel
theorem dX8_layThird_211 : decode cX8_layThird 211 = .ok (.aload_n 0, 1) := by decide +kernel
theorem dX8_layThird_212 : decode cX8_layThird 212 = .ok (.getfield 81, 3) := by decide +kernel
theorem dX8_layThird_215 : decode cX8_layThird 215 = .ok (.bipush 37, 2) := by decide +kernel
theorem dX8_layThird_217 : decode cX8_layThird 217 = .ok (.iload 4, 2) := by decide +kernel
theorem dX8_layThird_219 : decode cX8_layThird 219 = .ok (.imul, 1) := by decide +kernel
theorem dX8_layThird_220 : decode cX8_layThird 220 = .ok (.iload 9, 2) := by decide +kernel
theorem dX8_layThird_222 : decode cX8_layThird 222 = .ok (.iadd, 1) := by decide +kernel
theorem dX8_layThird_223 : decode cX8_layThird 223 = .ok (.aload_n 0, 1) := by decide +kernel
theorem dX8_layThird_224 : decode cX8_layThird 224 = .ok (.getfield 7, 3) := by decide +kernel
theorem dX8_layThird_227 : decode cX8_layThird 227 = .ok (.iload 9, 2) := by decide +kernel
theorem dX8_layThird_229 : decode cX8_layThird 229 = .ok (.laload, 1) := by decide +kernel
theorem dX8_layThird_230 : decode cX8_layThird 230 = .ok (.lastore, 1) := by decide +kernel
theorem dX8_layThird_231 : decode cX8_layThird 231 = .ok (.iinc 9 1, 3) := by decide +kernel
theorem dX8_layThird_234 : decode cX8_layThird 234 = .ok (.goto (-30), 3) := by decide +kernel
theorem dX8_layThird_237 : decode cX8_layThird 237 = .ok (.iconst 0, 1) := by decide +kernel
theorem dX8_layThird_238 : decode cX8_layThird 238 = .ok (.istore 9, 2) := by decide +kernel
theorem dX8_layThird_240 : decode cX8_layThird 240 = .ok (.iload 9, 2) := by decide +kernel
theorem dX8_layThird_242 : decode cX8_layThird 242 = .ok (.bipush 37, 2) := by decide +kernel
theorem dX8_layThird_244 : decode cX8_layThird 244 = .ok (.if_icmp .ge 23, 3) := by decide +kernel
theorem dX8_layThird_247 : decode cX8_layThird 247 = .ok (.aload_n 0, 1) := by decide +kernel
theorem dX8_layThird_248 : decode cX8_layThird 248 = .ok (.getfield 7, 3) := by decide +kernel
theorem dX8_layThird_251 : decode cX8_layThird 251 = .ok (.iload 9, 2) := by decide +kernel
theorem dX8_layThird_253 : decode cX8_layThird 253 = .ok (.aload_n 0, 1) := by decide +kernel
theorem dX8_layThird_254 : decode cX8_layThird 254 = .ok (.getfield 84, 3) := by decide +kernel
theorem dX8_layThird_257 : decode cX8_layThird 257 = .ok (.iload 9, 2) := by decide +kernel
theorem dX8_layThird_259 : decode cX8_layThird 259 = .ok (.laload, 1) := by decide +kernel
theorem dX8_layThird_260 : decode cX8_layThird 260 = .ok (.lastore, 1) := by decide +kernel
theorem dX8_layThird_261 : decode cX8_layThird 261 = .ok (.iinc 9 1, 3) := by decide +kernel
theorem dX8_layThird_264 : decode cX8_layThird 264 = .ok (.goto (-24), 3) := by decide +kernel
theorem dX8_layThird_267 : decode cX8_layThird 267 = .ok (.aload_n 0, 1) := by decide +kernel
theorem dX8_layThird_268 : decode cX8_layThird 268 = .ok (.getfield 81, 3) := by decide +kernel
theorem dX8_layThird_271 : decode cX8_layThird 271 = .ok (.bipush 37, 2) := by decide +kernel
theorem dX8_layThird_273 : decode cX8_layThird 273 = .ok (.iload 4, 2) := by decide +kernel
theorem dX8_layThird_275 : decode cX8_layThird 275 = .ok (.imul, 1) := by decide +kernel
theorem dX8_layThird_276 : decode cX8_layThird 276 = .ok (.bipush 33, 2) := by decide +kernel
theorem dX8_layThird_278 : decode cX8_layThird 278 = .ok (.iadd, 1) := by decide +kernel
theorem dX8_layThird_279 : decode cX8_layThird 279 = .ok (.aload_n 0, 1) := by decide +kernel
theorem dX8_layThird_280 : decode cX8_layThird 280 = .ok (.iload_n 1, 1) := by decide +kernel
theorem dX8_layThird_281 : decode cX8_layThird 281 = .ok (.bipush 33, 2) := by decide +kernel
theorem dX8_layThird_283 : decode cX8_layThird 283 = .ok (.invokevirtual 103, 3) := by decide +kernel
theorem dX8_layThird_286 : decode cX8_layThird 286 = .ok (.lload 6, 2) := by decide +kernel
theorem dX8_layThird_288 : decode cX8_layThird 288 = .ok (.lmul, 1) := by decide +kernel
theorem dX8_layThird_289 : decode cX8_layThird 289 = .ok (.lastore, 1) := by decide +kernel
theorem dX8_layThird_290 : decode cX8_layThird 290 = .ok (.aload_n 0, 1) := by decide +kernel
theorem dX8_layThird_291 : decode cX8_layThird 291 = .ok (.getfield 81, 3) := by decide +kernel
theorem dX8_layThird_294 : decode cX8_layThird 294 = .ok (.bipush 37, 2) := by decide +kernel
theorem dX8_layThird_296 : decode cX8_layThird 296 = .ok (.iload 4, 2) := by decide +kernel
theorem dX8_layThird_298 : decode cX8_layThird 298 = .ok (.imul, 1) := by decide +kernel
theorem dX8_layThird_299 : decode cX8_layThird 299 = .ok (.bipush 34, 2) := by decide +kernel
theorem dX8_layThird_301 : decode cX8_layThird 301 = .ok (.iadd, 1) := by decide +kernel
theorem dX8_layThird_302 : decode cX8_layThird 302 = .ok (.lload 6, 2) := by decide +kernel
theorem dX8_layThird_304 : decode cX8_layThird 304 = .ok (.aload_n 0, 1) := by decide +kernel
theorem dX8_layThird_305 : decode cX8_layThird 305 = .ok (.iload_n 1, 1) := by decide +kernel
theorem dX8_layThird_306 : decode cX8_layThird 306 = .ok (.bipush 34, 2) := by decide +kernel
theorem dX8_layThird_308 : decode cX8_layThird 308 = .ok (.invokevirtual 103, 3) := by decide +kernel
theorem dX8_layThird_311 : decode cX8_layThird 311 = .ok (.lmul, 1) := by decide +kernel
theorem dX8_layThird_312 : decode cX8_layThird 312 = .ok (.aload_n 0, 1) := by decide +kernel
theorem dX8_layThird_313 : decode cX8_layThird 313 = .ok (.getfield 19, 3) := by decide +kernel
theorem dX8_layThird_316 : decode cX8_layThird 316 = .ok (.iload 5, 2) := by decide +kernel
theorem dX8_layThird_318 : decode cX8_layThird 318 = .ok (.bipush 34, 2) := by decide +kernel
theorem dX8_layThird_320 : decode cX8_layThird 320 = .ok (.iadd, 1) := by decide +kernel
theorem dX8_layThird_321 : decode cX8_layThird 321 = .ok (.laload, 1) := by decide +kernel
theorem dX8_layThird_322 : decode cX8_layThird 322 = .ok (.ladd, 1) := by decide +kernel
theorem dX8_layThird_323 : decode cX8_layThird 323 = .ok (.lastore, 1) := by decide +kernel
theorem dX8_layThird_324 : decode cX8_layThird 324 = .ok (.aload_n 0, 1) := by decide +kernel
theorem dX8_layThird_325 : decode cX8_layThird 325 = .ok (.getfield 81, 3) := by decide +kernel
theorem dX8_layThird_328 : decode cX8_layThird 328 = .ok (.bipush 37, 2) := by decide +kernel
theorem dX8_layThird_330 : decode cX8_layThird 330 = .ok (.iload 4, 2) := by decide +kernel
theorem dX8_layThird_332 : decode cX8_layThird 332 = .ok (.imul, 1) := by decide +kernel
theorem dX8_layThird_333 : decode cX8_layThird 333 = .ok (.bipush 35, 2) := by decide +kernel
theorem dX8_layThird_335 : decode cX8_layThird 335 = .ok (.iadd, 1) := by decide +kernel
theorem dX8_layThird_336 : decode cX8_layThird 336 = .ok (.lload 6, 2) := by decide +kernel
theorem dX8_layThird_338 : decode cX8_layThird 338 = .ok (.aload_n 0, 1) := by decide +kernel
theorem dX8_layThird_339 : decode cX8_layThird 339 = .ok (.iload_n 1, 1) := by decide +kernel
theorem dX8_layThird_340 : decode cX8_layThird 340 = .ok (.bipush 35, 2) := by decide +kernel
theorem dX8_layThird_342 : decode cX8_layThird 342 = .ok (.invokevirtual 103, 3) := by decide +kernel
theorem dX8_layThird_345 : decode cX8_layThird 345 = .ok (.lmul, 1) := by decide +kernel
theorem dX8_layThird_346 : decode cX8_layThird 346 = .ok (.aload_n 0, 1) := by decide +kernel
theorem dX8_layThird_347 : decode cX8_layThird 347 = .ok (.getfield 19, 3) := by decide +kernel
theorem dX8_layThird_350 : decode cX8_layThird 350 = .ok (.iload 5, 2) := by decide +kernel
theorem dX8_layThird_352 : decode cX8_layThird 352 = .ok (.bipush 35, 2) := by decide +kernel
theorem dX8_layThird_354 : decode cX8_layThird 354 = .ok (.iadd, 1) := by decide +kernel
theorem dX8_layThird_355 : decode cX8_layThird 355 = .ok (.laload, 1) := by decide +kernel
theorem dX8_layThird_356 : decode cX8_layThird 356 = .ok (.ladd, 1) := by decide +kernel
theorem dX8_layThird_357 : decode cX8_layThird 357 = .ok (.lastore, 1) := by decide +kernel
theorem dX8_layThird_358 : decode cX8_layThird 358 = .ok (.aload_n 0, 1) := by decide +kernel
theorem dX8_layThird_359 : decode cX8_layThird 359 = .ok (.getfield 81, 3) := by decide +kernel
theorem dX8_layThird_362 : decode cX8_layThird 362 = .ok (.bipush 37, 2) := by decide +kernel
theorem dX8_layThird_364 : decode cX8_layThird 364 = .ok (.iload 4, 2) := by decide +kernel
theorem dX8_layThird_366 : decode cX8_layThird 366 = .ok (.imul, 1) := by decide +kernel
theorem dX8_layThird_367 : decode cX8_layThird 367 = .ok (.bipush 36, 2) := by decide +kernel
theorem dX8_layThird_369 : decode cX8_layThird 369 = .ok (.iadd, 1) := by decide +kernel
theorem dX8_layThird_370 : decode cX8_layThird 370 = .ok (.lconst 0, 1) := by decide +kernel
theorem dX8_layThird_371 : decode cX8_layThird 371 = .ok (.lastore, 1) := by decide +kernel
theorem dX8_layThird_372 : decode cX8_layThird 372 = .ok (.aload_n 0, 1) := by decide +kernel
theorem dX8_layThird_373 : decode cX8_layThird 373 = .ok (.getfield 81, 3) := by decide +kernel
theorem dX8_layThird_376 : decode cX8_layThird 376 = .ok (.sipush 1480, 3) := by decide +kernel
theorem dX8_layThird_379 : decode cX8_layThird 379 = .ok (.dup2, 1) := by decide +kernel
theorem dX8_layThird_380 : decode cX8_layThird 380 = .ok (.laload, 1) := by decide +kernel
theorem dX8_layThird_381 : decode cX8_layThird 381 = .ok (.lconst 1, 1) := by decide +kernel
theorem dX8_layThird_382 : decode cX8_layThird 382 = .ok (.ladd, 1) := by decide +kernel
theorem dX8_layThird_383 : decode cX8_layThird 383 = .ok (.lastore, 1) := by decide +kernel
theorem dX8_layThird_384 : decode cX8_layThird 384 = .ok (.lconst 0, 1) := by decide +kernel
theorem dX8_layThird_385 : decode cX8_layThird 385 = .ok (.lreturn, 1) := by decide +kernel
set_option maxHeartbeats 4000000 in
set_option maxRecDepth 100000 in
theorem tX8_layThird (l : Launch) (G : Gg) (b0 : Nat) {K : Kk} {R : Rr} {M : Mm} {r : Nat} {a0 : Int32} {a1 : Int32} {a2 : Int32} {res : Int64} {M' : Mm} (hm : mX8_layThird K R M r a0 a1 a2 = some (res, M')) : CT l G b0 yX8_layThird cX8_layThird 10 (some .long) (rmz 3 48) [.ref r, .int a0, .int a1, .int a2] K R M (some (.long res)) K R M' := by
  refine ct_of (by decide +kernel) (Nat.le_of_ble_eq_true rfl) (fun w hq => ?_)
  have hw := hq.b
  change w 0 0 0 [(0, .ref r), (1, .int a0), (2, .int a1), (3, .int a2)] [] K R M
  replace hm := h_start hm
  unfold mX8_layThird at hm
  obtain ⟨h1, m82⟩ := h_ck hm
  clear hm
  refine r_aload_n hw dX8_layThird_0 0 rfl ?_
  obtain ⟨q2, bq2, m83⟩ := h_bd m82
  clear m82
  refine r_getR hw fO_X8_81 h1 bq2 dX8_layThird_1 ?_
  refine r_sipush (v := 1480) hw dX8_layThird_4 rfl ?_
  obtain ⟨h3, m84⟩ := h_ck m83
  clear m83
  refine r_laload hw h3 dX8_layThird_7 ?_
  refine r_l2i hw dX8_layThird_8 ?_
  obtain ⟨i4, ei4, m85⟩ := h_nm m84
  clear m84
  refine r_topI (w := w) ei4 ?_
  refine r_istore hw dX8_layThird_9 (by decide) rfl ?_
  refine r_aload_n hw dX8_layThird_11 1 rfl ?_
  refine r_getI hw fO_X8_118 h1 dX8_layThird_12 ?_
  refine r_bipush (v := 16) hw dX8_layThird_15 rfl ?_
  refine r_icmp_gt (tgt := 27) hw dX8_layThird_17 (by decide) (fun c5 => ?_) (fun c5 => ?_)
  · have m86 := h_if_f c5 m85
    clear m85
    refine r_ldc2 (v := (-9000000000000000003)) hw dX8_layThird_27 kW_X8_162 ?_
    cases h_ret m86
    exact r_lreturn hq rfl rfl dX8_layThird_30
  · have m87 := h_if_t c5 m85
    clear m85
    refine r_iload hw dX8_layThird_20 0 rfl ?_
    refine r_bipush (v := 40) hw dX8_layThird_22 rfl ?_
    refine r_icmp_ne (tgt := 31) hw dX8_layThird_24 (by decide) (fun c6 => ?_) (fun c6 => ?_)
    · have m88 := h_if_f c6 m87
      clear m87
      refine r_sipush (v := 1481) hw dX8_layThird_31 rfl ?_
      refine r_iload_n hw dX8_layThird_34 3 rfl ?_
      refine r_imul hw dX8_layThird_35 ?_
      refine r_bipush (v := 37) hw dX8_layThird_36 rfl ?_
      refine r_iload_n hw dX8_layThird_38 4 rfl ?_
      refine r_imul hw dX8_layThird_39 ?_
      refine r_iadd hw dX8_layThird_40 ?_
      obtain ⟨i7, ei7, m89⟩ := h_nm m88
      clear m88
      refine r_topI (w := w) ei7 ?_
      refine r_istore hw dX8_layThird_41 (by decide) rfl ?_
      refine r_aload_n hw dX8_layThird_43 2 rfl ?_
      obtain ⟨q8, bq8, m90⟩ := h_bd m89
      clear m89
      refine r_getR hw fO_X8_19 h1 bq8 dX8_layThird_44 ?_
      refine r_iload hw dX8_layThird_47 0 rfl ?_
      refine r_bipush (v := 33) hw dX8_layThird_49 rfl ?_
      refine r_iadd hw dX8_layThird_51 ?_
      obtain ⟨h9, m91⟩ := h_ck m90
      clear m90
      refine r_laload hw h9 dX8_layThird_52 ?_
      obtain ⟨l10, el10, m92⟩ := h_nm m91
      clear m91
      refine r_topL (w := w) el10 ?_
      refine r_lstore hw dX8_layThird_53 (by decide) rfl ?_
      refine r_iconst (v := 1) hw dX8_layThird_55 rfl ?_
      obtain ⟨i11, ei11, m93⟩ := h_nm m92
      clear m92
      refine r_topI (w := w) ei11 ?_
      refine r_istore hw dX8_layThird_56 (by decide) rfl ?_
      refine r_iconst (v := 0) hw dX8_layThird_58 rfl ?_
      obtain ⟨i12, ei12, m94⟩ := h_nm m93
      clear m93
      refine r_topI (w := w) ei12 ?_
      refine r_istore hw dX8_layThird_59 (by decide) rfl ?_
      refine r_sub hw [5, 6, 4, 3, 2, 1, 0] rfl ?_
      obtain ⟨v61, n061, hn61, hv61⟩ := h_lp m94
      clear m94
      have L61 : ∀ n : Nat, ∀ (i13 : Int32) (i14 : Int32), it (mX8_layThird_L61 K R M r a0 i4 i7 l10) n (i13, i14) = some v61 → w 0 0 61 [(0, .ref r), (1, .int a0), (4, .int i4), (5, .int i7), (6, .long l10), (8, .int i13), (9, .int i14)] [] K R M := by
        intro n61
        induction n61 with
        | zero => intro i13 i14 hz; exact absurd hz h_it0
        | succ n61 ih61 =>
          intro i13 i14 m95
          replace m95 : (mX8_layThird_B61 K R M r a0 i4 i7 l10 i13 i14).bind (Sum.elim (it (mX8_layThird_L61 K R M r a0 i4 i7 l10) n61) some) = some v61 := m95
          unfold mX8_layThird_B61 at m95
          have J128 : ∀ (i15 : Int32) (s16 : Int32), (mX8_layThird_J128 K R M r a0 i4 i7 l10 i15 s16).bind (Sum.elim (it (mX8_layThird_L61 K R M r a0 i4 i7 l10) n61) some) = some v61 → w 0 0 128 [(0, .ref r), (1, .int a0), (4, .int i4), (5, .int i7), (6, .long l10), (9, .int i15)] [.int s16] K R M := by
            intro i15 s16 m96
            unfold mX8_layThird_J128 at m96
            refine r_istore hw dX8_layThird_128 (by decide) rfl ?_
            obtain ⟨i17, ei17, m97⟩ := h_nm m96
            clear m96
            refine r_iinc (j := 6) (v := i17) hw dX8_layThird_130 rfl (by rw [ei17]; rfl) (by decide) rfl ?_
            refine r_goto (tgt := 61) hw dX8_layThird_133 (by decide) ?_
            refine r_sub hw [2, 3, 4, 5, 6, 1, 0] rfl ?_
            exact ih61 _ _ m97
          have J127 : ∀ (i18 : Int32), (mX8_layThird_J127 K R M r a0 i4 i7 l10 i18).bind (Sum.elim (it (mX8_layThird_L61 K R M r a0 i4 i7 l10) n61) some) = some v61 → w 0 0 127 [(0, .ref r), (1, .int a0), (4, .int i4), (5, .int i7), (6, .long l10), (9, .int i18)] [] K R M := by
            intro i18 m98
            unfold mX8_layThird_J127 at m98
            refine r_iconst (v := 0) hw dX8_layThird_127 rfl ?_
            exact J128 _ _ m98
          refine r_iload hw dX8_layThird_61 6 rfl ?_
          refine r_aload_n hw dX8_layThird_63 0 rfl ?_
          refine r_getI hw fO_X8_118 h1 dX8_layThird_64 ?_
          refine r_icmp_ge (tgt := 136) hw dX8_layThird_67 (by decide) (fun c19 => ?_) (fun c19 => ?_)
          · have m99 := h_if_f c19 m95
            clear m95
            have m100 := h_ex m99 hv61
            clear m99
            refine r_iload hw dX8_layThird_136 5 rfl ?_
            refine r_if_ne (tgt := 145) hw dX8_layThird_138 (by decide) (fun c20 => ?_) (fun c20 => ?_)
            · have m101 := h_if_f c20 m100
              clear m100
              refine r_iconst (v := 0) hw dX8_layThird_145 rfl ?_
              obtain ⟨i21, ei21, m102⟩ := h_nm m101
              clear m101
              refine r_topI (w := w) ei21 ?_
              refine r_istore hw dX8_layThird_146 (by decide) rfl ?_
              refine r_sub hw [1, 2, 3, 4, 5, 0] rfl ?_
              obtain ⟨v148, n0148, hn148, hv148⟩ := h_lp m102
              clear m102
              have L148 : ∀ n : Nat, ∀ (i22 : Int32) (M23 : Mm), it (mX8_layThird_L148 K R r a0 i4 i7 l10) n (i22, M23) = some v148 → w 0 0 148 [(0, .ref r), (1, .int a0), (4, .int i4), (5, .int i7), (6, .long l10), (9, .int i22)] [] K R M23 := by
                intro n148
                induction n148 with
                | zero => intro i22 M23 hz; exact absurd hz h_it0
                | succ n148 ih148 =>
                  intro i22 M23 m103
                  replace m103 : (mX8_layThird_B148 K R r a0 i4 i7 l10 i22 M23).bind (Sum.elim (it (mX8_layThird_L148 K R r a0 i4 i7 l10) n148) some) = some v148 := m103
                  unfold mX8_layThird_B148 at m103
                  refine r_iload hw dX8_layThird_148 5 rfl ?_
                  refine r_bipush (v := 37) hw dX8_layThird_150 rfl ?_
                  refine r_icmp_ge (tgt := 175) hw dX8_layThird_152 (by decide) (fun c24 => ?_) (fun c24 => ?_)
                  · have m104 := h_if_f c24 m103
                    clear m103
                    have m105 := h_ex m104 hv148
                    clear m104
                    refine r_aload_n hw dX8_layThird_175 0 rfl ?_
                    refine r_iconst (v := 0) hw dX8_layThird_176 rfl ?_
                    refine r_aload_n hw dX8_layThird_177 0 rfl ?_
                    refine r_iload_n hw dX8_layThird_178 1 rfl ?_
                    refine r_bipush (v := 33) hw dX8_layThird_179 rfl ?_
                    obtain ⟨l25, g25, m106⟩ := h_bd m105
                    clear m105
                    refine r_callV1 hw (tX8_get l G b0 g25) lB_X8_get lI_X8_get mL_X8_103 (c := 8) rfl h1 rfl (Nat.le_of_ble_eq_true rfl) (Nat.le_of_ble_eq_true rfl) rfl (Nat.le_of_ble_eq_true rfl) dX8_layThird_181 ?_
                    refine r_aload_n hw dX8_layThird_184 0 rfl ?_
                    refine r_iload_n hw dX8_layThird_185 1 rfl ?_
                    refine r_bipush (v := 34) hw dX8_layThird_186 rfl ?_
                    obtain ⟨l26, g26, m107⟩ := h_bd m106
                    clear m106
                    refine r_callV1 hw (tX8_get l G b0 g26) lB_X8_get lI_X8_get mL_X8_103 (c := 8) rfl h1 rfl (Nat.le_of_ble_eq_true rfl) (Nat.le_of_ble_eq_true rfl) rfl (Nat.le_of_ble_eq_true rfl) dX8_layThird_188 ?_
                    refine r_aload_n hw dX8_layThird_191 0 rfl ?_
                    refine r_iload_n hw dX8_layThird_192 1 rfl ?_
                    refine r_bipush (v := 35) hw dX8_layThird_193 rfl ?_
                    obtain ⟨l27, g27, m108⟩ := h_bd m107
                    clear m107
                    refine r_callV1 hw (tX8_get l G b0 g27) lB_X8_get lI_X8_get mL_X8_103 (c := 8) rfl h1 rfl (Nat.le_of_ble_eq_true rfl) (Nat.le_of_ble_eq_true rfl) rfl (Nat.le_of_ble_eq_true rfl) dX8_layThird_195 ?_
                    obtain ⟨M28, g28, m109⟩ := h_bd m108
                    clear m108
                    refine r_callV0 hw (tX8_originOf l G b0 g28) lB_X8_originOf lI_X8_originOf mL_X8_177 (c := 8) rfl h1 rfl (Nat.le_of_ble_eq_true rfl) (Nat.le_of_ble_eq_true rfl) rfl (Nat.le_of_ble_eq_true rfl) dX8_layThird_198 ?_
                    refine r_iconst (v := 0) hw dX8_layThird_201 rfl ?_
                    obtain ⟨i29, ei29, m110⟩ := h_nm m109
                    clear m109
                    refine r_topI (w := w) ei29 ?_
                    refine r_istore hw dX8_layThird_202 (by decide) rfl ?_
                    refine r_sub hw [1, 2, 3, 4, 5, 0] rfl ?_
                    obtain ⟨v204, n0204, hn204, hv204⟩ := h_lp m110
                    clear m110
                    have L204 : ∀ n : Nat, ∀ (i30 : Int32) (M31 : Mm), it (mX8_layThird_L204 K R r a0 i4 i7 l10) n (i30, M31) = some v204 → w 0 0 204 [(0, .ref r), (1, .int a0), (4, .int i4), (5, .int i7), (6, .long l10), (9, .int i30)] [] K R M31 := by
                      intro n204
                      induction n204 with
                      | zero => intro i30 M31 hz; exact absurd hz h_it0
                      | succ n204 ih204 =>
                        intro i30 M31 m111
                        replace m111 : (mX8_layThird_B204 K R r a0 i4 i7 l10 i30 M31).bind (Sum.elim (it (mX8_layThird_L204 K R r a0 i4 i7 l10) n204) some) = some v204 := m111
                        unfold mX8_layThird_B204 at m111
                        refine r_iload hw dX8_layThird_204 5 rfl ?_
                        refine r_bipush (v := 33) hw dX8_layThird_206 rfl ?_
                        refine r_icmp_ge (tgt := 237) hw dX8_layThird_208 (by decide) (fun c32 => ?_) (fun c32 => ?_)
                        · have m112 := h_if_f c32 m111
                          clear m111
                          have m113 := h_ex m112 hv204
                          clear m112
                          refine r_iconst (v := 0) hw dX8_layThird_237 rfl ?_
                          obtain ⟨i33, ei33, m114⟩ := h_nm m113
                          clear m113
                          refine r_topI (w := w) ei33 ?_
                          refine r_istore hw dX8_layThird_238 (by decide) rfl ?_
                          refine r_sub hw [1, 2, 3, 4, 5, 0] rfl ?_
                          obtain ⟨v240, n0240, hn240, hv240⟩ := h_lp m114
                          clear m114
                          have L240 : ∀ n : Nat, ∀ (i34 : Int32) (M35 : Mm), it (mX8_layThird_L240 K R r a0 i4 i7 l10) n (i34, M35) = some v240 → w 0 0 240 [(0, .ref r), (1, .int a0), (4, .int i4), (5, .int i7), (6, .long l10), (9, .int i34)] [] K R M35 := by
                            intro n240
                            induction n240 with
                            | zero => intro i34 M35 hz; exact absurd hz h_it0
                            | succ n240 ih240 =>
                              intro i34 M35 m115
                              replace m115 : (mX8_layThird_B240 K R r a0 i4 i7 l10 i34 M35).bind (Sum.elim (it (mX8_layThird_L240 K R r a0 i4 i7 l10) n240) some) = some v240 := m115
                              unfold mX8_layThird_B240 at m115
                              refine r_iload hw dX8_layThird_240 5 rfl ?_
                              refine r_bipush (v := 37) hw dX8_layThird_242 rfl ?_
                              refine r_icmp_ge (tgt := 267) hw dX8_layThird_244 (by decide) (fun c36 => ?_) (fun c36 => ?_)
                              · have m116 := h_if_f c36 m115
                                clear m115
                                have m117 := h_ex m116 hv240
                                clear m116
                                refine r_aload_n hw dX8_layThird_267 0 rfl ?_
                                obtain ⟨q37, bq37, m118⟩ := h_bd m117
                                clear m117
                                refine r_getR hw fO_X8_81 h1 bq37 dX8_layThird_268 ?_
                                refine r_bipush (v := 37) hw dX8_layThird_271 rfl ?_
                                refine r_iload hw dX8_layThird_273 2 rfl ?_
                                refine r_imul hw dX8_layThird_275 ?_
                                refine r_bipush (v := 33) hw dX8_layThird_276 rfl ?_
                                refine r_iadd hw dX8_layThird_278 ?_
                                refine r_aload_n hw dX8_layThird_279 0 rfl ?_
                                refine r_iload_n hw dX8_layThird_280 1 rfl ?_
                                refine r_bipush (v := 33) hw dX8_layThird_281 rfl ?_
                                obtain ⟨l38, g38, m119⟩ := h_bd m118
                                clear m118
                                refine r_callV1 hw (tX8_get l G b0 g38) lB_X8_get lI_X8_get mL_X8_103 (c := 8) rfl h1 rfl (Nat.le_of_ble_eq_true rfl) (Nat.le_of_ble_eq_true rfl) rfl (Nat.le_of_ble_eq_true rfl) dX8_layThird_283 ?_
                                refine r_lload hw dX8_layThird_286 4 rfl ?_
                                refine r_lmul hw dX8_layThird_288 ?_
                                obtain ⟨h39, m120⟩ := h_ck m119
                                clear m119
                                obtain ⟨M40, eM40, m121⟩ := h_nm m120
                                clear m120
                                refine r_lastore hw h39 dX8_layThird_289 (r_mem ?_ rfl eM40)
                                refine r_aload_n hw dX8_layThird_290 0 rfl ?_
                                refine r_getR hw fO_X8_81 h1 bq37 dX8_layThird_291 ?_
                                refine r_bipush (v := 37) hw dX8_layThird_294 rfl ?_
                                refine r_iload hw dX8_layThird_296 2 rfl ?_
                                refine r_imul hw dX8_layThird_298 ?_
                                refine r_bipush (v := 34) hw dX8_layThird_299 rfl ?_
                                refine r_iadd hw dX8_layThird_301 ?_
                                refine r_lload hw dX8_layThird_302 4 rfl ?_
                                refine r_aload_n hw dX8_layThird_304 0 rfl ?_
                                refine r_iload_n hw dX8_layThird_305 1 rfl ?_
                                refine r_bipush (v := 34) hw dX8_layThird_306 rfl ?_
                                obtain ⟨l41, g41, m122⟩ := h_bd m121
                                clear m121
                                refine r_callV1 hw (tX8_get l G b0 g41) lB_X8_get lI_X8_get mL_X8_103 (c := 8) rfl h1 rfl (Nat.le_of_ble_eq_true rfl) (Nat.le_of_ble_eq_true rfl) rfl (Nat.le_of_ble_eq_true rfl) dX8_layThird_308 ?_
                                refine r_lmul hw dX8_layThird_311 ?_
                                refine r_aload_n hw dX8_layThird_312 0 rfl ?_
                                obtain ⟨q42, bq42, m123⟩ := h_bd m122
                                clear m122
                                refine r_getR hw fO_X8_19 h1 bq42 dX8_layThird_313 ?_
                                refine r_iload hw dX8_layThird_316 3 rfl ?_
                                refine r_bipush (v := 34) hw dX8_layThird_318 rfl ?_
                                refine r_iadd hw dX8_layThird_320 ?_
                                obtain ⟨h43, m124⟩ := h_ck m123
                                clear m123
                                refine r_laload hw h43 dX8_layThird_321 ?_
                                refine r_ladd hw dX8_layThird_322 ?_
                                obtain ⟨h44, m125⟩ := h_ck m124
                                clear m124
                                obtain ⟨M45, eM45, m126⟩ := h_nm m125
                                clear m125
                                refine r_lastore hw h44 dX8_layThird_323 (r_mem ?_ rfl eM45)
                                refine r_aload_n hw dX8_layThird_324 0 rfl ?_
                                refine r_getR hw fO_X8_81 h1 bq37 dX8_layThird_325 ?_
                                refine r_bipush (v := 37) hw dX8_layThird_328 rfl ?_
                                refine r_iload hw dX8_layThird_330 2 rfl ?_
                                refine r_imul hw dX8_layThird_332 ?_
                                refine r_bipush (v := 35) hw dX8_layThird_333 rfl ?_
                                refine r_iadd hw dX8_layThird_335 ?_
                                refine r_lload hw dX8_layThird_336 4 rfl ?_
                                refine r_aload_n hw dX8_layThird_338 0 rfl ?_
                                refine r_iload_n hw dX8_layThird_339 1 rfl ?_
                                refine r_bipush (v := 35) hw dX8_layThird_340 rfl ?_
                                obtain ⟨l46, g46, m127⟩ := h_bd m126
                                clear m126
                                refine r_callV1 hw (tX8_get l G b0 g46) lB_X8_get lI_X8_get mL_X8_103 (c := 8) rfl h1 rfl (Nat.le_of_ble_eq_true rfl) (Nat.le_of_ble_eq_true rfl) rfl (Nat.le_of_ble_eq_true rfl) dX8_layThird_342 ?_
                                refine r_lmul hw dX8_layThird_345 ?_
                                refine r_aload_n hw dX8_layThird_346 0 rfl ?_
                                refine r_getR hw fO_X8_19 h1 bq42 dX8_layThird_347 ?_
                                refine r_iload hw dX8_layThird_350 3 rfl ?_
                                refine r_bipush (v := 35) hw dX8_layThird_352 rfl ?_
                                refine r_iadd hw dX8_layThird_354 ?_
                                obtain ⟨h47, m128⟩ := h_ck m127
                                clear m127
                                refine r_laload hw h47 dX8_layThird_355 ?_
                                refine r_ladd hw dX8_layThird_356 ?_
                                obtain ⟨h48, m129⟩ := h_ck m128
                                clear m128
                                obtain ⟨M49, eM49, m130⟩ := h_nm m129
                                clear m129
                                refine r_lastore hw h48 dX8_layThird_357 (r_mem ?_ rfl eM49)
                                refine r_aload_n hw dX8_layThird_358 0 rfl ?_
                                refine r_getR hw fO_X8_81 h1 bq37 dX8_layThird_359 ?_
                                refine r_bipush (v := 37) hw dX8_layThird_362 rfl ?_
                                refine r_iload hw dX8_layThird_364 2 rfl ?_
                                refine r_imul hw dX8_layThird_366 ?_
                                refine r_bipush (v := 36) hw dX8_layThird_367 rfl ?_
                                refine r_iadd hw dX8_layThird_369 ?_
                                refine r_lconst (v := 0) hw dX8_layThird_370 rfl ?_
                                obtain ⟨h50, m131⟩ := h_ck m130
                                clear m130
                                obtain ⟨M51, eM51, m132⟩ := h_nm m131
                                clear m131
                                refine r_lastore hw h50 dX8_layThird_371 (r_mem ?_ rfl eM51)
                                refine r_aload_n hw dX8_layThird_372 0 rfl ?_
                                refine r_getR hw fO_X8_81 h1 bq37 dX8_layThird_373 ?_
                                refine r_sipush (v := 1480) hw dX8_layThird_376 rfl ?_
                                refine r_dup2 hw dX8_layThird_379 rfl rfl ?_
                                obtain ⟨h52, m133⟩ := h_ck m132
                                clear m132
                                refine r_laload hw h52 dX8_layThird_380 ?_
                                refine r_lconst (v := 1) hw dX8_layThird_381 rfl ?_
                                refine r_ladd hw dX8_layThird_382 ?_
                                obtain ⟨M53, eM53, m134⟩ := h_nm m133
                                clear m133
                                refine r_lastore hw h52 dX8_layThird_383 (r_mem ?_ rfl eM53)
                                refine r_lconst (v := 0) hw dX8_layThird_384 rfl ?_
                                cases h_ret m134
                                exact r_lreturn hq rfl rfl dX8_layThird_385
                              · have m135 := h_if_t c36 m115
                                clear m115
                                refine r_aload_n hw dX8_layThird_247 0 rfl ?_
                                obtain ⟨q54, bq54, m136⟩ := h_bd m135
                                clear m135
                                refine r_getR hw fO_X8_7 h1 bq54 dX8_layThird_248 ?_
                                refine r_iload hw dX8_layThird_251 5 rfl ?_
                                refine r_aload_n hw dX8_layThird_253 0 rfl ?_
                                obtain ⟨q55, bq55, m137⟩ := h_bd m136
                                clear m136
                                refine r_getR hw fO_X8_84 h1 bq55 dX8_layThird_254 ?_
                                refine r_iload hw dX8_layThird_257 5 rfl ?_
                                obtain ⟨h56, m138⟩ := h_ck m137
                                clear m137
                                refine r_laload hw h56 dX8_layThird_259 ?_
                                obtain ⟨h57, m139⟩ := h_ck m138
                                clear m138
                                obtain ⟨M58, eM58, m140⟩ := h_nm m139
                                clear m139
                                refine r_lastore hw h57 dX8_layThird_260 (r_mem ?_ rfl eM58)
                                obtain ⟨i59, ei59, m141⟩ := h_nm m140
                                clear m140
                                refine r_iinc (j := 5) (v := i59) hw dX8_layThird_261 rfl (by rw [ei59]; rfl) (by decide) rfl ?_
                                refine r_goto (tgt := 240) hw dX8_layThird_264 (by decide) ?_
                                refine r_sub hw [1, 2, 3, 4, 5, 0] rfl ?_
                                exact ih240 _ _ m141
                          exact L240 n0240 _ _ hn240
                        · have m142 := h_if_t c32 m111
                          clear m111
                          refine r_aload_n hw dX8_layThird_211 0 rfl ?_
                          obtain ⟨q60, bq60, m143⟩ := h_bd m142
                          clear m142
                          refine r_getR hw fO_X8_81 h1 bq60 dX8_layThird_212 ?_
                          refine r_bipush (v := 37) hw dX8_layThird_215 rfl ?_
                          refine r_iload hw dX8_layThird_217 2 rfl ?_
                          refine r_imul hw dX8_layThird_219 ?_
                          refine r_iload hw dX8_layThird_220 5 rfl ?_
                          refine r_iadd hw dX8_layThird_222 ?_
                          refine r_aload_n hw dX8_layThird_223 0 rfl ?_
                          obtain ⟨q61, bq61, m144⟩ := h_bd m143
                          clear m143
                          refine r_getR hw fO_X8_7 h1 bq61 dX8_layThird_224 ?_
                          refine r_iload hw dX8_layThird_227 5 rfl ?_
                          obtain ⟨h62, m145⟩ := h_ck m144
                          clear m144
                          refine r_laload hw h62 dX8_layThird_229 ?_
                          obtain ⟨h63, m146⟩ := h_ck m145
                          clear m145
                          obtain ⟨M64, eM64, m147⟩ := h_nm m146
                          clear m146
                          refine r_lastore hw h63 dX8_layThird_230 (r_mem ?_ rfl eM64)
                          obtain ⟨i65, ei65, m148⟩ := h_nm m147
                          clear m147
                          refine r_iinc (j := 5) (v := i65) hw dX8_layThird_231 rfl (by rw [ei65]; rfl) (by decide) rfl ?_
                          refine r_goto (tgt := 204) hw dX8_layThird_234 (by decide) ?_
                          refine r_sub hw [1, 2, 3, 4, 5, 0] rfl ?_
                          exact ih204 _ _ m148
                    exact L204 n0204 _ _ hn204
                  · have m149 := h_if_t c24 m103
                    clear m103
                    refine r_aload_n hw dX8_layThird_155 0 rfl ?_
                    obtain ⟨q66, bq66, m150⟩ := h_bd m149
                    clear m149
                    refine r_getR hw fO_X8_84 h1 bq66 dX8_layThird_156 ?_
                    refine r_iload hw dX8_layThird_159 5 rfl ?_
                    refine r_aload_n hw dX8_layThird_161 0 rfl ?_
                    obtain ⟨q67, bq67, m151⟩ := h_bd m150
                    clear m150
                    refine r_getR hw fO_X8_7 h1 bq67 dX8_layThird_162 ?_
                    refine r_iload hw dX8_layThird_165 5 rfl ?_
                    obtain ⟨h68, m152⟩ := h_ck m151
                    clear m151
                    refine r_laload hw h68 dX8_layThird_167 ?_
                    obtain ⟨h69, m153⟩ := h_ck m152
                    clear m152
                    obtain ⟨M70, eM70, m154⟩ := h_nm m153
                    clear m153
                    refine r_lastore hw h69 dX8_layThird_168 (r_mem ?_ rfl eM70)
                    obtain ⟨i71, ei71, m155⟩ := h_nm m154
                    clear m154
                    refine r_iinc (j := 5) (v := i71) hw dX8_layThird_169 rfl (by rw [ei71]; rfl) (by decide) rfl ?_
                    refine r_goto (tgt := 148) hw dX8_layThird_172 (by decide) ?_
                    refine r_sub hw [1, 2, 3, 4, 5, 0] rfl ?_
                    exact ih148 _ _ m155
              exact L148 n0148 _ _ hn148
            · have m156 := h_if_t c20 m100
              clear m100
              refine r_ldc2 (v := (-9000000000000000001)) hw dX8_layThird_141 kW_X8_160 ?_
              cases h_ret m156
              exact r_lreturn hq rfl rfl dX8_layThird_144
          · have m157 := h_if_t c19 m95
            clear m95
            refine r_iload hw dX8_layThird_70 5 rfl ?_
            refine r_if_eq (tgt := 127) hw dX8_layThird_72 (by decide) (fun c72 => ?_) (fun c72 => ?_)
            · have m158 := h_if_t c72 m157
              clear m157
              refine r_sub hw [0, 1, 2, 3, 4, 6] rfl ?_
              exact J127 _ m158
            · have m159 := h_if_f c72 m157
              clear m157
              refine r_lload hw dX8_layThird_75 4 rfl ?_
              refine r_aload_n hw dX8_layThird_77 0 rfl ?_
              obtain ⟨q73, bq73, m160⟩ := h_bd m159
              clear m159
              refine r_getR hw fO_X8_60 h1 bq73 dX8_layThird_78 ?_
              refine r_iload hw dX8_layThird_81 6 rfl ?_
              obtain ⟨h74, m161⟩ := h_ck m160
              clear m160
              refine r_laload hw h74 dX8_layThird_83 ?_
              refine r_lmul hw dX8_layThird_84 ?_
              refine r_aload_n hw dX8_layThird_85 0 rfl ?_
              obtain ⟨q75, bq75, m162⟩ := h_bd m161
              clear m161
              refine r_getR hw fO_X8_19 h1 bq75 dX8_layThird_86 ?_
              refine r_iload hw dX8_layThird_89 3 rfl ?_
              refine r_bipush (v := 34) hw dX8_layThird_91 rfl ?_
              refine r_iadd hw dX8_layThird_93 ?_
              obtain ⟨h76, m163⟩ := h_ck m162
              clear m162
              refine r_laload hw h76 dX8_layThird_94 ?_
              refine r_ladd hw dX8_layThird_95 ?_
              refine r_lload hw dX8_layThird_96 4 rfl ?_
              refine r_aload_n hw dX8_layThird_98 0 rfl ?_
              obtain ⟨q77, bq77, m164⟩ := h_bd m163
              clear m163
              refine r_getR hw fO_X8_63 h1 bq77 dX8_layThird_99 ?_
              refine r_iload hw dX8_layThird_102 6 rfl ?_
              obtain ⟨h78, m165⟩ := h_ck m164
              clear m164
              refine r_laload hw h78 dX8_layThird_104 ?_
              refine r_lmul hw dX8_layThird_105 ?_
              refine r_aload_n hw dX8_layThird_106 0 rfl ?_
              refine r_getR hw fO_X8_19 h1 bq75 dX8_layThird_107 ?_
              refine r_iload hw dX8_layThird_110 3 rfl ?_
              refine r_bipush (v := 35) hw dX8_layThird_112 rfl ?_
              refine r_iadd hw dX8_layThird_114 ?_
              obtain ⟨h79, m166⟩ := h_ck m165
              clear m165
              refine r_laload hw h79 dX8_layThird_115 ?_
              refine r_ladd hw dX8_layThird_116 ?_
              obtain ⟨i80, g80, m167⟩ := h_bd m166
              clear m166
              refine r_callS1 hw (tX8_isPlace l G b0 g80) lB_X8_isPlace sT_X8_isPlace mL_X8_156 rfl rfl (Nat.le_of_ble_eq_true rfl) (Nat.le_of_ble_eq_true rfl) rfl (Nat.le_of_ble_eq_true rfl) dX8_layThird_117 ?_
              refine r_if_eq (tgt := 127) hw dX8_layThird_120 (by decide) (fun c81 => ?_) (fun c81 => ?_)
              · have m168 := h_if_t c81 m167
                clear m167
                refine r_sub hw [0, 1, 2, 3, 4, 6] rfl ?_
                exact J127 _ m168
              · have m169 := h_if_f c81 m167
                clear m167
                refine r_iconst (v := 1) hw dX8_layThird_123 rfl ?_
                refine r_goto (tgt := 128) hw dX8_layThird_124 (by decide) ?_
                refine r_sub hw [0, 1, 2, 3, 4, 6] rfl ?_
                exact J128 _ _ m169
      exact L61 n061 _ _ hn61
    · have m170 := h_if_t c6 m87
      clear m87
      refine r_ldc2 (v := (-9000000000000000003)) hw dX8_layThird_27 kW_X8_162 ?_
      cases h_ret m170
      exact r_lreturn hq rfl rfl dX8_layThird_30
theorem dX8_third_0 : decode cX8_third 0 = .ok (.iload_n 1, 1) := by decide +kernel
theorem dX8_third_1 : decode cX8_third 1 = .ok (.i2l, 1) := by decide +kernel
theorem dX8_third_2 : decode cX8_third 2 = .ok (.lconst 0, 1) := by decide +kernel
theorem dX8_third_3 : decode cX8_third 3 = .ok (.ldc2_w 270, 3) := by decide +kernel
theorem dX8_third_6 : decode cX8_third 6 = .ok (.invokestatic 95, 3) := by decide +kernel
theorem dX8_third_9 : decode cX8_third 9 = .ok (.ifCond .ne 7, 3) := by decide +kernel
theorem dX8_third_12 : decode cX8_third 12 = .ok (.ldc2_w 160, 3) := by decide +kernel
theorem dX8_third_15 : decode cX8_third 15 = .ok (.lreturn, 1) := by decide +kernel
theorem dX8_third_16 : decode cX8_third 16 = .ok (.aload_n 0, 1) := by decide +kernel
theorem dX8_third_17 : decode cX8_third 17 = .ok (.getfield 22, 3) := by decide +kernel
theorem dX8_third_20 : decode cX8_third 20 = .ok (.iload_n 1, 1) := by decide +kernel
theorem dX8_third_21 : decode cX8_third 21 = .ok (.baload, 1) := by decide +kernel
theorem dX8_third_22 : decode cX8_third 22 = .ok (.ifCond .ne 7, 3) := by decide +kernel
theorem dX8_third_25 : decode cX8_third 25 = .ok (.ldc2_w 113, 3) := by decide +kernel
theorem dX8_third_28 : decode cX8_third 28 = .ok (.lreturn, 1) := by decide +kernel
theorem dX8_third_29 : decode cX8_third 29 = .ok (.iconst 0, 1) := by decide +kernel
theorem dX8_third_30 : decode cX8_third 30 = .ok (.istore_n 2, 1) := by decide +kernel
theorem dX8_third_31 : decode cX8_third 31 = .ok (.iload_n 2, 1) := by decide +kernel
theorem dX8_third_32 : decode cX8_third 32 = .ok (.sipush 1481, 3) := by decide +kernel
theorem dX8_third_35 : decode cX8_third 35 = .ok (.if_icmp .ge 16, 3) := by decide +kernel
theorem dX8_third_38 : decode cX8_third 38 = .ok (.aload_n 0, 1) := by decide +kernel
theorem dX8_third_39 : decode cX8_third 39 = .ok (.getfield 81, 3) := by decide +kernel
theorem dX8_third_42 : decode cX8_third 42 = .ok (.iload_n 2, 1) := by decide +kernel
theorem dX8_third_43 : decode cX8_third 43 = .ok (.lconst 0, 1) := by decide +kernel
theorem dX8_third_44 : decode cX8_third 44 = .ok (.lastore, 1) := by decide +kernel
theorem dX8_third_45 : decode cX8_third 45 = .ok (.iinc 2 1, 3) := by decide +kernel
theorem dX8_third_48 : decode cX8_third 48 = .ok (.goto (-17), 3) := by decide +kernel
theorem dX8_third_51 : decode cX8_third 51 = .ok (.aload_n 0, 1) := by decide +kernel
theorem dX8_third_52 : decode cX8_third 52 = .ok (.getfield 19, 3) := by decide +kernel
theorem dX8_third_55 : decode cX8_third 55 = .ok (.sipush 1481, 3) := by decide +kernel
theorem dX8_third_58 : decode cX8_third 58 = .ok (.iload_n 1, 1) := by decide +kernel
theorem dX8_third_59 : decode cX8_third 59 = .ok (.imul, 1) := by decide +kernel
theorem dX8_third_60 : decode cX8_third 60 = .ok (.sipush 1480, 3) := by decide +kernel
theorem dX8_third_63 : decode cX8_third 63 = .ok (.iadd, 1) := by decide +kernel
theorem dX8_third_64 : decode cX8_third 64 = .ok (.laload, 1) := by decide +kernel
theorem dX8_third_65 : decode cX8_third 65 = .ok (.l2i, 1) := by decide +kernel
theorem dX8_third_66 : decode cX8_third 66 = .ok (.istore_n 2, 1) := by decide +kernel
theorem dX8_third_67 : decode cX8_third 67 = .ok (.iconst 0, 1) := by decide +kernel
theorem dX8_third_68 : decode cX8_third 68 = .ok (.istore_n 3, 1) := by decide +kernel
theorem dX8_third_69 : decode cX8_third 69 = .ok (.iload_n 3, 1) := by decide +kernel
theorem dX8_third_70 : decode cX8_third 70 = .ok (.aload_n 0, 1) := by decide +kernel
theorem dX8_third_71 : decode cX8_third 71 = .ok (.invokevirtual 99, 3) := by decide +kernel
theorem dX8_third_74 : decode cX8_third 74 = .ok (.if_icmp .ge 79, 3) := by decide +kernel
theorem dX8_third_77 : decode cX8_third 77 = .ok (.iconst 0, 1) := by decide +kernel
theorem dX8_third_78 : decode cX8_third 78 = .ok (.istore 4, 2) := by decide +kernel
theorem dX8_third_80 : decode cX8_third 80 = .ok (.iload 4, 2) := by decide +kernel
theorem dX8_third_82 : decode cX8_third 82 = .ok (.iload_n 2, 1) := by decide +kernel
theorem dX8_third_83 : decode cX8_third 83 = .ok (.if_icmp .ge 64, 3) := by decide +kernel
theorem dX8_third_86 : decode cX8_third 86 = .ok (.aload_n 0, 1) := by decide +kernel
theorem dX8_third_87 : decode cX8_third 87 = .ok (.iload_n 3, 1) := by decide +kernel
theorem dX8_third_88 : decode cX8_third 88 = .ok (.invokevirtual 149, 3) := by decide +kernel
theorem dX8_third_91 : decode cX8_third 91 = .ok (.aload_n 0, 1) := by decide +kernel
theorem dX8_third_92 : decode cX8_third 92 = .ok (.iload_n 1, 1) := by decide +kernel
theorem dX8_third_93 : decode cX8_third 93 = .ok (.iload 4, 2) := by decide +kernel
theorem dX8_third_95 : decode cX8_third 95 = .ok (.invokevirtual 328, 3) := by decide +kernel
theorem dX8_third_98 : decode cX8_third 98 = .ok (.aload_n 0, 1) := by decide +kernel
theorem dX8_third_99 : decode cX8_third 99 = .ok (.invokevirtual 331, 3) := by decide +kernel
theorem dX8_third_102 : decode cX8_third 102 = .ok (.aload_n 0, 1) := by decide +kernel
theorem dX8_third_103 : decode cX8_third 103 = .ok (.getfield 320, 3) := by decide +kernel
theorem dX8_third_106 : decode cX8_third 106 = .ok (.ifCond .eq 7, 3) := by decide +kernel
theorem dX8_third_109 : decode cX8_third 109 = .ok (.ldc2_w 217, 3) := by decide +kernel
theorem dX8_third_112 : decode cX8_third 112 = .ok (.lreturn, 1) := by decide +kernel
theorem dX8_third_113 : decode cX8_third 113 = .ok (.aload_n 0, 1) := by decide +kernel
theorem dX8_third_114 : decode cX8_third 114 = .ok (.getfield 118, 3) := by decide +kernel
theorem dX8_third_117 : decode cX8_third 117 = .ok (.iconst 3, 1) := by decide +kernel
theorem dX8_third_118 : decode cX8_third 118 = .ok (.if_icmp .lt 23, 3) := by decide +kernel
theorem dX8_third_121 : decode cX8_third 121 = .ok (.aload_n 0, 1) := by decide +kernel
theorem dX8_third_122 : decode cX8_third 122 = .ok (.iload_n 3, 1) := by decide +kernel
theorem dX8_third_123 : decode cX8_third 123 = .ok (.iload_n 1, 1) := by decide +kernel
theorem dX8_third_124 : decode cX8_third 124 = .ok (.iload 4, 2) := by decide +kernel
theorem dX8_third_126 : decode cX8_third 126 = .ok (.invokevirtual 334, 3) := by decide +kernel
theorem dX8_third_129 : decode cX8_third 129 = .ok (.lstore 5, 2) := by decide +kernel
theorem dX8_third_131 : decode cX8_third 131 = .ok (.lload 5, 2) := by decide +kernel
theorem dX8_third_133 : decode cX8_third 133 = .ok (.lconst 0, 1) := by decide +kernel
theorem dX8_third_134 : decode cX8_third 134 = .ok (.lcmp, 1) := by decide +kernel
theorem dX8_third_135 : decode cX8_third 135 = .ok (.ifCond .eq 6, 3) := by decide +kernel
theorem dX8_third_138 : decode cX8_third 138 = .ok (.lload 5, 2) := by decide +kernel
theorem dX8_third_140 : decode cX8_third 140 = .ok (.lreturn, 1) := by decide +kernel
theorem dX8_third_141 : decode cX8_third 141 = .ok (.iinc 4 1, 3) := by decide +kernel
theorem dX8_third_144 : decode cX8_third 144 = .ok (.goto (-64), 3) := by decide +kernel
theorem dX8_third_147 : decode cX8_third 147 = .ok (.iinc 3 1, 3) := by decide +kernel
theorem dX8_third_150 : decode cX8_third 150 = .ok (.goto (-81), 3) := by decide +kernel
theorem dX8_third_153 : decode cX8_third 153 = .ok (.aload_n 0, 1) := by decide +kernel
theorem dX8_third_154 : decode cX8_third 154 = .ok (.invokevirtual 174, 3) := by decide +kernel
theorem dX8_third_157 : decode cX8_third 157 = .ok (.iconst 0, 1) := by decide +kernel
theorem dX8_third_158 : decode cX8_third 158 = .ok (.istore_n 3, 1) := by decide +kernel
theorem dX8_third_159 : decode cX8_third 159 = .ok (.iload_n 3, 1) := by decide +kernel
theorem dX8_third_160 : decode cX8_third 160 = .ok (.sipush 1481, 3) := by decide +kernel
theorem dX8_third_163 : decode cX8_third 163 = .ok (.if_icmp .ge 21, 3) := by decide +kernel
theorem dX8_third_166 : decode cX8_third 166 = .ok (.aload_n 0, 1) := by decide +kernel
theorem dX8_third_167 : decode cX8_third 167 = .ok (.getfield 7, 3) := by decide +kernel
theorem dX8_third_170 : decode cX8_third 170 = .ok (.iload_n 3, 1) := by decide +kernel
theorem dX8_third_171 : decode cX8_third 171 = .ok (.aload_n 0, 1) := by decide +kernel
theorem dX8_third_172 : decode cX8_third 172 = .ok (.getfield 81, 3) := by decide +kernel
theorem dX8_third_175 : decode cX8_third 175 = .ok (.iload_n 3, 1) := by decide +kernel
theorem dX8_third_176 : decode cX8_third 176 = .ok (.laload, 1) := by decide +kernel
theorem dX8_third_177 : decode cX8_third 177 = .ok (.lastore, 1) := by decide +kernel
theorem dX8_third_178 : decode cX8_third 178 = .ok (.iinc 3 1, 3) := by decide +kernel
theorem dX8_third_181 : decode cX8_third 181 = .ok (.goto (-22), 3) := by decide +kernel
theorem dX8_third_184 : decode cX8_third 184 = .ok (.aload_n 0, 1) := by decide +kernel
theorem dX8_third_185 : decode cX8_third 185 = .ok (.invokevirtual 99, 3) := by decide +kernel
theorem dX8_third_188 : decode cX8_third 188 = .ok (.i2l, 1) := by decide +kernel
theorem dX8_third_189 : decode cX8_third 189 = .ok (.lreturn, 1) := by decide +kernel
set_option maxHeartbeats 4000000 in
set_option maxRecDepth 100000 in
theorem tX8_third (l : Launch) (G : Gg) (b0 : Nat) {K : Kk} {R : Rr} {M : Mm} {r : Nat} {a0 : Int32} {res : Int64} {M' : Mm} (hm : mX8_third K R M r a0 = some (res, M')) : CT l G b0 yX8_third cX8_third 7 (some .long) (rmz 5 109) [.ref r, .int a0] K R M (some (.long res)) K R M' := by
  refine ct_of (by decide +kernel) (Nat.le_of_ble_eq_true rfl) (fun w hq => ?_)
  have hw := hq.b
  change w 0 0 0 [(0, .ref r), (1, .int a0)] [] K R M
  replace hm := h_start hm
  unfold mX8_third at hm
  obtain ⟨h1, m51⟩ := h_ck hm
  clear hm
  refine r_iload_n hw dX8_third_0 1 rfl ?_
  refine r_i2l hw dX8_third_1 ?_
  refine r_lconst (v := 0) hw dX8_third_2 rfl ?_
  refine r_ldc2 (v := 3) hw dX8_third_3 kW_X8_270 ?_
  obtain ⟨i2, g2, m52⟩ := h_bd m51
  clear m51
  refine r_callS1 hw (tX8_isIn l G b0 g2) lB_X8_isIn sT_X8_isIn mL_X8_95 rfl rfl (Nat.le_of_ble_eq_true rfl) (Nat.le_of_ble_eq_true rfl) rfl (Nat.le_of_ble_eq_true rfl) dX8_third_6 ?_
  refine r_if_ne (tgt := 16) hw dX8_third_9 (by decide) (fun c3 => ?_) (fun c3 => ?_)
  · have m53 := h_if_f c3 m52
    clear m52
    refine r_aload_n hw dX8_third_16 0 rfl ?_
    obtain ⟨q4, bq4, m54⟩ := h_bd m53
    clear m53
    refine r_getR hw fO_X8_22 h1 bq4 dX8_third_17 ?_
    refine r_iload_n hw dX8_third_20 1 rfl ?_
    obtain ⟨h5, m55⟩ := h_ck m54
    clear m54
    refine r_baload hw h5 dX8_third_21 ?_
    refine r_if_ne (tgt := 29) hw dX8_third_22 (by decide) (fun c6 => ?_) (fun c6 => ?_)
    · have m56 := h_if_f c6 m55
      clear m55
      refine r_iconst (v := 0) hw dX8_third_29 rfl ?_
      obtain ⟨i7, ei7, m57⟩ := h_nm m56
      clear m56
      refine r_topI (w := w) ei7 ?_
      refine r_istore_n hw dX8_third_30 rfl (by decide) rfl ?_
      refine r_sub hw [1, 2, 0] rfl ?_
      obtain ⟨v31, n031, hn31, hv31⟩ := h_lp m57
      clear m57
      have L31 : ∀ n : Nat, ∀ (i8 : Int32) (M9 : Mm), it (mX8_third_L31 K R r a0) n (i8, M9) = some v31 → w 0 0 31 [(0, .ref r), (1, .int a0), (2, .int i8)] [] K R M9 := by
        intro n31
        induction n31 with
        | zero => intro i8 M9 hz; exact absurd hz h_it0
        | succ n31 ih31 =>
          intro i8 M9 m58
          replace m58 : (mX8_third_B31 K R r a0 i8 M9).bind (Sum.elim (it (mX8_third_L31 K R r a0) n31) some) = some v31 := m58
          unfold mX8_third_B31 at m58
          refine r_iload_n hw dX8_third_31 2 rfl ?_
          refine r_sipush (v := 1481) hw dX8_third_32 rfl ?_
          refine r_icmp_ge (tgt := 51) hw dX8_third_35 (by decide) (fun c10 => ?_) (fun c10 => ?_)
          · have m59 := h_if_f c10 m58
            clear m58
            have m60 := h_ex m59 hv31
            clear m59
            refine r_aload_n hw dX8_third_51 0 rfl ?_
            obtain ⟨q11, bq11, m61⟩ := h_bd m60
            clear m60
            refine r_getR hw fO_X8_19 h1 bq11 dX8_third_52 ?_
            refine r_sipush (v := 1481) hw dX8_third_55 rfl ?_
            refine r_iload_n hw dX8_third_58 1 rfl ?_
            refine r_imul hw dX8_third_59 ?_
            refine r_sipush (v := 1480) hw dX8_third_60 rfl ?_
            refine r_iadd hw dX8_third_63 ?_
            obtain ⟨h12, m62⟩ := h_ck m61
            clear m61
            refine r_laload hw h12 dX8_third_64 ?_
            refine r_l2i hw dX8_third_65 ?_
            obtain ⟨i13, ei13, m63⟩ := h_nm m62
            clear m62
            refine r_topI (w := w) ei13 ?_
            refine r_istore_n hw dX8_third_66 rfl (by decide) rfl ?_
            refine r_iconst (v := 0) hw dX8_third_67 rfl ?_
            obtain ⟨i14, ei14, m64⟩ := h_nm m63
            clear m63
            refine r_topI (w := w) ei14 ?_
            refine r_istore_n hw dX8_third_68 rfl (by decide) rfl ?_
            refine r_sub hw [2, 3, 1, 0] rfl ?_
            obtain ⟨v69, n069, hn69, hv69⟩ := h_lp m64
            clear m64
            have L69 : ∀ n : Nat, ∀ (i15 : Int32) (M16 : Mm), it (mX8_third_L69 K R r a0 i13) n (i15, M16) = some v69 → w 0 0 69 [(0, .ref r), (1, .int a0), (2, .int i13), (3, .int i15)] [] K R M16 := by
              intro n69
              induction n69 with
              | zero => intro i15 M16 hz; exact absurd hz h_it0
              | succ n69 ih69 =>
                intro i15 M16 m65
                replace m65 : (mX8_third_B69 K R r a0 i13 i15 M16).bind (Sum.elim (it (mX8_third_L69 K R r a0 i13) n69) some) = some v69 := m65
                unfold mX8_third_B69 at m65
                refine r_iload_n hw dX8_third_69 3 rfl ?_
                refine r_aload_n hw dX8_third_70 0 rfl ?_
                obtain ⟨i17, g17, m66⟩ := h_bd m65
                clear m65
                refine r_callV1 hw (tX8_pieces l G b0 g17) lB_X8_pieces lI_X8_pieces mL_X8_99 (c := 8) rfl h1 rfl (Nat.le_of_ble_eq_true rfl) (Nat.le_of_ble_eq_true rfl) rfl (Nat.le_of_ble_eq_true rfl) dX8_third_71 ?_
                refine r_icmp_ge (tgt := 153) hw dX8_third_74 (by decide) (fun c18 => ?_) (fun c18 => ?_)
                · have m67 := h_if_f c18 m66
                  clear m66
                  have m68 := h_ex m67 hv69
                  clear m67
                  refine r_aload_n hw dX8_third_153 0 rfl ?_
                  obtain ⟨M19, g19, m69⟩ := h_bd m68
                  clear m68
                  refine r_callV0 hw (tX8_keep l G b0 g19) lB_X8_keep lI_X8_keep mL_X8_174 (c := 8) rfl h1 rfl (Nat.le_of_ble_eq_true rfl) (Nat.le_of_ble_eq_true rfl) rfl (Nat.le_of_ble_eq_true rfl) dX8_third_154 ?_
                  refine r_iconst (v := 0) hw dX8_third_157 rfl ?_
                  obtain ⟨i20, ei20, m70⟩ := h_nm m69
                  clear m69
                  refine r_topI (w := w) ei20 ?_
                  refine r_istore_n hw dX8_third_158 rfl (by decide) rfl ?_
                  refine r_sub hw [1, 0] rfl ?_
                  obtain ⟨v159, n0159, hn159, hv159⟩ := h_lp m70
                  clear m70
                  have L159 : ∀ n : Nat, ∀ (i21 : Int32) (M22 : Mm), it (mX8_third_L159 K R r) n (i21, M22) = some v159 → w 0 0 159 [(0, .ref r), (3, .int i21)] [] K R M22 := by
                    intro n159
                    induction n159 with
                    | zero => intro i21 M22 hz; exact absurd hz h_it0
                    | succ n159 ih159 =>
                      intro i21 M22 m71
                      replace m71 : (mX8_third_B159 K R r i21 M22).bind (Sum.elim (it (mX8_third_L159 K R r) n159) some) = some v159 := m71
                      unfold mX8_third_B159 at m71
                      refine r_iload_n hw dX8_third_159 1 rfl ?_
                      refine r_sipush (v := 1481) hw dX8_third_160 rfl ?_
                      refine r_icmp_ge (tgt := 184) hw dX8_third_163 (by decide) (fun c23 => ?_) (fun c23 => ?_)
                      · have m72 := h_if_f c23 m71
                        clear m71
                        have m73 := h_ex m72 hv159
                        clear m72
                        refine r_aload_n hw dX8_third_184 0 rfl ?_
                        obtain ⟨i24, g24, m74⟩ := h_bd m73
                        clear m73
                        refine r_callV1 hw (tX8_pieces l G b0 g24) lB_X8_pieces lI_X8_pieces mL_X8_99 (c := 8) rfl h1 rfl (Nat.le_of_ble_eq_true rfl) (Nat.le_of_ble_eq_true rfl) rfl (Nat.le_of_ble_eq_true rfl) dX8_third_185 ?_
                        refine r_i2l hw dX8_third_188 ?_
                        cases h_ret m74
                        exact r_lreturn hq rfl rfl dX8_third_189
                      · have m75 := h_if_t c23 m71
                        clear m71
                        refine r_aload_n hw dX8_third_166 0 rfl ?_
                        obtain ⟨q25, bq25, m76⟩ := h_bd m75
                        clear m75
                        refine r_getR hw fO_X8_7 h1 bq25 dX8_third_167 ?_
                        refine r_iload_n hw dX8_third_170 1 rfl ?_
                        refine r_aload_n hw dX8_third_171 0 rfl ?_
                        obtain ⟨q26, bq26, m77⟩ := h_bd m76
                        clear m76
                        refine r_getR hw fO_X8_81 h1 bq26 dX8_third_172 ?_
                        refine r_iload_n hw dX8_third_175 1 rfl ?_
                        obtain ⟨h27, m78⟩ := h_ck m77
                        clear m77
                        refine r_laload hw h27 dX8_third_176 ?_
                        obtain ⟨h28, m79⟩ := h_ck m78
                        clear m78
                        obtain ⟨M29, eM29, m80⟩ := h_nm m79
                        clear m79
                        refine r_lastore hw h28 dX8_third_177 (r_mem ?_ rfl eM29)
                        obtain ⟨i30, ei30, m81⟩ := h_nm m80
                        clear m80
                        refine r_iinc (j := 1) (v := i30) hw dX8_third_178 rfl (by rw [ei30]; rfl) (by decide) rfl ?_
                        refine r_goto (tgt := 159) hw dX8_third_181 (by decide) ?_
                        refine r_sub hw [1, 0] rfl ?_
                        exact ih159 _ _ m81
                  exact L159 n0159 _ _ hn159
                · have m82 := h_if_t c18 m66
                  clear m66
                  refine r_iconst (v := 0) hw dX8_third_77 rfl ?_
                  obtain ⟨i31, ei31, m83⟩ := h_nm m82
                  clear m82
                  refine r_topI (w := w) ei31 ?_
                  refine r_istore hw dX8_third_78 (by decide) rfl ?_
                  refine r_sub hw [1, 2, 3, 4, 0] rfl ?_
                  obtain ⟨v80, n080, hn80, hv80⟩ := h_lp m83
                  clear m83
                  have L80 : ∀ n : Nat, ∀ (i32 : Int32) (M33 : Mm), it (mX8_third_L80 K R r a0 i13 i15) n (i32, M33) = some v80 → w 0 0 80 [(0, .ref r), (1, .int a0), (2, .int i13), (3, .int i15), (4, .int i32)] [] K R M33 := by
                    intro n80
                    induction n80 with
                    | zero => intro i32 M33 hz; exact absurd hz h_it0
                    | succ n80 ih80 =>
                      intro i32 M33 m84
                      replace m84 : (mX8_third_B80 K R r a0 i13 i15 i32 M33).bind (Sum.elim (it (mX8_third_L80 K R r a0 i13 i15) n80) some) = some v80 := m84
                      unfold mX8_third_B80 at m84
                      have J141 : ∀ (M35 : Mm) (i34 : Int32), (mX8_third_J141 K R M35 r a0 i13 i15 i34).bind (Sum.elim (it (mX8_third_L80 K R r a0 i13 i15) n80) some) = some v80 → w 0 0 141 [(0, .ref r), (1, .int a0), (2, .int i13), (3, .int i15), (4, .int i34)] [] K R M35 := by
                        intro M35 i34 m85
                        unfold mX8_third_J141 at m85
                        obtain ⟨i36, ei36, m86⟩ := h_nm m85
                        clear m85
                        refine r_iinc (j := 4) (v := i36) hw dX8_third_141 rfl (by rw [ei36]; rfl) (by decide) rfl ?_
                        refine r_goto (tgt := 80) hw dX8_third_144 (by decide) ?_
                        refine r_sub hw [1, 2, 3, 4, 0] rfl ?_
                        exact ih80 _ _ m86
                      refine r_iload hw dX8_third_80 4 rfl ?_
                      refine r_iload_n hw dX8_third_82 2 rfl ?_
                      refine r_icmp_ge (tgt := 147) hw dX8_third_83 (by decide) (fun c37 => ?_) (fun c37 => ?_)
                      · have m87 := h_if_f c37 m84
                        clear m84
                        have m88 := h_ex m87 hv80
                        clear m87
                        obtain ⟨i38, ei38, m89⟩ := h_nm m88
                        clear m88
                        refine r_iinc (j := 3) (v := i38) hw dX8_third_147 rfl (by rw [ei38]; rfl) (by decide) rfl ?_
                        refine r_goto (tgt := 69) hw dX8_third_150 (by decide) ?_
                        refine r_sub hw [1, 2, 3, 0] rfl ?_
                        exact ih69 _ _ m89
                      · have m90 := h_if_t c37 m84
                        clear m84
                        refine r_aload_n hw dX8_third_86 0 rfl ?_
                        refine r_iload_n hw dX8_third_87 3 rfl ?_
                        obtain ⟨M39, g39, m91⟩ := h_bd m90
                        clear m90
                        refine r_callV0 hw (tX8_lookA l G b0 g39) lB_X8_lookA lI_X8_lookA mL_X8_149 (c := 8) rfl h1 rfl (Nat.le_of_ble_eq_true rfl) (Nat.le_of_ble_eq_true rfl) rfl (Nat.le_of_ble_eq_true rfl) dX8_third_88 ?_
                        refine r_aload_n hw dX8_third_91 0 rfl ?_
                        refine r_iload_n hw dX8_third_92 1 rfl ?_
                        refine r_iload hw dX8_third_93 4 rfl ?_
                        obtain ⟨M40, g40, m92⟩ := h_bd m91
                        clear m91
                        refine r_callV0 hw (tX8_lookPlan l G b0 g40) lB_X8_lookPlan lI_X8_lookPlan mL_X8_328 (c := 8) rfl h1 rfl (Nat.le_of_ble_eq_true rfl) (Nat.le_of_ble_eq_true rfl) rfl (Nat.le_of_ble_eq_true rfl) dX8_third_95 ?_
                        refine r_aload_n hw dX8_third_98 0 rfl ?_
                        obtain ⟨M41, g41, m93⟩ := h_bd m92
                        clear m92
                        refine r_callV0 hw (tX8_inBoth l G b0 g41) lB_X8_inBoth lI_X8_inBoth mL_X8_331 (c := 8) rfl h1 rfl (Nat.le_of_ble_eq_true rfl) (Nat.le_of_ble_eq_true rfl) rfl (Nat.le_of_ble_eq_true rfl) dX8_third_99 ?_
                        refine r_aload_n hw dX8_third_102 0 rfl ?_
                        refine r_getI hw fO_X8_320 h1 dX8_third_103 ?_
                        refine r_if_eq (tgt := 113) hw dX8_third_106 (by decide) (fun c42 => ?_) (fun c42 => ?_)
                        · have m94 := h_if_t c42 m93
                          clear m93
                          refine r_aload_n hw dX8_third_113 0 rfl ?_
                          refine r_getI hw fO_X8_118 h1 dX8_third_114 ?_
                          refine r_iconst (v := 3) hw dX8_third_117 rfl ?_
                          refine r_icmp_lt (tgt := 141) hw dX8_third_118 (by decide) (fun c43 => ?_) (fun c43 => ?_)
                          · have m95 := h_if_t c43 m94
                            clear m94
                            exact J141 _ _ m95
                          · have m96 := h_if_f c43 m94
                            clear m94
                            refine r_aload_n hw dX8_third_121 0 rfl ?_
                            refine r_iload_n hw dX8_third_122 3 rfl ?_
                            refine r_iload_n hw dX8_third_123 1 rfl ?_
                            refine r_iload hw dX8_third_124 4 rfl ?_
                            obtain ⟨l44, M45, g45, m97⟩ := h_bd2 m96
                            clear m96
                            refine r_callV1 hw (tX8_layThird l G b0 g45) lB_X8_layThird lI_X8_layThird mL_X8_334 (c := 8) rfl h1 rfl (Nat.le_of_ble_eq_true rfl) (Nat.le_of_ble_eq_true rfl) rfl (Nat.le_of_ble_eq_true rfl) dX8_third_126 ?_
                            refine r_lstore hw dX8_third_129 (by decide) rfl ?_
                            refine r_lload hw dX8_third_131 0 rfl ?_
                            refine r_lconst (v := 0) hw dX8_third_133 rfl ?_
                            refine r_lcmp_eq (tgt := 141) hw dX8_third_134 dX8_third_135 (by decide) (fun c46 => ?_) (fun c46 => ?_)
                            · have m98 := h_if_t c46 m97
                              clear m97
                              refine r_sub hw [1, 2, 3, 4, 5] rfl ?_
                              exact J141 _ _ m98
                            · have m99 := h_if_f c46 m97
                              clear m97
                              have m100 := h_ex m99 hv80
                              clear m99
                              have m101 := h_ex m100 hv69
                              clear m100
                              refine r_lload hw dX8_third_138 0 rfl ?_
                              cases h_ret m101
                              exact r_lreturn hq rfl rfl dX8_third_140
                        · have m102 := h_if_f c42 m93
                          clear m93
                          have m103 := h_ex m102 hv80
                          clear m102
                          have m104 := h_ex m103 hv69
                          clear m103
                          refine r_ldc2 (v := (-9000000000000000004)) hw dX8_third_109 kW_X8_217 ?_
                          cases h_ret m104
                          exact r_lreturn hq rfl rfl dX8_third_112
                  exact L80 n080 _ _ hn80
            exact L69 n069 _ _ hn69
          · have m105 := h_if_t c10 m58
            clear m58
            refine r_aload_n hw dX8_third_38 0 rfl ?_
            obtain ⟨q47, bq47, m106⟩ := h_bd m105
            clear m105
            refine r_getR hw fO_X8_81 h1 bq47 dX8_third_39 ?_
            refine r_iload_n hw dX8_third_42 2 rfl ?_
            refine r_lconst (v := 0) hw dX8_third_43 rfl ?_
            obtain ⟨h48, m107⟩ := h_ck m106
            clear m106
            obtain ⟨M49, eM49, m108⟩ := h_nm m107
            clear m107
            refine r_lastore hw h48 dX8_third_44 (r_mem ?_ rfl eM49)
            obtain ⟨i50, ei50, m109⟩ := h_nm m108
            clear m108
            refine r_iinc (j := 2) (v := i50) hw dX8_third_45 rfl (by rw [ei50]; rfl) (by decide) rfl ?_
            refine r_goto (tgt := 31) hw dX8_third_48 (by decide) ?_
            refine r_sub hw [1, 2, 0] rfl ?_
            exact ih31 _ _ m109
      exact L31 n031 _ _ hn31
    · have m110 := h_if_t c6 m55
      clear m55
      refine r_ldc2 (v := (-9000000000000000002)) hw dX8_third_25 kW_X8_113 ?_
      cases h_ret m110
      exact r_lreturn hq rfl rfl dX8_third_28
  · have m111 := h_if_t c3 m52
    clear m52
    refine r_ldc2 (v := (-9000000000000000001)) hw dX8_third_12 kW_X8_160 ?_
    cases h_ret m111
    exact r_lreturn hq rfl rfl dX8_third_15
theorem dX8_count_0 : decode cX8_count 0 = .ok (.iconst 0, 1) := by decide +kernel
theorem dX8_count_1 : decode cX8_count 1 = .ok (.istore_n 2, 1) := by decide +kernel
theorem dX8_count_2 : decode cX8_count 2 = .ok (.iload_n 1, 1) := by decide +kernel
theorem dX8_count_3 : decode cX8_count 3 = .ok (.tableswitch 136 0 6 #[41, 47, 53, 86, 92, 98, 131], 41) := by decide +kernel
theorem dX8_count_44 : decode cX8_count 44 = .ok (.aload_n 0, 1) := by decide +kernel
theorem dX8_count_45 : decode cX8_count 45 = .ok (.invokevirtual 99, 3) := by decide +kernel
theorem dX8_count_48 : decode cX8_count 48 = .ok (.i2l, 1) := by decide +kernel
theorem dX8_count_49 : decode cX8_count 49 = .ok (.lreturn, 1) := by decide +kernel
theorem dX8_count_50 : decode cX8_count 50 = .ok (.aload_n 0, 1) := by decide +kernel
theorem dX8_count_51 : decode cX8_count 51 = .ok (.getfield 87, 3) := by decide +kernel
theorem dX8_count_54 : decode cX8_count 54 = .ok (.i2l, 1) := by decide +kernel
theorem dX8_count_55 : decode cX8_count 55 = .ok (.lreturn, 1) := by decide +kernel
theorem dX8_count_56 : decode cX8_count 56 = .ok (.iconst 0, 1) := by decide +kernel
theorem dX8_count_57 : decode cX8_count 57 = .ok (.istore_n 3, 1) := by decide +kernel
theorem dX8_count_58 : decode cX8_count 58 = .ok (.iload_n 3, 1) := by decide +kernel
theorem dX8_count_59 : decode cX8_count 59 = .ok (.iconst 5, 1) := by decide +kernel
theorem dX8_count_60 : decode cX8_count 60 = .ok (.if_icmp .ge 26, 3) := by decide +kernel
theorem dX8_count_63 : decode cX8_count 63 = .ok (.iload_n 2, 1) := by decide +kernel
theorem dX8_count_64 : decode cX8_count 64 = .ok (.aload_n 0, 1) := by decide +kernel
theorem dX8_count_65 : decode cX8_count 65 = .ok (.getfield 32, 3) := by decide +kernel
theorem dX8_count_68 : decode cX8_count 68 = .ok (.iload_n 3, 1) := by decide +kernel
theorem dX8_count_69 : decode cX8_count 69 = .ok (.iaload, 1) := by decide +kernel
theorem dX8_count_70 : decode cX8_count 70 = .ok (.ifCond .le 7, 3) := by decide +kernel
theorem dX8_count_73 : decode cX8_count 73 = .ok (.iconst 1, 1) := by decide +kernel
theorem dX8_count_74 : decode cX8_count 74 = .ok (.goto 4, 3) := by decide +kernel
theorem dX8_count_77 : decode cX8_count 77 = .ok (.iconst 0, 1) := by decide +kernel
theorem dX8_count_78 : decode cX8_count 78 = .ok (.iadd, 1) := by decide +kernel
theorem dX8_count_79 : decode cX8_count 79 = .ok (.istore_n 2, 1) := by decide +kernel
theorem dX8_count_80 : decode cX8_count 80 = .ok (.iinc 3 1, 3) := by decide +kernel
theorem dX8_count_83 : decode cX8_count 83 = .ok (.goto (-25), 3) := by decide +kernel
theorem dX8_count_86 : decode cX8_count 86 = .ok (.iload_n 2, 1) := by decide +kernel
theorem dX8_count_87 : decode cX8_count 87 = .ok (.i2l, 1) := by decide +kernel
theorem dX8_count_88 : decode cX8_count 88 = .ok (.lreturn, 1) := by decide +kernel
theorem dX8_count_89 : decode cX8_count 89 = .ok (.aload_n 0, 1) := by decide +kernel
theorem dX8_count_90 : decode cX8_count 90 = .ok (.getfield 107, 3) := by decide +kernel
theorem dX8_count_93 : decode cX8_count 93 = .ok (.i2l, 1) := by decide +kernel
theorem dX8_count_94 : decode cX8_count 94 = .ok (.lreturn, 1) := by decide +kernel
theorem dX8_count_95 : decode cX8_count 95 = .ok (.aload_n 0, 1) := by decide +kernel
theorem dX8_count_96 : decode cX8_count 96 = .ok (.getfield 110, 3) := by decide +kernel
theorem dX8_count_99 : decode cX8_count 99 = .ok (.i2l, 1) := by decide +kernel
theorem dX8_count_100 : decode cX8_count 100 = .ok (.lreturn, 1) := by decide +kernel
theorem dX8_count_101 : decode cX8_count 101 = .ok (.iconst 0, 1) := by decide +kernel
theorem dX8_count_102 : decode cX8_count 102 = .ok (.istore_n 3, 1) := by decide +kernel
theorem dX8_count_103 : decode cX8_count 103 = .ok (.iload_n 3, 1) := by decide +kernel
theorem dX8_count_104 : decode cX8_count 104 = .ok (.iconst 4, 1) := by decide +kernel
theorem dX8_count_105 : decode cX8_count 105 = .ok (.if_icmp .ge 26, 3) := by decide +kernel
theorem dX8_count_108 : decode cX8_count 108 = .ok (.iload_n 2, 1) := by decide +kernel
theorem dX8_count_109 : decode cX8_count 109 = .ok (.aload_n 0, 1) := by decide +kernel
theorem dX8_count_110 : decode cX8_count 110 = .ok (.getfield 22, 3) := by decide +kernel
theorem dX8_count_113 : decode cX8_count 113 = .ok (.iload_n 3, 1) := by decide +kernel
theorem dX8_count_114 : decode cX8_count 114 = .ok (.baload, 1) := by decide +kernel
theorem dX8_count_115 : decode cX8_count 115 = .ok (.ifCond .eq 7, 3) := by decide +kernel
theorem dX8_count_118 : decode cX8_count 118 = .ok (.iconst 1, 1) := by decide +kernel
theorem dX8_count_119 : decode cX8_count 119 = .ok (.goto 4, 3) := by decide +kernel
theorem dX8_count_122 : decode cX8_count 122 = .ok (.iconst 0, 1) := by decide +kernel
theorem dX8_count_123 : decode cX8_count 123 = .ok (.iadd, 1) := by decide +kernel
theorem dX8_count_124 : decode cX8_count 124 = .ok (.istore_n 2, 1) := by decide +kernel
theorem dX8_count_125 : decode cX8_count 125 = .ok (.iinc 3 1, 3) := by decide +kernel
theorem dX8_count_128 : decode cX8_count 128 = .ok (.goto (-25), 3) := by decide +kernel
theorem dX8_count_131 : decode cX8_count 131 = .ok (.iload_n 2, 1) := by decide +kernel
theorem dX8_count_132 : decode cX8_count 132 = .ok (.i2l, 1) := by decide +kernel
theorem dX8_count_133 : decode cX8_count 133 = .ok (.lreturn, 1) := by decide +kernel
theorem dX8_count_134 : decode cX8_count 134 = .ok (.aload_n 0, 1) := by decide +kernel
theorem dX8_count_135 : decode cX8_count 135 = .ok (.invokevirtual 297, 3) := by decide +kernel
theorem dX8_count_138 : decode cX8_count 138 = .ok (.lreturn, 1) := by decide +kernel
theorem dX8_count_139 : decode cX8_count 139 = .ok (.ldc2_w 160, 3) := by decide +kernel
theorem dX8_count_142 : decode cX8_count 142 = .ok (.lreturn, 1) := by decide +kernel
set_option maxHeartbeats 4000000 in
set_option maxRecDepth 100000 in
theorem tX8_count (l : Launch) (G : Gg) (b0 : Nat) {K : Kk} {R : Rr} {M : Mm} {r : Nat} {a0 : Int32} {res : Int64} {M' : Mm} (hm : mX8_count K R M r a0 = some (res, M')) : CT l G b0 yX8_count cX8_count 4 (some .long) (rmz 7 157) [.ref r, .int a0] K R M (some (.long res)) K R M' := by
  refine ct_of (by decide +kernel) (Nat.le_of_ble_eq_true rfl) (fun w hq => ?_)
  have hw := hq.b
  change w 0 0 0 [(0, .ref r), (1, .int a0)] [] K R M
  replace hm := h_start hm
  unfold mX8_count at hm
  obtain ⟨h1, m37⟩ := h_ck hm
  clear hm
  refine r_iconst (v := 0) hw dX8_count_0 rfl ?_
  obtain ⟨i2, ei2, m38⟩ := h_nm m37
  clear m37
  refine r_topI (w := w) ei2 ?_
  refine r_istore_n hw dX8_count_1 rfl (by decide) rfl ?_
  refine r_iload_n hw dX8_count_2 2 rfl ?_
  by_cases c3 : a0 = 0
  · have m39 := h_if_t c3 m38
    clear m38
    rw [c3]
    refine r_tabIn (tgt := 44) hw dX8_count_3 (by decide) (by decide) rfl (by decide) ?_
    refine r_aload_n hw dX8_count_44 1 rfl ?_
    obtain ⟨i4, g4, m40⟩ := h_bd m39
    clear m39
    refine r_callV1 hw (tX8_pieces l G b0 g4) lB_X8_pieces lI_X8_pieces mL_X8_99 (c := 8) rfl h1 rfl (Nat.le_of_ble_eq_true rfl) (Nat.le_of_ble_eq_true rfl) rfl (Nat.le_of_ble_eq_true rfl) dX8_count_45 ?_
    refine r_i2l hw dX8_count_48 ?_
    cases h_ret m40
    exact r_lreturn hq rfl rfl dX8_count_49
  have m41 := h_if_f c3 m38
  clear m38
  by_cases c5 : a0 = 1
  · have m42 := h_if_t c5 m41
    clear m41
    rw [c5]
    refine r_tabIn (tgt := 50) hw dX8_count_3 (by decide) (by decide) rfl (by decide) ?_
    refine r_aload_n hw dX8_count_50 1 rfl ?_
    refine r_getI hw fO_X8_87 h1 dX8_count_51 ?_
    refine r_i2l hw dX8_count_54 ?_
    cases h_ret m42
    exact r_lreturn hq rfl rfl dX8_count_55
  have m43 := h_if_f c5 m41
  clear m41
  by_cases c6 : a0 = 2
  · have m44 := h_if_t c6 m43
    clear m43
    rw [c6]
    refine r_tabIn (tgt := 56) hw dX8_count_3 (by decide) (by decide) rfl (by decide) ?_
    refine r_iconst (v := 0) hw dX8_count_56 rfl ?_
    obtain ⟨i7, ei7, m45⟩ := h_nm m44
    clear m44
    refine r_topI (w := w) ei7 ?_
    refine r_istore_n hw dX8_count_57 rfl (by decide) rfl ?_
    refine r_sub hw [2, 1, 0] rfl ?_
    obtain ⟨v58, n058, hn58, hv58⟩ := h_lp m45
    clear m45
    have L58 : ∀ n : Nat, ∀ (i8 : Int32) (i9 : Int32), it (mX8_count_L58 K R M r) n (i8, i9) = some v58 → w 0 0 58 [(0, .ref r), (2, .int i8), (3, .int i9)] [] K R M := by
      intro n58
      induction n58 with
      | zero => intro i8 i9 hz; exact absurd hz h_it0
      | succ n58 ih58 =>
        intro i8 i9 m46
        replace m46 : (mX8_count_B58 K R M r i8 i9).bind (Sum.elim (it (mX8_count_L58 K R M r) n58) some) = some v58 := m46
        unfold mX8_count_B58 at m46
        have J78 : ∀ (i10 : Int32) (s11 : Int32) (s12 : Int32), (mX8_count_J78 K R M r i10 s11 s12).bind (Sum.elim (it (mX8_count_L58 K R M r) n58) some) = some v58 → w 0 0 78 [(0, .ref r), (3, .int i10)] [.int s12, .int s11] K R M := by
          intro i10 s11 s12 m47
          unfold mX8_count_J78 at m47
          refine r_iadd hw dX8_count_78 ?_
          obtain ⟨i13, ei13, m48⟩ := h_nm m47
          clear m47
          refine r_topI (w := w) ei13 ?_
          refine r_istore_n hw dX8_count_79 rfl (by decide) rfl ?_
          obtain ⟨i14, ei14, m49⟩ := h_nm m48
          clear m48
          refine r_iinc (j := 2) (v := i14) hw dX8_count_80 rfl (by rw [ei14]; rfl) (by decide) rfl ?_
          refine r_goto (tgt := 58) hw dX8_count_83 (by decide) ?_
          refine r_sub hw [2, 1, 0] rfl ?_
          exact ih58 _ _ m49
        refine r_iload_n hw dX8_count_58 2 rfl ?_
        refine r_iconst (v := 5) hw dX8_count_59 rfl ?_
        refine r_icmp_ge (tgt := 86) hw dX8_count_60 (by decide) (fun c15 => ?_) (fun c15 => ?_)
        · have m50 := h_if_f c15 m46
          clear m46
          have m51 := h_ex m50 hv58
          clear m50
          refine r_iload_n hw dX8_count_86 1 rfl ?_
          refine r_i2l hw dX8_count_87 ?_
          cases h_ret m51
          exact r_lreturn hq rfl rfl dX8_count_88
        · have m52 := h_if_t c15 m46
          clear m46
          refine r_iload_n hw dX8_count_63 1 rfl ?_
          refine r_aload_n hw dX8_count_64 0 rfl ?_
          obtain ⟨q16, bq16, m53⟩ := h_bd m52
          clear m52
          refine r_getR hw fO_X8_32 h1 bq16 dX8_count_65 ?_
          refine r_iload_n hw dX8_count_68 2 rfl ?_
          obtain ⟨h17, m54⟩ := h_ck m53
          clear m53
          refine r_iaload hw h17 dX8_count_69 ?_
          refine r_if_le (tgt := 77) hw dX8_count_70 (by decide) (fun c18 => ?_) (fun c18 => ?_)
          · have m55 := h_if_t c18 m54
            clear m54
            refine r_iconst (v := 0) hw dX8_count_77 rfl ?_
            refine r_sub hw [0, 2] rfl ?_
            exact J78 _ _ _ m55
          · have m56 := h_if_f c18 m54
            clear m54
            refine r_iconst (v := 1) hw dX8_count_73 rfl ?_
            refine r_goto (tgt := 78) hw dX8_count_74 (by decide) ?_
            refine r_sub hw [0, 2] rfl ?_
            exact J78 _ _ _ m56
    exact L58 n058 _ _ hn58
  have m57 := h_if_f c6 m43
  clear m43
  by_cases c19 : a0 = 3
  · have m58 := h_if_t c19 m57
    clear m57
    rw [c19]
    refine r_tabIn (tgt := 89) hw dX8_count_3 (by decide) (by decide) rfl (by decide) ?_
    refine r_aload_n hw dX8_count_89 1 rfl ?_
    refine r_getI hw fO_X8_107 h1 dX8_count_90 ?_
    refine r_i2l hw dX8_count_93 ?_
    cases h_ret m58
    exact r_lreturn hq rfl rfl dX8_count_94
  have m59 := h_if_f c19 m57
  clear m57
  by_cases c20 : a0 = 4
  · have m60 := h_if_t c20 m59
    clear m59
    rw [c20]
    refine r_tabIn (tgt := 95) hw dX8_count_3 (by decide) (by decide) rfl (by decide) ?_
    refine r_aload_n hw dX8_count_95 1 rfl ?_
    refine r_getI hw fO_X8_110 h1 dX8_count_96 ?_
    refine r_i2l hw dX8_count_99 ?_
    cases h_ret m60
    exact r_lreturn hq rfl rfl dX8_count_100
  have m61 := h_if_f c20 m59
  clear m59
  by_cases c21 : a0 = 5
  · have m62 := h_if_t c21 m61
    clear m61
    rw [c21]
    refine r_tabIn (tgt := 101) hw dX8_count_3 (by decide) (by decide) rfl (by decide) ?_
    refine r_iconst (v := 0) hw dX8_count_101 rfl ?_
    obtain ⟨i22, ei22, m63⟩ := h_nm m62
    clear m62
    refine r_topI (w := w) ei22 ?_
    refine r_istore_n hw dX8_count_102 rfl (by decide) rfl ?_
    refine r_sub hw [2, 1, 0] rfl ?_
    obtain ⟨v103, n0103, hn103, hv103⟩ := h_lp m63
    clear m63
    have L103 : ∀ n : Nat, ∀ (i23 : Int32) (i24 : Int32), it (mX8_count_L103 K R M r) n (i23, i24) = some v103 → w 0 0 103 [(0, .ref r), (2, .int i23), (3, .int i24)] [] K R M := by
      intro n103
      induction n103 with
      | zero => intro i23 i24 hz; exact absurd hz h_it0
      | succ n103 ih103 =>
        intro i23 i24 m64
        replace m64 : (mX8_count_B103 K R M r i23 i24).bind (Sum.elim (it (mX8_count_L103 K R M r) n103) some) = some v103 := m64
        unfold mX8_count_B103 at m64
        have J123 : ∀ (i25 : Int32) (s26 : Int32) (s27 : Int32), (mX8_count_J123 K R M r i25 s26 s27).bind (Sum.elim (it (mX8_count_L103 K R M r) n103) some) = some v103 → w 0 0 123 [(0, .ref r), (3, .int i25)] [.int s27, .int s26] K R M := by
          intro i25 s26 s27 m65
          unfold mX8_count_J123 at m65
          refine r_iadd hw dX8_count_123 ?_
          obtain ⟨i28, ei28, m66⟩ := h_nm m65
          clear m65
          refine r_topI (w := w) ei28 ?_
          refine r_istore_n hw dX8_count_124 rfl (by decide) rfl ?_
          obtain ⟨i29, ei29, m67⟩ := h_nm m66
          clear m66
          refine r_iinc (j := 2) (v := i29) hw dX8_count_125 rfl (by rw [ei29]; rfl) (by decide) rfl ?_
          refine r_goto (tgt := 103) hw dX8_count_128 (by decide) ?_
          refine r_sub hw [2, 1, 0] rfl ?_
          exact ih103 _ _ m67
        refine r_iload_n hw dX8_count_103 2 rfl ?_
        refine r_iconst (v := 4) hw dX8_count_104 rfl ?_
        refine r_icmp_ge (tgt := 131) hw dX8_count_105 (by decide) (fun c30 => ?_) (fun c30 => ?_)
        · have m68 := h_if_f c30 m64
          clear m64
          have m69 := h_ex m68 hv103
          clear m68
          refine r_iload_n hw dX8_count_131 1 rfl ?_
          refine r_i2l hw dX8_count_132 ?_
          cases h_ret m69
          exact r_lreturn hq rfl rfl dX8_count_133
        · have m70 := h_if_t c30 m64
          clear m64
          refine r_iload_n hw dX8_count_108 1 rfl ?_
          refine r_aload_n hw dX8_count_109 0 rfl ?_
          obtain ⟨q31, bq31, m71⟩ := h_bd m70
          clear m70
          refine r_getR hw fO_X8_22 h1 bq31 dX8_count_110 ?_
          refine r_iload_n hw dX8_count_113 2 rfl ?_
          obtain ⟨h32, m72⟩ := h_ck m71
          clear m71
          refine r_baload hw h32 dX8_count_114 ?_
          refine r_if_eq (tgt := 122) hw dX8_count_115 (by decide) (fun c33 => ?_) (fun c33 => ?_)
          · have m73 := h_if_t c33 m72
            clear m72
            refine r_iconst (v := 0) hw dX8_count_122 rfl ?_
            refine r_sub hw [0, 2] rfl ?_
            exact J123 _ _ _ m73
          · have m74 := h_if_f c33 m72
            clear m72
            refine r_iconst (v := 1) hw dX8_count_118 rfl ?_
            refine r_goto (tgt := 123) hw dX8_count_119 (by decide) ?_
            refine r_sub hw [0, 2] rfl ?_
            exact J123 _ _ _ m74
    exact L103 n0103 _ _ hn103
  have m75 := h_if_f c21 m61
  clear m61
  by_cases c34 : a0 = 6
  · have m76 := h_if_t c34 m75
    clear m75
    rw [c34]
    refine r_tabIn (tgt := 134) hw dX8_count_3 (by decide) (by decide) rfl (by decide) ?_
    refine r_aload_n hw dX8_count_134 1 rfl ?_
    obtain ⟨l35, M36, g36, m77⟩ := h_bd2 m76
    clear m76
    refine r_callV1 hw (tX8_allAreas l G b0 g36) lB_X8_allAreas lI_X8_allAreas mL_X8_297 (c := 8) rfl h1 rfl (Nat.le_of_ble_eq_true rfl) (Nat.le_of_ble_eq_true rfl) rfl (Nat.le_of_ble_eq_true rfl) dX8_count_135 ?_
    cases h_ret m77
    exact r_lreturn hq rfl rfl dX8_count_138
  have m78 := h_if_f c34 m75
  clear m75
  refine r_tabOut (tgt := 139) hw dX8_count_3 (sw_out 7 (by decide) (fun j hj => by match j, hj with | 0, _ => exact c3 | 1, _ => exact c5 | 2, _ => exact c6 | 3, _ => exact c19 | 4, _ => exact c20 | 5, _ => exact c21 | 6, _ => exact c34)) (by decide) ?_
  refine r_ldc2 (v := (-9000000000000000001)) hw dX8_count_139 kW_X8_160 ?_
  cases h_ret m78
  exact r_lreturn hq rfl rfl dX8_count_142
