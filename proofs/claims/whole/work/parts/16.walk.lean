theorem dL_law_0 : decode cL_law 0 = .ok (.new 7, 3) := by decide +kernel
theorem dL_law_3 : decode cL_law 3 = .ok (.dup, 1) := by decide +kernel
theorem dL_law_4 : decode cL_law 4 = .ok (.invokespecial 9, 3) := by decide +kernel
theorem dL_law_7 : decode cL_law 7 = .ok (.astore_n 1, 1) := by decide +kernel
theorem dL_law_8 : decode cL_law 8 = .ok (.new 10, 3) := by decide +kernel
theorem dL_law_11 : decode cL_law 11 = .ok (.dup, 1) := by decide +kernel
theorem dL_law_12 : decode cL_law 12 = .ok (.invokespecial 12, 3) := by decide +kernel
theorem dL_law_15 : decode cL_law 15 = .ok (.astore_n 2, 1) := by decide +kernel
theorem dL_law_16 : decode cL_law 16 = .ok (.iconst 0, 1) := by decide +kernel
theorem dL_law_17 : decode cL_law 17 = .ok (.istore_n 3, 1) := by decide +kernel
theorem dL_law_18 : decode cL_law 18 = .ok (.iload_n 3, 1) := by decide +kernel
theorem dL_law_19 : decode cL_law 19 = .ok (.aload_n 0, 1) := by decide +kernel
theorem dL_law_20 : decode cL_law 20 = .ok (.arraylength, 1) := by decide +kernel
theorem dL_law_21 : decode cL_law 21 = .ok (.bipush 6, 2) := by decide +kernel
theorem dL_law_23 : decode cL_law 23 = .ok (.isub, 1) := by decide +kernel
theorem dL_law_24 : decode cL_law 24 = .ok (.if_icmp .gt 900, 3) := by decide +kernel
theorem dL_law_27 : decode cL_law 27 = .ok (.aload_n 0, 1) := by decide +kernel
theorem dL_law_28 : decode cL_law 28 = .ok (.iload_n 3, 1) := by decide +kernel
theorem dL_law_29 : decode cL_law 29 = .ok (.iaload, 1) := by decide +kernel
theorem dL_law_30 : decode cL_law 30 = .ok (.bipush 31, 2) := by decide +kernel
theorem dL_law_32 : decode cL_law 32 = .ok (.iand, 1) := by decide +kernel
theorem dL_law_33 : decode cL_law 33 = .ok (.tableswitch 885 0 24 #[115, 149, 173, 197, 221, 275, 339, 383, 427, 461, 495, 509, 523, 537, 571, 605, 649, 683, 717, 741, 755, 789, 813, 837, 861], 115) := by decide +kernel
theorem dL_law_148 : decode cL_law 148 = .ok (.aload_n 1, 1) := by decide +kernel
theorem dL_law_149 : decode cL_law 149 = .ok (.aload_n 0, 1) := by decide +kernel
theorem dL_law_150 : decode cL_law 150 = .ok (.iload_n 3, 1) := by decide +kernel
theorem dL_law_151 : decode cL_law 151 = .ok (.iconst 1, 1) := by decide +kernel
theorem dL_law_152 : decode cL_law 152 = .ok (.iadd, 1) := by decide +kernel
theorem dL_law_153 : decode cL_law 153 = .ok (.iaload, 1) := by decide +kernel
theorem dL_law_154 : decode cL_law 154 = .ok (.aload_n 0, 1) := by decide +kernel
theorem dL_law_155 : decode cL_law 155 = .ok (.iload_n 3, 1) := by decide +kernel
theorem dL_law_156 : decode cL_law 156 = .ok (.iconst 2, 1) := by decide +kernel
theorem dL_law_157 : decode cL_law 157 = .ok (.iadd, 1) := by decide +kernel
theorem dL_law_158 : decode cL_law 158 = .ok (.iaload, 1) := by decide +kernel
theorem dL_law_159 : decode cL_law 159 = .ok (.invokevirtual 13, 3) := by decide +kernel
theorem dL_law_162 : decode cL_law 162 = .ok (.aload_n 2, 1) := by decide +kernel
theorem dL_law_163 : decode cL_law 163 = .ok (.aload_n 0, 1) := by decide +kernel
theorem dL_law_164 : decode cL_law 164 = .ok (.iload_n 3, 1) := by decide +kernel
theorem dL_law_165 : decode cL_law 165 = .ok (.iconst 1, 1) := by decide +kernel
theorem dL_law_166 : decode cL_law 166 = .ok (.iadd, 1) := by decide +kernel
theorem dL_law_167 : decode cL_law 167 = .ok (.iaload, 1) := by decide +kernel
theorem dL_law_168 : decode cL_law 168 = .ok (.aload_n 0, 1) := by decide +kernel
theorem dL_law_169 : decode cL_law 169 = .ok (.iload_n 3, 1) := by decide +kernel
theorem dL_law_170 : decode cL_law 170 = .ok (.iconst 2, 1) := by decide +kernel
theorem dL_law_171 : decode cL_law 171 = .ok (.iadd, 1) := by decide +kernel
theorem dL_law_172 : decode cL_law 172 = .ok (.iaload, 1) := by decide +kernel
theorem dL_law_173 : decode cL_law 173 = .ok (.invokevirtual 17, 3) := by decide +kernel
theorem dL_law_176 : decode cL_law 176 = .ok (.lcmp, 1) := by decide +kernel
theorem dL_law_177 : decode cL_law 177 = .ok (.ifCond .eq 741, 3) := by decide +kernel
theorem dL_law_180 : decode cL_law 180 = .ok (.iconst 0, 1) := by decide +kernel
theorem dL_law_181 : decode cL_law 181 = .ok (.ireturn, 1) := by decide +kernel
theorem dL_law_182 : decode cL_law 182 = .ok (.aload_n 1, 1) := by decide +kernel
theorem dL_law_183 : decode cL_law 183 = .ok (.aload_n 0, 1) := by decide +kernel
theorem dL_law_184 : decode cL_law 184 = .ok (.iload_n 3, 1) := by decide +kernel
theorem dL_law_185 : decode cL_law 185 = .ok (.iconst 1, 1) := by decide +kernel
theorem dL_law_186 : decode cL_law 186 = .ok (.iadd, 1) := by decide +kernel
theorem dL_law_187 : decode cL_law 187 = .ok (.iaload, 1) := by decide +kernel
theorem dL_law_188 : decode cL_law 188 = .ok (.invokevirtual 18, 3) := by decide +kernel
theorem dL_law_191 : decode cL_law 191 = .ok (.aload_n 2, 1) := by decide +kernel
theorem dL_law_192 : decode cL_law 192 = .ok (.aload_n 0, 1) := by decide +kernel
theorem dL_law_193 : decode cL_law 193 = .ok (.iload_n 3, 1) := by decide +kernel
theorem dL_law_194 : decode cL_law 194 = .ok (.iconst 1, 1) := by decide +kernel
theorem dL_law_195 : decode cL_law 195 = .ok (.iadd, 1) := by decide +kernel
theorem dL_law_196 : decode cL_law 196 = .ok (.iaload, 1) := by decide +kernel
theorem dL_law_197 : decode cL_law 197 = .ok (.invokevirtual 22, 3) := by decide +kernel
theorem dL_law_200 : decode cL_law 200 = .ok (.lcmp, 1) := by decide +kernel
theorem dL_law_201 : decode cL_law 201 = .ok (.ifCond .eq 717, 3) := by decide +kernel
theorem dL_law_204 : decode cL_law 204 = .ok (.iconst 0, 1) := by decide +kernel
theorem dL_law_205 : decode cL_law 205 = .ok (.ireturn, 1) := by decide +kernel
theorem dL_law_206 : decode cL_law 206 = .ok (.aload_n 1, 1) := by decide +kernel
theorem dL_law_207 : decode cL_law 207 = .ok (.aload_n 0, 1) := by decide +kernel
theorem dL_law_208 : decode cL_law 208 = .ok (.iload_n 3, 1) := by decide +kernel
theorem dL_law_209 : decode cL_law 209 = .ok (.iconst 1, 1) := by decide +kernel
theorem dL_law_210 : decode cL_law 210 = .ok (.iadd, 1) := by decide +kernel
theorem dL_law_211 : decode cL_law 211 = .ok (.iaload, 1) := by decide +kernel
theorem dL_law_212 : decode cL_law 212 = .ok (.invokevirtual 23, 3) := by decide +kernel
theorem dL_law_215 : decode cL_law 215 = .ok (.aload_n 2, 1) := by decide +kernel
theorem dL_law_216 : decode cL_law 216 = .ok (.aload_n 0, 1) := by decide +kernel
theorem dL_law_217 : decode cL_law 217 = .ok (.iload_n 3, 1) := by decide +kernel
theorem dL_law_218 : decode cL_law 218 = .ok (.iconst 1, 1) := by decide +kernel
theorem dL_law_219 : decode cL_law 219 = .ok (.iadd, 1) := by decide +kernel
theorem dL_law_220 : decode cL_law 220 = .ok (.iaload, 1) := by decide +kernel
theorem dL_law_221 : decode cL_law 221 = .ok (.invokevirtual 26, 3) := by decide +kernel
theorem dL_law_224 : decode cL_law 224 = .ok (.lcmp, 1) := by decide +kernel
theorem dL_law_225 : decode cL_law 225 = .ok (.ifCond .eq 693, 3) := by decide +kernel
theorem dL_law_228 : decode cL_law 228 = .ok (.iconst 0, 1) := by decide +kernel
theorem dL_law_229 : decode cL_law 229 = .ok (.ireturn, 1) := by decide +kernel
theorem dL_law_230 : decode cL_law 230 = .ok (.aload_n 1, 1) := by decide +kernel
theorem dL_law_231 : decode cL_law 231 = .ok (.aload_n 0, 1) := by decide +kernel
theorem dL_law_232 : decode cL_law 232 = .ok (.iload_n 3, 1) := by decide +kernel
theorem dL_law_233 : decode cL_law 233 = .ok (.iconst 1, 1) := by decide +kernel
theorem dL_law_234 : decode cL_law 234 = .ok (.iadd, 1) := by decide +kernel
theorem dL_law_235 : decode cL_law 235 = .ok (.iaload, 1) := by decide +kernel
theorem dL_law_236 : decode cL_law 236 = .ok (.invokevirtual 27, 3) := by decide +kernel
theorem dL_law_239 : decode cL_law 239 = .ok (.aload_n 2, 1) := by decide +kernel
theorem dL_law_240 : decode cL_law 240 = .ok (.aload_n 0, 1) := by decide +kernel
theorem dL_law_241 : decode cL_law 241 = .ok (.iload_n 3, 1) := by decide +kernel
theorem dL_law_242 : decode cL_law 242 = .ok (.iconst 1, 1) := by decide +kernel
theorem dL_law_243 : decode cL_law 243 = .ok (.iadd, 1) := by decide +kernel
theorem dL_law_244 : decode cL_law 244 = .ok (.iaload, 1) := by decide +kernel
theorem dL_law_245 : decode cL_law 245 = .ok (.invokevirtual 30, 3) := by decide +kernel
theorem dL_law_248 : decode cL_law 248 = .ok (.lcmp, 1) := by decide +kernel
theorem dL_law_249 : decode cL_law 249 = .ok (.ifCond .eq 669, 3) := by decide +kernel
theorem dL_law_252 : decode cL_law 252 = .ok (.iconst 0, 1) := by decide +kernel
theorem dL_law_253 : decode cL_law 253 = .ok (.ireturn, 1) := by decide +kernel
theorem dL_law_254 : decode cL_law 254 = .ok (.aload_n 1, 1) := by decide +kernel
theorem dL_law_255 : decode cL_law 255 = .ok (.aload_n 0, 1) := by decide +kernel
theorem dL_law_256 : decode cL_law 256 = .ok (.iload_n 3, 1) := by decide +kernel
theorem dL_law_257 : decode cL_law 257 = .ok (.iconst 1, 1) := by decide +kernel
theorem dL_law_258 : decode cL_law 258 = .ok (.iadd, 1) := by decide +kernel
theorem dL_law_259 : decode cL_law 259 = .ok (.iaload, 1) := by decide +kernel
theorem dL_law_260 : decode cL_law 260 = .ok (.aload_n 0, 1) := by decide +kernel
theorem dL_law_261 : decode cL_law 261 = .ok (.iload_n 3, 1) := by decide +kernel
theorem dL_law_262 : decode cL_law 262 = .ok (.iconst 2, 1) := by decide +kernel
theorem dL_law_263 : decode cL_law 263 = .ok (.iadd, 1) := by decide +kernel
theorem dL_law_264 : decode cL_law 264 = .ok (.iaload, 1) := by decide +kernel
theorem dL_law_265 : decode cL_law 265 = .ok (.aload_n 0, 1) := by decide +kernel
theorem dL_law_266 : decode cL_law 266 = .ok (.iload_n 3, 1) := by decide +kernel
theorem dL_law_267 : decode cL_law 267 = .ok (.iconst 3, 1) := by decide +kernel
theorem dL_law_268 : decode cL_law 268 = .ok (.iadd, 1) := by decide +kernel
theorem dL_law_269 : decode cL_law 269 = .ok (.iaload, 1) := by decide +kernel
theorem dL_law_270 : decode cL_law 270 = .ok (.aload_n 0, 1) := by decide +kernel
theorem dL_law_271 : decode cL_law 271 = .ok (.iload_n 3, 1) := by decide +kernel
theorem dL_law_272 : decode cL_law 272 = .ok (.iconst 4, 1) := by decide +kernel
theorem dL_law_273 : decode cL_law 273 = .ok (.iadd, 1) := by decide +kernel
theorem dL_law_274 : decode cL_law 274 = .ok (.iaload, 1) := by decide +kernel
theorem dL_law_275 : decode cL_law 275 = .ok (.invokevirtual 31, 3) := by decide +kernel
theorem dL_law_278 : decode cL_law 278 = .ok (.aload_n 2, 1) := by decide +kernel
theorem dL_law_279 : decode cL_law 279 = .ok (.aload_n 0, 1) := by decide +kernel
theorem dL_law_280 : decode cL_law 280 = .ok (.iload_n 3, 1) := by decide +kernel
theorem dL_law_281 : decode cL_law 281 = .ok (.iconst 1, 1) := by decide +kernel
theorem dL_law_282 : decode cL_law 282 = .ok (.iadd, 1) := by decide +kernel
theorem dL_law_283 : decode cL_law 283 = .ok (.iaload, 1) := by decide +kernel
theorem dL_law_284 : decode cL_law 284 = .ok (.aload_n 0, 1) := by decide +kernel
theorem dL_law_285 : decode cL_law 285 = .ok (.iload_n 3, 1) := by decide +kernel
theorem dL_law_286 : decode cL_law 286 = .ok (.iconst 2, 1) := by decide +kernel
theorem dL_law_287 : decode cL_law 287 = .ok (.iadd, 1) := by decide +kernel
theorem dL_law_288 : decode cL_law 288 = .ok (.iaload, 1) := by decide +kernel
theorem dL_law_289 : decode cL_law 289 = .ok (.aload_n 0, 1) := by decide +kernel
theorem dL_law_290 : decode cL_law 290 = .ok (.iload_n 3, 1) := by decide +kernel
theorem dL_law_291 : decode cL_law 291 = .ok (.iconst 3, 1) := by decide +kernel
theorem dL_law_292 : decode cL_law 292 = .ok (.iadd, 1) := by decide +kernel
theorem dL_law_293 : decode cL_law 293 = .ok (.iaload, 1) := by decide +kernel
theorem dL_law_294 : decode cL_law 294 = .ok (.aload_n 0, 1) := by decide +kernel
theorem dL_law_295 : decode cL_law 295 = .ok (.iload_n 3, 1) := by decide +kernel
theorem dL_law_296 : decode cL_law 296 = .ok (.iconst 4, 1) := by decide +kernel
theorem dL_law_297 : decode cL_law 297 = .ok (.iadd, 1) := by decide +kernel
theorem dL_law_298 : decode cL_law 298 = .ok (.iaload, 1) := by decide +kernel
theorem dL_law_299 : decode cL_law 299 = .ok (.invokevirtual 35, 3) := by decide +kernel
theorem dL_law_302 : decode cL_law 302 = .ok (.lcmp, 1) := by decide +kernel
theorem dL_law_303 : decode cL_law 303 = .ok (.ifCond .eq 615, 3) := by decide +kernel
theorem dL_law_306 : decode cL_law 306 = .ok (.iconst 0, 1) := by decide +kernel
theorem dL_law_307 : decode cL_law 307 = .ok (.ireturn, 1) := by decide +kernel
theorem dL_law_308 : decode cL_law 308 = .ok (.aload_n 1, 1) := by decide +kernel
theorem dL_law_309 : decode cL_law 309 = .ok (.aload_n 0, 1) := by decide +kernel
theorem dL_law_310 : decode cL_law 310 = .ok (.iload_n 3, 1) := by decide +kernel
theorem dL_law_311 : decode cL_law 311 = .ok (.iconst 1, 1) := by decide +kernel
theorem dL_law_312 : decode cL_law 312 = .ok (.iadd, 1) := by decide +kernel
theorem dL_law_313 : decode cL_law 313 = .ok (.iaload, 1) := by decide +kernel
theorem dL_law_314 : decode cL_law 314 = .ok (.aload_n 0, 1) := by decide +kernel
theorem dL_law_315 : decode cL_law 315 = .ok (.iload_n 3, 1) := by decide +kernel
theorem dL_law_316 : decode cL_law 316 = .ok (.iconst 2, 1) := by decide +kernel
theorem dL_law_317 : decode cL_law 317 = .ok (.iadd, 1) := by decide +kernel
theorem dL_law_318 : decode cL_law 318 = .ok (.iaload, 1) := by decide +kernel
theorem dL_law_319 : decode cL_law 319 = .ok (.aload_n 0, 1) := by decide +kernel
theorem dL_law_320 : decode cL_law 320 = .ok (.iload_n 3, 1) := by decide +kernel
theorem dL_law_321 : decode cL_law 321 = .ok (.iconst 3, 1) := by decide +kernel
theorem dL_law_322 : decode cL_law 322 = .ok (.iadd, 1) := by decide +kernel
theorem dL_law_323 : decode cL_law 323 = .ok (.iaload, 1) := by decide +kernel
theorem dL_law_324 : decode cL_law 324 = .ok (.aload_n 0, 1) := by decide +kernel
theorem dL_law_325 : decode cL_law 325 = .ok (.iload_n 3, 1) := by decide +kernel
theorem dL_law_326 : decode cL_law 326 = .ok (.iconst 4, 1) := by decide +kernel
theorem dL_law_327 : decode cL_law 327 = .ok (.iadd, 1) := by decide +kernel
theorem dL_law_328 : decode cL_law 328 = .ok (.iaload, 1) := by decide +kernel
theorem dL_law_329 : decode cL_law 329 = .ok (.aload_n 0, 1) := by decide +kernel
theorem dL_law_330 : decode cL_law 330 = .ok (.iload_n 3, 1) := by decide +kernel
theorem dL_law_331 : decode cL_law 331 = .ok (.iconst 5, 1) := by decide +kernel
theorem dL_law_332 : decode cL_law 332 = .ok (.iadd, 1) := by decide +kernel
theorem dL_law_333 : decode cL_law 333 = .ok (.iaload, 1) := by decide +kernel
theorem dL_law_334 : decode cL_law 334 = .ok (.invokevirtual 36, 3) := by decide +kernel
theorem dL_law_337 : decode cL_law 337 = .ok (.aload_n 2, 1) := by decide +kernel
theorem dL_law_338 : decode cL_law 338 = .ok (.aload_n 0, 1) := by decide +kernel
theorem dL_law_339 : decode cL_law 339 = .ok (.iload_n 3, 1) := by decide +kernel
theorem dL_law_340 : decode cL_law 340 = .ok (.iconst 1, 1) := by decide +kernel
theorem dL_law_341 : decode cL_law 341 = .ok (.iadd, 1) := by decide +kernel
theorem dL_law_342 : decode cL_law 342 = .ok (.iaload, 1) := by decide +kernel
theorem dL_law_343 : decode cL_law 343 = .ok (.aload_n 0, 1) := by decide +kernel
theorem dL_law_344 : decode cL_law 344 = .ok (.iload_n 3, 1) := by decide +kernel
theorem dL_law_345 : decode cL_law 345 = .ok (.iconst 2, 1) := by decide +kernel
theorem dL_law_346 : decode cL_law 346 = .ok (.iadd, 1) := by decide +kernel
theorem dL_law_347 : decode cL_law 347 = .ok (.iaload, 1) := by decide +kernel
theorem dL_law_348 : decode cL_law 348 = .ok (.aload_n 0, 1) := by decide +kernel
theorem dL_law_349 : decode cL_law 349 = .ok (.iload_n 3, 1) := by decide +kernel
theorem dL_law_350 : decode cL_law 350 = .ok (.iconst 3, 1) := by decide +kernel
theorem dL_law_351 : decode cL_law 351 = .ok (.iadd, 1) := by decide +kernel
theorem dL_law_352 : decode cL_law 352 = .ok (.iaload, 1) := by decide +kernel
theorem dL_law_353 : decode cL_law 353 = .ok (.aload_n 0, 1) := by decide +kernel
theorem dL_law_354 : decode cL_law 354 = .ok (.iload_n 3, 1) := by decide +kernel
theorem dL_law_355 : decode cL_law 355 = .ok (.iconst 4, 1) := by decide +kernel
theorem dL_law_356 : decode cL_law 356 = .ok (.iadd, 1) := by decide +kernel
theorem dL_law_357 : decode cL_law 357 = .ok (.iaload, 1) := by decide +kernel
theorem dL_law_358 : decode cL_law 358 = .ok (.aload_n 0, 1) := by decide +kernel
theorem dL_law_359 : decode cL_law 359 = .ok (.iload_n 3, 1) := by decide +kernel
theorem dL_law_360 : decode cL_law 360 = .ok (.iconst 5, 1) := by decide +kernel
theorem dL_law_361 : decode cL_law 361 = .ok (.iadd, 1) := by decide +kernel
theorem dL_law_362 : decode cL_law 362 = .ok (.iaload, 1) := by decide +kernel
theorem dL_law_363 : decode cL_law 363 = .ok (.invokevirtual 40, 3) := by decide +kernel
theorem dL_law_366 : decode cL_law 366 = .ok (.lcmp, 1) := by decide +kernel
theorem dL_law_367 : decode cL_law 367 = .ok (.ifCond .eq 551, 3) := by decide +kernel
theorem dL_law_370 : decode cL_law 370 = .ok (.iconst 0, 1) := by decide +kernel
theorem dL_law_371 : decode cL_law 371 = .ok (.ireturn, 1) := by decide +kernel
theorem dL_law_372 : decode cL_law 372 = .ok (.aload_n 1, 1) := by decide +kernel
theorem dL_law_373 : decode cL_law 373 = .ok (.aload_n 0, 1) := by decide +kernel
theorem dL_law_374 : decode cL_law 374 = .ok (.iload_n 3, 1) := by decide +kernel
theorem dL_law_375 : decode cL_law 375 = .ok (.iconst 1, 1) := by decide +kernel
theorem dL_law_376 : decode cL_law 376 = .ok (.iadd, 1) := by decide +kernel
theorem dL_law_377 : decode cL_law 377 = .ok (.iaload, 1) := by decide +kernel
theorem dL_law_378 : decode cL_law 378 = .ok (.aload_n 0, 1) := by decide +kernel
theorem dL_law_379 : decode cL_law 379 = .ok (.iload_n 3, 1) := by decide +kernel
theorem dL_law_380 : decode cL_law 380 = .ok (.iconst 2, 1) := by decide +kernel
theorem dL_law_381 : decode cL_law 381 = .ok (.iadd, 1) := by decide +kernel
theorem dL_law_382 : decode cL_law 382 = .ok (.iaload, 1) := by decide +kernel
theorem dL_law_383 : decode cL_law 383 = .ok (.aload_n 0, 1) := by decide +kernel
theorem dL_law_384 : decode cL_law 384 = .ok (.iload_n 3, 1) := by decide +kernel
theorem dL_law_385 : decode cL_law 385 = .ok (.iconst 3, 1) := by decide +kernel
theorem dL_law_386 : decode cL_law 386 = .ok (.iadd, 1) := by decide +kernel
theorem dL_law_387 : decode cL_law 387 = .ok (.iaload, 1) := by decide +kernel
theorem dL_law_388 : decode cL_law 388 = .ok (.invokevirtual 41, 3) := by decide +kernel
theorem dL_law_391 : decode cL_law 391 = .ok (.aload_n 2, 1) := by decide +kernel
theorem dL_law_392 : decode cL_law 392 = .ok (.aload_n 0, 1) := by decide +kernel
theorem dL_law_393 : decode cL_law 393 = .ok (.iload_n 3, 1) := by decide +kernel
theorem dL_law_394 : decode cL_law 394 = .ok (.iconst 1, 1) := by decide +kernel
theorem dL_law_395 : decode cL_law 395 = .ok (.iadd, 1) := by decide +kernel
theorem dL_law_396 : decode cL_law 396 = .ok (.iaload, 1) := by decide +kernel
theorem dL_law_397 : decode cL_law 397 = .ok (.aload_n 0, 1) := by decide +kernel
theorem dL_law_398 : decode cL_law 398 = .ok (.iload_n 3, 1) := by decide +kernel
theorem dL_law_399 : decode cL_law 399 = .ok (.iconst 2, 1) := by decide +kernel
theorem dL_law_400 : decode cL_law 400 = .ok (.iadd, 1) := by decide +kernel
theorem dL_law_401 : decode cL_law 401 = .ok (.iaload, 1) := by decide +kernel
theorem dL_law_402 : decode cL_law 402 = .ok (.aload_n 0, 1) := by decide +kernel
theorem dL_law_403 : decode cL_law 403 = .ok (.iload_n 3, 1) := by decide +kernel
theorem dL_law_404 : decode cL_law 404 = .ok (.iconst 3, 1) := by decide +kernel
theorem dL_law_405 : decode cL_law 405 = .ok (.iadd, 1) := by decide +kernel
theorem dL_law_406 : decode cL_law 406 = .ok (.iaload, 1) := by decide +kernel
theorem dL_law_407 : decode cL_law 407 = .ok (.invokevirtual 45, 3) := by decide +kernel
theorem dL_law_410 : decode cL_law 410 = .ok (.lcmp, 1) := by decide +kernel
theorem dL_law_411 : decode cL_law 411 = .ok (.ifCond .eq 507, 3) := by decide +kernel
theorem dL_law_414 : decode cL_law 414 = .ok (.iconst 0, 1) := by decide +kernel
theorem dL_law_415 : decode cL_law 415 = .ok (.ireturn, 1) := by decide +kernel
theorem dL_law_416 : decode cL_law 416 = .ok (.aload_n 1, 1) := by decide +kernel
theorem dL_law_417 : decode cL_law 417 = .ok (.aload_n 0, 1) := by decide +kernel
theorem dL_law_418 : decode cL_law 418 = .ok (.iload_n 3, 1) := by decide +kernel
theorem dL_law_419 : decode cL_law 419 = .ok (.iconst 1, 1) := by decide +kernel
theorem dL_law_420 : decode cL_law 420 = .ok (.iadd, 1) := by decide +kernel
theorem dL_law_421 : decode cL_law 421 = .ok (.iaload, 1) := by decide +kernel
theorem dL_law_422 : decode cL_law 422 = .ok (.aload_n 0, 1) := by decide +kernel
theorem dL_law_423 : decode cL_law 423 = .ok (.iload_n 3, 1) := by decide +kernel
theorem dL_law_424 : decode cL_law 424 = .ok (.iconst 2, 1) := by decide +kernel
theorem dL_law_425 : decode cL_law 425 = .ok (.iadd, 1) := by decide +kernel
theorem dL_law_426 : decode cL_law 426 = .ok (.iaload, 1) := by decide +kernel
theorem dL_law_427 : decode cL_law 427 = .ok (.aload_n 0, 1) := by decide +kernel
theorem dL_law_428 : decode cL_law 428 = .ok (.iload_n 3, 1) := by decide +kernel
theorem dL_law_429 : decode cL_law 429 = .ok (.iconst 3, 1) := by decide +kernel
theorem dL_law_430 : decode cL_law 430 = .ok (.iadd, 1) := by decide +kernel
theorem dL_law_431 : decode cL_law 431 = .ok (.iaload, 1) := by decide +kernel
theorem dL_law_432 : decode cL_law 432 = .ok (.invokevirtual 46, 3) := by decide +kernel
theorem dL_law_435 : decode cL_law 435 = .ok (.aload_n 2, 1) := by decide +kernel
theorem dL_law_436 : decode cL_law 436 = .ok (.aload_n 0, 1) := by decide +kernel
theorem dL_law_437 : decode cL_law 437 = .ok (.iload_n 3, 1) := by decide +kernel
theorem dL_law_438 : decode cL_law 438 = .ok (.iconst 1, 1) := by decide +kernel
theorem dL_law_439 : decode cL_law 439 = .ok (.iadd, 1) := by decide +kernel
theorem dL_law_440 : decode cL_law 440 = .ok (.iaload, 1) := by decide +kernel
theorem dL_law_441 : decode cL_law 441 = .ok (.aload_n 0, 1) := by decide +kernel
theorem dL_law_442 : decode cL_law 442 = .ok (.iload_n 3, 1) := by decide +kernel
theorem dL_law_443 : decode cL_law 443 = .ok (.iconst 2, 1) := by decide +kernel
theorem dL_law_444 : decode cL_law 444 = .ok (.iadd, 1) := by decide +kernel
theorem dL_law_445 : decode cL_law 445 = .ok (.iaload, 1) := by decide +kernel
theorem dL_law_446 : decode cL_law 446 = .ok (.aload_n 0, 1) := by decide +kernel
theorem dL_law_447 : decode cL_law 447 = .ok (.iload_n 3, 1) := by decide +kernel
theorem dL_law_448 : decode cL_law 448 = .ok (.iconst 3, 1) := by decide +kernel
theorem dL_law_449 : decode cL_law 449 = .ok (.iadd, 1) := by decide +kernel
theorem dL_law_450 : decode cL_law 450 = .ok (.iaload, 1) := by decide +kernel
theorem dL_law_451 : decode cL_law 451 = .ok (.invokevirtual 49, 3) := by decide +kernel
theorem dL_law_454 : decode cL_law 454 = .ok (.lcmp, 1) := by decide +kernel
theorem dL_law_455 : decode cL_law 455 = .ok (.ifCond .eq 463, 3) := by decide +kernel
theorem dL_law_458 : decode cL_law 458 = .ok (.iconst 0, 1) := by decide +kernel
theorem dL_law_459 : decode cL_law 459 = .ok (.ireturn, 1) := by decide +kernel
theorem dL_law_460 : decode cL_law 460 = .ok (.aload_n 1, 1) := by decide +kernel
theorem dL_law_461 : decode cL_law 461 = .ok (.aload_n 0, 1) := by decide +kernel
theorem dL_law_462 : decode cL_law 462 = .ok (.iload_n 3, 1) := by decide +kernel
theorem dL_law_463 : decode cL_law 463 = .ok (.iconst 1, 1) := by decide +kernel
theorem dL_law_464 : decode cL_law 464 = .ok (.iadd, 1) := by decide +kernel
theorem dL_law_465 : decode cL_law 465 = .ok (.iaload, 1) := by decide +kernel
theorem dL_law_466 : decode cL_law 466 = .ok (.aload_n 0, 1) := by decide +kernel
theorem dL_law_467 : decode cL_law 467 = .ok (.iload_n 3, 1) := by decide +kernel
theorem dL_law_468 : decode cL_law 468 = .ok (.iconst 2, 1) := by decide +kernel
theorem dL_law_469 : decode cL_law 469 = .ok (.iadd, 1) := by decide +kernel
theorem dL_law_470 : decode cL_law 470 = .ok (.iaload, 1) := by decide +kernel
theorem dL_law_471 : decode cL_law 471 = .ok (.invokevirtual 50, 3) := by decide +kernel
theorem dL_law_474 : decode cL_law 474 = .ok (.aload_n 2, 1) := by decide +kernel
theorem dL_law_475 : decode cL_law 475 = .ok (.aload_n 0, 1) := by decide +kernel
theorem dL_law_476 : decode cL_law 476 = .ok (.iload_n 3, 1) := by decide +kernel
theorem dL_law_477 : decode cL_law 477 = .ok (.iconst 1, 1) := by decide +kernel
theorem dL_law_478 : decode cL_law 478 = .ok (.iadd, 1) := by decide +kernel
theorem dL_law_479 : decode cL_law 479 = .ok (.iaload, 1) := by decide +kernel
theorem dL_law_480 : decode cL_law 480 = .ok (.aload_n 0, 1) := by decide +kernel
theorem dL_law_481 : decode cL_law 481 = .ok (.iload_n 3, 1) := by decide +kernel
theorem dL_law_482 : decode cL_law 482 = .ok (.iconst 2, 1) := by decide +kernel
theorem dL_law_483 : decode cL_law 483 = .ok (.iadd, 1) := by decide +kernel
theorem dL_law_484 : decode cL_law 484 = .ok (.iaload, 1) := by decide +kernel
theorem dL_law_485 : decode cL_law 485 = .ok (.invokevirtual 53, 3) := by decide +kernel
theorem dL_law_488 : decode cL_law 488 = .ok (.lcmp, 1) := by decide +kernel
theorem dL_law_489 : decode cL_law 489 = .ok (.ifCond .eq 429, 3) := by decide +kernel
theorem dL_law_492 : decode cL_law 492 = .ok (.iconst 0, 1) := by decide +kernel
theorem dL_law_493 : decode cL_law 493 = .ok (.ireturn, 1) := by decide +kernel
theorem dL_law_494 : decode cL_law 494 = .ok (.aload_n 1, 1) := by decide +kernel
theorem dL_law_495 : decode cL_law 495 = .ok (.aload_n 0, 1) := by decide +kernel
theorem dL_law_496 : decode cL_law 496 = .ok (.iload_n 3, 1) := by decide +kernel
theorem dL_law_497 : decode cL_law 497 = .ok (.iconst 1, 1) := by decide +kernel
theorem dL_law_498 : decode cL_law 498 = .ok (.iadd, 1) := by decide +kernel
theorem dL_law_499 : decode cL_law 499 = .ok (.iaload, 1) := by decide +kernel
theorem dL_law_500 : decode cL_law 500 = .ok (.aload_n 0, 1) := by decide +kernel
theorem dL_law_501 : decode cL_law 501 = .ok (.iload_n 3, 1) := by decide +kernel
theorem dL_law_502 : decode cL_law 502 = .ok (.iconst 2, 1) := by decide +kernel
theorem dL_law_503 : decode cL_law 503 = .ok (.iadd, 1) := by decide +kernel
theorem dL_law_504 : decode cL_law 504 = .ok (.iaload, 1) := by decide +kernel
theorem dL_law_505 : decode cL_law 505 = .ok (.invokevirtual 54, 3) := by decide +kernel
theorem dL_law_508 : decode cL_law 508 = .ok (.aload_n 2, 1) := by decide +kernel
theorem dL_law_509 : decode cL_law 509 = .ok (.aload_n 0, 1) := by decide +kernel
theorem dL_law_510 : decode cL_law 510 = .ok (.iload_n 3, 1) := by decide +kernel
theorem dL_law_511 : decode cL_law 511 = .ok (.iconst 1, 1) := by decide +kernel
theorem dL_law_512 : decode cL_law 512 = .ok (.iadd, 1) := by decide +kernel
theorem dL_law_513 : decode cL_law 513 = .ok (.iaload, 1) := by decide +kernel
theorem dL_law_514 : decode cL_law 514 = .ok (.aload_n 0, 1) := by decide +kernel
theorem dL_law_515 : decode cL_law 515 = .ok (.iload_n 3, 1) := by decide +kernel
theorem dL_law_516 : decode cL_law 516 = .ok (.iconst 2, 1) := by decide +kernel
theorem dL_law_517 : decode cL_law 517 = .ok (.iadd, 1) := by decide +kernel
theorem dL_law_518 : decode cL_law 518 = .ok (.iaload, 1) := by decide +kernel
theorem dL_law_519 : decode cL_law 519 = .ok (.invokevirtual 57, 3) := by decide +kernel
theorem dL_law_522 : decode cL_law 522 = .ok (.lcmp, 1) := by decide +kernel
theorem dL_law_523 : decode cL_law 523 = .ok (.ifCond .eq 395, 3) := by decide +kernel
theorem dL_law_526 : decode cL_law 526 = .ok (.iconst 0, 1) := by decide +kernel
theorem dL_law_527 : decode cL_law 527 = .ok (.ireturn, 1) := by decide +kernel
theorem dL_law_528 : decode cL_law 528 = .ok (.aload_n 1, 1) := by decide +kernel
theorem dL_law_529 : decode cL_law 529 = .ok (.invokevirtual 58, 3) := by decide +kernel
theorem dL_law_532 : decode cL_law 532 = .ok (.aload_n 2, 1) := by decide +kernel
theorem dL_law_533 : decode cL_law 533 = .ok (.invokevirtual 62, 3) := by decide +kernel
theorem dL_law_536 : decode cL_law 536 = .ok (.lcmp, 1) := by decide +kernel
theorem dL_law_537 : decode cL_law 537 = .ok (.ifCond .eq 381, 3) := by decide +kernel
theorem dL_law_540 : decode cL_law 540 = .ok (.iconst 0, 1) := by decide +kernel
theorem dL_law_541 : decode cL_law 541 = .ok (.ireturn, 1) := by decide +kernel
theorem dL_law_542 : decode cL_law 542 = .ok (.aload_n 1, 1) := by decide +kernel
theorem dL_law_543 : decode cL_law 543 = .ok (.invokevirtual 63, 3) := by decide +kernel
theorem dL_law_546 : decode cL_law 546 = .ok (.aload_n 2, 1) := by decide +kernel
theorem dL_law_547 : decode cL_law 547 = .ok (.invokevirtual 66, 3) := by decide +kernel
theorem dL_law_550 : decode cL_law 550 = .ok (.lcmp, 1) := by decide +kernel
theorem dL_law_551 : decode cL_law 551 = .ok (.ifCond .eq 367, 3) := by decide +kernel
theorem dL_law_554 : decode cL_law 554 = .ok (.iconst 0, 1) := by decide +kernel
theorem dL_law_555 : decode cL_law 555 = .ok (.ireturn, 1) := by decide +kernel
theorem dL_law_556 : decode cL_law 556 = .ok (.aload_n 1, 1) := by decide +kernel
theorem dL_law_557 : decode cL_law 557 = .ok (.invokevirtual 67, 3) := by decide +kernel
theorem dL_law_560 : decode cL_law 560 = .ok (.aload_n 2, 1) := by decide +kernel
theorem dL_law_561 : decode cL_law 561 = .ok (.invokevirtual 70, 3) := by decide +kernel
theorem dL_law_564 : decode cL_law 564 = .ok (.lcmp, 1) := by decide +kernel
theorem dL_law_565 : decode cL_law 565 = .ok (.ifCond .eq 353, 3) := by decide +kernel
theorem dL_law_568 : decode cL_law 568 = .ok (.iconst 0, 1) := by decide +kernel
theorem dL_law_569 : decode cL_law 569 = .ok (.ireturn, 1) := by decide +kernel
theorem dL_law_570 : decode cL_law 570 = .ok (.aload_n 1, 1) := by decide +kernel
theorem dL_law_571 : decode cL_law 571 = .ok (.aload_n 0, 1) := by decide +kernel
theorem dL_law_572 : decode cL_law 572 = .ok (.iload_n 3, 1) := by decide +kernel
theorem dL_law_573 : decode cL_law 573 = .ok (.iconst 1, 1) := by decide +kernel
theorem dL_law_574 : decode cL_law 574 = .ok (.iadd, 1) := by decide +kernel
theorem dL_law_575 : decode cL_law 575 = .ok (.iaload, 1) := by decide +kernel
theorem dL_law_576 : decode cL_law 576 = .ok (.aload_n 0, 1) := by decide +kernel
theorem dL_law_577 : decode cL_law 577 = .ok (.iload_n 3, 1) := by decide +kernel
theorem dL_law_578 : decode cL_law 578 = .ok (.iconst 2, 1) := by decide +kernel
theorem dL_law_579 : decode cL_law 579 = .ok (.iadd, 1) := by decide +kernel
theorem dL_law_580 : decode cL_law 580 = .ok (.iaload, 1) := by decide +kernel
theorem dL_law_581 : decode cL_law 581 = .ok (.invokevirtual 71, 3) := by decide +kernel
theorem dL_law_584 : decode cL_law 584 = .ok (.aload_n 2, 1) := by decide +kernel
theorem dL_law_585 : decode cL_law 585 = .ok (.aload_n 0, 1) := by decide +kernel
theorem dL_law_586 : decode cL_law 586 = .ok (.iload_n 3, 1) := by decide +kernel
theorem dL_law_587 : decode cL_law 587 = .ok (.iconst 1, 1) := by decide +kernel
theorem dL_law_588 : decode cL_law 588 = .ok (.iadd, 1) := by decide +kernel
theorem dL_law_589 : decode cL_law 589 = .ok (.iaload, 1) := by decide +kernel
theorem dL_law_590 : decode cL_law 590 = .ok (.aload_n 0, 1) := by decide +kernel
theorem dL_law_591 : decode cL_law 591 = .ok (.iload_n 3, 1) := by decide +kernel
theorem dL_law_592 : decode cL_law 592 = .ok (.iconst 2, 1) := by decide +kernel
theorem dL_law_593 : decode cL_law 593 = .ok (.iadd, 1) := by decide +kernel
theorem dL_law_594 : decode cL_law 594 = .ok (.iaload, 1) := by decide +kernel
theorem dL_law_595 : decode cL_law 595 = .ok (.invokevirtual 74, 3) := by decide +kernel
theorem dL_law_598 : decode cL_law 598 = .ok (.lcmp, 1) := by decide +kernel
theorem dL_law_599 : decode cL_law 599 = .ok (.ifCond .eq 319, 3) := by decide +kernel
theorem dL_law_602 : decode cL_law 602 = .ok (.iconst 0, 1) := by decide +kernel
theorem dL_law_603 : decode cL_law 603 = .ok (.ireturn, 1) := by decide +kernel
theorem dL_law_604 : decode cL_law 604 = .ok (.aload_n 1, 1) := by decide +kernel
theorem dL_law_605 : decode cL_law 605 = .ok (.aload_n 0, 1) := by decide +kernel
theorem dL_law_606 : decode cL_law 606 = .ok (.iload_n 3, 1) := by decide +kernel
theorem dL_law_607 : decode cL_law 607 = .ok (.iconst 1, 1) := by decide +kernel
theorem dL_law_608 : decode cL_law 608 = .ok (.iadd, 1) := by decide +kernel
theorem dL_law_609 : decode cL_law 609 = .ok (.iaload, 1) := by decide +kernel
theorem dL_law_610 : decode cL_law 610 = .ok (.aload_n 0, 1) := by decide +kernel
theorem dL_law_611 : decode cL_law 611 = .ok (.iload_n 3, 1) := by decide +kernel
theorem dL_law_612 : decode cL_law 612 = .ok (.iconst 2, 1) := by decide +kernel
theorem dL_law_613 : decode cL_law 613 = .ok (.iadd, 1) := by decide +kernel
theorem dL_law_614 : decode cL_law 614 = .ok (.iaload, 1) := by decide +kernel
theorem dL_law_615 : decode cL_law 615 = .ok (.invokevirtual 75, 3) := by decide +kernel
theorem dL_law_618 : decode cL_law 618 = .ok (.aload_n 2, 1) := by decide +kernel
theorem dL_law_619 : decode cL_law 619 = .ok (.aload_n 0, 1) := by decide +kernel
theorem dL_law_620 : decode cL_law 620 = .ok (.iload_n 3, 1) := by decide +kernel
theorem dL_law_621 : decode cL_law 621 = .ok (.iconst 1, 1) := by decide +kernel
theorem dL_law_622 : decode cL_law 622 = .ok (.iadd, 1) := by decide +kernel
theorem dL_law_623 : decode cL_law 623 = .ok (.iaload, 1) := by decide +kernel
theorem dL_law_624 : decode cL_law 624 = .ok (.aload_n 0, 1) := by decide +kernel
theorem dL_law_625 : decode cL_law 625 = .ok (.iload_n 3, 1) := by decide +kernel
theorem dL_law_626 : decode cL_law 626 = .ok (.iconst 2, 1) := by decide +kernel
theorem dL_law_627 : decode cL_law 627 = .ok (.iadd, 1) := by decide +kernel
theorem dL_law_628 : decode cL_law 628 = .ok (.iaload, 1) := by decide +kernel
theorem dL_law_629 : decode cL_law 629 = .ok (.invokevirtual 78, 3) := by decide +kernel
theorem dL_law_632 : decode cL_law 632 = .ok (.lcmp, 1) := by decide +kernel
theorem dL_law_633 : decode cL_law 633 = .ok (.ifCond .eq 285, 3) := by decide +kernel
theorem dL_law_636 : decode cL_law 636 = .ok (.iconst 0, 1) := by decide +kernel
theorem dL_law_637 : decode cL_law 637 = .ok (.ireturn, 1) := by decide +kernel
theorem dL_law_638 : decode cL_law 638 = .ok (.aload_n 1, 1) := by decide +kernel
theorem dL_law_639 : decode cL_law 639 = .ok (.aload_n 0, 1) := by decide +kernel
theorem dL_law_640 : decode cL_law 640 = .ok (.iload_n 3, 1) := by decide +kernel
theorem dL_law_641 : decode cL_law 641 = .ok (.iconst 1, 1) := by decide +kernel
theorem dL_law_642 : decode cL_law 642 = .ok (.iadd, 1) := by decide +kernel
theorem dL_law_643 : decode cL_law 643 = .ok (.iaload, 1) := by decide +kernel
theorem dL_law_644 : decode cL_law 644 = .ok (.aload_n 0, 1) := by decide +kernel
theorem dL_law_645 : decode cL_law 645 = .ok (.iload_n 3, 1) := by decide +kernel
theorem dL_law_646 : decode cL_law 646 = .ok (.iconst 2, 1) := by decide +kernel
theorem dL_law_647 : decode cL_law 647 = .ok (.iadd, 1) := by decide +kernel
theorem dL_law_648 : decode cL_law 648 = .ok (.iaload, 1) := by decide +kernel
theorem dL_law_649 : decode cL_law 649 = .ok (.aload_n 0, 1) := by decide +kernel
theorem dL_law_650 : decode cL_law 650 = .ok (.iload_n 3, 1) := by decide +kernel
theorem dL_law_651 : decode cL_law 651 = .ok (.iconst 3, 1) := by decide +kernel
theorem dL_law_652 : decode cL_law 652 = .ok (.iadd, 1) := by decide +kernel
theorem dL_law_653 : decode cL_law 653 = .ok (.iaload, 1) := by decide +kernel
theorem dL_law_654 : decode cL_law 654 = .ok (.invokevirtual 79, 3) := by decide +kernel
theorem dL_law_657 : decode cL_law 657 = .ok (.aload_n 2, 1) := by decide +kernel
theorem dL_law_658 : decode cL_law 658 = .ok (.aload_n 0, 1) := by decide +kernel
theorem dL_law_659 : decode cL_law 659 = .ok (.iload_n 3, 1) := by decide +kernel
theorem dL_law_660 : decode cL_law 660 = .ok (.iconst 1, 1) := by decide +kernel
theorem dL_law_661 : decode cL_law 661 = .ok (.iadd, 1) := by decide +kernel
theorem dL_law_662 : decode cL_law 662 = .ok (.iaload, 1) := by decide +kernel
theorem dL_law_663 : decode cL_law 663 = .ok (.aload_n 0, 1) := by decide +kernel
theorem dL_law_664 : decode cL_law 664 = .ok (.iload_n 3, 1) := by decide +kernel
theorem dL_law_665 : decode cL_law 665 = .ok (.iconst 2, 1) := by decide +kernel
theorem dL_law_666 : decode cL_law 666 = .ok (.iadd, 1) := by decide +kernel
theorem dL_law_667 : decode cL_law 667 = .ok (.iaload, 1) := by decide +kernel
theorem dL_law_668 : decode cL_law 668 = .ok (.aload_n 0, 1) := by decide +kernel
theorem dL_law_669 : decode cL_law 669 = .ok (.iload_n 3, 1) := by decide +kernel
theorem dL_law_670 : decode cL_law 670 = .ok (.iconst 3, 1) := by decide +kernel
theorem dL_law_671 : decode cL_law 671 = .ok (.iadd, 1) := by decide +kernel
theorem dL_law_672 : decode cL_law 672 = .ok (.iaload, 1) := by decide +kernel
theorem dL_law_673 : decode cL_law 673 = .ok (.invokevirtual 82, 3) := by decide +kernel
theorem dL_law_676 : decode cL_law 676 = .ok (.lcmp, 1) := by decide +kernel
theorem dL_law_677 : decode cL_law 677 = .ok (.ifCond .eq 241, 3) := by decide +kernel
theorem dL_law_680 : decode cL_law 680 = .ok (.iconst 0, 1) := by decide +kernel
theorem dL_law_681 : decode cL_law 681 = .ok (.ireturn, 1) := by decide +kernel
theorem dL_law_682 : decode cL_law 682 = .ok (.aload_n 1, 1) := by decide +kernel
theorem dL_law_683 : decode cL_law 683 = .ok (.aload_n 0, 1) := by decide +kernel
theorem dL_law_684 : decode cL_law 684 = .ok (.iload_n 3, 1) := by decide +kernel
theorem dL_law_685 : decode cL_law 685 = .ok (.iconst 1, 1) := by decide +kernel
theorem dL_law_686 : decode cL_law 686 = .ok (.iadd, 1) := by decide +kernel
theorem dL_law_687 : decode cL_law 687 = .ok (.iaload, 1) := by decide +kernel
theorem dL_law_688 : decode cL_law 688 = .ok (.aload_n 0, 1) := by decide +kernel
theorem dL_law_689 : decode cL_law 689 = .ok (.iload_n 3, 1) := by decide +kernel
theorem dL_law_690 : decode cL_law 690 = .ok (.iconst 2, 1) := by decide +kernel
theorem dL_law_691 : decode cL_law 691 = .ok (.iadd, 1) := by decide +kernel
theorem dL_law_692 : decode cL_law 692 = .ok (.iaload, 1) := by decide +kernel
theorem dL_law_693 : decode cL_law 693 = .ok (.invokevirtual 83, 3) := by decide +kernel
theorem dL_law_696 : decode cL_law 696 = .ok (.aload_n 2, 1) := by decide +kernel
theorem dL_law_697 : decode cL_law 697 = .ok (.aload_n 0, 1) := by decide +kernel
theorem dL_law_698 : decode cL_law 698 = .ok (.iload_n 3, 1) := by decide +kernel
theorem dL_law_699 : decode cL_law 699 = .ok (.iconst 1, 1) := by decide +kernel
theorem dL_law_700 : decode cL_law 700 = .ok (.iadd, 1) := by decide +kernel
theorem dL_law_701 : decode cL_law 701 = .ok (.iaload, 1) := by decide +kernel
theorem dL_law_702 : decode cL_law 702 = .ok (.aload_n 0, 1) := by decide +kernel
theorem dL_law_703 : decode cL_law 703 = .ok (.iload_n 3, 1) := by decide +kernel
theorem dL_law_704 : decode cL_law 704 = .ok (.iconst 2, 1) := by decide +kernel
theorem dL_law_705 : decode cL_law 705 = .ok (.iadd, 1) := by decide +kernel
theorem dL_law_706 : decode cL_law 706 = .ok (.iaload, 1) := by decide +kernel
theorem dL_law_707 : decode cL_law 707 = .ok (.invokevirtual 86, 3) := by decide +kernel
theorem dL_law_710 : decode cL_law 710 = .ok (.lcmp, 1) := by decide +kernel
theorem dL_law_711 : decode cL_law 711 = .ok (.ifCond .eq 207, 3) := by decide +kernel
theorem dL_law_714 : decode cL_law 714 = .ok (.iconst 0, 1) := by decide +kernel
theorem dL_law_715 : decode cL_law 715 = .ok (.ireturn, 1) := by decide +kernel
theorem dL_law_716 : decode cL_law 716 = .ok (.aload_n 1, 1) := by decide +kernel
theorem dL_law_717 : decode cL_law 717 = .ok (.aload_n 0, 1) := by decide +kernel
theorem dL_law_718 : decode cL_law 718 = .ok (.iload_n 3, 1) := by decide +kernel
theorem dL_law_719 : decode cL_law 719 = .ok (.iconst 1, 1) := by decide +kernel
theorem dL_law_720 : decode cL_law 720 = .ok (.iadd, 1) := by decide +kernel
theorem dL_law_721 : decode cL_law 721 = .ok (.iaload, 1) := by decide +kernel
theorem dL_law_722 : decode cL_law 722 = .ok (.aload_n 0, 1) := by decide +kernel
theorem dL_law_723 : decode cL_law 723 = .ok (.iload_n 3, 1) := by decide +kernel
theorem dL_law_724 : decode cL_law 724 = .ok (.iconst 2, 1) := by decide +kernel
theorem dL_law_725 : decode cL_law 725 = .ok (.iadd, 1) := by decide +kernel
theorem dL_law_726 : decode cL_law 726 = .ok (.iaload, 1) := by decide +kernel
theorem dL_law_727 : decode cL_law 727 = .ok (.invokevirtual 87, 3) := by decide +kernel
theorem dL_law_730 : decode cL_law 730 = .ok (.aload_n 2, 1) := by decide +kernel
theorem dL_law_731 : decode cL_law 731 = .ok (.aload_n 0, 1) := by decide +kernel
theorem dL_law_732 : decode cL_law 732 = .ok (.iload_n 3, 1) := by decide +kernel
theorem dL_law_733 : decode cL_law 733 = .ok (.iconst 1, 1) := by decide +kernel
theorem dL_law_734 : decode cL_law 734 = .ok (.iadd, 1) := by decide +kernel
theorem dL_law_735 : decode cL_law 735 = .ok (.iaload, 1) := by decide +kernel
theorem dL_law_736 : decode cL_law 736 = .ok (.aload_n 0, 1) := by decide +kernel
theorem dL_law_737 : decode cL_law 737 = .ok (.iload_n 3, 1) := by decide +kernel
theorem dL_law_738 : decode cL_law 738 = .ok (.iconst 2, 1) := by decide +kernel
theorem dL_law_739 : decode cL_law 739 = .ok (.iadd, 1) := by decide +kernel
theorem dL_law_740 : decode cL_law 740 = .ok (.iaload, 1) := by decide +kernel
theorem dL_law_741 : decode cL_law 741 = .ok (.invokevirtual 90, 3) := by decide +kernel
theorem dL_law_744 : decode cL_law 744 = .ok (.lcmp, 1) := by decide +kernel
theorem dL_law_745 : decode cL_law 745 = .ok (.ifCond .eq 173, 3) := by decide +kernel
theorem dL_law_748 : decode cL_law 748 = .ok (.iconst 0, 1) := by decide +kernel
theorem dL_law_749 : decode cL_law 749 = .ok (.ireturn, 1) := by decide +kernel
theorem dL_law_750 : decode cL_law 750 = .ok (.aload_n 1, 1) := by decide +kernel
theorem dL_law_751 : decode cL_law 751 = .ok (.aload_n 0, 1) := by decide +kernel
theorem dL_law_752 : decode cL_law 752 = .ok (.iload_n 3, 1) := by decide +kernel
theorem dL_law_753 : decode cL_law 753 = .ok (.iconst 1, 1) := by decide +kernel
theorem dL_law_754 : decode cL_law 754 = .ok (.iadd, 1) := by decide +kernel
theorem dL_law_755 : decode cL_law 755 = .ok (.iaload, 1) := by decide +kernel
theorem dL_law_756 : decode cL_law 756 = .ok (.invokevirtual 91, 3) := by decide +kernel
theorem dL_law_759 : decode cL_law 759 = .ok (.aload_n 2, 1) := by decide +kernel
theorem dL_law_760 : decode cL_law 760 = .ok (.aload_n 0, 1) := by decide +kernel
theorem dL_law_761 : decode cL_law 761 = .ok (.iload_n 3, 1) := by decide +kernel
theorem dL_law_762 : decode cL_law 762 = .ok (.iconst 1, 1) := by decide +kernel
theorem dL_law_763 : decode cL_law 763 = .ok (.iadd, 1) := by decide +kernel
theorem dL_law_764 : decode cL_law 764 = .ok (.iaload, 1) := by decide +kernel
theorem dL_law_765 : decode cL_law 765 = .ok (.invokevirtual 94, 3) := by decide +kernel
theorem dL_law_768 : decode cL_law 768 = .ok (.lcmp, 1) := by decide +kernel
theorem dL_law_769 : decode cL_law 769 = .ok (.ifCond .eq 149, 3) := by decide +kernel
theorem dL_law_772 : decode cL_law 772 = .ok (.iconst 0, 1) := by decide +kernel
theorem dL_law_773 : decode cL_law 773 = .ok (.ireturn, 1) := by decide +kernel
theorem dL_law_774 : decode cL_law 774 = .ok (.aload_n 1, 1) := by decide +kernel
theorem dL_law_775 : decode cL_law 775 = .ok (.invokevirtual 95, 3) := by decide +kernel
theorem dL_law_778 : decode cL_law 778 = .ok (.aload_n 2, 1) := by decide +kernel
theorem dL_law_779 : decode cL_law 779 = .ok (.invokevirtual 98, 3) := by decide +kernel
theorem dL_law_782 : decode cL_law 782 = .ok (.lcmp, 1) := by decide +kernel
theorem dL_law_783 : decode cL_law 783 = .ok (.ifCond .eq 135, 3) := by decide +kernel
theorem dL_law_786 : decode cL_law 786 = .ok (.iconst 0, 1) := by decide +kernel
theorem dL_law_787 : decode cL_law 787 = .ok (.ireturn, 1) := by decide +kernel
theorem dL_law_788 : decode cL_law 788 = .ok (.aload_n 1, 1) := by decide +kernel
theorem dL_law_789 : decode cL_law 789 = .ok (.aload_n 0, 1) := by decide +kernel
theorem dL_law_790 : decode cL_law 790 = .ok (.iload_n 3, 1) := by decide +kernel
theorem dL_law_791 : decode cL_law 791 = .ok (.iconst 1, 1) := by decide +kernel
theorem dL_law_792 : decode cL_law 792 = .ok (.iadd, 1) := by decide +kernel
theorem dL_law_793 : decode cL_law 793 = .ok (.iaload, 1) := by decide +kernel
theorem dL_law_794 : decode cL_law 794 = .ok (.aload_n 0, 1) := by decide +kernel
theorem dL_law_795 : decode cL_law 795 = .ok (.iload_n 3, 1) := by decide +kernel
theorem dL_law_796 : decode cL_law 796 = .ok (.iconst 2, 1) := by decide +kernel
theorem dL_law_797 : decode cL_law 797 = .ok (.iadd, 1) := by decide +kernel
theorem dL_law_798 : decode cL_law 798 = .ok (.iaload, 1) := by decide +kernel
theorem dL_law_799 : decode cL_law 799 = .ok (.invokevirtual 99, 3) := by decide +kernel
theorem dL_law_802 : decode cL_law 802 = .ok (.aload_n 2, 1) := by decide +kernel
theorem dL_law_803 : decode cL_law 803 = .ok (.aload_n 0, 1) := by decide +kernel
theorem dL_law_804 : decode cL_law 804 = .ok (.iload_n 3, 1) := by decide +kernel
theorem dL_law_805 : decode cL_law 805 = .ok (.iconst 1, 1) := by decide +kernel
theorem dL_law_806 : decode cL_law 806 = .ok (.iadd, 1) := by decide +kernel
theorem dL_law_807 : decode cL_law 807 = .ok (.iaload, 1) := by decide +kernel
theorem dL_law_808 : decode cL_law 808 = .ok (.aload_n 0, 1) := by decide +kernel
theorem dL_law_809 : decode cL_law 809 = .ok (.iload_n 3, 1) := by decide +kernel
theorem dL_law_810 : decode cL_law 810 = .ok (.iconst 2, 1) := by decide +kernel
theorem dL_law_811 : decode cL_law 811 = .ok (.iadd, 1) := by decide +kernel
theorem dL_law_812 : decode cL_law 812 = .ok (.iaload, 1) := by decide +kernel
theorem dL_law_813 : decode cL_law 813 = .ok (.invokevirtual 102, 3) := by decide +kernel
theorem dL_law_816 : decode cL_law 816 = .ok (.lcmp, 1) := by decide +kernel
theorem dL_law_817 : decode cL_law 817 = .ok (.ifCond .eq 101, 3) := by decide +kernel
theorem dL_law_820 : decode cL_law 820 = .ok (.iconst 0, 1) := by decide +kernel
theorem dL_law_821 : decode cL_law 821 = .ok (.ireturn, 1) := by decide +kernel
theorem dL_law_822 : decode cL_law 822 = .ok (.aload_n 1, 1) := by decide +kernel
theorem dL_law_823 : decode cL_law 823 = .ok (.aload_n 0, 1) := by decide +kernel
theorem dL_law_824 : decode cL_law 824 = .ok (.iload_n 3, 1) := by decide +kernel
theorem dL_law_825 : decode cL_law 825 = .ok (.iconst 1, 1) := by decide +kernel
theorem dL_law_826 : decode cL_law 826 = .ok (.iadd, 1) := by decide +kernel
theorem dL_law_827 : decode cL_law 827 = .ok (.iaload, 1) := by decide +kernel
theorem dL_law_828 : decode cL_law 828 = .ok (.invokevirtual 103, 3) := by decide +kernel
theorem dL_law_831 : decode cL_law 831 = .ok (.aload_n 2, 1) := by decide +kernel
theorem dL_law_832 : decode cL_law 832 = .ok (.aload_n 0, 1) := by decide +kernel
theorem dL_law_833 : decode cL_law 833 = .ok (.iload_n 3, 1) := by decide +kernel
theorem dL_law_834 : decode cL_law 834 = .ok (.iconst 1, 1) := by decide +kernel
theorem dL_law_835 : decode cL_law 835 = .ok (.iadd, 1) := by decide +kernel
theorem dL_law_836 : decode cL_law 836 = .ok (.iaload, 1) := by decide +kernel
theorem dL_law_837 : decode cL_law 837 = .ok (.invokevirtual 106, 3) := by decide +kernel
theorem dL_law_840 : decode cL_law 840 = .ok (.lcmp, 1) := by decide +kernel
theorem dL_law_841 : decode cL_law 841 = .ok (.ifCond .eq 77, 3) := by decide +kernel
theorem dL_law_844 : decode cL_law 844 = .ok (.iconst 0, 1) := by decide +kernel
theorem dL_law_845 : decode cL_law 845 = .ok (.ireturn, 1) := by decide +kernel
theorem dL_law_846 : decode cL_law 846 = .ok (.aload_n 1, 1) := by decide +kernel
theorem dL_law_847 : decode cL_law 847 = .ok (.aload_n 0, 1) := by decide +kernel
theorem dL_law_848 : decode cL_law 848 = .ok (.iload_n 3, 1) := by decide +kernel
theorem dL_law_849 : decode cL_law 849 = .ok (.iconst 1, 1) := by decide +kernel
theorem dL_law_850 : decode cL_law 850 = .ok (.iadd, 1) := by decide +kernel
theorem dL_law_851 : decode cL_law 851 = .ok (.iaload, 1) := by decide +kernel
theorem dL_law_852 : decode cL_law 852 = .ok (.invokevirtual 107, 3) := by decide +kernel
theorem dL_law_855 : decode cL_law 855 = .ok (.aload_n 2, 1) := by decide +kernel
theorem dL_law_856 : decode cL_law 856 = .ok (.aload_n 0, 1) := by decide +kernel
theorem dL_law_857 : decode cL_law 857 = .ok (.iload_n 3, 1) := by decide +kernel
theorem dL_law_858 : decode cL_law 858 = .ok (.iconst 1, 1) := by decide +kernel
theorem dL_law_859 : decode cL_law 859 = .ok (.iadd, 1) := by decide +kernel
theorem dL_law_860 : decode cL_law 860 = .ok (.iaload, 1) := by decide +kernel
theorem dL_law_861 : decode cL_law 861 = .ok (.invokevirtual 110, 3) := by decide +kernel
theorem dL_law_864 : decode cL_law 864 = .ok (.lcmp, 1) := by decide +kernel
theorem dL_law_865 : decode cL_law 865 = .ok (.ifCond .eq 53, 3) := by decide +kernel
theorem dL_law_868 : decode cL_law 868 = .ok (.iconst 0, 1) := by decide +kernel
theorem dL_law_869 : decode cL_law 869 = .ok (.ireturn, 1) := by decide +kernel
theorem dL_law_870 : decode cL_law 870 = .ok (.aload_n 1, 1) := by decide +kernel
theorem dL_law_871 : decode cL_law 871 = .ok (.aload_n 0, 1) := by decide +kernel
theorem dL_law_872 : decode cL_law 872 = .ok (.iload_n 3, 1) := by decide +kernel
theorem dL_law_873 : decode cL_law 873 = .ok (.iconst 1, 1) := by decide +kernel
theorem dL_law_874 : decode cL_law 874 = .ok (.iadd, 1) := by decide +kernel
theorem dL_law_875 : decode cL_law 875 = .ok (.iaload, 1) := by decide +kernel
theorem dL_law_876 : decode cL_law 876 = .ok (.invokevirtual 111, 3) := by decide +kernel
theorem dL_law_879 : decode cL_law 879 = .ok (.aload_n 2, 1) := by decide +kernel
theorem dL_law_880 : decode cL_law 880 = .ok (.aload_n 0, 1) := by decide +kernel
theorem dL_law_881 : decode cL_law 881 = .ok (.iload_n 3, 1) := by decide +kernel
theorem dL_law_882 : decode cL_law 882 = .ok (.iconst 1, 1) := by decide +kernel
theorem dL_law_883 : decode cL_law 883 = .ok (.iadd, 1) := by decide +kernel
theorem dL_law_884 : decode cL_law 884 = .ok (.iaload, 1) := by decide +kernel
theorem dL_law_885 : decode cL_law 885 = .ok (.invokevirtual 114, 3) := by decide +kernel
theorem dL_law_888 : decode cL_law 888 = .ok (.lcmp, 1) := by decide +kernel
theorem dL_law_889 : decode cL_law 889 = .ok (.ifCond .eq 29, 3) := by decide +kernel
theorem dL_law_892 : decode cL_law 892 = .ok (.iconst 0, 1) := by decide +kernel
theorem dL_law_893 : decode cL_law 893 = .ok (.ireturn, 1) := by decide +kernel
theorem dL_law_894 : decode cL_law 894 = .ok (.aload_n 1, 1) := by decide +kernel
theorem dL_law_895 : decode cL_law 895 = .ok (.aload_n 0, 1) := by decide +kernel
theorem dL_law_896 : decode cL_law 896 = .ok (.iload_n 3, 1) := by decide +kernel
theorem dL_law_897 : decode cL_law 897 = .ok (.iconst 1, 1) := by decide +kernel
theorem dL_law_898 : decode cL_law 898 = .ok (.iadd, 1) := by decide +kernel
theorem dL_law_899 : decode cL_law 899 = .ok (.iaload, 1) := by decide +kernel
theorem dL_law_900 : decode cL_law 900 = .ok (.invokevirtual 115, 3) := by decide +kernel
theorem dL_law_903 : decode cL_law 903 = .ok (.aload_n 2, 1) := by decide +kernel
theorem dL_law_904 : decode cL_law 904 = .ok (.aload_n 0, 1) := by decide +kernel
theorem dL_law_905 : decode cL_law 905 = .ok (.iload_n 3, 1) := by decide +kernel
theorem dL_law_906 : decode cL_law 906 = .ok (.iconst 1, 1) := by decide +kernel
theorem dL_law_907 : decode cL_law 907 = .ok (.iadd, 1) := by decide +kernel
theorem dL_law_908 : decode cL_law 908 = .ok (.iaload, 1) := by decide +kernel
theorem dL_law_909 : decode cL_law 909 = .ok (.invokevirtual 118, 3) := by decide +kernel
theorem dL_law_912 : decode cL_law 912 = .ok (.lcmp, 1) := by decide +kernel
theorem dL_law_913 : decode cL_law 913 = .ok (.ifCond .eq 5, 3) := by decide +kernel
theorem dL_law_916 : decode cL_law 916 = .ok (.iconst 0, 1) := by decide +kernel
theorem dL_law_917 : decode cL_law 917 = .ok (.ireturn, 1) := by decide +kernel
theorem dL_law_918 : decode cL_law 918 = .ok (.iinc 3 6, 3) := by decide +kernel
theorem dL_law_921 : decode cL_law 921 = .ok (.goto (-903), 3) := by decide +kernel
theorem dL_law_924 : decode cL_law 924 = .ok (.iconst 1, 1) := by decide +kernel
theorem dL_law_925 : decode cL_law 925 = .ok (.ireturn, 1) := by decide +kernel
theorem law_gt {L t : Nat} (h1 : L ≤ 6 * t) (h2 : 6 * t < 2 ^ 30) (h3 : L < 2 ^ 30) : ¬ nI (6 * t) ≤ nI L - 6 := by
  rw [Int32.le_iff_toInt_le, nI_toInt (by omega), show (6 : Int32) = nI 6 from rfl, pk_sub_toInt h3 (by decide)]
  omega
theorem law_le {L t : Nat} (h2 : 6 * t < 2 ^ 30) (h3 : L < 2 ^ 30) (h : nI (6 * t) ≤ nI L - 6) : 6 * t + 6 ≤ L := by
  rw [Int32.le_iff_toInt_le, nI_toInt (by omega), show (6 : Int32) = nI 6 from rfl, pk_sub_toInt h3 (by decide)] at h
  omega
def Zm (K : Kk) (M : Mm) : Prop := M.2 = (fun _ _ => 0) ∧ ∀ b k, M.1 b k = 0 ∨ (k = 1 ∧ isO K b 3)
theorem beA.gr {K K2 : Kk} {R R2 : Rr} {a : Nat} (h : beA K R a) (g : Gr K R K2 R2) : beA K2 R2 a := by
  obtain ⟨h0, r0, r1, r2, r3, r4, r5, r6, r7, r8, r9, r10, r11, r12, r13, a1, a2, a3, a4, a5, a6, a7, a8, a9, a10, a11, a12, a13, a14, a15, a16, a17⟩ := h
  exact ⟨g.1 _ _ h0, g.2.2 _ _ _ r0, g.2.2 _ _ _ r1, g.2.2 _ _ _ r2, g.2.2 _ _ _ r3, g.2.2 _ _ _ r4, g.2.2 _ _ _ r5, g.2.2 _ _ _ r6, g.2.2 _ _ _ r7, g.2.2 _ _ _ r8, g.2.2 _ _ _ r9, g.2.2 _ _ _ r10, g.2.2 _ _ _ r11, g.2.2 _ _ _ r12, g.2.2 _ _ _ r13, a1.gr g, g.2.1 _ _ _ a2, fun p hp => ⟨g.2.2 _ _ _ (a3 p hp).1, (a3 p hp).2.gr g⟩, a4.gr g, g.2.1 _ _ _ a5, fun p hp => ⟨g.2.2 _ _ _ (a6 p hp).1, (a6 p hp).2.gr g⟩, g.2.1 _ _ _ a7, a8.gr g, g.1 _ _ a9, a10.gr g, a11.gr g, a12.gr g, a13.gr g, a14.gr g, a15.gr g, g.2.1 _ _ _ a16, fun p hp => ⟨g.2.2 _ _ _ (a17 p hp).1, (a17 p hp).2.gr g⟩⟩
set_option maxHeartbeats 4000000 in
set_option maxRecDepth 100000 in
/-- the loop of the law -/
theorem law_loop {l : Launch} {G : Gg} {b0 b L : Nat} {xs : Nat → Int32} {w : Wt} {cl sl : Nat} (hw : SyL l G b0 b L xs w) (hL : L ≤ 3072) (hcl : cl ≤ 600000) (hsl : sl ≤ 7302250) (Inv : Kk → Rr → Mm → Prop) (hO : ∀ K R M, Inv K R M → isO K b0 7 ∧ isO K (b0 + 2118) 8) (h_corner : ∀ (K : Kk) (R : Rr) (M : Mm) (a0 a1 : Int32), Inv K R M → ∃ (v : Int64) (M1 : Mm) (M2 : Mm), mX7_corner K R M b0 a0 a1 = some (v, M1) ∧ mX8_corner K R M1 (b0 + 2118) a0 a1 = some (v, M2) ∧ Inv K R M2) (h_figure : ∀ (K : Kk) (R : Rr) (M : Mm) (a0 : Int32), Inv K R M → ∃ (v : Int64) (M1 : Mm) (M2 : Mm), mX7_figure K R M b0 a0 = some (v, M1) ∧ mX8_figure K R M1 (b0 + 2118) a0 = some (v, M2) ∧ Inv K R M2) (h_area : ∀ (K : Kk) (R : Rr) (M : Mm) (a0 : Int32), Inv K R M → ∃ (v : Int64), mX7_area K R M b0 a0 = some (v) ∧ mX8_area K R M (b0 + 2118) a0 = some (v) ∧ Inv K R M) (h_begin : ∀ (K : Kk) (R : Rr) (M : Mm) (a0 : Int32), Inv K R M → ∃ (v : Int64) (R1 : Rr) (M1 : Mm) (M2 : Mm), mX7_begin K R M b0 a0 = some (v, R1, M1) ∧ mX8_begin K R1 M1 (b0 + 2118) a0 = some (v, M2) ∧ Inv K R1 M2) (h_cut : ∀ (K : Kk) (R : Rr) (M : Mm) (a0 a1 a2 a3 : Int32), Inv K R M → ∃ (v : Int64) (R1 : Rr) (M1 : Mm) (M2 : Mm), mX7_cut K R M b0 a0 a1 a2 a3 = some (v, R1, M1) ∧ mX8_cut K R1 M1 (b0 + 2118) a0 a1 a2 a3 = some (v, M2) ∧ Inv K R1 M2) (h_part : ∀ (K : Kk) (R : Rr) (M : Mm) (a0 a1 a2 a3 a4 : Int32), Inv K R M → ∃ (v : Int64) (R1 : Rr) (M1 : Mm) (M2 : Mm), mX7_part K R M b0 a0 a1 a2 a3 a4 = some (v, R1, M1) ∧ mX8_part K R1 M1 (b0 + 2118) a0 a1 a2 a3 a4 = some (v, M2) ∧ Inv K R1 M2) (h_slide : ∀ (K : Kk) (R : Rr) (M : Mm) (a0 a1 a2 : Int32), Inv K R M → ∃ (v : Int64) (R1 : Rr) (M1 : Mm) (M2 : Mm), mX7_slide K R M b0 a0 a1 a2 = some (v, R1, M1) ∧ mX8_slide K R1 M1 (b0 + 2118) a0 a1 a2 = some (v, M2) ∧ Inv K R1 M2) (h_half : ∀ (K : Kk) (R : Rr) (M : Mm) (a0 a1 a2 : Int32), Inv K R M → ∃ (v : Int64) (R1 : Rr) (M1 : Mm) (M2 : Mm), mX7_half K R M b0 a0 a1 a2 = some (v, R1, M1) ∧ mX8_half K R1 M1 (b0 + 2118) a0 a1 a2 = some (v, M2) ∧ Inv K R1 M2) (h_join : ∀ (K : Kk) (R : Rr) (M : Mm) (a0 a1 : Int32), Inv K R M → ∃ (v : Int64) (R1 : Rr) (M1 : Mm) (M2 : Mm), mX7_join K R M b0 a0 a1 = some (v, R1, M1) ∧ mX8_join K R1 M1 (b0 + 2118) a0 a1 = some (v, M2) ∧ Inv K R1 M2) (h_aside : ∀ (K : Kk) (R : Rr) (M : Mm) (a0 a1 : Int32), Inv K R M → ∃ (v : Int64) (R1 : Rr) (M1 : Mm) (M2 : Mm), mX7_aside K R M b0 a0 a1 = some (v, R1, M1) ∧ mX8_aside K R1 M1 (b0 + 2118) a0 a1 = some (v, M2) ∧ Inv K R1 M2) (h_back : ∀ (K : Kk) (R : Rr) (M : Mm), Inv K R M → ∃ (v : Int64) (R1 : Rr) (M1 : Mm) (M2 : Mm), mX7_back K R M b0  = some (v, R1, M1) ∧ mX8_back K R1 M1 (b0 + 2118)  = some (v, M2) ∧ Inv K R1 M2) (h_undo : ∀ (K : Kk) (R : Rr) (M : Mm), Inv K R M → ∃ (v : Int64) (M1 : Mm) (M2 : Mm), mX7_undo K R M b0  = some (v, M1) ∧ mX8_undo K R M1 (b0 + 2118)  = some (v, M2) ∧ Inv K R M2) (h_redo : ∀ (K : Kk) (R : Rr) (M : Mm), Inv K R M → ∃ (v : Int64) (M1 : Mm) (M2 : Mm), mX7_redo K R M b0  = some (v, M1) ∧ mX8_redo K R M1 (b0 + 2118)  = some (v, M2) ∧ Inv K R M2) (h_isOf : ∀ (K : Kk) (R : Rr) (M : Mm) (a0 a1 : Int32), Inv K R M → ∃ (v : Int64) (M2 : Mm), mX7_isOf K R M b0 a0 a1 = some (v) ∧ mX8_isOf K R M (b0 + 2118) a0 a1 = some (v, M2) ∧ Inv K R M2) (h_about : ∀ (K : Kk) (R : Rr) (M : Mm) (a0 a1 : Int32), Inv K R M → ∃ (v : Int64) (M2 : Mm), mX7_about K R M b0 a0 a1 = some (v) ∧ mX8_about K R M (b0 + 2118) a0 a1 = some (v, M2) ∧ Inv K R M2) (h_at : ∀ (K : Kk) (R : Rr) (M : Mm) (a0 a1 a2 : Int32), Inv K R M → ∃ (v : Int64) (M1 : Mm) (M2 : Mm), mX7_at K R M b0 a0 a1 a2 = some (v, M1) ∧ mX8_at K R M1 (b0 + 2118) a0 a1 a2 = some (v, M2) ∧ Inv K R M2) (h_over : ∀ (K : Kk) (R : Rr) (M : Mm) (a0 a1 : Int32), Inv K R M → ∃ (v : Int64) (M1 : Mm) (M2 : Mm), mX7_over K R M b0 a0 a1 = some (v, M1) ∧ mX8_over K R M1 (b0 + 2118) a0 a1 = some (v, M2) ∧ Inv K R M2) (h_find : ∀ (K : Kk) (R : Rr) (M : Mm) (a0 a1 : Int32), Inv K R M → ∃ (v : Int64) (M1 : Mm) (M2 : Mm), mX7_find K R M b0 a0 a1 = some (v, M1) ∧ mX8_find K R M1 (b0 + 2118) a0 a1 = some (v, M2) ∧ Inv K R M2) (h_covers : ∀ (K : Kk) (R : Rr) (M : Mm) (a0 : Int32), Inv K R M → ∃ (v : Int64) (M1 : Mm) (M2 : Mm), mX7_covers K R M b0 a0 = some (v, M1) ∧ mX8_covers K R M1 (b0 + 2118) a0 = some (v, M2) ∧ Inv K R M2) (h_sums : ∀ (K : Kk) (R : Rr) (M : Mm), Inv K R M → ∃ (v : Int64) (M1 : Mm) (M2 : Mm), mX7_sums K R M b0  = some (v, M1) ∧ mX8_sums K R M1 (b0 + 2118)  = some (v, M2) ∧ Inv K R M2) (h_sum : ∀ (K : Kk) (R : Rr) (M : Mm) (a0 a1 : Int32), Inv K R M → ∃ (v : Int64) (M1 : Mm) (M2 : Mm), mX7_sum K R M b0 a0 a1 = some (v, M1) ∧ mX8_sum K R M1 (b0 + 2118) a0 a1 = some (v, M2) ∧ Inv K R M2) (h_shelve : ∀ (K : Kk) (R : Rr) (M : Mm) (a0 : Int32), Inv K R M → ∃ (v : Int64) (M1 : Mm) (M2 : Mm), mX7_shelve K R M b0 a0 = some (v, M1) ∧ mX8_shelve K R M1 (b0 + 2118) a0 = some (v, M2) ∧ Inv K R M2) (h_fetch : ∀ (K : Kk) (R : Rr) (M : Mm) (a0 : Int32), Inv K R M → ∃ (v : Int64) (R1 : Rr) (M1 : Mm) (M2 : Mm), mX7_fetch K R M b0 a0 = some (v, R1, M1) ∧ mX8_fetch K R1 M1 (b0 + 2118) a0 = some (v, M2) ∧ Inv K R1 M2) (h_third : ∀ (K : Kk) (R : Rr) (M : Mm) (a0 : Int32), Inv K R M → ∃ (v : Int64) (R1 : Rr) (M1 : Mm) (M2 : Mm), mX7_third K R M b0 a0 = some (v, R1, M1) ∧ mX8_third K R1 M1 (b0 + 2118) a0 = some (v, M2) ∧ Inv K R1 M2) (h_count : ∀ (K : Kk) (R : Rr) (M : Mm) (a0 : Int32), Inv K R M → ∃ (v : Int64) (M2 : Mm), mX7_count K R M b0 a0 = some (v) ∧ mX8_count K R M (b0 + 2118) a0 = some (v, M2) ∧ Inv K R M2) : ∀ (d t : Nat), L ≤ 6 * (t + d) → 6 * t ≤ L + 6 → ∀ (K : Kk) (R : Rr) (M : Mm), Inv K R M → w cl sl 18 [(0, .ref b), (1, .ref b0), (2, .ref (b0 + 2118)), (3, .int (nI (6 * t)))] [] K R M := by
  have hb := hw.t.b
  intro d
  induction d with
  | zero =>
    intro t h1 h2 K R M hI
    refine r_iload_n hb dL_law_18 3 rfl ?_
    refine r_aload_n hb dL_law_19 0 rfl ?_
    refine r_slen hw dL_law_20 ?_
    refine r_bipush (v := 6) hb dL_law_21 rfl ?_
    refine r_isub hb dL_law_23 ?_
    refine r_icmp_gt (tgt := 924) hb dL_law_24 (by decide) (fun cc => ?_) (fun cc => ?_)
    · refine r_iconst (v := 1) hb dL_law_924 rfl ?_
      exact r_lawret hw hcl hsl dL_law_925
    · exact absurd cc (law_gt (by omega) (by omega) (by omega))
  | succ d ih =>
    intro t h1 h2 K R M hI
    refine r_iload_n hb dL_law_18 3 rfl ?_
    refine r_aload_n hb dL_law_19 0 rfl ?_
    refine r_slen hw dL_law_20 ?_
    refine r_bipush (v := 6) hb dL_law_21 rfl ?_
    refine r_isub hb dL_law_23 ?_
    refine r_icmp_gt (tgt := 924) hb dL_law_24 (by decide) (fun cc => ?_) (fun cc => ?_)
    · refine r_iconst (v := 1) hb dL_law_924 rfl ?_
      exact r_lawret hw hcl hsl dL_law_925
    have h6 : 6 * t + 6 ≤ L := law_le (by omega) (by omega) cc
    have hix : ∀ k : Nat, k < 6 → vp_in (nI (6 * t) + nI k) L := fun k hk => by rw [nI_add]; exact vp_in_nI (by omega) (by omega)
    have next : ∀ (K : Kk) (R : Rr) (M : Mm), Inv K R M → w cl sl 918 [(0, .ref b), (1, .ref b0), (2, .ref (b0 + 2118)), (3, .int (nI (6 * t)))] [] K R M := by
      intro K R M hI
      refine r_iinc (j := 3) (v := nI (6 * (t + 1))) hb dL_law_918 rfl (by rw [show Int32.ofInt 6 = nI 6 from rfl, nI_add]; rfl) (by decide) rfl ?_
      refine r_goto (tgt := 18) hb dL_law_921 (by decide) ?_
      refine r_sub hb [1, 2, 3, 0] (lv' := [(0, .ref b), (1, .ref b0), (2, .ref (b0 + 2118)), (3, .int (nI (6 * (t + 1))))]) rfl ?_
      exact ih (t + 1) (by omega) (by omega) K R M hI
    refine r_aload_n hb dL_law_27 0 rfl ?_
    refine r_iload_n hb dL_law_28 3 rfl ?_
    refine r_sload hw (vp_in_nI (by omega) (by omega)) dL_law_29 ?_
    refine r_bipush (v := 31) hb dL_law_30 rfl ?_
    refine r_iand hb dL_law_32 ?_
    generalize xs (nI (6 * t)).toNatClampNeg &&& 31 = v0
    by_cases c0 : v0 = 0
    · rw [c0]
      refine r_tabIn (tgt := 148) hb dL_law_33 (by decide) (by decide) rfl (by decide) ?_
      obtain ⟨v, M1, M2, g1, g2, hI2⟩ := h_corner K R M (xs (nI (6 * t) + nI 1).toNatClampNeg) (xs (nI (6 * t) + nI 2).toNatClampNeg) hI
      refine r_aload_n hb dL_law_148 1 rfl ?_
      refine r_aload_n hb dL_law_149 0 rfl ?_
      refine r_iload_n hb dL_law_150 3 rfl ?_
      refine r_iconst (v := nI 1) hb dL_law_151 rfl ?_
      refine r_iadd hb dL_law_152 ?_
      refine r_sload hw (hix 1 (by decide)) dL_law_153 ?_
      refine r_aload_n hb dL_law_154 0 rfl ?_
      refine r_iload_n hb dL_law_155 3 rfl ?_
      refine r_iconst (v := nI 2) hb dL_law_156 rfl ?_
      refine r_iadd hb dL_law_157 ?_
      refine r_sload hw (hix 2 (by decide)) dL_law_158 ?_
      refine r_callG hb (tX7_corner l G b0 g1) lB_X7_corner lI_X7_corner mL_L_13 (c := 7) rfl (hO _ _ _ hI).1 rfl (Nat.le_of_ble_eq_true rfl) (Nat.le_of_ble_eq_true rfl) hcl hsl rfl (Nat.le_of_ble_eq_true rfl) dL_law_159 ?_
      refine r_aload_n hb dL_law_162 2 rfl ?_
      refine r_aload_n hb dL_law_163 0 rfl ?_
      refine r_iload_n hb dL_law_164 3 rfl ?_
      refine r_iconst (v := nI 1) hb dL_law_165 rfl ?_
      refine r_iadd hb dL_law_166 ?_
      refine r_sload hw (hix 1 (by decide)) dL_law_167 ?_
      refine r_aload_n hb dL_law_168 0 rfl ?_
      refine r_iload_n hb dL_law_169 3 rfl ?_
      refine r_iconst (v := nI 2) hb dL_law_170 rfl ?_
      refine r_iadd hb dL_law_171 ?_
      refine r_sload hw (hix 2 (by decide)) dL_law_172 ?_
      refine r_callG hb (tX8_corner l G b0 g2) lB_X8_corner lI_X8_corner mL_L_17 (c := 8) rfl (hO _ _ _ hI).2 rfl (Nat.le_of_ble_eq_true rfl) (Nat.le_of_ble_eq_true rfl) hcl hsl rfl (Nat.le_of_ble_eq_true rfl) dL_law_173 ?_
      refine r_lcmp_eq (tgt := 918) hb dL_law_176 dL_law_177 (by decide) (fun _ => ?_) (fun cc => absurd rfl cc)
      exact next _ _ _ hI2
    by_cases c1 : v0 = 1
    · rw [c1]
      refine r_tabIn (tgt := 182) hb dL_law_33 (by decide) (by decide) rfl (by decide) ?_
      obtain ⟨v, M1, M2, g1, g2, hI2⟩ := h_figure K R M (xs (nI (6 * t) + nI 1).toNatClampNeg) hI
      refine r_aload_n hb dL_law_182 1 rfl ?_
      refine r_aload_n hb dL_law_183 0 rfl ?_
      refine r_iload_n hb dL_law_184 3 rfl ?_
      refine r_iconst (v := nI 1) hb dL_law_185 rfl ?_
      refine r_iadd hb dL_law_186 ?_
      refine r_sload hw (hix 1 (by decide)) dL_law_187 ?_
      refine r_callG hb (tX7_figure l G b0 g1) lB_X7_figure lI_X7_figure mL_L_18 (c := 7) rfl (hO _ _ _ hI).1 rfl (Nat.le_of_ble_eq_true rfl) (Nat.le_of_ble_eq_true rfl) hcl hsl rfl (Nat.le_of_ble_eq_true rfl) dL_law_188 ?_
      refine r_aload_n hb dL_law_191 2 rfl ?_
      refine r_aload_n hb dL_law_192 0 rfl ?_
      refine r_iload_n hb dL_law_193 3 rfl ?_
      refine r_iconst (v := nI 1) hb dL_law_194 rfl ?_
      refine r_iadd hb dL_law_195 ?_
      refine r_sload hw (hix 1 (by decide)) dL_law_196 ?_
      refine r_callG hb (tX8_figure l G b0 g2) lB_X8_figure lI_X8_figure mL_L_22 (c := 8) rfl (hO _ _ _ hI).2 rfl (Nat.le_of_ble_eq_true rfl) (Nat.le_of_ble_eq_true rfl) hcl hsl rfl (Nat.le_of_ble_eq_true rfl) dL_law_197 ?_
      refine r_lcmp_eq (tgt := 918) hb dL_law_200 dL_law_201 (by decide) (fun _ => ?_) (fun cc => absurd rfl cc)
      exact next _ _ _ hI2
    by_cases c2 : v0 = 2
    · rw [c2]
      refine r_tabIn (tgt := 206) hb dL_law_33 (by decide) (by decide) rfl (by decide) ?_
      obtain ⟨v, g1, g2, hI2⟩ := h_area K R M (xs (nI (6 * t) + nI 1).toNatClampNeg) hI
      refine r_aload_n hb dL_law_206 1 rfl ?_
      refine r_aload_n hb dL_law_207 0 rfl ?_
      refine r_iload_n hb dL_law_208 3 rfl ?_
      refine r_iconst (v := nI 1) hb dL_law_209 rfl ?_
      refine r_iadd hb dL_law_210 ?_
      refine r_sload hw (hix 1 (by decide)) dL_law_211 ?_
      refine r_callG hb (tX7_area l G b0 g1) lB_X7_area lI_X7_area mL_L_23 (c := 7) rfl (hO _ _ _ hI).1 rfl (Nat.le_of_ble_eq_true rfl) (Nat.le_of_ble_eq_true rfl) hcl hsl rfl (Nat.le_of_ble_eq_true rfl) dL_law_212 ?_
      refine r_aload_n hb dL_law_215 2 rfl ?_
      refine r_aload_n hb dL_law_216 0 rfl ?_
      refine r_iload_n hb dL_law_217 3 rfl ?_
      refine r_iconst (v := nI 1) hb dL_law_218 rfl ?_
      refine r_iadd hb dL_law_219 ?_
      refine r_sload hw (hix 1 (by decide)) dL_law_220 ?_
      refine r_callG hb (tX8_area l G b0 g2) lB_X8_area lI_X8_area mL_L_26 (c := 8) rfl (hO _ _ _ hI).2 rfl (Nat.le_of_ble_eq_true rfl) (Nat.le_of_ble_eq_true rfl) hcl hsl rfl (Nat.le_of_ble_eq_true rfl) dL_law_221 ?_
      refine r_lcmp_eq (tgt := 918) hb dL_law_224 dL_law_225 (by decide) (fun _ => ?_) (fun cc => absurd rfl cc)
      exact next _ _ _ hI2
    by_cases c3 : v0 = 3
    · rw [c3]
      refine r_tabIn (tgt := 230) hb dL_law_33 (by decide) (by decide) rfl (by decide) ?_
      obtain ⟨v, R1, M1, M2, g1, g2, hI2⟩ := h_begin K R M (xs (nI (6 * t) + nI 1).toNatClampNeg) hI
      refine r_aload_n hb dL_law_230 1 rfl ?_
      refine r_aload_n hb dL_law_231 0 rfl ?_
      refine r_iload_n hb dL_law_232 3 rfl ?_
      refine r_iconst (v := nI 1) hb dL_law_233 rfl ?_
      refine r_iadd hb dL_law_234 ?_
      refine r_sload hw (hix 1 (by decide)) dL_law_235 ?_
      refine r_callG hb (tX7_begin l G b0 g1) lB_X7_begin lI_X7_begin mL_L_27 (c := 7) rfl (hO _ _ _ hI).1 rfl (Nat.le_of_ble_eq_true rfl) (Nat.le_of_ble_eq_true rfl) hcl hsl rfl (Nat.le_of_ble_eq_true rfl) dL_law_236 ?_
      refine r_aload_n hb dL_law_239 2 rfl ?_
      refine r_aload_n hb dL_law_240 0 rfl ?_
      refine r_iload_n hb dL_law_241 3 rfl ?_
      refine r_iconst (v := nI 1) hb dL_law_242 rfl ?_
      refine r_iadd hb dL_law_243 ?_
      refine r_sload hw (hix 1 (by decide)) dL_law_244 ?_
      refine r_callG hb (tX8_begin l G b0 g2) lB_X8_begin lI_X8_begin mL_L_30 (c := 8) rfl (hO _ _ _ hI).2 rfl (Nat.le_of_ble_eq_true rfl) (Nat.le_of_ble_eq_true rfl) hcl hsl rfl (Nat.le_of_ble_eq_true rfl) dL_law_245 ?_
      refine r_lcmp_eq (tgt := 918) hb dL_law_248 dL_law_249 (by decide) (fun _ => ?_) (fun cc => absurd rfl cc)
      exact next _ _ _ hI2
    by_cases c4 : v0 = 4
    · rw [c4]
      refine r_tabIn (tgt := 254) hb dL_law_33 (by decide) (by decide) rfl (by decide) ?_
      obtain ⟨v, R1, M1, M2, g1, g2, hI2⟩ := h_cut K R M (xs (nI (6 * t) + nI 1).toNatClampNeg) (xs (nI (6 * t) + nI 2).toNatClampNeg) (xs (nI (6 * t) + nI 3).toNatClampNeg) (xs (nI (6 * t) + nI 4).toNatClampNeg) hI
      refine r_aload_n hb dL_law_254 1 rfl ?_
      refine r_aload_n hb dL_law_255 0 rfl ?_
      refine r_iload_n hb dL_law_256 3 rfl ?_
      refine r_iconst (v := nI 1) hb dL_law_257 rfl ?_
      refine r_iadd hb dL_law_258 ?_
      refine r_sload hw (hix 1 (by decide)) dL_law_259 ?_
      refine r_aload_n hb dL_law_260 0 rfl ?_
      refine r_iload_n hb dL_law_261 3 rfl ?_
      refine r_iconst (v := nI 2) hb dL_law_262 rfl ?_
      refine r_iadd hb dL_law_263 ?_
      refine r_sload hw (hix 2 (by decide)) dL_law_264 ?_
      refine r_aload_n hb dL_law_265 0 rfl ?_
      refine r_iload_n hb dL_law_266 3 rfl ?_
      refine r_iconst (v := nI 3) hb dL_law_267 rfl ?_
      refine r_iadd hb dL_law_268 ?_
      refine r_sload hw (hix 3 (by decide)) dL_law_269 ?_
      refine r_aload_n hb dL_law_270 0 rfl ?_
      refine r_iload_n hb dL_law_271 3 rfl ?_
      refine r_iconst (v := nI 4) hb dL_law_272 rfl ?_
      refine r_iadd hb dL_law_273 ?_
      refine r_sload hw (hix 4 (by decide)) dL_law_274 ?_
      refine r_callG hb (tX7_cut l G b0 g1) lB_X7_cut lI_X7_cut mL_L_31 (c := 7) rfl (hO _ _ _ hI).1 rfl (Nat.le_of_ble_eq_true rfl) (Nat.le_of_ble_eq_true rfl) hcl hsl rfl (Nat.le_of_ble_eq_true rfl) dL_law_275 ?_
      refine r_aload_n hb dL_law_278 2 rfl ?_
      refine r_aload_n hb dL_law_279 0 rfl ?_
      refine r_iload_n hb dL_law_280 3 rfl ?_
      refine r_iconst (v := nI 1) hb dL_law_281 rfl ?_
      refine r_iadd hb dL_law_282 ?_
      refine r_sload hw (hix 1 (by decide)) dL_law_283 ?_
      refine r_aload_n hb dL_law_284 0 rfl ?_
      refine r_iload_n hb dL_law_285 3 rfl ?_
      refine r_iconst (v := nI 2) hb dL_law_286 rfl ?_
      refine r_iadd hb dL_law_287 ?_
      refine r_sload hw (hix 2 (by decide)) dL_law_288 ?_
      refine r_aload_n hb dL_law_289 0 rfl ?_
      refine r_iload_n hb dL_law_290 3 rfl ?_
      refine r_iconst (v := nI 3) hb dL_law_291 rfl ?_
      refine r_iadd hb dL_law_292 ?_
      refine r_sload hw (hix 3 (by decide)) dL_law_293 ?_
      refine r_aload_n hb dL_law_294 0 rfl ?_
      refine r_iload_n hb dL_law_295 3 rfl ?_
      refine r_iconst (v := nI 4) hb dL_law_296 rfl ?_
      refine r_iadd hb dL_law_297 ?_
      refine r_sload hw (hix 4 (by decide)) dL_law_298 ?_
      refine r_callG hb (tX8_cut l G b0 g2) lB_X8_cut lI_X8_cut mL_L_35 (c := 8) rfl (hO _ _ _ hI).2 rfl (Nat.le_of_ble_eq_true rfl) (Nat.le_of_ble_eq_true rfl) hcl hsl rfl (Nat.le_of_ble_eq_true rfl) dL_law_299 ?_
      refine r_lcmp_eq (tgt := 918) hb dL_law_302 dL_law_303 (by decide) (fun _ => ?_) (fun cc => absurd rfl cc)
      exact next _ _ _ hI2
    by_cases c5 : v0 = 5
    · rw [c5]
      refine r_tabIn (tgt := 308) hb dL_law_33 (by decide) (by decide) rfl (by decide) ?_
      obtain ⟨v, R1, M1, M2, g1, g2, hI2⟩ := h_part K R M (xs (nI (6 * t) + nI 1).toNatClampNeg) (xs (nI (6 * t) + nI 2).toNatClampNeg) (xs (nI (6 * t) + nI 3).toNatClampNeg) (xs (nI (6 * t) + nI 4).toNatClampNeg) (xs (nI (6 * t) + nI 5).toNatClampNeg) hI
      refine r_aload_n hb dL_law_308 1 rfl ?_
      refine r_aload_n hb dL_law_309 0 rfl ?_
      refine r_iload_n hb dL_law_310 3 rfl ?_
      refine r_iconst (v := nI 1) hb dL_law_311 rfl ?_
      refine r_iadd hb dL_law_312 ?_
      refine r_sload hw (hix 1 (by decide)) dL_law_313 ?_
      refine r_aload_n hb dL_law_314 0 rfl ?_
      refine r_iload_n hb dL_law_315 3 rfl ?_
      refine r_iconst (v := nI 2) hb dL_law_316 rfl ?_
      refine r_iadd hb dL_law_317 ?_
      refine r_sload hw (hix 2 (by decide)) dL_law_318 ?_
      refine r_aload_n hb dL_law_319 0 rfl ?_
      refine r_iload_n hb dL_law_320 3 rfl ?_
      refine r_iconst (v := nI 3) hb dL_law_321 rfl ?_
      refine r_iadd hb dL_law_322 ?_
      refine r_sload hw (hix 3 (by decide)) dL_law_323 ?_
      refine r_aload_n hb dL_law_324 0 rfl ?_
      refine r_iload_n hb dL_law_325 3 rfl ?_
      refine r_iconst (v := nI 4) hb dL_law_326 rfl ?_
      refine r_iadd hb dL_law_327 ?_
      refine r_sload hw (hix 4 (by decide)) dL_law_328 ?_
      refine r_aload_n hb dL_law_329 0 rfl ?_
      refine r_iload_n hb dL_law_330 3 rfl ?_
      refine r_iconst (v := nI 5) hb dL_law_331 rfl ?_
      refine r_iadd hb dL_law_332 ?_
      refine r_sload hw (hix 5 (by decide)) dL_law_333 ?_
      refine r_callG hb (tX7_part l G b0 g1) lB_X7_part lI_X7_part mL_L_36 (c := 7) rfl (hO _ _ _ hI).1 rfl (Nat.le_of_ble_eq_true rfl) (Nat.le_of_ble_eq_true rfl) hcl hsl rfl (Nat.le_of_ble_eq_true rfl) dL_law_334 ?_
      refine r_aload_n hb dL_law_337 2 rfl ?_
      refine r_aload_n hb dL_law_338 0 rfl ?_
      refine r_iload_n hb dL_law_339 3 rfl ?_
      refine r_iconst (v := nI 1) hb dL_law_340 rfl ?_
      refine r_iadd hb dL_law_341 ?_
      refine r_sload hw (hix 1 (by decide)) dL_law_342 ?_
      refine r_aload_n hb dL_law_343 0 rfl ?_
      refine r_iload_n hb dL_law_344 3 rfl ?_
      refine r_iconst (v := nI 2) hb dL_law_345 rfl ?_
      refine r_iadd hb dL_law_346 ?_
      refine r_sload hw (hix 2 (by decide)) dL_law_347 ?_
      refine r_aload_n hb dL_law_348 0 rfl ?_
      refine r_iload_n hb dL_law_349 3 rfl ?_
      refine r_iconst (v := nI 3) hb dL_law_350 rfl ?_
      refine r_iadd hb dL_law_351 ?_
      refine r_sload hw (hix 3 (by decide)) dL_law_352 ?_
      refine r_aload_n hb dL_law_353 0 rfl ?_
      refine r_iload_n hb dL_law_354 3 rfl ?_
      refine r_iconst (v := nI 4) hb dL_law_355 rfl ?_
      refine r_iadd hb dL_law_356 ?_
      refine r_sload hw (hix 4 (by decide)) dL_law_357 ?_
      refine r_aload_n hb dL_law_358 0 rfl ?_
      refine r_iload_n hb dL_law_359 3 rfl ?_
      refine r_iconst (v := nI 5) hb dL_law_360 rfl ?_
      refine r_iadd hb dL_law_361 ?_
      refine r_sload hw (hix 5 (by decide)) dL_law_362 ?_
      refine r_callG hb (tX8_part l G b0 g2) lB_X8_part lI_X8_part mL_L_40 (c := 8) rfl (hO _ _ _ hI).2 rfl (Nat.le_of_ble_eq_true rfl) (Nat.le_of_ble_eq_true rfl) hcl hsl rfl (Nat.le_of_ble_eq_true rfl) dL_law_363 ?_
      refine r_lcmp_eq (tgt := 918) hb dL_law_366 dL_law_367 (by decide) (fun _ => ?_) (fun cc => absurd rfl cc)
      exact next _ _ _ hI2
    by_cases c6 : v0 = 6
    · rw [c6]
      refine r_tabIn (tgt := 372) hb dL_law_33 (by decide) (by decide) rfl (by decide) ?_
      obtain ⟨v, R1, M1, M2, g1, g2, hI2⟩ := h_slide K R M (xs (nI (6 * t) + nI 1).toNatClampNeg) (xs (nI (6 * t) + nI 2).toNatClampNeg) (xs (nI (6 * t) + nI 3).toNatClampNeg) hI
      refine r_aload_n hb dL_law_372 1 rfl ?_
      refine r_aload_n hb dL_law_373 0 rfl ?_
      refine r_iload_n hb dL_law_374 3 rfl ?_
      refine r_iconst (v := nI 1) hb dL_law_375 rfl ?_
      refine r_iadd hb dL_law_376 ?_
      refine r_sload hw (hix 1 (by decide)) dL_law_377 ?_
      refine r_aload_n hb dL_law_378 0 rfl ?_
      refine r_iload_n hb dL_law_379 3 rfl ?_
      refine r_iconst (v := nI 2) hb dL_law_380 rfl ?_
      refine r_iadd hb dL_law_381 ?_
      refine r_sload hw (hix 2 (by decide)) dL_law_382 ?_
      refine r_aload_n hb dL_law_383 0 rfl ?_
      refine r_iload_n hb dL_law_384 3 rfl ?_
      refine r_iconst (v := nI 3) hb dL_law_385 rfl ?_
      refine r_iadd hb dL_law_386 ?_
      refine r_sload hw (hix 3 (by decide)) dL_law_387 ?_
      refine r_callG hb (tX7_slide l G b0 g1) lB_X7_slide lI_X7_slide mL_L_41 (c := 7) rfl (hO _ _ _ hI).1 rfl (Nat.le_of_ble_eq_true rfl) (Nat.le_of_ble_eq_true rfl) hcl hsl rfl (Nat.le_of_ble_eq_true rfl) dL_law_388 ?_
      refine r_aload_n hb dL_law_391 2 rfl ?_
      refine r_aload_n hb dL_law_392 0 rfl ?_
      refine r_iload_n hb dL_law_393 3 rfl ?_
      refine r_iconst (v := nI 1) hb dL_law_394 rfl ?_
      refine r_iadd hb dL_law_395 ?_
      refine r_sload hw (hix 1 (by decide)) dL_law_396 ?_
      refine r_aload_n hb dL_law_397 0 rfl ?_
      refine r_iload_n hb dL_law_398 3 rfl ?_
      refine r_iconst (v := nI 2) hb dL_law_399 rfl ?_
      refine r_iadd hb dL_law_400 ?_
      refine r_sload hw (hix 2 (by decide)) dL_law_401 ?_
      refine r_aload_n hb dL_law_402 0 rfl ?_
      refine r_iload_n hb dL_law_403 3 rfl ?_
      refine r_iconst (v := nI 3) hb dL_law_404 rfl ?_
      refine r_iadd hb dL_law_405 ?_
      refine r_sload hw (hix 3 (by decide)) dL_law_406 ?_
      refine r_callG hb (tX8_slide l G b0 g2) lB_X8_slide lI_X8_slide mL_L_45 (c := 8) rfl (hO _ _ _ hI).2 rfl (Nat.le_of_ble_eq_true rfl) (Nat.le_of_ble_eq_true rfl) hcl hsl rfl (Nat.le_of_ble_eq_true rfl) dL_law_407 ?_
      refine r_lcmp_eq (tgt := 918) hb dL_law_410 dL_law_411 (by decide) (fun _ => ?_) (fun cc => absurd rfl cc)
      exact next _ _ _ hI2
    by_cases c7 : v0 = 7
    · rw [c7]
      refine r_tabIn (tgt := 416) hb dL_law_33 (by decide) (by decide) rfl (by decide) ?_
      obtain ⟨v, R1, M1, M2, g1, g2, hI2⟩ := h_half K R M (xs (nI (6 * t) + nI 1).toNatClampNeg) (xs (nI (6 * t) + nI 2).toNatClampNeg) (xs (nI (6 * t) + nI 3).toNatClampNeg) hI
      refine r_aload_n hb dL_law_416 1 rfl ?_
      refine r_aload_n hb dL_law_417 0 rfl ?_
      refine r_iload_n hb dL_law_418 3 rfl ?_
      refine r_iconst (v := nI 1) hb dL_law_419 rfl ?_
      refine r_iadd hb dL_law_420 ?_
      refine r_sload hw (hix 1 (by decide)) dL_law_421 ?_
      refine r_aload_n hb dL_law_422 0 rfl ?_
      refine r_iload_n hb dL_law_423 3 rfl ?_
      refine r_iconst (v := nI 2) hb dL_law_424 rfl ?_
      refine r_iadd hb dL_law_425 ?_
      refine r_sload hw (hix 2 (by decide)) dL_law_426 ?_
      refine r_aload_n hb dL_law_427 0 rfl ?_
      refine r_iload_n hb dL_law_428 3 rfl ?_
      refine r_iconst (v := nI 3) hb dL_law_429 rfl ?_
      refine r_iadd hb dL_law_430 ?_
      refine r_sload hw (hix 3 (by decide)) dL_law_431 ?_
      refine r_callG hb (tX7_half l G b0 g1) lB_X7_half lI_X7_half mL_L_46 (c := 7) rfl (hO _ _ _ hI).1 rfl (Nat.le_of_ble_eq_true rfl) (Nat.le_of_ble_eq_true rfl) hcl hsl rfl (Nat.le_of_ble_eq_true rfl) dL_law_432 ?_
      refine r_aload_n hb dL_law_435 2 rfl ?_
      refine r_aload_n hb dL_law_436 0 rfl ?_
      refine r_iload_n hb dL_law_437 3 rfl ?_
      refine r_iconst (v := nI 1) hb dL_law_438 rfl ?_
      refine r_iadd hb dL_law_439 ?_
      refine r_sload hw (hix 1 (by decide)) dL_law_440 ?_
      refine r_aload_n hb dL_law_441 0 rfl ?_
      refine r_iload_n hb dL_law_442 3 rfl ?_
      refine r_iconst (v := nI 2) hb dL_law_443 rfl ?_
      refine r_iadd hb dL_law_444 ?_
      refine r_sload hw (hix 2 (by decide)) dL_law_445 ?_
      refine r_aload_n hb dL_law_446 0 rfl ?_
      refine r_iload_n hb dL_law_447 3 rfl ?_
      refine r_iconst (v := nI 3) hb dL_law_448 rfl ?_
      refine r_iadd hb dL_law_449 ?_
      refine r_sload hw (hix 3 (by decide)) dL_law_450 ?_
      refine r_callG hb (tX8_half l G b0 g2) lB_X8_half lI_X8_half mL_L_49 (c := 8) rfl (hO _ _ _ hI).2 rfl (Nat.le_of_ble_eq_true rfl) (Nat.le_of_ble_eq_true rfl) hcl hsl rfl (Nat.le_of_ble_eq_true rfl) dL_law_451 ?_
      refine r_lcmp_eq (tgt := 918) hb dL_law_454 dL_law_455 (by decide) (fun _ => ?_) (fun cc => absurd rfl cc)
      exact next _ _ _ hI2
    by_cases c8 : v0 = 8
    · rw [c8]
      refine r_tabIn (tgt := 460) hb dL_law_33 (by decide) (by decide) rfl (by decide) ?_
      obtain ⟨v, R1, M1, M2, g1, g2, hI2⟩ := h_join K R M (xs (nI (6 * t) + nI 1).toNatClampNeg) (xs (nI (6 * t) + nI 2).toNatClampNeg) hI
      refine r_aload_n hb dL_law_460 1 rfl ?_
      refine r_aload_n hb dL_law_461 0 rfl ?_
      refine r_iload_n hb dL_law_462 3 rfl ?_
      refine r_iconst (v := nI 1) hb dL_law_463 rfl ?_
      refine r_iadd hb dL_law_464 ?_
      refine r_sload hw (hix 1 (by decide)) dL_law_465 ?_
      refine r_aload_n hb dL_law_466 0 rfl ?_
      refine r_iload_n hb dL_law_467 3 rfl ?_
      refine r_iconst (v := nI 2) hb dL_law_468 rfl ?_
      refine r_iadd hb dL_law_469 ?_
      refine r_sload hw (hix 2 (by decide)) dL_law_470 ?_
      refine r_callG hb (tX7_join l G b0 g1) lB_X7_join lI_X7_join mL_L_50 (c := 7) rfl (hO _ _ _ hI).1 rfl (Nat.le_of_ble_eq_true rfl) (Nat.le_of_ble_eq_true rfl) hcl hsl rfl (Nat.le_of_ble_eq_true rfl) dL_law_471 ?_
      refine r_aload_n hb dL_law_474 2 rfl ?_
      refine r_aload_n hb dL_law_475 0 rfl ?_
      refine r_iload_n hb dL_law_476 3 rfl ?_
      refine r_iconst (v := nI 1) hb dL_law_477 rfl ?_
      refine r_iadd hb dL_law_478 ?_
      refine r_sload hw (hix 1 (by decide)) dL_law_479 ?_
      refine r_aload_n hb dL_law_480 0 rfl ?_
      refine r_iload_n hb dL_law_481 3 rfl ?_
      refine r_iconst (v := nI 2) hb dL_law_482 rfl ?_
      refine r_iadd hb dL_law_483 ?_
      refine r_sload hw (hix 2 (by decide)) dL_law_484 ?_
      refine r_callG hb (tX8_join l G b0 g2) lB_X8_join lI_X8_join mL_L_53 (c := 8) rfl (hO _ _ _ hI).2 rfl (Nat.le_of_ble_eq_true rfl) (Nat.le_of_ble_eq_true rfl) hcl hsl rfl (Nat.le_of_ble_eq_true rfl) dL_law_485 ?_
      refine r_lcmp_eq (tgt := 918) hb dL_law_488 dL_law_489 (by decide) (fun _ => ?_) (fun cc => absurd rfl cc)
      exact next _ _ _ hI2
    by_cases c9 : v0 = 9
    · rw [c9]
      refine r_tabIn (tgt := 494) hb dL_law_33 (by decide) (by decide) rfl (by decide) ?_
      obtain ⟨v, R1, M1, M2, g1, g2, hI2⟩ := h_aside K R M (xs (nI (6 * t) + nI 1).toNatClampNeg) (xs (nI (6 * t) + nI 2).toNatClampNeg) hI
      refine r_aload_n hb dL_law_494 1 rfl ?_
      refine r_aload_n hb dL_law_495 0 rfl ?_
      refine r_iload_n hb dL_law_496 3 rfl ?_
      refine r_iconst (v := nI 1) hb dL_law_497 rfl ?_
      refine r_iadd hb dL_law_498 ?_
      refine r_sload hw (hix 1 (by decide)) dL_law_499 ?_
      refine r_aload_n hb dL_law_500 0 rfl ?_
      refine r_iload_n hb dL_law_501 3 rfl ?_
      refine r_iconst (v := nI 2) hb dL_law_502 rfl ?_
      refine r_iadd hb dL_law_503 ?_
      refine r_sload hw (hix 2 (by decide)) dL_law_504 ?_
      refine r_callG hb (tX7_aside l G b0 g1) lB_X7_aside lI_X7_aside mL_L_54 (c := 7) rfl (hO _ _ _ hI).1 rfl (Nat.le_of_ble_eq_true rfl) (Nat.le_of_ble_eq_true rfl) hcl hsl rfl (Nat.le_of_ble_eq_true rfl) dL_law_505 ?_
      refine r_aload_n hb dL_law_508 2 rfl ?_
      refine r_aload_n hb dL_law_509 0 rfl ?_
      refine r_iload_n hb dL_law_510 3 rfl ?_
      refine r_iconst (v := nI 1) hb dL_law_511 rfl ?_
      refine r_iadd hb dL_law_512 ?_
      refine r_sload hw (hix 1 (by decide)) dL_law_513 ?_
      refine r_aload_n hb dL_law_514 0 rfl ?_
      refine r_iload_n hb dL_law_515 3 rfl ?_
      refine r_iconst (v := nI 2) hb dL_law_516 rfl ?_
      refine r_iadd hb dL_law_517 ?_
      refine r_sload hw (hix 2 (by decide)) dL_law_518 ?_
      refine r_callG hb (tX8_aside l G b0 g2) lB_X8_aside lI_X8_aside mL_L_57 (c := 8) rfl (hO _ _ _ hI).2 rfl (Nat.le_of_ble_eq_true rfl) (Nat.le_of_ble_eq_true rfl) hcl hsl rfl (Nat.le_of_ble_eq_true rfl) dL_law_519 ?_
      refine r_lcmp_eq (tgt := 918) hb dL_law_522 dL_law_523 (by decide) (fun _ => ?_) (fun cc => absurd rfl cc)
      exact next _ _ _ hI2
    by_cases c10 : v0 = 10
    · rw [c10]
      refine r_tabIn (tgt := 528) hb dL_law_33 (by decide) (by decide) rfl (by decide) ?_
      obtain ⟨v, R1, M1, M2, g1, g2, hI2⟩ := h_back K R M  hI
      refine r_aload_n hb dL_law_528 1 rfl ?_
      refine r_callG hb (tX7_back l G b0 g1) lB_X7_back lI_X7_back mL_L_58 (c := 7) rfl (hO _ _ _ hI).1 rfl (Nat.le_of_ble_eq_true rfl) (Nat.le_of_ble_eq_true rfl) hcl hsl rfl (Nat.le_of_ble_eq_true rfl) dL_law_529 ?_
      refine r_aload_n hb dL_law_532 2 rfl ?_
      refine r_callG hb (tX8_back l G b0 g2) lB_X8_back lI_X8_back mL_L_62 (c := 8) rfl (hO _ _ _ hI).2 rfl (Nat.le_of_ble_eq_true rfl) (Nat.le_of_ble_eq_true rfl) hcl hsl rfl (Nat.le_of_ble_eq_true rfl) dL_law_533 ?_
      refine r_lcmp_eq (tgt := 918) hb dL_law_536 dL_law_537 (by decide) (fun _ => ?_) (fun cc => absurd rfl cc)
      exact next _ _ _ hI2
    by_cases c11 : v0 = 11
    · rw [c11]
      refine r_tabIn (tgt := 542) hb dL_law_33 (by decide) (by decide) rfl (by decide) ?_
      obtain ⟨v, M1, M2, g1, g2, hI2⟩ := h_undo K R M  hI
      refine r_aload_n hb dL_law_542 1 rfl ?_
      refine r_callG hb (tX7_undo l G b0 g1) lB_X7_undo lI_X7_undo mL_L_63 (c := 7) rfl (hO _ _ _ hI).1 rfl (Nat.le_of_ble_eq_true rfl) (Nat.le_of_ble_eq_true rfl) hcl hsl rfl (Nat.le_of_ble_eq_true rfl) dL_law_543 ?_
      refine r_aload_n hb dL_law_546 2 rfl ?_
      refine r_callG hb (tX8_undo l G b0 g2) lB_X8_undo lI_X8_undo mL_L_66 (c := 8) rfl (hO _ _ _ hI).2 rfl (Nat.le_of_ble_eq_true rfl) (Nat.le_of_ble_eq_true rfl) hcl hsl rfl (Nat.le_of_ble_eq_true rfl) dL_law_547 ?_
      refine r_lcmp_eq (tgt := 918) hb dL_law_550 dL_law_551 (by decide) (fun _ => ?_) (fun cc => absurd rfl cc)
      exact next _ _ _ hI2
    by_cases c12 : v0 = 12
    · rw [c12]
      refine r_tabIn (tgt := 556) hb dL_law_33 (by decide) (by decide) rfl (by decide) ?_
      obtain ⟨v, M1, M2, g1, g2, hI2⟩ := h_redo K R M  hI
      refine r_aload_n hb dL_law_556 1 rfl ?_
      refine r_callG hb (tX7_redo l G b0 g1) lB_X7_redo lI_X7_redo mL_L_67 (c := 7) rfl (hO _ _ _ hI).1 rfl (Nat.le_of_ble_eq_true rfl) (Nat.le_of_ble_eq_true rfl) hcl hsl rfl (Nat.le_of_ble_eq_true rfl) dL_law_557 ?_
      refine r_aload_n hb dL_law_560 2 rfl ?_
      refine r_callG hb (tX8_redo l G b0 g2) lB_X8_redo lI_X8_redo mL_L_70 (c := 8) rfl (hO _ _ _ hI).2 rfl (Nat.le_of_ble_eq_true rfl) (Nat.le_of_ble_eq_true rfl) hcl hsl rfl (Nat.le_of_ble_eq_true rfl) dL_law_561 ?_
      refine r_lcmp_eq (tgt := 918) hb dL_law_564 dL_law_565 (by decide) (fun _ => ?_) (fun cc => absurd rfl cc)
      exact next _ _ _ hI2
    by_cases c13 : v0 = 13
    · rw [c13]
      refine r_tabIn (tgt := 570) hb dL_law_33 (by decide) (by decide) rfl (by decide) ?_
      obtain ⟨v, M2, g1, g2, hI2⟩ := h_isOf K R M (xs (nI (6 * t) + nI 1).toNatClampNeg) (xs (nI (6 * t) + nI 2).toNatClampNeg) hI
      refine r_aload_n hb dL_law_570 1 rfl ?_
      refine r_aload_n hb dL_law_571 0 rfl ?_
      refine r_iload_n hb dL_law_572 3 rfl ?_
      refine r_iconst (v := nI 1) hb dL_law_573 rfl ?_
      refine r_iadd hb dL_law_574 ?_
      refine r_sload hw (hix 1 (by decide)) dL_law_575 ?_
      refine r_aload_n hb dL_law_576 0 rfl ?_
      refine r_iload_n hb dL_law_577 3 rfl ?_
      refine r_iconst (v := nI 2) hb dL_law_578 rfl ?_
      refine r_iadd hb dL_law_579 ?_
      refine r_sload hw (hix 2 (by decide)) dL_law_580 ?_
      refine r_callG hb (tX7_isOf l G b0 g1) lB_X7_isOf lI_X7_isOf mL_L_71 (c := 7) rfl (hO _ _ _ hI).1 rfl (Nat.le_of_ble_eq_true rfl) (Nat.le_of_ble_eq_true rfl) hcl hsl rfl (Nat.le_of_ble_eq_true rfl) dL_law_581 ?_
      refine r_aload_n hb dL_law_584 2 rfl ?_
      refine r_aload_n hb dL_law_585 0 rfl ?_
      refine r_iload_n hb dL_law_586 3 rfl ?_
      refine r_iconst (v := nI 1) hb dL_law_587 rfl ?_
      refine r_iadd hb dL_law_588 ?_
      refine r_sload hw (hix 1 (by decide)) dL_law_589 ?_
      refine r_aload_n hb dL_law_590 0 rfl ?_
      refine r_iload_n hb dL_law_591 3 rfl ?_
      refine r_iconst (v := nI 2) hb dL_law_592 rfl ?_
      refine r_iadd hb dL_law_593 ?_
      refine r_sload hw (hix 2 (by decide)) dL_law_594 ?_
      refine r_callG hb (tX8_isOf l G b0 g2) lB_X8_isOf lI_X8_isOf mL_L_74 (c := 8) rfl (hO _ _ _ hI).2 rfl (Nat.le_of_ble_eq_true rfl) (Nat.le_of_ble_eq_true rfl) hcl hsl rfl (Nat.le_of_ble_eq_true rfl) dL_law_595 ?_
      refine r_lcmp_eq (tgt := 918) hb dL_law_598 dL_law_599 (by decide) (fun _ => ?_) (fun cc => absurd rfl cc)
      exact next _ _ _ hI2
    by_cases c14 : v0 = 14
    · rw [c14]
      refine r_tabIn (tgt := 604) hb dL_law_33 (by decide) (by decide) rfl (by decide) ?_
      obtain ⟨v, M2, g1, g2, hI2⟩ := h_about K R M (xs (nI (6 * t) + nI 1).toNatClampNeg) (xs (nI (6 * t) + nI 2).toNatClampNeg) hI
      refine r_aload_n hb dL_law_604 1 rfl ?_
      refine r_aload_n hb dL_law_605 0 rfl ?_
      refine r_iload_n hb dL_law_606 3 rfl ?_
      refine r_iconst (v := nI 1) hb dL_law_607 rfl ?_
      refine r_iadd hb dL_law_608 ?_
      refine r_sload hw (hix 1 (by decide)) dL_law_609 ?_
      refine r_aload_n hb dL_law_610 0 rfl ?_
      refine r_iload_n hb dL_law_611 3 rfl ?_
      refine r_iconst (v := nI 2) hb dL_law_612 rfl ?_
      refine r_iadd hb dL_law_613 ?_
      refine r_sload hw (hix 2 (by decide)) dL_law_614 ?_
      refine r_callG hb (tX7_about l G b0 g1) lB_X7_about lI_X7_about mL_L_75 (c := 7) rfl (hO _ _ _ hI).1 rfl (Nat.le_of_ble_eq_true rfl) (Nat.le_of_ble_eq_true rfl) hcl hsl rfl (Nat.le_of_ble_eq_true rfl) dL_law_615 ?_
      refine r_aload_n hb dL_law_618 2 rfl ?_
      refine r_aload_n hb dL_law_619 0 rfl ?_
      refine r_iload_n hb dL_law_620 3 rfl ?_
      refine r_iconst (v := nI 1) hb dL_law_621 rfl ?_
      refine r_iadd hb dL_law_622 ?_
      refine r_sload hw (hix 1 (by decide)) dL_law_623 ?_
      refine r_aload_n hb dL_law_624 0 rfl ?_
      refine r_iload_n hb dL_law_625 3 rfl ?_
      refine r_iconst (v := nI 2) hb dL_law_626 rfl ?_
      refine r_iadd hb dL_law_627 ?_
      refine r_sload hw (hix 2 (by decide)) dL_law_628 ?_
      refine r_callG hb (tX8_about l G b0 g2) lB_X8_about lI_X8_about mL_L_78 (c := 8) rfl (hO _ _ _ hI).2 rfl (Nat.le_of_ble_eq_true rfl) (Nat.le_of_ble_eq_true rfl) hcl hsl rfl (Nat.le_of_ble_eq_true rfl) dL_law_629 ?_
      refine r_lcmp_eq (tgt := 918) hb dL_law_632 dL_law_633 (by decide) (fun _ => ?_) (fun cc => absurd rfl cc)
      exact next _ _ _ hI2
    by_cases c15 : v0 = 15
    · rw [c15]
      refine r_tabIn (tgt := 638) hb dL_law_33 (by decide) (by decide) rfl (by decide) ?_
      obtain ⟨v, M1, M2, g1, g2, hI2⟩ := h_at K R M (xs (nI (6 * t) + nI 1).toNatClampNeg) (xs (nI (6 * t) + nI 2).toNatClampNeg) (xs (nI (6 * t) + nI 3).toNatClampNeg) hI
      refine r_aload_n hb dL_law_638 1 rfl ?_
      refine r_aload_n hb dL_law_639 0 rfl ?_
      refine r_iload_n hb dL_law_640 3 rfl ?_
      refine r_iconst (v := nI 1) hb dL_law_641 rfl ?_
      refine r_iadd hb dL_law_642 ?_
      refine r_sload hw (hix 1 (by decide)) dL_law_643 ?_
      refine r_aload_n hb dL_law_644 0 rfl ?_
      refine r_iload_n hb dL_law_645 3 rfl ?_
      refine r_iconst (v := nI 2) hb dL_law_646 rfl ?_
      refine r_iadd hb dL_law_647 ?_
      refine r_sload hw (hix 2 (by decide)) dL_law_648 ?_
      refine r_aload_n hb dL_law_649 0 rfl ?_
      refine r_iload_n hb dL_law_650 3 rfl ?_
      refine r_iconst (v := nI 3) hb dL_law_651 rfl ?_
      refine r_iadd hb dL_law_652 ?_
      refine r_sload hw (hix 3 (by decide)) dL_law_653 ?_
      refine r_callG hb (tX7_at l G b0 g1) lB_X7_at lI_X7_at mL_L_79 (c := 7) rfl (hO _ _ _ hI).1 rfl (Nat.le_of_ble_eq_true rfl) (Nat.le_of_ble_eq_true rfl) hcl hsl rfl (Nat.le_of_ble_eq_true rfl) dL_law_654 ?_
      refine r_aload_n hb dL_law_657 2 rfl ?_
      refine r_aload_n hb dL_law_658 0 rfl ?_
      refine r_iload_n hb dL_law_659 3 rfl ?_
      refine r_iconst (v := nI 1) hb dL_law_660 rfl ?_
      refine r_iadd hb dL_law_661 ?_
      refine r_sload hw (hix 1 (by decide)) dL_law_662 ?_
      refine r_aload_n hb dL_law_663 0 rfl ?_
      refine r_iload_n hb dL_law_664 3 rfl ?_
      refine r_iconst (v := nI 2) hb dL_law_665 rfl ?_
      refine r_iadd hb dL_law_666 ?_
      refine r_sload hw (hix 2 (by decide)) dL_law_667 ?_
      refine r_aload_n hb dL_law_668 0 rfl ?_
      refine r_iload_n hb dL_law_669 3 rfl ?_
      refine r_iconst (v := nI 3) hb dL_law_670 rfl ?_
      refine r_iadd hb dL_law_671 ?_
      refine r_sload hw (hix 3 (by decide)) dL_law_672 ?_
      refine r_callG hb (tX8_at l G b0 g2) lB_X8_at lI_X8_at mL_L_82 (c := 8) rfl (hO _ _ _ hI).2 rfl (Nat.le_of_ble_eq_true rfl) (Nat.le_of_ble_eq_true rfl) hcl hsl rfl (Nat.le_of_ble_eq_true rfl) dL_law_673 ?_
      refine r_lcmp_eq (tgt := 918) hb dL_law_676 dL_law_677 (by decide) (fun _ => ?_) (fun cc => absurd rfl cc)
      exact next _ _ _ hI2
    by_cases c16 : v0 = 16
    · rw [c16]
      refine r_tabIn (tgt := 682) hb dL_law_33 (by decide) (by decide) rfl (by decide) ?_
      obtain ⟨v, M1, M2, g1, g2, hI2⟩ := h_over K R M (xs (nI (6 * t) + nI 1).toNatClampNeg) (xs (nI (6 * t) + nI 2).toNatClampNeg) hI
      refine r_aload_n hb dL_law_682 1 rfl ?_
      refine r_aload_n hb dL_law_683 0 rfl ?_
      refine r_iload_n hb dL_law_684 3 rfl ?_
      refine r_iconst (v := nI 1) hb dL_law_685 rfl ?_
      refine r_iadd hb dL_law_686 ?_
      refine r_sload hw (hix 1 (by decide)) dL_law_687 ?_
      refine r_aload_n hb dL_law_688 0 rfl ?_
      refine r_iload_n hb dL_law_689 3 rfl ?_
      refine r_iconst (v := nI 2) hb dL_law_690 rfl ?_
      refine r_iadd hb dL_law_691 ?_
      refine r_sload hw (hix 2 (by decide)) dL_law_692 ?_
      refine r_callG hb (tX7_over l G b0 g1) lB_X7_over lI_X7_over mL_L_83 (c := 7) rfl (hO _ _ _ hI).1 rfl (Nat.le_of_ble_eq_true rfl) (Nat.le_of_ble_eq_true rfl) hcl hsl rfl (Nat.le_of_ble_eq_true rfl) dL_law_693 ?_
      refine r_aload_n hb dL_law_696 2 rfl ?_
      refine r_aload_n hb dL_law_697 0 rfl ?_
      refine r_iload_n hb dL_law_698 3 rfl ?_
      refine r_iconst (v := nI 1) hb dL_law_699 rfl ?_
      refine r_iadd hb dL_law_700 ?_
      refine r_sload hw (hix 1 (by decide)) dL_law_701 ?_
      refine r_aload_n hb dL_law_702 0 rfl ?_
      refine r_iload_n hb dL_law_703 3 rfl ?_
      refine r_iconst (v := nI 2) hb dL_law_704 rfl ?_
      refine r_iadd hb dL_law_705 ?_
      refine r_sload hw (hix 2 (by decide)) dL_law_706 ?_
      refine r_callG hb (tX8_over l G b0 g2) lB_X8_over lI_X8_over mL_L_86 (c := 8) rfl (hO _ _ _ hI).2 rfl (Nat.le_of_ble_eq_true rfl) (Nat.le_of_ble_eq_true rfl) hcl hsl rfl (Nat.le_of_ble_eq_true rfl) dL_law_707 ?_
      refine r_lcmp_eq (tgt := 918) hb dL_law_710 dL_law_711 (by decide) (fun _ => ?_) (fun cc => absurd rfl cc)
      exact next _ _ _ hI2
    by_cases c17 : v0 = 17
    · rw [c17]
      refine r_tabIn (tgt := 716) hb dL_law_33 (by decide) (by decide) rfl (by decide) ?_
      obtain ⟨v, M1, M2, g1, g2, hI2⟩ := h_find K R M (xs (nI (6 * t) + nI 1).toNatClampNeg) (xs (nI (6 * t) + nI 2).toNatClampNeg) hI
      refine r_aload_n hb dL_law_716 1 rfl ?_
      refine r_aload_n hb dL_law_717 0 rfl ?_
      refine r_iload_n hb dL_law_718 3 rfl ?_
      refine r_iconst (v := nI 1) hb dL_law_719 rfl ?_
      refine r_iadd hb dL_law_720 ?_
      refine r_sload hw (hix 1 (by decide)) dL_law_721 ?_
      refine r_aload_n hb dL_law_722 0 rfl ?_
      refine r_iload_n hb dL_law_723 3 rfl ?_
      refine r_iconst (v := nI 2) hb dL_law_724 rfl ?_
      refine r_iadd hb dL_law_725 ?_
      refine r_sload hw (hix 2 (by decide)) dL_law_726 ?_
      refine r_callG hb (tX7_find l G b0 g1) lB_X7_find lI_X7_find mL_L_87 (c := 7) rfl (hO _ _ _ hI).1 rfl (Nat.le_of_ble_eq_true rfl) (Nat.le_of_ble_eq_true rfl) hcl hsl rfl (Nat.le_of_ble_eq_true rfl) dL_law_727 ?_
      refine r_aload_n hb dL_law_730 2 rfl ?_
      refine r_aload_n hb dL_law_731 0 rfl ?_
      refine r_iload_n hb dL_law_732 3 rfl ?_
      refine r_iconst (v := nI 1) hb dL_law_733 rfl ?_
      refine r_iadd hb dL_law_734 ?_
      refine r_sload hw (hix 1 (by decide)) dL_law_735 ?_
      refine r_aload_n hb dL_law_736 0 rfl ?_
      refine r_iload_n hb dL_law_737 3 rfl ?_
      refine r_iconst (v := nI 2) hb dL_law_738 rfl ?_
      refine r_iadd hb dL_law_739 ?_
      refine r_sload hw (hix 2 (by decide)) dL_law_740 ?_
      refine r_callG hb (tX8_find l G b0 g2) lB_X8_find lI_X8_find mL_L_90 (c := 8) rfl (hO _ _ _ hI).2 rfl (Nat.le_of_ble_eq_true rfl) (Nat.le_of_ble_eq_true rfl) hcl hsl rfl (Nat.le_of_ble_eq_true rfl) dL_law_741 ?_
      refine r_lcmp_eq (tgt := 918) hb dL_law_744 dL_law_745 (by decide) (fun _ => ?_) (fun cc => absurd rfl cc)
      exact next _ _ _ hI2
    by_cases c18 : v0 = 18
    · rw [c18]
      refine r_tabIn (tgt := 750) hb dL_law_33 (by decide) (by decide) rfl (by decide) ?_
      obtain ⟨v, M1, M2, g1, g2, hI2⟩ := h_covers K R M (xs (nI (6 * t) + nI 1).toNatClampNeg) hI
      refine r_aload_n hb dL_law_750 1 rfl ?_
      refine r_aload_n hb dL_law_751 0 rfl ?_
      refine r_iload_n hb dL_law_752 3 rfl ?_
      refine r_iconst (v := nI 1) hb dL_law_753 rfl ?_
      refine r_iadd hb dL_law_754 ?_
      refine r_sload hw (hix 1 (by decide)) dL_law_755 ?_
      refine r_callG hb (tX7_covers l G b0 g1) lB_X7_covers lI_X7_covers mL_L_91 (c := 7) rfl (hO _ _ _ hI).1 rfl (Nat.le_of_ble_eq_true rfl) (Nat.le_of_ble_eq_true rfl) hcl hsl rfl (Nat.le_of_ble_eq_true rfl) dL_law_756 ?_
      refine r_aload_n hb dL_law_759 2 rfl ?_
      refine r_aload_n hb dL_law_760 0 rfl ?_
      refine r_iload_n hb dL_law_761 3 rfl ?_
      refine r_iconst (v := nI 1) hb dL_law_762 rfl ?_
      refine r_iadd hb dL_law_763 ?_
      refine r_sload hw (hix 1 (by decide)) dL_law_764 ?_
      refine r_callG hb (tX8_covers l G b0 g2) lB_X8_covers lI_X8_covers mL_L_94 (c := 8) rfl (hO _ _ _ hI).2 rfl (Nat.le_of_ble_eq_true rfl) (Nat.le_of_ble_eq_true rfl) hcl hsl rfl (Nat.le_of_ble_eq_true rfl) dL_law_765 ?_
      refine r_lcmp_eq (tgt := 918) hb dL_law_768 dL_law_769 (by decide) (fun _ => ?_) (fun cc => absurd rfl cc)
      exact next _ _ _ hI2
    by_cases c19 : v0 = 19
    · rw [c19]
      refine r_tabIn (tgt := 774) hb dL_law_33 (by decide) (by decide) rfl (by decide) ?_
      obtain ⟨v, M1, M2, g1, g2, hI2⟩ := h_sums K R M  hI
      refine r_aload_n hb dL_law_774 1 rfl ?_
      refine r_callG hb (tX7_sums l G b0 g1) lB_X7_sums lI_X7_sums mL_L_95 (c := 7) rfl (hO _ _ _ hI).1 rfl (Nat.le_of_ble_eq_true rfl) (Nat.le_of_ble_eq_true rfl) hcl hsl rfl (Nat.le_of_ble_eq_true rfl) dL_law_775 ?_
      refine r_aload_n hb dL_law_778 2 rfl ?_
      refine r_callG hb (tX8_sums l G b0 g2) lB_X8_sums lI_X8_sums mL_L_98 (c := 8) rfl (hO _ _ _ hI).2 rfl (Nat.le_of_ble_eq_true rfl) (Nat.le_of_ble_eq_true rfl) hcl hsl rfl (Nat.le_of_ble_eq_true rfl) dL_law_779 ?_
      refine r_lcmp_eq (tgt := 918) hb dL_law_782 dL_law_783 (by decide) (fun _ => ?_) (fun cc => absurd rfl cc)
      exact next _ _ _ hI2
    by_cases c20 : v0 = 20
    · rw [c20]
      refine r_tabIn (tgt := 788) hb dL_law_33 (by decide) (by decide) rfl (by decide) ?_
      obtain ⟨v, M1, M2, g1, g2, hI2⟩ := h_sum K R M (xs (nI (6 * t) + nI 1).toNatClampNeg) (xs (nI (6 * t) + nI 2).toNatClampNeg) hI
      refine r_aload_n hb dL_law_788 1 rfl ?_
      refine r_aload_n hb dL_law_789 0 rfl ?_
      refine r_iload_n hb dL_law_790 3 rfl ?_
      refine r_iconst (v := nI 1) hb dL_law_791 rfl ?_
      refine r_iadd hb dL_law_792 ?_
      refine r_sload hw (hix 1 (by decide)) dL_law_793 ?_
      refine r_aload_n hb dL_law_794 0 rfl ?_
      refine r_iload_n hb dL_law_795 3 rfl ?_
      refine r_iconst (v := nI 2) hb dL_law_796 rfl ?_
      refine r_iadd hb dL_law_797 ?_
      refine r_sload hw (hix 2 (by decide)) dL_law_798 ?_
      refine r_callG hb (tX7_sum l G b0 g1) lB_X7_sum lI_X7_sum mL_L_99 (c := 7) rfl (hO _ _ _ hI).1 rfl (Nat.le_of_ble_eq_true rfl) (Nat.le_of_ble_eq_true rfl) hcl hsl rfl (Nat.le_of_ble_eq_true rfl) dL_law_799 ?_
      refine r_aload_n hb dL_law_802 2 rfl ?_
      refine r_aload_n hb dL_law_803 0 rfl ?_
      refine r_iload_n hb dL_law_804 3 rfl ?_
      refine r_iconst (v := nI 1) hb dL_law_805 rfl ?_
      refine r_iadd hb dL_law_806 ?_
      refine r_sload hw (hix 1 (by decide)) dL_law_807 ?_
      refine r_aload_n hb dL_law_808 0 rfl ?_
      refine r_iload_n hb dL_law_809 3 rfl ?_
      refine r_iconst (v := nI 2) hb dL_law_810 rfl ?_
      refine r_iadd hb dL_law_811 ?_
      refine r_sload hw (hix 2 (by decide)) dL_law_812 ?_
      refine r_callG hb (tX8_sum l G b0 g2) lB_X8_sum lI_X8_sum mL_L_102 (c := 8) rfl (hO _ _ _ hI).2 rfl (Nat.le_of_ble_eq_true rfl) (Nat.le_of_ble_eq_true rfl) hcl hsl rfl (Nat.le_of_ble_eq_true rfl) dL_law_813 ?_
      refine r_lcmp_eq (tgt := 918) hb dL_law_816 dL_law_817 (by decide) (fun _ => ?_) (fun cc => absurd rfl cc)
      exact next _ _ _ hI2
    by_cases c21 : v0 = 21
    · rw [c21]
      refine r_tabIn (tgt := 822) hb dL_law_33 (by decide) (by decide) rfl (by decide) ?_
      obtain ⟨v, M1, M2, g1, g2, hI2⟩ := h_shelve K R M (xs (nI (6 * t) + nI 1).toNatClampNeg) hI
      refine r_aload_n hb dL_law_822 1 rfl ?_
      refine r_aload_n hb dL_law_823 0 rfl ?_
      refine r_iload_n hb dL_law_824 3 rfl ?_
      refine r_iconst (v := nI 1) hb dL_law_825 rfl ?_
      refine r_iadd hb dL_law_826 ?_
      refine r_sload hw (hix 1 (by decide)) dL_law_827 ?_
      refine r_callG hb (tX7_shelve l G b0 g1) lB_X7_shelve lI_X7_shelve mL_L_103 (c := 7) rfl (hO _ _ _ hI).1 rfl (Nat.le_of_ble_eq_true rfl) (Nat.le_of_ble_eq_true rfl) hcl hsl rfl (Nat.le_of_ble_eq_true rfl) dL_law_828 ?_
      refine r_aload_n hb dL_law_831 2 rfl ?_
      refine r_aload_n hb dL_law_832 0 rfl ?_
      refine r_iload_n hb dL_law_833 3 rfl ?_
      refine r_iconst (v := nI 1) hb dL_law_834 rfl ?_
      refine r_iadd hb dL_law_835 ?_
      refine r_sload hw (hix 1 (by decide)) dL_law_836 ?_
      refine r_callG hb (tX8_shelve l G b0 g2) lB_X8_shelve lI_X8_shelve mL_L_106 (c := 8) rfl (hO _ _ _ hI).2 rfl (Nat.le_of_ble_eq_true rfl) (Nat.le_of_ble_eq_true rfl) hcl hsl rfl (Nat.le_of_ble_eq_true rfl) dL_law_837 ?_
      refine r_lcmp_eq (tgt := 918) hb dL_law_840 dL_law_841 (by decide) (fun _ => ?_) (fun cc => absurd rfl cc)
      exact next _ _ _ hI2
    by_cases c22 : v0 = 22
    · rw [c22]
      refine r_tabIn (tgt := 846) hb dL_law_33 (by decide) (by decide) rfl (by decide) ?_
      obtain ⟨v, R1, M1, M2, g1, g2, hI2⟩ := h_fetch K R M (xs (nI (6 * t) + nI 1).toNatClampNeg) hI
      refine r_aload_n hb dL_law_846 1 rfl ?_
      refine r_aload_n hb dL_law_847 0 rfl ?_
      refine r_iload_n hb dL_law_848 3 rfl ?_
      refine r_iconst (v := nI 1) hb dL_law_849 rfl ?_
      refine r_iadd hb dL_law_850 ?_
      refine r_sload hw (hix 1 (by decide)) dL_law_851 ?_
      refine r_callG hb (tX7_fetch l G b0 g1) lB_X7_fetch lI_X7_fetch mL_L_107 (c := 7) rfl (hO _ _ _ hI).1 rfl (Nat.le_of_ble_eq_true rfl) (Nat.le_of_ble_eq_true rfl) hcl hsl rfl (Nat.le_of_ble_eq_true rfl) dL_law_852 ?_
      refine r_aload_n hb dL_law_855 2 rfl ?_
      refine r_aload_n hb dL_law_856 0 rfl ?_
      refine r_iload_n hb dL_law_857 3 rfl ?_
      refine r_iconst (v := nI 1) hb dL_law_858 rfl ?_
      refine r_iadd hb dL_law_859 ?_
      refine r_sload hw (hix 1 (by decide)) dL_law_860 ?_
      refine r_callG hb (tX8_fetch l G b0 g2) lB_X8_fetch lI_X8_fetch mL_L_110 (c := 8) rfl (hO _ _ _ hI).2 rfl (Nat.le_of_ble_eq_true rfl) (Nat.le_of_ble_eq_true rfl) hcl hsl rfl (Nat.le_of_ble_eq_true rfl) dL_law_861 ?_
      refine r_lcmp_eq (tgt := 918) hb dL_law_864 dL_law_865 (by decide) (fun _ => ?_) (fun cc => absurd rfl cc)
      exact next _ _ _ hI2
    by_cases c23 : v0 = 23
    · rw [c23]
      refine r_tabIn (tgt := 870) hb dL_law_33 (by decide) (by decide) rfl (by decide) ?_
      obtain ⟨v, R1, M1, M2, g1, g2, hI2⟩ := h_third K R M (xs (nI (6 * t) + nI 1).toNatClampNeg) hI
      refine r_aload_n hb dL_law_870 1 rfl ?_
      refine r_aload_n hb dL_law_871 0 rfl ?_
      refine r_iload_n hb dL_law_872 3 rfl ?_
      refine r_iconst (v := nI 1) hb dL_law_873 rfl ?_
      refine r_iadd hb dL_law_874 ?_
      refine r_sload hw (hix 1 (by decide)) dL_law_875 ?_
      refine r_callG hb (tX7_third l G b0 g1) lB_X7_third lI_X7_third mL_L_111 (c := 7) rfl (hO _ _ _ hI).1 rfl (Nat.le_of_ble_eq_true rfl) (Nat.le_of_ble_eq_true rfl) hcl hsl rfl (Nat.le_of_ble_eq_true rfl) dL_law_876 ?_
      refine r_aload_n hb dL_law_879 2 rfl ?_
      refine r_aload_n hb dL_law_880 0 rfl ?_
      refine r_iload_n hb dL_law_881 3 rfl ?_
      refine r_iconst (v := nI 1) hb dL_law_882 rfl ?_
      refine r_iadd hb dL_law_883 ?_
      refine r_sload hw (hix 1 (by decide)) dL_law_884 ?_
      refine r_callG hb (tX8_third l G b0 g2) lB_X8_third lI_X8_third mL_L_114 (c := 8) rfl (hO _ _ _ hI).2 rfl (Nat.le_of_ble_eq_true rfl) (Nat.le_of_ble_eq_true rfl) hcl hsl rfl (Nat.le_of_ble_eq_true rfl) dL_law_885 ?_
      refine r_lcmp_eq (tgt := 918) hb dL_law_888 dL_law_889 (by decide) (fun _ => ?_) (fun cc => absurd rfl cc)
      exact next _ _ _ hI2
    by_cases c24 : v0 = 24
    · rw [c24]
      refine r_tabIn (tgt := 894) hb dL_law_33 (by decide) (by decide) rfl (by decide) ?_
      obtain ⟨v, M2, g1, g2, hI2⟩ := h_count K R M (xs (nI (6 * t) + nI 1).toNatClampNeg) hI
      refine r_aload_n hb dL_law_894 1 rfl ?_
      refine r_aload_n hb dL_law_895 0 rfl ?_
      refine r_iload_n hb dL_law_896 3 rfl ?_
      refine r_iconst (v := nI 1) hb dL_law_897 rfl ?_
      refine r_iadd hb dL_law_898 ?_
      refine r_sload hw (hix 1 (by decide)) dL_law_899 ?_
      refine r_callG hb (tX7_count l G b0 g1) lB_X7_count lI_X7_count mL_L_115 (c := 7) rfl (hO _ _ _ hI).1 rfl (Nat.le_of_ble_eq_true rfl) (Nat.le_of_ble_eq_true rfl) hcl hsl rfl (Nat.le_of_ble_eq_true rfl) dL_law_900 ?_
      refine r_aload_n hb dL_law_903 2 rfl ?_
      refine r_aload_n hb dL_law_904 0 rfl ?_
      refine r_iload_n hb dL_law_905 3 rfl ?_
      refine r_iconst (v := nI 1) hb dL_law_906 rfl ?_
      refine r_iadd hb dL_law_907 ?_
      refine r_sload hw (hix 1 (by decide)) dL_law_908 ?_
      refine r_callG hb (tX8_count l G b0 g2) lB_X8_count lI_X8_count mL_L_118 (c := 8) rfl (hO _ _ _ hI).2 rfl (Nat.le_of_ble_eq_true rfl) (Nat.le_of_ble_eq_true rfl) hcl hsl rfl (Nat.le_of_ble_eq_true rfl) dL_law_909 ?_
      refine r_lcmp_eq (tgt := 918) hb dL_law_912 dL_law_913 (by decide) (fun _ => ?_) (fun cc => absurd rfl cc)
      exact next _ _ _ hI2
    refine r_tabOut (tgt := 918) hb dL_law_33 (sw_out 25 (by decide) (fun j hj => by match j, hj with | 0, _ => exact c0 | 1, _ => exact c1 | 2, _ => exact c2 | 3, _ => exact c3 | 4, _ => exact c4 | 5, _ => exact c5 | 6, _ => exact c6 | 7, _ => exact c7 | 8, _ => exact c8 | 9, _ => exact c9 | 10, _ => exact c10 | 11, _ => exact c11 | 12, _ => exact c12 | 13, _ => exact c13 | 14, _ => exact c14 | 15, _ => exact c15 | 16, _ => exact c16 | 17, _ => exact c17 | 18, _ => exact c18 | 19, _ => exact c19 | 20, _ => exact c20 | 21, _ => exact c21 | 22, _ => exact c22 | 23, _ => exact c23 | 24, _ => exact c24 | j + 25, h => exact absurd h (by omega))) (by decide) ?_
    exact next _ _ _ hI
set_option maxHeartbeats 4000000 in
set_option maxRecDepth 100000 in
theorem law_walk {l : Launch} {G : Gg} {b0 b L : Nat} {xs : Nat → Int32} {w : Wt} (hw : SyL l G b0 b L xs w) (hL : L ≤ 3072) (Inv : Kk → Rr → Mm → Prop) (hO : ∀ K R M, Inv K R M → isO K b0 7 ∧ isO K (b0 + 2118) 8) (hini : ∀ K R M, beA K R b0 → moA K R (b0 + 2118) → Zm K M → Inv K R M) (h_corner : ∀ (K : Kk) (R : Rr) (M : Mm) (a0 a1 : Int32), Inv K R M → ∃ (v : Int64) (M1 : Mm) (M2 : Mm), mX7_corner K R M b0 a0 a1 = some (v, M1) ∧ mX8_corner K R M1 (b0 + 2118) a0 a1 = some (v, M2) ∧ Inv K R M2) (h_figure : ∀ (K : Kk) (R : Rr) (M : Mm) (a0 : Int32), Inv K R M → ∃ (v : Int64) (M1 : Mm) (M2 : Mm), mX7_figure K R M b0 a0 = some (v, M1) ∧ mX8_figure K R M1 (b0 + 2118) a0 = some (v, M2) ∧ Inv K R M2) (h_area : ∀ (K : Kk) (R : Rr) (M : Mm) (a0 : Int32), Inv K R M → ∃ (v : Int64), mX7_area K R M b0 a0 = some (v) ∧ mX8_area K R M (b0 + 2118) a0 = some (v) ∧ Inv K R M) (h_begin : ∀ (K : Kk) (R : Rr) (M : Mm) (a0 : Int32), Inv K R M → ∃ (v : Int64) (R1 : Rr) (M1 : Mm) (M2 : Mm), mX7_begin K R M b0 a0 = some (v, R1, M1) ∧ mX8_begin K R1 M1 (b0 + 2118) a0 = some (v, M2) ∧ Inv K R1 M2) (h_cut : ∀ (K : Kk) (R : Rr) (M : Mm) (a0 a1 a2 a3 : Int32), Inv K R M → ∃ (v : Int64) (R1 : Rr) (M1 : Mm) (M2 : Mm), mX7_cut K R M b0 a0 a1 a2 a3 = some (v, R1, M1) ∧ mX8_cut K R1 M1 (b0 + 2118) a0 a1 a2 a3 = some (v, M2) ∧ Inv K R1 M2) (h_part : ∀ (K : Kk) (R : Rr) (M : Mm) (a0 a1 a2 a3 a4 : Int32), Inv K R M → ∃ (v : Int64) (R1 : Rr) (M1 : Mm) (M2 : Mm), mX7_part K R M b0 a0 a1 a2 a3 a4 = some (v, R1, M1) ∧ mX8_part K R1 M1 (b0 + 2118) a0 a1 a2 a3 a4 = some (v, M2) ∧ Inv K R1 M2) (h_slide : ∀ (K : Kk) (R : Rr) (M : Mm) (a0 a1 a2 : Int32), Inv K R M → ∃ (v : Int64) (R1 : Rr) (M1 : Mm) (M2 : Mm), mX7_slide K R M b0 a0 a1 a2 = some (v, R1, M1) ∧ mX8_slide K R1 M1 (b0 + 2118) a0 a1 a2 = some (v, M2) ∧ Inv K R1 M2) (h_half : ∀ (K : Kk) (R : Rr) (M : Mm) (a0 a1 a2 : Int32), Inv K R M → ∃ (v : Int64) (R1 : Rr) (M1 : Mm) (M2 : Mm), mX7_half K R M b0 a0 a1 a2 = some (v, R1, M1) ∧ mX8_half K R1 M1 (b0 + 2118) a0 a1 a2 = some (v, M2) ∧ Inv K R1 M2) (h_join : ∀ (K : Kk) (R : Rr) (M : Mm) (a0 a1 : Int32), Inv K R M → ∃ (v : Int64) (R1 : Rr) (M1 : Mm) (M2 : Mm), mX7_join K R M b0 a0 a1 = some (v, R1, M1) ∧ mX8_join K R1 M1 (b0 + 2118) a0 a1 = some (v, M2) ∧ Inv K R1 M2) (h_aside : ∀ (K : Kk) (R : Rr) (M : Mm) (a0 a1 : Int32), Inv K R M → ∃ (v : Int64) (R1 : Rr) (M1 : Mm) (M2 : Mm), mX7_aside K R M b0 a0 a1 = some (v, R1, M1) ∧ mX8_aside K R1 M1 (b0 + 2118) a0 a1 = some (v, M2) ∧ Inv K R1 M2) (h_back : ∀ (K : Kk) (R : Rr) (M : Mm), Inv K R M → ∃ (v : Int64) (R1 : Rr) (M1 : Mm) (M2 : Mm), mX7_back K R M b0  = some (v, R1, M1) ∧ mX8_back K R1 M1 (b0 + 2118)  = some (v, M2) ∧ Inv K R1 M2) (h_undo : ∀ (K : Kk) (R : Rr) (M : Mm), Inv K R M → ∃ (v : Int64) (M1 : Mm) (M2 : Mm), mX7_undo K R M b0  = some (v, M1) ∧ mX8_undo K R M1 (b0 + 2118)  = some (v, M2) ∧ Inv K R M2) (h_redo : ∀ (K : Kk) (R : Rr) (M : Mm), Inv K R M → ∃ (v : Int64) (M1 : Mm) (M2 : Mm), mX7_redo K R M b0  = some (v, M1) ∧ mX8_redo K R M1 (b0 + 2118)  = some (v, M2) ∧ Inv K R M2) (h_isOf : ∀ (K : Kk) (R : Rr) (M : Mm) (a0 a1 : Int32), Inv K R M → ∃ (v : Int64) (M2 : Mm), mX7_isOf K R M b0 a0 a1 = some (v) ∧ mX8_isOf K R M (b0 + 2118) a0 a1 = some (v, M2) ∧ Inv K R M2) (h_about : ∀ (K : Kk) (R : Rr) (M : Mm) (a0 a1 : Int32), Inv K R M → ∃ (v : Int64) (M2 : Mm), mX7_about K R M b0 a0 a1 = some (v) ∧ mX8_about K R M (b0 + 2118) a0 a1 = some (v, M2) ∧ Inv K R M2) (h_at : ∀ (K : Kk) (R : Rr) (M : Mm) (a0 a1 a2 : Int32), Inv K R M → ∃ (v : Int64) (M1 : Mm) (M2 : Mm), mX7_at K R M b0 a0 a1 a2 = some (v, M1) ∧ mX8_at K R M1 (b0 + 2118) a0 a1 a2 = some (v, M2) ∧ Inv K R M2) (h_over : ∀ (K : Kk) (R : Rr) (M : Mm) (a0 a1 : Int32), Inv K R M → ∃ (v : Int64) (M1 : Mm) (M2 : Mm), mX7_over K R M b0 a0 a1 = some (v, M1) ∧ mX8_over K R M1 (b0 + 2118) a0 a1 = some (v, M2) ∧ Inv K R M2) (h_find : ∀ (K : Kk) (R : Rr) (M : Mm) (a0 a1 : Int32), Inv K R M → ∃ (v : Int64) (M1 : Mm) (M2 : Mm), mX7_find K R M b0 a0 a1 = some (v, M1) ∧ mX8_find K R M1 (b0 + 2118) a0 a1 = some (v, M2) ∧ Inv K R M2) (h_covers : ∀ (K : Kk) (R : Rr) (M : Mm) (a0 : Int32), Inv K R M → ∃ (v : Int64) (M1 : Mm) (M2 : Mm), mX7_covers K R M b0 a0 = some (v, M1) ∧ mX8_covers K R M1 (b0 + 2118) a0 = some (v, M2) ∧ Inv K R M2) (h_sums : ∀ (K : Kk) (R : Rr) (M : Mm), Inv K R M → ∃ (v : Int64) (M1 : Mm) (M2 : Mm), mX7_sums K R M b0  = some (v, M1) ∧ mX8_sums K R M1 (b0 + 2118)  = some (v, M2) ∧ Inv K R M2) (h_sum : ∀ (K : Kk) (R : Rr) (M : Mm) (a0 a1 : Int32), Inv K R M → ∃ (v : Int64) (M1 : Mm) (M2 : Mm), mX7_sum K R M b0 a0 a1 = some (v, M1) ∧ mX8_sum K R M1 (b0 + 2118) a0 a1 = some (v, M2) ∧ Inv K R M2) (h_shelve : ∀ (K : Kk) (R : Rr) (M : Mm) (a0 : Int32), Inv K R M → ∃ (v : Int64) (M1 : Mm) (M2 : Mm), mX7_shelve K R M b0 a0 = some (v, M1) ∧ mX8_shelve K R M1 (b0 + 2118) a0 = some (v, M2) ∧ Inv K R M2) (h_fetch : ∀ (K : Kk) (R : Rr) (M : Mm) (a0 : Int32), Inv K R M → ∃ (v : Int64) (R1 : Rr) (M1 : Mm) (M2 : Mm), mX7_fetch K R M b0 a0 = some (v, R1, M1) ∧ mX8_fetch K R1 M1 (b0 + 2118) a0 = some (v, M2) ∧ Inv K R1 M2) (h_third : ∀ (K : Kk) (R : Rr) (M : Mm) (a0 : Int32), Inv K R M → ∃ (v : Int64) (R1 : Rr) (M1 : Mm) (M2 : Mm), mX7_third K R M b0 a0 = some (v, R1, M1) ∧ mX8_third K R1 M1 (b0 + 2118) a0 = some (v, M2) ∧ Inv K R1 M2) (h_count : ∀ (K : Kk) (R : Rr) (M : Mm) (a0 : Int32), Inv K R M → ∃ (v : Int64) (M2 : Mm), mX7_count K R M b0 a0 = some (v) ∧ mX8_count K R M (b0 + 2118) a0 = some (v, M2) ∧ Inv K R M2) : w 0 0 0 [(0, .ref b)] [] ([], fun _ => .inl 0) (fun _ _ => none) (fun _ _ => 0, fun _ _ => 0) := by
  have hb := hw.t.b
  have z0 : ∀ a, zr (fun _ _ => none) ((fun _ _ => 0, fun _ _ => 0) : Mm) a := fun a => ⟨rfl, rfl, rfl⟩
  refine r_new hw.t cO_7 dZ_7 cL_L_7 iN_X7 iZ_X7 (Or.inl rfl) (z0 _) (Nat.le_of_ble_eq_true rfl) (Nat.le_of_ble_eq_true rfl) dL_law_0 ?_
  refine r_dup hb dL_law_3 rfl ?_
  refine r_callC hw.t (kX7_init l G b0 (a := b0) isO_new rfl (fun a _ => z0 a) (fun b hb => by rw [List.mem_singleton.mp hb]; exact Nat.lt_succ_self _)) lB_X7_init rfl iM_X7_init mL_L_9 rfl ⟨(Nat.le_of_ble_eq_true rfl), (Nat.le_of_ble_eq_true rfl)⟩ ⟨(Nat.le_of_ble_eq_true rfl), (Nat.le_of_ble_eq_true rfl)⟩ (Or.inr (List.mem_append_right _ List.mem_cons_self)) rfl (Nat.le_of_ble_eq_true rfl) dL_law_4 (fun K2 R2 M2 h2 => ?_)
  obtain ⟨⟨g2, r2, f2, l2, m2, lo2⟩, be2⟩ := h2
  refine r_astore_n hb dL_law_7 rfl (by decide) rfl ?_
  refine r_new hw.t cO_8 dZ_8 cL_L_10 iN_X8 iZ_X8 (Or.inr (l2 (by omega))) (f2 _ (Nat.le_refl _)) (Nat.le_of_ble_eq_true rfl) (Nat.le_of_ble_eq_true rfl) dL_law_8 ?_
  refine r_dup hb dL_law_11 rfl ?_
  have gn := zgr_new (R := R2) (sh := .inl 8) lo2
  have z2 := f2 _ (Nat.le_refl _)
  refine r_callC hw.t (kX8_init l G b0 (a := b0 + 2118) (fun k => by rw [z2.1]) isO_new z2.2.2 (fun a ha => f2 a (by omega)) (fun b hb => by
      rcases List.mem_append.mp hb with hb | hb
      · have := lo2 b hb; omega
      · rw [List.mem_singleton.mp hb]; exact Nat.lt_succ_self _)) lB_X8_init rfl iM_X8_init mL_L_12 rfl ⟨(Nat.le_of_ble_eq_true rfl), (Nat.le_of_ble_eq_true rfl)⟩ ⟨(Nat.le_of_ble_eq_true rfl), (Nat.le_of_ble_eq_true rfl)⟩ (Or.inr (List.mem_append_right _ List.mem_cons_self)) rfl (Nat.le_of_ble_eq_true rfl) dL_law_12 (fun K3 R3 M3 h3 => ?_)
  obtain ⟨⟨g3, r3, f3, l3, m3, lo3⟩, mo3⟩ := h3
  refine r_astore_n hb dL_law_15 rfl (by decide) rfl ?_
  refine r_iconst (v := 0) hb dL_law_16 rfl ?_
  refine r_istore_n hb dL_law_17 rfl (by decide) rfl ?_
  refine r_sub hb [3, 2, 1, 0] (lv' := [(0, .ref b), (1, .ref b0), (2, .ref (b0 + 2118)), (3, .int (nI (6 * 0)))]) rfl ?_
  exact law_loop hw hL (Nat.le_of_ble_eq_true rfl) (Nat.le_of_ble_eq_true rfl) Inv hO h_corner h_figure h_area h_begin h_cut h_part h_slide h_half h_join h_aside h_back h_undo h_redo h_isOf h_about h_at h_over h_find h_covers h_sums h_sum h_shelve h_fetch h_third h_count 513 0 (by omega) (by omega) K3 R3 M3 (hini K3 R3 M3 (be2.gr (gn.tr g3)) mo3 ⟨m3.1.trans m2.1, fun b k => by
      rcases m3.2 b k with e | e
      · rcases m2.2 b k with e2 | e2
        · exact Or.inl (e.trans e2)
        · exact Or.inr ⟨e2.1, (gn.tr g3).1 _ _ e2.2⟩
      · exact Or.inr e⟩)
