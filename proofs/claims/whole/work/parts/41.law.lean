/-- at the start nothing is ours -/
def m0 : Mem := fun _ => none
theorem m0_ge {n q : Nat} (h : mA m0 n q) : n ≤ q := by
  rcases h with ⟨e, h⟩ | h
  · cases h
  · exact h
theorem m0_not {n q : Nat} (h : q < n) : ¬ mA m0 n q := fun z => absurd (m0_ge z) (Nat.not_le.mpr h)
theorem m0_W {D : va_G} {cl : List vw_C} {A : Nat → Prop} {H : Heap} : mW D cl A m0 H := ⟨[], fun a e => ⟨fun h => (by cases h), fun ⟨k, h⟩ => (by simp at h)⟩, fun k q h => (by simp at h), ⟨fun i j p q h => (by simp at h), fun k q h => (by simp at h)⟩⟩
theorem d_Law_law_0 : decode code 0 = .ok (.new 8, 3) := by decide +kernel
theorem d_Law_law_3 : decode code 3 = .ok (.dup, 1) := by decide +kernel
theorem d_Law_law_4 : decode code 4 = .ok (.invokespecial 34, 3) := by decide +kernel
theorem d_Law_law_7 : decode code 7 = .ok (.astore_n 1, 1) := by decide +kernel
theorem d_Law_law_8 : decode code 8 = .ok (.new 35, 3) := by decide +kernel
theorem d_Law_law_11 : decode code 11 = .ok (.dup, 1) := by decide +kernel
theorem d_Law_law_12 : decode code 12 = .ok (.invokespecial 37, 3) := by decide +kernel
theorem d_Law_law_15 : decode code 15 = .ok (.astore_n 2, 1) := by decide +kernel
theorem d_Law_law_16 : decode code 16 = .ok (.iconst 1, 1) := by decide +kernel
theorem d_Law_law_17 : decode code 17 = .ok (.newarray .long, 2) := by decide +kernel
theorem d_Law_law_19 : decode code 19 = .ok (.astore_n 3, 1) := by decide +kernel
theorem d_Law_law_20 : decode code 20 = .ok (.iconst 0, 1) := by decide +kernel
theorem d_Law_law_21 : decode code 21 = .ok (.istore 4, 2) := by decide +kernel
theorem d_Law_law_23 : decode code 23 = .ok (.iload 4, 2) := by decide +kernel
theorem d_Law_law_25 : decode code 25 = .ok (.aload_n 0, 1) := by decide +kernel
theorem d_Law_law_26 : decode code 26 = .ok (.arraylength, 1) := by decide +kernel
theorem d_Law_law_27 : decode code 27 = .ok (.iconst 4, 1) := by decide +kernel
theorem d_Law_law_28 : decode code 28 = .ok (.isub, 1) := by decide +kernel
theorem d_Law_law_29 : decode code 29 = .ok (.if_icmp .gt 636, 3) := by decide +kernel
theorem d_Law_law_32 : decode code 32 = .ok (.aload_n 0, 1) := by decide +kernel
theorem d_Law_law_33 : decode code 33 = .ok (.iload 4, 2) := by decide +kernel
theorem d_Law_law_35 : decode code 35 = .ok (.iaload, 1) := by decide +kernel
theorem d_Law_law_36 : decode code 36 = .ok (.bipush 15, 2) := by decide +kernel
theorem d_Law_law_38 : decode code 38 = .ok (.iand, 1) := by decide +kernel
theorem d_Law_law_39 : decode code 39 = .ok (.tableswitch 620 0 12 #[65, 134, 190, 203, 228, 272, 328, 379, 416, 484, 521, 558, 595], 65) := by decide +kernel
theorem d_Law_law_104 : decode code 104 = .ok (.aload_n 1, 1) := by decide +kernel
theorem d_Law_law_105 : decode code 105 = .ok (.aload_n 0, 1) := by decide +kernel
theorem d_Law_law_106 : decode code 106 = .ok (.iload 4, 2) := by decide +kernel
theorem d_Law_law_108 : decode code 108 = .ok (.iconst 1, 1) := by decide +kernel
theorem d_Law_law_109 : decode code 109 = .ok (.iadd, 1) := by decide +kernel
theorem d_Law_law_110 : decode code 110 = .ok (.iaload, 1) := by decide +kernel
theorem d_Law_law_111 : decode code 111 = .ok (.i2l, 1) := by decide +kernel
theorem d_Law_law_112 : decode code 112 = .ok (.bipush 32, 2) := by decide +kernel
theorem d_Law_law_114 : decode code 114 = .ok (.lshl, 1) := by decide +kernel
theorem d_Law_law_115 : decode code 115 = .ok (.aload_n 0, 1) := by decide +kernel
theorem d_Law_law_116 : decode code 116 = .ok (.iload 4, 2) := by decide +kernel
theorem d_Law_law_118 : decode code 118 = .ok (.iconst 2, 1) := by decide +kernel
theorem d_Law_law_119 : decode code 119 = .ok (.iadd, 1) := by decide +kernel
theorem d_Law_law_120 : decode code 120 = .ok (.iaload, 1) := by decide +kernel
theorem d_Law_law_121 : decode code 121 = .ok (.i2l, 1) := by decide +kernel
theorem d_Law_law_122 : decode code 122 = .ok (.ldc2_w 38, 3) := by decide +kernel
theorem d_Law_law_125 : decode code 125 = .ok (.land, 1) := by decide +kernel
theorem d_Law_law_126 : decode code 126 = .ok (.lor, 1) := by decide +kernel
theorem d_Law_law_127 : decode code 127 = .ok (.aload_n 0, 1) := by decide +kernel
theorem d_Law_law_128 : decode code 128 = .ok (.iload 4, 2) := by decide +kernel
theorem d_Law_law_130 : decode code 130 = .ok (.iconst 3, 1) := by decide +kernel
theorem d_Law_law_131 : decode code 131 = .ok (.iadd, 1) := by decide +kernel
theorem d_Law_law_132 : decode code 132 = .ok (.iaload, 1) := by decide +kernel
theorem d_Law_law_133 : decode code 133 = .ok (.invokevirtual 40, 3) := by decide +kernel
theorem d_Law_law_136 : decode code 136 = .ok (.aload_n 2, 1) := by decide +kernel
theorem d_Law_law_137 : decode code 137 = .ok (.aload_n 0, 1) := by decide +kernel
theorem d_Law_law_138 : decode code 138 = .ok (.iload 4, 2) := by decide +kernel
theorem d_Law_law_140 : decode code 140 = .ok (.iconst 1, 1) := by decide +kernel
theorem d_Law_law_141 : decode code 141 = .ok (.iadd, 1) := by decide +kernel
theorem d_Law_law_142 : decode code 142 = .ok (.iaload, 1) := by decide +kernel
theorem d_Law_law_143 : decode code 143 = .ok (.i2l, 1) := by decide +kernel
theorem d_Law_law_144 : decode code 144 = .ok (.bipush 32, 2) := by decide +kernel
theorem d_Law_law_146 : decode code 146 = .ok (.lshl, 1) := by decide +kernel
theorem d_Law_law_147 : decode code 147 = .ok (.aload_n 0, 1) := by decide +kernel
theorem d_Law_law_148 : decode code 148 = .ok (.iload 4, 2) := by decide +kernel
theorem d_Law_law_150 : decode code 150 = .ok (.iconst 2, 1) := by decide +kernel
theorem d_Law_law_151 : decode code 151 = .ok (.iadd, 1) := by decide +kernel
theorem d_Law_law_152 : decode code 152 = .ok (.iaload, 1) := by decide +kernel
theorem d_Law_law_153 : decode code 153 = .ok (.i2l, 1) := by decide +kernel
theorem d_Law_law_154 : decode code 154 = .ok (.ldc2_w 38, 3) := by decide +kernel
theorem d_Law_law_157 : decode code 157 = .ok (.land, 1) := by decide +kernel
theorem d_Law_law_158 : decode code 158 = .ok (.lor, 1) := by decide +kernel
theorem d_Law_law_159 : decode code 159 = .ok (.aload_n 0, 1) := by decide +kernel
theorem d_Law_law_160 : decode code 160 = .ok (.iload 4, 2) := by decide +kernel
theorem d_Law_law_162 : decode code 162 = .ok (.iconst 3, 1) := by decide +kernel
theorem d_Law_law_163 : decode code 163 = .ok (.iadd, 1) := by decide +kernel
theorem d_Law_law_164 : decode code 164 = .ok (.iaload, 1) := by decide +kernel
theorem d_Law_law_165 : decode code 165 = .ok (.invokevirtual 44, 3) := by decide +kernel
theorem d_Law_law_168 : decode code 168 = .ok (.if_icmp .eq 491, 3) := by decide +kernel
theorem d_Law_law_171 : decode code 171 = .ok (.iconst 0, 1) := by decide +kernel
theorem d_Law_law_172 : decode code 172 = .ok (.ireturn, 1) := by decide +kernel
theorem d_Law_law_173 : decode code 173 = .ok (.aload_n 1, 1) := by decide +kernel
theorem d_Law_law_174 : decode code 174 = .ok (.aload_n 0, 1) := by decide +kernel
theorem d_Law_law_175 : decode code 175 = .ok (.iload 4, 2) := by decide +kernel
theorem d_Law_law_177 : decode code 177 = .ok (.iconst 1, 1) := by decide +kernel
theorem d_Law_law_178 : decode code 178 = .ok (.iadd, 1) := by decide +kernel
theorem d_Law_law_179 : decode code 179 = .ok (.iaload, 1) := by decide +kernel
theorem d_Law_law_180 : decode code 180 = .ok (.aload_n 3, 1) := by decide +kernel
theorem d_Law_law_181 : decode code 181 = .ok (.invokestatic 45, 3) := by decide +kernel
theorem d_Law_law_184 : decode code 184 = .ok (.istore 5, 2) := by decide +kernel
theorem d_Law_law_186 : decode code 186 = .ok (.aload_n 2, 1) := by decide +kernel
theorem d_Law_law_187 : decode code 187 = .ok (.aload_n 0, 1) := by decide +kernel
theorem d_Law_law_188 : decode code 188 = .ok (.iload 4, 2) := by decide +kernel
theorem d_Law_law_190 : decode code 190 = .ok (.iconst 1, 1) := by decide +kernel
theorem d_Law_law_191 : decode code 191 = .ok (.iadd, 1) := by decide +kernel
theorem d_Law_law_192 : decode code 192 = .ok (.iaload, 1) := by decide +kernel
theorem d_Law_law_193 : decode code 193 = .ok (.invokevirtual 50, 3) := by decide +kernel
theorem d_Law_law_196 : decode code 196 = .ok (.istore 6, 2) := by decide +kernel
theorem d_Law_law_198 : decode code 198 = .ok (.aload_n 2, 1) := by decide +kernel
theorem d_Law_law_199 : decode code 199 = .ok (.invokevirtual 51, 3) := by decide +kernel
theorem d_Law_law_202 : decode code 202 = .ok (.iload 5, 2) := by decide +kernel
theorem d_Law_law_204 : decode code 204 = .ok (.if_icmp .eq 5, 3) := by decide +kernel
theorem d_Law_law_207 : decode code 207 = .ok (.iconst 0, 1) := by decide +kernel
theorem d_Law_law_208 : decode code 208 = .ok (.ireturn, 1) := by decide +kernel
theorem d_Law_law_209 : decode code 209 = .ok (.iload 5, 2) := by decide +kernel
theorem d_Law_law_211 : decode code 211 = .ok (.ifCond .ne 15, 3) := by decide +kernel
theorem d_Law_law_214 : decode code 214 = .ok (.aload_n 3, 1) := by decide +kernel
theorem d_Law_law_215 : decode code 215 = .ok (.iconst 0, 1) := by decide +kernel
theorem d_Law_law_216 : decode code 216 = .ok (.laload, 1) := by decide +kernel
theorem d_Law_law_217 : decode code 217 = .ok (.iload 6, 2) := by decide +kernel
theorem d_Law_law_219 : decode code 219 = .ok (.i2l, 1) := by decide +kernel
theorem d_Law_law_220 : decode code 220 = .ok (.lcmp, 1) := by decide +kernel
theorem d_Law_law_221 : decode code 221 = .ok (.ifCond .eq 5, 3) := by decide +kernel
theorem d_Law_law_224 : decode code 224 = .ok (.iconst 0, 1) := by decide +kernel
theorem d_Law_law_225 : decode code 225 = .ok (.ireturn, 1) := by decide +kernel
theorem d_Law_law_226 : decode code 226 = .ok (.goto 433, 3) := by decide +kernel
theorem d_Law_law_229 : decode code 229 = .ok (.aload_n 1, 1) := by decide +kernel
theorem d_Law_law_230 : decode code 230 = .ok (.invokevirtual 54, 3) := by decide +kernel
theorem d_Law_law_233 : decode code 233 = .ok (.aload_n 2, 1) := by decide +kernel
theorem d_Law_law_234 : decode code 234 = .ok (.invokevirtual 57, 3) := by decide +kernel
theorem d_Law_law_237 : decode code 237 = .ok (.if_icmp .eq 422, 3) := by decide +kernel
theorem d_Law_law_240 : decode code 240 = .ok (.iconst 0, 1) := by decide +kernel
theorem d_Law_law_241 : decode code 241 = .ok (.ireturn, 1) := by decide +kernel
theorem d_Law_law_242 : decode code 242 = .ok (.aload_n 1, 1) := by decide +kernel
theorem d_Law_law_243 : decode code 243 = .ok (.aload_n 0, 1) := by decide +kernel
theorem d_Law_law_244 : decode code 244 = .ok (.iload 4, 2) := by decide +kernel
theorem d_Law_law_246 : decode code 246 = .ok (.iconst 1, 1) := by decide +kernel
theorem d_Law_law_247 : decode code 247 = .ok (.iadd, 1) := by decide +kernel
theorem d_Law_law_248 : decode code 248 = .ok (.iaload, 1) := by decide +kernel
theorem d_Law_law_249 : decode code 249 = .ok (.invokevirtual 58, 3) := by decide +kernel
theorem d_Law_law_252 : decode code 252 = .ok (.aload_n 2, 1) := by decide +kernel
theorem d_Law_law_253 : decode code 253 = .ok (.aload_n 0, 1) := by decide +kernel
theorem d_Law_law_254 : decode code 254 = .ok (.iload 4, 2) := by decide +kernel
theorem d_Law_law_256 : decode code 256 = .ok (.iconst 1, 1) := by decide +kernel
theorem d_Law_law_257 : decode code 257 = .ok (.iadd, 1) := by decide +kernel
theorem d_Law_law_258 : decode code 258 = .ok (.iaload, 1) := by decide +kernel
theorem d_Law_law_259 : decode code 259 = .ok (.invokevirtual 62, 3) := by decide +kernel
theorem d_Law_law_262 : decode code 262 = .ok (.if_icmp .eq 397, 3) := by decide +kernel
theorem d_Law_law_265 : decode code 265 = .ok (.iconst 0, 1) := by decide +kernel
theorem d_Law_law_266 : decode code 266 = .ok (.ireturn, 1) := by decide +kernel
theorem d_Law_law_267 : decode code 267 = .ok (.aload_n 1, 1) := by decide +kernel
theorem d_Law_law_268 : decode code 268 = .ok (.aload_n 3, 1) := by decide +kernel
theorem d_Law_law_269 : decode code 269 = .ok (.invokestatic 63, 3) := by decide +kernel
theorem d_Law_law_272 : decode code 272 = .ok (.istore 5, 2) := by decide +kernel
theorem d_Law_law_274 : decode code 274 = .ok (.aload_n 2, 1) := by decide +kernel
theorem d_Law_law_275 : decode code 275 = .ok (.invokevirtual 66, 3) := by decide +kernel
theorem d_Law_law_278 : decode code 278 = .ok (.istore 6, 2) := by decide +kernel
theorem d_Law_law_280 : decode code 280 = .ok (.aload_n 2, 1) := by decide +kernel
theorem d_Law_law_281 : decode code 281 = .ok (.invokevirtual 51, 3) := by decide +kernel
theorem d_Law_law_284 : decode code 284 = .ok (.iload 5, 2) := by decide +kernel
theorem d_Law_law_286 : decode code 286 = .ok (.if_icmp .eq 5, 3) := by decide +kernel
theorem d_Law_law_289 : decode code 289 = .ok (.iconst 0, 1) := by decide +kernel
theorem d_Law_law_290 : decode code 290 = .ok (.ireturn, 1) := by decide +kernel
theorem d_Law_law_291 : decode code 291 = .ok (.iload 5, 2) := by decide +kernel
theorem d_Law_law_293 : decode code 293 = .ok (.ifCond .ne 15, 3) := by decide +kernel
theorem d_Law_law_296 : decode code 296 = .ok (.aload_n 3, 1) := by decide +kernel
theorem d_Law_law_297 : decode code 297 = .ok (.iconst 0, 1) := by decide +kernel
theorem d_Law_law_298 : decode code 298 = .ok (.laload, 1) := by decide +kernel
theorem d_Law_law_299 : decode code 299 = .ok (.iload 6, 2) := by decide +kernel
theorem d_Law_law_301 : decode code 301 = .ok (.i2l, 1) := by decide +kernel
theorem d_Law_law_302 : decode code 302 = .ok (.lcmp, 1) := by decide +kernel
theorem d_Law_law_303 : decode code 303 = .ok (.ifCond .eq 5, 3) := by decide +kernel
theorem d_Law_law_306 : decode code 306 = .ok (.iconst 0, 1) := by decide +kernel
theorem d_Law_law_307 : decode code 307 = .ok (.ireturn, 1) := by decide +kernel
theorem d_Law_law_308 : decode code 308 = .ok (.goto 351, 3) := by decide +kernel
theorem d_Law_law_311 : decode code 311 = .ok (.aload_n 1, 1) := by decide +kernel
theorem d_Law_law_312 : decode code 312 = .ok (.aload_n 0, 1) := by decide +kernel
theorem d_Law_law_313 : decode code 313 = .ok (.iload 4, 2) := by decide +kernel
theorem d_Law_law_315 : decode code 315 = .ok (.iconst 1, 1) := by decide +kernel
theorem d_Law_law_316 : decode code 316 = .ok (.iadd, 1) := by decide +kernel
theorem d_Law_law_317 : decode code 317 = .ok (.iaload, 1) := by decide +kernel
theorem d_Law_law_318 : decode code 318 = .ok (.aload_n 3, 1) := by decide +kernel
theorem d_Law_law_319 : decode code 319 = .ok (.invokestatic 67, 3) := by decide +kernel
theorem d_Law_law_322 : decode code 322 = .ok (.istore 5, 2) := by decide +kernel
theorem d_Law_law_324 : decode code 324 = .ok (.aload_n 2, 1) := by decide +kernel
theorem d_Law_law_325 : decode code 325 = .ok (.aload_n 0, 1) := by decide +kernel
theorem d_Law_law_326 : decode code 326 = .ok (.iload 4, 2) := by decide +kernel
theorem d_Law_law_328 : decode code 328 = .ok (.iconst 1, 1) := by decide +kernel
theorem d_Law_law_329 : decode code 329 = .ok (.iadd, 1) := by decide +kernel
theorem d_Law_law_330 : decode code 330 = .ok (.iaload, 1) := by decide +kernel
theorem d_Law_law_331 : decode code 331 = .ok (.invokevirtual 69, 3) := by decide +kernel
theorem d_Law_law_334 : decode code 334 = .ok (.istore 6, 2) := by decide +kernel
theorem d_Law_law_336 : decode code 336 = .ok (.aload_n 2, 1) := by decide +kernel
theorem d_Law_law_337 : decode code 337 = .ok (.invokevirtual 51, 3) := by decide +kernel
theorem d_Law_law_340 : decode code 340 = .ok (.iload 5, 2) := by decide +kernel
theorem d_Law_law_342 : decode code 342 = .ok (.if_icmp .eq 5, 3) := by decide +kernel
theorem d_Law_law_345 : decode code 345 = .ok (.iconst 0, 1) := by decide +kernel
theorem d_Law_law_346 : decode code 346 = .ok (.ireturn, 1) := by decide +kernel
theorem d_Law_law_347 : decode code 347 = .ok (.iload 5, 2) := by decide +kernel
theorem d_Law_law_349 : decode code 349 = .ok (.ifCond .ne 15, 3) := by decide +kernel
theorem d_Law_law_352 : decode code 352 = .ok (.aload_n 3, 1) := by decide +kernel
theorem d_Law_law_353 : decode code 353 = .ok (.iconst 0, 1) := by decide +kernel
theorem d_Law_law_354 : decode code 354 = .ok (.laload, 1) := by decide +kernel
theorem d_Law_law_355 : decode code 355 = .ok (.iload 6, 2) := by decide +kernel
theorem d_Law_law_357 : decode code 357 = .ok (.i2l, 1) := by decide +kernel
theorem d_Law_law_358 : decode code 358 = .ok (.lcmp, 1) := by decide +kernel
theorem d_Law_law_359 : decode code 359 = .ok (.ifCond .eq 5, 3) := by decide +kernel
theorem d_Law_law_362 : decode code 362 = .ok (.iconst 0, 1) := by decide +kernel
theorem d_Law_law_363 : decode code 363 = .ok (.ireturn, 1) := by decide +kernel
theorem d_Law_law_364 : decode code 364 = .ok (.goto 295, 3) := by decide +kernel
theorem d_Law_law_367 : decode code 367 = .ok (.aload_n 1, 1) := by decide +kernel
theorem d_Law_law_368 : decode code 368 = .ok (.aload_n 3, 1) := by decide +kernel
theorem d_Law_law_369 : decode code 369 = .ok (.invokestatic 70, 3) := by decide +kernel
theorem d_Law_law_372 : decode code 372 = .ok (.istore 5, 2) := by decide +kernel
theorem d_Law_law_374 : decode code 374 = .ok (.aload_n 2, 1) := by decide +kernel
theorem d_Law_law_375 : decode code 375 = .ok (.invokevirtual 72, 3) := by decide +kernel
theorem d_Law_law_378 : decode code 378 = .ok (.istore 6, 2) := by decide +kernel
theorem d_Law_law_380 : decode code 380 = .ok (.aload_n 2, 1) := by decide +kernel
theorem d_Law_law_381 : decode code 381 = .ok (.invokevirtual 51, 3) := by decide +kernel
theorem d_Law_law_384 : decode code 384 = .ok (.iload 5, 2) := by decide +kernel
theorem d_Law_law_386 : decode code 386 = .ok (.if_icmp .eq 5, 3) := by decide +kernel
theorem d_Law_law_389 : decode code 389 = .ok (.iconst 0, 1) := by decide +kernel
theorem d_Law_law_390 : decode code 390 = .ok (.ireturn, 1) := by decide +kernel
theorem d_Law_law_391 : decode code 391 = .ok (.iload 5, 2) := by decide +kernel
theorem d_Law_law_393 : decode code 393 = .ok (.ifCond .ne 22, 3) := by decide +kernel
theorem d_Law_law_396 : decode code 396 = .ok (.aload_n 3, 1) := by decide +kernel
theorem d_Law_law_397 : decode code 397 = .ok (.iconst 0, 1) := by decide +kernel
theorem d_Law_law_398 : decode code 398 = .ok (.laload, 1) := by decide +kernel
theorem d_Law_law_399 : decode code 399 = .ok (.iload 6, 2) := by decide +kernel
theorem d_Law_law_401 : decode code 401 = .ok (.ifCond .eq 7, 3) := by decide +kernel
theorem d_Law_law_404 : decode code 404 = .ok (.lconst 1, 1) := by decide +kernel
theorem d_Law_law_405 : decode code 405 = .ok (.goto 4, 3) := by decide +kernel
theorem d_Law_law_408 : decode code 408 = .ok (.lconst 0, 1) := by decide +kernel
theorem d_Law_law_409 : decode code 409 = .ok (.lcmp, 1) := by decide +kernel
theorem d_Law_law_410 : decode code 410 = .ok (.ifCond .eq 5, 3) := by decide +kernel
theorem d_Law_law_413 : decode code 413 = .ok (.iconst 0, 1) := by decide +kernel
theorem d_Law_law_414 : decode code 414 = .ok (.ireturn, 1) := by decide +kernel
theorem d_Law_law_415 : decode code 415 = .ok (.goto 244, 3) := by decide +kernel
theorem d_Law_law_418 : decode code 418 = .ok (.aload_n 1, 1) := by decide +kernel
theorem d_Law_law_419 : decode code 419 = .ok (.aload_n 0, 1) := by decide +kernel
theorem d_Law_law_420 : decode code 420 = .ok (.iload 4, 2) := by decide +kernel
theorem d_Law_law_422 : decode code 422 = .ok (.iconst 1, 1) := by decide +kernel
theorem d_Law_law_423 : decode code 423 = .ok (.iadd, 1) := by decide +kernel
theorem d_Law_law_424 : decode code 424 = .ok (.iaload, 1) := by decide +kernel
theorem d_Law_law_425 : decode code 425 = .ok (.aload_n 0, 1) := by decide +kernel
theorem d_Law_law_426 : decode code 426 = .ok (.iload 4, 2) := by decide +kernel
theorem d_Law_law_428 : decode code 428 = .ok (.iconst 2, 1) := by decide +kernel
theorem d_Law_law_429 : decode code 429 = .ok (.iadd, 1) := by decide +kernel
theorem d_Law_law_430 : decode code 430 = .ok (.iaload, 1) := by decide +kernel
theorem d_Law_law_431 : decode code 431 = .ok (.invokevirtual 73, 3) := by decide +kernel
theorem d_Law_law_434 : decode code 434 = .ok (.aload_n 2, 1) := by decide +kernel
theorem d_Law_law_435 : decode code 435 = .ok (.aload_n 0, 1) := by decide +kernel
theorem d_Law_law_436 : decode code 436 = .ok (.iload 4, 2) := by decide +kernel
theorem d_Law_law_438 : decode code 438 = .ok (.iconst 1, 1) := by decide +kernel
theorem d_Law_law_439 : decode code 439 = .ok (.iadd, 1) := by decide +kernel
theorem d_Law_law_440 : decode code 440 = .ok (.iaload, 1) := by decide +kernel
theorem d_Law_law_441 : decode code 441 = .ok (.aload_n 0, 1) := by decide +kernel
theorem d_Law_law_442 : decode code 442 = .ok (.iload 4, 2) := by decide +kernel
theorem d_Law_law_444 : decode code 444 = .ok (.iconst 2, 1) := by decide +kernel
theorem d_Law_law_445 : decode code 445 = .ok (.iadd, 1) := by decide +kernel
theorem d_Law_law_446 : decode code 446 = .ok (.iaload, 1) := by decide +kernel
theorem d_Law_law_447 : decode code 447 = .ok (.invokevirtual 76, 3) := by decide +kernel
theorem d_Law_law_450 : decode code 450 = .ok (.if_icmp .eq 209, 3) := by decide +kernel
theorem d_Law_law_453 : decode code 453 = .ok (.iconst 0, 1) := by decide +kernel
theorem d_Law_law_454 : decode code 454 = .ok (.ireturn, 1) := by decide +kernel
theorem d_Law_law_455 : decode code 455 = .ok (.aload_n 1, 1) := by decide +kernel
theorem d_Law_law_456 : decode code 456 = .ok (.aload_n 0, 1) := by decide +kernel
theorem d_Law_law_457 : decode code 457 = .ok (.iload 4, 2) := by decide +kernel
theorem d_Law_law_459 : decode code 459 = .ok (.iconst 1, 1) := by decide +kernel
theorem d_Law_law_460 : decode code 460 = .ok (.iadd, 1) := by decide +kernel
theorem d_Law_law_461 : decode code 461 = .ok (.iaload, 1) := by decide +kernel
theorem d_Law_law_462 : decode code 462 = .ok (.aload_n 0, 1) := by decide +kernel
theorem d_Law_law_463 : decode code 463 = .ok (.iload 4, 2) := by decide +kernel
theorem d_Law_law_465 : decode code 465 = .ok (.iconst 2, 1) := by decide +kernel
theorem d_Law_law_466 : decode code 466 = .ok (.iadd, 1) := by decide +kernel
theorem d_Law_law_467 : decode code 467 = .ok (.iaload, 1) := by decide +kernel
theorem d_Law_law_468 : decode code 468 = .ok (.aload_n 3, 1) := by decide +kernel
theorem d_Law_law_469 : decode code 469 = .ok (.invokestatic 77, 3) := by decide +kernel
theorem d_Law_law_472 : decode code 472 = .ok (.istore 5, 2) := by decide +kernel
theorem d_Law_law_474 : decode code 474 = .ok (.aload_n 2, 1) := by decide +kernel
theorem d_Law_law_475 : decode code 475 = .ok (.aload_n 0, 1) := by decide +kernel
theorem d_Law_law_476 : decode code 476 = .ok (.iload 4, 2) := by decide +kernel
theorem d_Law_law_478 : decode code 478 = .ok (.iconst 1, 1) := by decide +kernel
theorem d_Law_law_479 : decode code 479 = .ok (.iadd, 1) := by decide +kernel
theorem d_Law_law_480 : decode code 480 = .ok (.iaload, 1) := by decide +kernel
theorem d_Law_law_481 : decode code 481 = .ok (.aload_n 0, 1) := by decide +kernel
theorem d_Law_law_482 : decode code 482 = .ok (.iload 4, 2) := by decide +kernel
theorem d_Law_law_484 : decode code 484 = .ok (.iconst 2, 1) := by decide +kernel
theorem d_Law_law_485 : decode code 485 = .ok (.iadd, 1) := by decide +kernel
theorem d_Law_law_486 : decode code 486 = .ok (.iaload, 1) := by decide +kernel
theorem d_Law_law_487 : decode code 487 = .ok (.invokevirtual 80, 3) := by decide +kernel
theorem d_Law_law_490 : decode code 490 = .ok (.istore 6, 2) := by decide +kernel
theorem d_Law_law_492 : decode code 492 = .ok (.aload_n 2, 1) := by decide +kernel
theorem d_Law_law_493 : decode code 493 = .ok (.invokevirtual 51, 3) := by decide +kernel
theorem d_Law_law_496 : decode code 496 = .ok (.iload 5, 2) := by decide +kernel
theorem d_Law_law_498 : decode code 498 = .ok (.if_icmp .eq 5, 3) := by decide +kernel
theorem d_Law_law_501 : decode code 501 = .ok (.iconst 0, 1) := by decide +kernel
theorem d_Law_law_502 : decode code 502 = .ok (.ireturn, 1) := by decide +kernel
theorem d_Law_law_503 : decode code 503 = .ok (.iload 5, 2) := by decide +kernel
theorem d_Law_law_505 : decode code 505 = .ok (.ifCond .ne 15, 3) := by decide +kernel
theorem d_Law_law_508 : decode code 508 = .ok (.aload_n 3, 1) := by decide +kernel
theorem d_Law_law_509 : decode code 509 = .ok (.iconst 0, 1) := by decide +kernel
theorem d_Law_law_510 : decode code 510 = .ok (.laload, 1) := by decide +kernel
theorem d_Law_law_511 : decode code 511 = .ok (.iload 6, 2) := by decide +kernel
theorem d_Law_law_513 : decode code 513 = .ok (.i2l, 1) := by decide +kernel
theorem d_Law_law_514 : decode code 514 = .ok (.lcmp, 1) := by decide +kernel
theorem d_Law_law_515 : decode code 515 = .ok (.ifCond .eq 5, 3) := by decide +kernel
theorem d_Law_law_518 : decode code 518 = .ok (.iconst 0, 1) := by decide +kernel
theorem d_Law_law_519 : decode code 519 = .ok (.ireturn, 1) := by decide +kernel
theorem d_Law_law_520 : decode code 520 = .ok (.goto 139, 3) := by decide +kernel
theorem d_Law_law_523 : decode code 523 = .ok (.aload_n 1, 1) := by decide +kernel
theorem d_Law_law_524 : decode code 524 = .ok (.aload_n 0, 1) := by decide +kernel
theorem d_Law_law_525 : decode code 525 = .ok (.iload 4, 2) := by decide +kernel
theorem d_Law_law_527 : decode code 527 = .ok (.iconst 1, 1) := by decide +kernel
theorem d_Law_law_528 : decode code 528 = .ok (.iadd, 1) := by decide +kernel
theorem d_Law_law_529 : decode code 529 = .ok (.iaload, 1) := by decide +kernel
theorem d_Law_law_530 : decode code 530 = .ok (.aload_n 0, 1) := by decide +kernel
theorem d_Law_law_531 : decode code 531 = .ok (.iload 4, 2) := by decide +kernel
theorem d_Law_law_533 : decode code 533 = .ok (.iconst 2, 1) := by decide +kernel
theorem d_Law_law_534 : decode code 534 = .ok (.iadd, 1) := by decide +kernel
theorem d_Law_law_535 : decode code 535 = .ok (.iaload, 1) := by decide +kernel
theorem d_Law_law_536 : decode code 536 = .ok (.invokevirtual 81, 3) := by decide +kernel
theorem d_Law_law_539 : decode code 539 = .ok (.aload_n 2, 1) := by decide +kernel
theorem d_Law_law_540 : decode code 540 = .ok (.aload_n 0, 1) := by decide +kernel
theorem d_Law_law_541 : decode code 541 = .ok (.iload 4, 2) := by decide +kernel
theorem d_Law_law_543 : decode code 543 = .ok (.iconst 1, 1) := by decide +kernel
theorem d_Law_law_544 : decode code 544 = .ok (.iadd, 1) := by decide +kernel
theorem d_Law_law_545 : decode code 545 = .ok (.iaload, 1) := by decide +kernel
theorem d_Law_law_546 : decode code 546 = .ok (.aload_n 0, 1) := by decide +kernel
theorem d_Law_law_547 : decode code 547 = .ok (.iload 4, 2) := by decide +kernel
theorem d_Law_law_549 : decode code 549 = .ok (.iconst 2, 1) := by decide +kernel
theorem d_Law_law_550 : decode code 550 = .ok (.iadd, 1) := by decide +kernel
theorem d_Law_law_551 : decode code 551 = .ok (.iaload, 1) := by decide +kernel
theorem d_Law_law_552 : decode code 552 = .ok (.invokevirtual 84, 3) := by decide +kernel
theorem d_Law_law_555 : decode code 555 = .ok (.if_icmp .eq 104, 3) := by decide +kernel
theorem d_Law_law_558 : decode code 558 = .ok (.iconst 0, 1) := by decide +kernel
theorem d_Law_law_559 : decode code 559 = .ok (.ireturn, 1) := by decide +kernel
theorem d_Law_law_560 : decode code 560 = .ok (.aload_n 1, 1) := by decide +kernel
theorem d_Law_law_561 : decode code 561 = .ok (.aload_n 0, 1) := by decide +kernel
theorem d_Law_law_562 : decode code 562 = .ok (.iload 4, 2) := by decide +kernel
theorem d_Law_law_564 : decode code 564 = .ok (.iconst 1, 1) := by decide +kernel
theorem d_Law_law_565 : decode code 565 = .ok (.iadd, 1) := by decide +kernel
theorem d_Law_law_566 : decode code 566 = .ok (.iaload, 1) := by decide +kernel
theorem d_Law_law_567 : decode code 567 = .ok (.aload_n 0, 1) := by decide +kernel
theorem d_Law_law_568 : decode code 568 = .ok (.iload 4, 2) := by decide +kernel
theorem d_Law_law_570 : decode code 570 = .ok (.iconst 2, 1) := by decide +kernel
theorem d_Law_law_571 : decode code 571 = .ok (.iadd, 1) := by decide +kernel
theorem d_Law_law_572 : decode code 572 = .ok (.iaload, 1) := by decide +kernel
theorem d_Law_law_573 : decode code 573 = .ok (.invokevirtual 85, 3) := by decide +kernel
theorem d_Law_law_576 : decode code 576 = .ok (.aload_n 2, 1) := by decide +kernel
theorem d_Law_law_577 : decode code 577 = .ok (.aload_n 0, 1) := by decide +kernel
theorem d_Law_law_578 : decode code 578 = .ok (.iload 4, 2) := by decide +kernel
theorem d_Law_law_580 : decode code 580 = .ok (.iconst 1, 1) := by decide +kernel
theorem d_Law_law_581 : decode code 581 = .ok (.iadd, 1) := by decide +kernel
theorem d_Law_law_582 : decode code 582 = .ok (.iaload, 1) := by decide +kernel
theorem d_Law_law_583 : decode code 583 = .ok (.aload_n 0, 1) := by decide +kernel
theorem d_Law_law_584 : decode code 584 = .ok (.iload 4, 2) := by decide +kernel
theorem d_Law_law_586 : decode code 586 = .ok (.iconst 2, 1) := by decide +kernel
theorem d_Law_law_587 : decode code 587 = .ok (.iadd, 1) := by decide +kernel
theorem d_Law_law_588 : decode code 588 = .ok (.iaload, 1) := by decide +kernel
theorem d_Law_law_589 : decode code 589 = .ok (.invokevirtual 88, 3) := by decide +kernel
theorem d_Law_law_592 : decode code 592 = .ok (.if_icmp .eq 67, 3) := by decide +kernel
theorem d_Law_law_595 : decode code 595 = .ok (.iconst 0, 1) := by decide +kernel
theorem d_Law_law_596 : decode code 596 = .ok (.ireturn, 1) := by decide +kernel
theorem d_Law_law_597 : decode code 597 = .ok (.aload_n 1, 1) := by decide +kernel
theorem d_Law_law_598 : decode code 598 = .ok (.aload_n 0, 1) := by decide +kernel
theorem d_Law_law_599 : decode code 599 = .ok (.iload 4, 2) := by decide +kernel
theorem d_Law_law_601 : decode code 601 = .ok (.iconst 1, 1) := by decide +kernel
theorem d_Law_law_602 : decode code 602 = .ok (.iadd, 1) := by decide +kernel
theorem d_Law_law_603 : decode code 603 = .ok (.iaload, 1) := by decide +kernel
theorem d_Law_law_604 : decode code 604 = .ok (.aload_n 0, 1) := by decide +kernel
theorem d_Law_law_605 : decode code 605 = .ok (.iload 4, 2) := by decide +kernel
theorem d_Law_law_607 : decode code 607 = .ok (.iconst 2, 1) := by decide +kernel
theorem d_Law_law_608 : decode code 608 = .ok (.iadd, 1) := by decide +kernel
theorem d_Law_law_609 : decode code 609 = .ok (.iaload, 1) := by decide +kernel
theorem d_Law_law_610 : decode code 610 = .ok (.invokevirtual 89, 3) := by decide +kernel
theorem d_Law_law_613 : decode code 613 = .ok (.aload_n 2, 1) := by decide +kernel
theorem d_Law_law_614 : decode code 614 = .ok (.aload_n 0, 1) := by decide +kernel
theorem d_Law_law_615 : decode code 615 = .ok (.iload 4, 2) := by decide +kernel
theorem d_Law_law_617 : decode code 617 = .ok (.iconst 1, 1) := by decide +kernel
theorem d_Law_law_618 : decode code 618 = .ok (.iadd, 1) := by decide +kernel
theorem d_Law_law_619 : decode code 619 = .ok (.iaload, 1) := by decide +kernel
theorem d_Law_law_620 : decode code 620 = .ok (.aload_n 0, 1) := by decide +kernel
theorem d_Law_law_621 : decode code 621 = .ok (.iload 4, 2) := by decide +kernel
theorem d_Law_law_623 : decode code 623 = .ok (.iconst 2, 1) := by decide +kernel
theorem d_Law_law_624 : decode code 624 = .ok (.iadd, 1) := by decide +kernel
theorem d_Law_law_625 : decode code 625 = .ok (.iaload, 1) := by decide +kernel
theorem d_Law_law_626 : decode code 626 = .ok (.invokevirtual 92, 3) := by decide +kernel
theorem d_Law_law_629 : decode code 629 = .ok (.if_icmp .eq 30, 3) := by decide +kernel
theorem d_Law_law_632 : decode code 632 = .ok (.iconst 0, 1) := by decide +kernel
theorem d_Law_law_633 : decode code 633 = .ok (.ireturn, 1) := by decide +kernel
theorem d_Law_law_634 : decode code 634 = .ok (.aload_n 1, 1) := by decide +kernel
theorem d_Law_law_635 : decode code 635 = .ok (.aload_n 0, 1) := by decide +kernel
theorem d_Law_law_636 : decode code 636 = .ok (.iload 4, 2) := by decide +kernel
theorem d_Law_law_638 : decode code 638 = .ok (.iconst 1, 1) := by decide +kernel
theorem d_Law_law_639 : decode code 639 = .ok (.iadd, 1) := by decide +kernel
theorem d_Law_law_640 : decode code 640 = .ok (.iaload, 1) := by decide +kernel
theorem d_Law_law_641 : decode code 641 = .ok (.invokevirtual 93, 3) := by decide +kernel
theorem d_Law_law_644 : decode code 644 = .ok (.aload_n 2, 1) := by decide +kernel
theorem d_Law_law_645 : decode code 645 = .ok (.aload_n 0, 1) := by decide +kernel
theorem d_Law_law_646 : decode code 646 = .ok (.iload 4, 2) := by decide +kernel
theorem d_Law_law_648 : decode code 648 = .ok (.iconst 1, 1) := by decide +kernel
theorem d_Law_law_649 : decode code 649 = .ok (.iadd, 1) := by decide +kernel
theorem d_Law_law_650 : decode code 650 = .ok (.iaload, 1) := by decide +kernel
theorem d_Law_law_651 : decode code 651 = .ok (.invokevirtual 96, 3) := by decide +kernel
theorem d_Law_law_654 : decode code 654 = .ok (.if_icmp .eq 5, 3) := by decide +kernel
theorem d_Law_law_657 : decode code 657 = .ok (.iconst 0, 1) := by decide +kernel
theorem d_Law_law_658 : decode code 658 = .ok (.ireturn, 1) := by decide +kernel
theorem d_Law_law_659 : decode code 659 = .ok (.iinc 4 4, 3) := by decide +kernel
theorem d_Law_law_662 : decode code 662 = .ok (.goto (-639), 3) := by decide +kernel
theorem d_Law_law_665 : decode code 665 = .ok (.iconst 1, 1) := by decide +kernel
theorem d_Law_law_666 : decode code 666 = .ok (.ireturn, 1) := by decide +kernel
-- the law's own cells and slots at most: 729, 42807
abbrev C_Law_law (l : Launch) (D : va_G) (g : Nat → ClassId) (p : Program) (s : State) (m : MethodId) (meth : Method) (c : Code) (b L : Nat) (xs : Nat → Int32) : Prop := Cx p s m #[Value.ref b] c code 7 R_Law BIG D vwCl (tysG g) (mA m0 s.heap.size) ∧ meth.sig.returnType = ret ∧ meth.locks = false ∧ mT s ∧ l.flags = pinnedFlags ++ [noTraceFlag] ∧ va_X b L xs s s.heap ∧ b < s.heap.size
def B_Law_law (l : Launch) (D : va_G) (p : Program) (e : Env) (s : State) (m : MethodId) (b : Nat) (below : List Frame) (meth : Method) (c : Code) (cn sn : Nat) (M : Mem) (pc : Nat) (lv : List (Nat × Value)) (st : List Value) : Prop := ∀ (ls : Array Slot) (H : Heap) (locs : List Loc), mW D vwCl (mA m0 s.heap.size) M H → va_S (mA m0 s.heap.size) s.heap H locs → lv_has ls 7 lv → W p l e room_1 s m #[Value.ref b] below meth c H locs cn sn (lw_Z below #[Value.ref b] s) (F0 m pc ls st)
def wp_Law_law_b659 (g : Nat → ClassId) (b L : Nat) (xs : Nat → Int32) (J23 : Int32 → Mem → Prop) (M : Mem) (x1 : Nat) (x2 : Nat) (x3 : Nat) (x4 : Int32) : Prop :=
  J23 (x4 + (4 : Int32)) M
set_option maxHeartbeats 4000000 in
set_option maxRecDepth 100000 in
theorem t_Law_law_b659 {l : Launch} {D : va_G} {g : Nat → ClassId} {p : Program} {e : Env} {s : State} {m : MethodId} {below : List Frame} {meth : Method} {c : Code} {b L : Nat} {xs : Nat → Int32} {J23 : Int32 → Mem → Prop} {M : Mem} {x1 : Nat} {x2 : Nat} {x3 : Nat} {x4 : Int32} (C : C_Law_law l D g p s m meth c b L xs) (h : wp_Law_law_b659 g b L xs J23 M x1 x2 x3 x4 ) {cn sn mu : Nat} (hcn : cn + 0 + 1 * mu + 0 ≤ 601024) (hsn : sn + 0 + 6 * mu + 0 ≤ 7293034) (kJ23 : ∀ (cn sn : Nat) (x4 : Int32) (M : Mem), J23 x4 M → cn + 1 * mu + 0 ≤ 601024 → sn + 6 * mu + 0 ≤ 7293034 → B_Law_law l D p e s m b below meth c cn sn M 23 [(0, .ref b), (1, .ref x1), (2, .ref x2), (3, .ref x3), (4, .int x4)] []) : B_Law_law l D p e s m b below meth c cn sn M 659 [(0, .ref b), (1, .ref x1), (2, .ref x2), (3, .ref x3), (4, .int x4)] [] := by
  have hfl := C.2.2.2.2.1
  intro ls H locs hM hS hl
  unfold wp_Law_law_b659 at h
  refine lv_iinc (v := x4 + (4 : Int32)) (lv' := [(4, .int (x4 + (4 : Int32))), (0, .ref b), (1, .ref x1), (2, .ref x2), (3, .ref x3)]) C.1.1 C.1.2.1 d_Law_law_659 hl (k := 4) rfl rfl (by decide) rfl (fun ls hl => ?_)
  refine lv_goto (tgt := 23) C.1.1 C.1.2.1 d_Law_law_662 (by decide) ?_
  exact kJ23 _ _ (x4 + (4 : Int32)) M h (show _ ≤ (601024 : Nat) by omega) (show _ ≤ (7293034 : Nat) by omega) _ _ _ hM hS (lv_sub hl [1, 2, 3, 4, 0] rfl)
def wp_Law_law_b520 (g : Nat → ClassId) (b L : Nat) (xs : Nat → Int32) (J23 : Int32 → Mem → Prop) (M : Mem) (x1 : Nat) (x2 : Nat) (x3 : Nat) (x4 : Int32) : Prop :=
  wp_Law_law_b659 g b L xs J23 M x1 x2 x3 x4
set_option maxHeartbeats 4000000 in
set_option maxRecDepth 100000 in
theorem t_Law_law_b520 {l : Launch} {D : va_G} {g : Nat → ClassId} {p : Program} {e : Env} {s : State} {m : MethodId} {below : List Frame} {meth : Method} {c : Code} {b L : Nat} {xs : Nat → Int32} {J23 : Int32 → Mem → Prop} {M : Mem} {x1 : Nat} {x2 : Nat} {x3 : Nat} {x4 : Int32} (C : C_Law_law l D g p s m meth c b L xs) (h : wp_Law_law_b520 g b L xs J23 M x1 x2 x3 x4 ) {cn sn mu : Nat} (hcn : cn + 0 + 1 * mu + 0 ≤ 601024) (hsn : sn + 0 + 6 * mu + 0 ≤ 7293034) (kJ23 : ∀ (cn sn : Nat) (x4 : Int32) (M : Mem), J23 x4 M → cn + 1 * mu + 0 ≤ 601024 → sn + 6 * mu + 0 ≤ 7293034 → B_Law_law l D p e s m b below meth c cn sn M 23 [(0, .ref b), (1, .ref x1), (2, .ref x2), (3, .ref x3), (4, .int x4)] []) : B_Law_law l D p e s m b below meth c cn sn M 520 [(0, .ref b), (1, .ref x1), (2, .ref x2), (3, .ref x3), (4, .int x4)] [] := by
  have hfl := C.2.2.2.2.1
  intro ls H locs hM hS hl
  unfold wp_Law_law_b520 at h
  refine lv_goto (tgt := 659) C.1.1 C.1.2.1 d_Law_law_520 (by decide) ?_
  exact t_Law_law_b659 C h (mu := (mu)) (show _ ≤ (601024 : Nat) by omega) (show _ ≤ (7293034 : Nat) by omega) kJ23 _ _ _ hM hS (lv_sub hl [0, 1, 2, 3, 4] rfl)
def wp_Law_law_b415 (g : Nat → ClassId) (b L : Nat) (xs : Nat → Int32) (J23 : Int32 → Mem → Prop) (M : Mem) (x1 : Nat) (x2 : Nat) (x3 : Nat) (x4 : Int32) : Prop :=
  wp_Law_law_b659 g b L xs J23 M x1 x2 x3 x4
set_option maxHeartbeats 4000000 in
set_option maxRecDepth 100000 in
theorem t_Law_law_b415 {l : Launch} {D : va_G} {g : Nat → ClassId} {p : Program} {e : Env} {s : State} {m : MethodId} {below : List Frame} {meth : Method} {c : Code} {b L : Nat} {xs : Nat → Int32} {J23 : Int32 → Mem → Prop} {M : Mem} {x1 : Nat} {x2 : Nat} {x3 : Nat} {x4 : Int32} (C : C_Law_law l D g p s m meth c b L xs) (h : wp_Law_law_b415 g b L xs J23 M x1 x2 x3 x4 ) {cn sn mu : Nat} (hcn : cn + 0 + 1 * mu + 0 ≤ 601024) (hsn : sn + 0 + 6 * mu + 0 ≤ 7293034) (kJ23 : ∀ (cn sn : Nat) (x4 : Int32) (M : Mem), J23 x4 M → cn + 1 * mu + 0 ≤ 601024 → sn + 6 * mu + 0 ≤ 7293034 → B_Law_law l D p e s m b below meth c cn sn M 23 [(0, .ref b), (1, .ref x1), (2, .ref x2), (3, .ref x3), (4, .int x4)] []) : B_Law_law l D p e s m b below meth c cn sn M 415 [(0, .ref b), (1, .ref x1), (2, .ref x2), (3, .ref x3), (4, .int x4)] [] := by
  have hfl := C.2.2.2.2.1
  intro ls H locs hM hS hl
  unfold wp_Law_law_b415 at h
  refine lv_goto (tgt := 659) C.1.1 C.1.2.1 d_Law_law_415 (by decide) ?_
  exact t_Law_law_b659 C h (mu := (mu)) (show _ ≤ (601024 : Nat) by omega) (show _ ≤ (7293034 : Nat) by omega) kJ23 _ _ _ hM hS (lv_sub hl [0, 1, 2, 3, 4] rfl)
def wp_Law_law_b409 (g : Nat → ClassId) (b L : Nat) (xs : Nat → Int32) (J23 : Int32 → Mem → Prop) (M : Mem) (x1 : Nat) (x2 : Nat) (x3 : Nat) (x4 : Int32) (t0 : Int64) (t1 : Int64) : Prop :=
  ((lg_cmp t0 t1) = 0 → (wp_Law_law_b415 g b L xs J23 M x1 x2 x3 x4)) ∧ (¬ (lg_cmp t0 t1) = 0 → (False))
set_option maxHeartbeats 4000000 in
set_option maxRecDepth 100000 in
theorem t_Law_law_b409 {l : Launch} {D : va_G} {g : Nat → ClassId} {p : Program} {e : Env} {s : State} {m : MethodId} {below : List Frame} {meth : Method} {c : Code} {b L : Nat} {xs : Nat → Int32} {J23 : Int32 → Mem → Prop} {M : Mem} {x1 : Nat} {x2 : Nat} {x3 : Nat} {x4 : Int32} {t0 : Int64} {t1 : Int64} (C : C_Law_law l D g p s m meth c b L xs) (h : wp_Law_law_b409 g b L xs J23 M x1 x2 x3 x4 t0 t1) {cn sn mu : Nat} (hcn : cn + 0 + 1 * mu + 0 ≤ 601024) (hsn : sn + 0 + 6 * mu + 0 ≤ 7293034) (kJ23 : ∀ (cn sn : Nat) (x4 : Int32) (M : Mem), J23 x4 M → cn + 1 * mu + 0 ≤ 601024 → sn + 6 * mu + 0 ≤ 7293034 → B_Law_law l D p e s m b below meth c cn sn M 23 [(0, .ref b), (1, .ref x1), (2, .ref x2), (3, .ref x3), (4, .int x4)] []) : B_Law_law l D p e s m b below meth c cn sn M 409 [(0, .ref b), (1, .ref x1), (2, .ref x2), (3, .ref x3), (4, .int x4)] [.long t1, .long t0] := by
  have hfl := C.2.2.2.2.1
  intro ls H locs hM hS hl
  unfold wp_Law_law_b409 at h
  refine W.lcmp C.1.1 C.1.2.1 d_Law_law_409 ?_
  refine lv_if_eq (tgt := 415) C.1.1 C.1.2.1 d_Law_law_410 (by decide) (fun c1 => ?_) (fun c1 => ?_)
  · have h := h.1 c1
    exact t_Law_law_b415 C h (mu := (mu)) (show _ ≤ (601024 : Nat) by omega) (show _ ≤ (7293034 : Nat) by omega) kJ23 _ _ _ hM hS (lv_sub hl [0, 1, 2, 3, 4] rfl)
  · have h := h.2 c1
    refine lv_iconst (v := (0 : Int32)) C.1.1 C.1.2.1 d_Law_law_413 (by decide) ?_
    exact h.elim
def wp_Law_law_b364 (g : Nat → ClassId) (b L : Nat) (xs : Nat → Int32) (J23 : Int32 → Mem → Prop) (M : Mem) (x1 : Nat) (x2 : Nat) (x3 : Nat) (x4 : Int32) : Prop :=
  wp_Law_law_b659 g b L xs J23 M x1 x2 x3 x4
set_option maxHeartbeats 4000000 in
set_option maxRecDepth 100000 in
theorem t_Law_law_b364 {l : Launch} {D : va_G} {g : Nat → ClassId} {p : Program} {e : Env} {s : State} {m : MethodId} {below : List Frame} {meth : Method} {c : Code} {b L : Nat} {xs : Nat → Int32} {J23 : Int32 → Mem → Prop} {M : Mem} {x1 : Nat} {x2 : Nat} {x3 : Nat} {x4 : Int32} (C : C_Law_law l D g p s m meth c b L xs) (h : wp_Law_law_b364 g b L xs J23 M x1 x2 x3 x4 ) {cn sn mu : Nat} (hcn : cn + 0 + 1 * mu + 0 ≤ 601024) (hsn : sn + 0 + 6 * mu + 0 ≤ 7293034) (kJ23 : ∀ (cn sn : Nat) (x4 : Int32) (M : Mem), J23 x4 M → cn + 1 * mu + 0 ≤ 601024 → sn + 6 * mu + 0 ≤ 7293034 → B_Law_law l D p e s m b below meth c cn sn M 23 [(0, .ref b), (1, .ref x1), (2, .ref x2), (3, .ref x3), (4, .int x4)] []) : B_Law_law l D p e s m b below meth c cn sn M 364 [(0, .ref b), (1, .ref x1), (2, .ref x2), (3, .ref x3), (4, .int x4)] [] := by
  have hfl := C.2.2.2.2.1
  intro ls H locs hM hS hl
  unfold wp_Law_law_b364 at h
  refine lv_goto (tgt := 659) C.1.1 C.1.2.1 d_Law_law_364 (by decide) ?_
  exact t_Law_law_b659 C h (mu := (mu)) (show _ ≤ (601024 : Nat) by omega) (show _ ≤ (7293034 : Nat) by omega) kJ23 _ _ _ hM hS (lv_sub hl [0, 1, 2, 3, 4] rfl)
def wp_Law_law_b308 (g : Nat → ClassId) (b L : Nat) (xs : Nat → Int32) (J23 : Int32 → Mem → Prop) (M : Mem) (x1 : Nat) (x2 : Nat) (x3 : Nat) (x4 : Int32) : Prop :=
  wp_Law_law_b659 g b L xs J23 M x1 x2 x3 x4
set_option maxHeartbeats 4000000 in
set_option maxRecDepth 100000 in
theorem t_Law_law_b308 {l : Launch} {D : va_G} {g : Nat → ClassId} {p : Program} {e : Env} {s : State} {m : MethodId} {below : List Frame} {meth : Method} {c : Code} {b L : Nat} {xs : Nat → Int32} {J23 : Int32 → Mem → Prop} {M : Mem} {x1 : Nat} {x2 : Nat} {x3 : Nat} {x4 : Int32} (C : C_Law_law l D g p s m meth c b L xs) (h : wp_Law_law_b308 g b L xs J23 M x1 x2 x3 x4 ) {cn sn mu : Nat} (hcn : cn + 0 + 1 * mu + 0 ≤ 601024) (hsn : sn + 0 + 6 * mu + 0 ≤ 7293034) (kJ23 : ∀ (cn sn : Nat) (x4 : Int32) (M : Mem), J23 x4 M → cn + 1 * mu + 0 ≤ 601024 → sn + 6 * mu + 0 ≤ 7293034 → B_Law_law l D p e s m b below meth c cn sn M 23 [(0, .ref b), (1, .ref x1), (2, .ref x2), (3, .ref x3), (4, .int x4)] []) : B_Law_law l D p e s m b below meth c cn sn M 308 [(0, .ref b), (1, .ref x1), (2, .ref x2), (3, .ref x3), (4, .int x4)] [] := by
  have hfl := C.2.2.2.2.1
  intro ls H locs hM hS hl
  unfold wp_Law_law_b308 at h
  refine lv_goto (tgt := 659) C.1.1 C.1.2.1 d_Law_law_308 (by decide) ?_
  exact t_Law_law_b659 C h (mu := (mu)) (show _ ≤ (601024 : Nat) by omega) (show _ ≤ (7293034 : Nat) by omega) kJ23 _ _ _ hM hS (lv_sub hl [0, 1, 2, 3, 4] rfl)
def wp_Law_law_b226 (g : Nat → ClassId) (b L : Nat) (xs : Nat → Int32) (J23 : Int32 → Mem → Prop) (M : Mem) (x1 : Nat) (x2 : Nat) (x3 : Nat) (x4 : Int32) : Prop :=
  wp_Law_law_b659 g b L xs J23 M x1 x2 x3 x4
set_option maxHeartbeats 4000000 in
set_option maxRecDepth 100000 in
theorem t_Law_law_b226 {l : Launch} {D : va_G} {g : Nat → ClassId} {p : Program} {e : Env} {s : State} {m : MethodId} {below : List Frame} {meth : Method} {c : Code} {b L : Nat} {xs : Nat → Int32} {J23 : Int32 → Mem → Prop} {M : Mem} {x1 : Nat} {x2 : Nat} {x3 : Nat} {x4 : Int32} (C : C_Law_law l D g p s m meth c b L xs) (h : wp_Law_law_b226 g b L xs J23 M x1 x2 x3 x4 ) {cn sn mu : Nat} (hcn : cn + 0 + 1 * mu + 0 ≤ 601024) (hsn : sn + 0 + 6 * mu + 0 ≤ 7293034) (kJ23 : ∀ (cn sn : Nat) (x4 : Int32) (M : Mem), J23 x4 M → cn + 1 * mu + 0 ≤ 601024 → sn + 6 * mu + 0 ≤ 7293034 → B_Law_law l D p e s m b below meth c cn sn M 23 [(0, .ref b), (1, .ref x1), (2, .ref x2), (3, .ref x3), (4, .int x4)] []) : B_Law_law l D p e s m b below meth c cn sn M 226 [(0, .ref b), (1, .ref x1), (2, .ref x2), (3, .ref x3), (4, .int x4)] [] := by
  have hfl := C.2.2.2.2.1
  intro ls H locs hM hS hl
  unfold wp_Law_law_b226 at h
  refine lv_goto (tgt := 659) C.1.1 C.1.2.1 d_Law_law_226 (by decide) ?_
  exact t_Law_law_b659 C h (mu := (mu)) (show _ ≤ (601024 : Nat) by omega) (show _ ≤ (7293034 : Nat) by omega) kJ23 _ _ _ hM hS (lv_sub hl [0, 1, 2, 3, 4] rfl)
def wp_Law_law_b23 (g : Nat → ClassId) (b L : Nat) (xs : Nat → Int32) (M : Mem) (x1 : Nat) (x2 : Nat) (x3 : Nat) (x4 : Int32) : Prop :=
  ∃ (I : Int32 → Mem → Prop) (μ : Int32 → Mem → Nat), μ x4 M ≤ 512 ∧ I x4 M ∧ ∀ (x4 : Int32) (M : Mem), I x4 M →
  (((Int32.ofNat L) - (4 : Int32)) < x4 → (True)) ∧ (¬ ((Int32.ofNat L) - (4 : Int32)) < x4 → (vp_in x4 L ∧ ((((xs x4.toNatClampNeg) &&& (15 : Int32)) = 0 → (vp_in (x4 + (1 : Int32)) L ∧ (vp_in (x4 + (2 : Int32)) L ∧ (vp_in (x4 + (3 : Int32)) L ∧ (isO M 0 x1 ∧ (wp_Desk_type g M x1 ((((xs (x4 + (1 : Int32)).toNatClampNeg).toInt64) <<< ((32 : Int32).toInt64 &&& 63)) ||| (((xs (x4 + (2 : Int32)).toNatClampNeg).toInt64) &&& (4294967295 : Int64))) (xs (x4 + (3 : Int32)).toNatClampNeg) (fun (v3 : Int32) (M4 : Mem) => vp_in (x4 + (1 : Int32)) L ∧ (vp_in (x4 + (2 : Int32)) L ∧ (vp_in (x4 + (3 : Int32)) L ∧ (isO M4 6 x2 ∧ (wp_Mod_type g M4 x2 ((((xs (x4 + (1 : Int32)).toNatClampNeg).toInt64) <<< ((32 : Int32).toInt64 &&& 63)) ||| (((xs (x4 + (2 : Int32)).toNatClampNeg).toInt64) &&& (4294967295 : Int64))) (xs (x4 + (3 : Int32)).toNatClampNeg) (fun (v5 : Int32) (M6 : Mem) => (v3 = v5 → (wp_Law_law_b659 g b L xs (fun y4 N => I y4 N ∧ μ y4 N < μ x4 M) M6 x1 x2 x3 x4)) ∧ (¬ v3 = v5 → (False)))))))))))))) ∧ (¬ ((xs x4.toNatClampNeg) &&& (15 : Int32)) = 0 → ((((xs x4.toNatClampNeg) &&& (15 : Int32)) = 1 → (vp_in (x4 + (1 : Int32)) L ∧ (wp_Law_bind g M x1 (xs (x4 + (1 : Int32)).toNatClampNeg) x3 (fun (v9 : Int32) (M10 : Mem) => vp_in (x4 + (1 : Int32)) L ∧ (isO M10 6 x2 ∧ (wp_Mod_bind g M10 x2 (xs (x4 + (1 : Int32)).toNatClampNeg) (fun (v11 : Int32) (M12 : Mem) => isO M12 6 x2 ∧ (wp_Mod_thrown g M12 x2 (fun v13 : Int32 => (v13 = v9 → ((v9 = 0 → (∃ v17 : Int64, aL M12 (g 1) x3 (0 : Int32) = some v17 ∧ (((lg_cmp v17 v11.toInt64) = 0 → (wp_Law_law_b226 g b L xs (fun y4 N => I y4 N ∧ μ y4 N < μ x4 M) M12 x1 x2 x3 x4)) ∧ (¬ (lg_cmp v17 v11.toInt64) = 0 → (False))))) ∧ (¬ v9 = 0 → (wp_Law_law_b226 g b L xs (fun y4 N => I y4 N ∧ μ y4 N < μ x4 M) M12 x1 x2 x3 x4)))) ∧ (¬ v13 = v9 → (False))))))))))) ∧ (¬ ((xs x4.toNatClampNeg) &&& (15 : Int32)) = 1 → ((((xs x4.toNatClampNeg) &&& (15 : Int32)) = 2 → (isO M 0 x1 ∧ (wp_Desk_fault g M x1 (fun v20 : Int32 => isO M 6 x2 ∧ (wp_Mod_fault g M x2 (fun (v22 : Int32) (M23 : Mem) => (v20 = v22 → (wp_Law_law_b659 g b L xs (fun y4 N => I y4 N ∧ μ y4 N < μ x4 M) M23 x1 x2 x3 x4)) ∧ (¬ v20 = v22 → (False)))))))) ∧ (¬ ((xs x4.toNatClampNeg) &&& (15 : Int32)) = 2 → ((((xs x4.toNatClampNeg) &&& (15 : Int32)) = 3 → (vp_in (x4 + (1 : Int32)) L ∧ (isO M 0 x1 ∧ (wp_Desk_free g M x1 (xs (x4 + (1 : Int32)).toNatClampNeg) (fun (v26 : Int32) (M27 : Mem) => vp_in (x4 + (1 : Int32)) L ∧ (isO M27 6 x2 ∧ (wp_Mod_free g M27 x2 (xs (x4 + (1 : Int32)).toNatClampNeg) (fun (v28 : Int32) (M29 : Mem) => (v26 = v28 → (wp_Law_law_b659 g b L xs (fun y4 N => I y4 N ∧ μ y4 N < μ x4 M) M29 x1 x2 x3 x4)) ∧ (¬ v26 = v28 → (False)))))))))) ∧ (¬ ((xs x4.toNatClampNeg) &&& (15 : Int32)) = 3 → ((((xs x4.toNatClampNeg) &&& (15 : Int32)) = 4 → (wp_Law_route g M x1 x3 (fun (v32 : Int32) (M33 : Mem) => isO M33 6 x2 ∧ (wp_Mod_route g M33 x2 (fun (v34 : Int32) (M35 : Mem) => isO M35 6 x2 ∧ (wp_Mod_thrown g M35 x2 (fun v36 : Int32 => (v36 = v32 → ((v32 = 0 → (∃ v40 : Int64, aL M35 (g 1) x3 (0 : Int32) = some v40 ∧ (((lg_cmp v40 v34.toInt64) = 0 → (wp_Law_law_b308 g b L xs (fun y4 N => I y4 N ∧ μ y4 N < μ x4 M) M35 x1 x2 x3 x4)) ∧ (¬ (lg_cmp v40 v34.toInt64) = 0 → (False))))) ∧ (¬ v32 = 0 → (wp_Law_law_b308 g b L xs (fun y4 N => I y4 N ∧ μ y4 N < μ x4 M) M35 x1 x2 x3 x4)))) ∧ (¬ v36 = v32 → (False))))))))) ∧ (¬ ((xs x4.toNatClampNeg) &&& (15 : Int32)) = 4 → ((((xs x4.toNatClampNeg) &&& (15 : Int32)) = 5 → (vp_in (x4 + (1 : Int32)) L ∧ (wp_Law_keep g M x1 (xs (x4 + (1 : Int32)).toNatClampNeg) x3 (fun (v43 : Int32) (M44 : Mem) => vp_in (x4 + (1 : Int32)) L ∧ (isO M44 6 x2 ∧ (wp_Mod_keep g M44 x2 (xs (x4 + (1 : Int32)).toNatClampNeg) (fun (v45 : Int32) (M46 : Mem) => isO M46 6 x2 ∧ (wp_Mod_thrown g M46 x2 (fun v47 : Int32 => (v47 = v43 → ((v43 = 0 → (∃ v51 : Int64, aL M46 (g 1) x3 (0 : Int32) = some v51 ∧ (((lg_cmp v51 v45.toInt64) = 0 → (wp_Law_law_b364 g b L xs (fun y4 N => I y4 N ∧ μ y4 N < μ x4 M) M46 x1 x2 x3 x4)) ∧ (¬ (lg_cmp v51 v45.toInt64) = 0 → (False))))) ∧ (¬ v43 = 0 → (wp_Law_law_b364 g b L xs (fun y4 N => I y4 N ∧ μ y4 N < μ x4 M) M46 x1 x2 x3 x4)))) ∧ (¬ v47 = v43 → (False))))))))))) ∧ (¬ ((xs x4.toNatClampNeg) &&& (15 : Int32)) = 5 → ((((xs x4.toNatClampNeg) &&& (15 : Int32)) = 6 → (wp_Law_lose g M x1 x3 (fun (v54 : Int32) (M55 : Mem) => isO M55 6 x2 ∧ (wp_Mod_lose g M55 x2 (fun (v56 : Int32) (M57 : Mem) => isO M57 6 x2 ∧ (wp_Mod_thrown g M57 x2 (fun v58 : Int32 => (v58 = v54 → ((v54 = 0 → (∃ v62 : Int64, aL M57 (g 1) x3 (0 : Int32) = some v62 ∧ ((v56 = 0 → (wp_Law_law_b409 g b L xs (fun y4 N => I y4 N ∧ μ y4 N < μ x4 M) M57 x1 x2 x3 x4 v62 (0 : Int64))) ∧ (¬ v56 = 0 → (wp_Law_law_b409 g b L xs (fun y4 N => I y4 N ∧ μ y4 N < μ x4 M) M57 x1 x2 x3 x4 v62 (1 : Int64)))))) ∧ (¬ v54 = 0 → (wp_Law_law_b415 g b L xs (fun y4 N => I y4 N ∧ μ y4 N < μ x4 M) M57 x1 x2 x3 x4)))) ∧ (¬ v58 = v54 → (False))))))))) ∧ (¬ ((xs x4.toNatClampNeg) &&& (15 : Int32)) = 6 → ((((xs x4.toNatClampNeg) &&& (15 : Int32)) = 7 → (vp_in (x4 + (1 : Int32)) L ∧ (vp_in (x4 + (2 : Int32)) L ∧ (isO M 0 x1 ∧ (wp_Desk_about g M x1 (xs (x4 + (1 : Int32)).toNatClampNeg) (xs (x4 + (2 : Int32)).toNatClampNeg) (fun v65 : Int32 => vp_in (x4 + (1 : Int32)) L ∧ (vp_in (x4 + (2 : Int32)) L ∧ (isO M 6 x2 ∧ (wp_Mod_about g M x2 (xs (x4 + (1 : Int32)).toNatClampNeg) (xs (x4 + (2 : Int32)).toNatClampNeg) (fun (v67 : Int32) (M68 : Mem) => (v65 = v67 → (wp_Law_law_b659 g b L xs (fun y4 N => I y4 N ∧ μ y4 N < μ x4 M) M68 x1 x2 x3 x4)) ∧ (¬ v65 = v67 → (False)))))))))))) ∧ (¬ ((xs x4.toNatClampNeg) &&& (15 : Int32)) = 7 → ((((xs x4.toNatClampNeg) &&& (15 : Int32)) = 8 → (vp_in (x4 + (1 : Int32)) L ∧ (vp_in (x4 + (2 : Int32)) L ∧ (wp_Law_kept g M x1 (xs (x4 + (1 : Int32)).toNatClampNeg) (xs (x4 + (2 : Int32)).toNatClampNeg) x3 (fun (v71 : Int32) (M72 : Mem) => vp_in (x4 + (1 : Int32)) L ∧ (vp_in (x4 + (2 : Int32)) L ∧ (isO M72 6 x2 ∧ (wp_Mod_kept g M72 x2 (xs (x4 + (1 : Int32)).toNatClampNeg) (xs (x4 + (2 : Int32)).toNatClampNeg) (fun (v73 : Int32) (M74 : Mem) => isO M74 6 x2 ∧ (wp_Mod_thrown g M74 x2 (fun v75 : Int32 => (v75 = v71 → ((v71 = 0 → (∃ v79 : Int64, aL M74 (g 1) x3 (0 : Int32) = some v79 ∧ (((lg_cmp v79 v73.toInt64) = 0 → (wp_Law_law_b520 g b L xs (fun y4 N => I y4 N ∧ μ y4 N < μ x4 M) M74 x1 x2 x3 x4)) ∧ (¬ (lg_cmp v79 v73.toInt64) = 0 → (False))))) ∧ (¬ v71 = 0 → (wp_Law_law_b520 g b L xs (fun y4 N => I y4 N ∧ μ y4 N < μ x4 M) M74 x1 x2 x3 x4)))) ∧ (¬ v75 = v71 → (False))))))))))))) ∧ (¬ ((xs x4.toNatClampNeg) &&& (15 : Int32)) = 8 → ((((xs x4.toNatClampNeg) &&& (15 : Int32)) = 9 → (vp_in (x4 + (1 : Int32)) L ∧ (vp_in (x4 + (2 : Int32)) L ∧ (isO M 0 x1 ∧ (wp_Desk_sign g M x1 (xs (x4 + (1 : Int32)).toNatClampNeg) (xs (x4 + (2 : Int32)).toNatClampNeg) (fun v82 : Int32 => vp_in (x4 + (1 : Int32)) L ∧ (vp_in (x4 + (2 : Int32)) L ∧ (isO M 6 x2 ∧ (wp_Mod_sign g M x2 (xs (x4 + (1 : Int32)).toNatClampNeg) (xs (x4 + (2 : Int32)).toNatClampNeg) (fun (v84 : Int32) (M85 : Mem) => (v82 = v84 → (wp_Law_law_b659 g b L xs (fun y4 N => I y4 N ∧ μ y4 N < μ x4 M) M85 x1 x2 x3 x4)) ∧ (¬ v82 = v84 → (False)))))))))))) ∧ (¬ ((xs x4.toNatClampNeg) &&& (15 : Int32)) = 9 → ((((xs x4.toNatClampNeg) &&& (15 : Int32)) = 10 → (vp_in (x4 + (1 : Int32)) L ∧ (vp_in (x4 + (2 : Int32)) L ∧ (isO M 0 x1 ∧ (wp_Desk_both g M x1 (xs (x4 + (1 : Int32)).toNatClampNeg) (xs (x4 + (2 : Int32)).toNatClampNeg) (fun (v88 : Int32) (M89 : Mem) => vp_in (x4 + (1 : Int32)) L ∧ (vp_in (x4 + (2 : Int32)) L ∧ (isO M89 6 x2 ∧ (wp_Mod_both g M89 x2 (xs (x4 + (1 : Int32)).toNatClampNeg) (xs (x4 + (2 : Int32)).toNatClampNeg) (fun (v90 : Int32) (M91 : Mem) => (v88 = v90 → (wp_Law_law_b659 g b L xs (fun y4 N => I y4 N ∧ μ y4 N < μ x4 M) M91 x1 x2 x3 x4)) ∧ (¬ v88 = v90 → (False)))))))))))) ∧ (¬ ((xs x4.toNatClampNeg) &&& (15 : Int32)) = 10 → ((((xs x4.toNatClampNeg) &&& (15 : Int32)) = 11 → (vp_in (x4 + (1 : Int32)) L ∧ (vp_in (x4 + (2 : Int32)) L ∧ (isO M 0 x1 ∧ (wp_Desk_only g M x1 (xs (x4 + (1 : Int32)).toNatClampNeg) (xs (x4 + (2 : Int32)).toNatClampNeg) (fun (v94 : Int32) (M95 : Mem) => vp_in (x4 + (1 : Int32)) L ∧ (vp_in (x4 + (2 : Int32)) L ∧ (isO M95 6 x2 ∧ (wp_Mod_only g M95 x2 (xs (x4 + (1 : Int32)).toNatClampNeg) (xs (x4 + (2 : Int32)).toNatClampNeg) (fun (v96 : Int32) (M97 : Mem) => (v94 = v96 → (wp_Law_law_b659 g b L xs (fun y4 N => I y4 N ∧ μ y4 N < μ x4 M) M97 x1 x2 x3 x4)) ∧ (¬ v94 = v96 → (False)))))))))))) ∧ (¬ ((xs x4.toNatClampNeg) &&& (15 : Int32)) = 11 → ((((xs x4.toNatClampNeg) &&& (15 : Int32)) = 12 → (vp_in (x4 + (1 : Int32)) L ∧ (isO M 0 x1 ∧ (wp_Desk_spare g M x1 (xs (x4 + (1 : Int32)).toNatClampNeg) (fun (v100 : Int32) (M101 : Mem) => vp_in (x4 + (1 : Int32)) L ∧ (isO M101 6 x2 ∧ (wp_Mod_spare g M101 x2 (xs (x4 + (1 : Int32)).toNatClampNeg) (fun (v102 : Int32) (M103 : Mem) => (v100 = v102 → (wp_Law_law_b659 g b L xs (fun y4 N => I y4 N ∧ μ y4 N < μ x4 M) M103 x1 x2 x3 x4)) ∧ (¬ v100 = v102 → (False)))))))))) ∧ (¬ ((xs x4.toNatClampNeg) &&& (15 : Int32)) = 12 → (wp_Law_law_b659 g b L xs (fun y4 N => I y4 N ∧ μ y4 N < μ x4 M) M x1 x2 x3 x4)))))))))))))))))))))))))))))
set_option maxHeartbeats 4000000 in
set_option maxRecDepth 100000 in
theorem t_Law_law_b23 {l : Launch} {D : va_G} {g : Nat → ClassId} {p : Program} {e : Env} {s : State} {m : MethodId} {below : List Frame} {meth : Method} {c : Code} {b L : Nat} {xs : Nat → Int32} {M : Mem} {x1 : Nat} {x2 : Nat} {x3 : Nat} {x4 : Int32} (C : C_Law_law l D g p s m meth c b L xs) (h : wp_Law_law_b23 g b L xs M x1 x2 x3 x4 ) {cn sn : Nat} (hcn : cn + 513 ≤ 601024) (hsn : sn + 3078 ≤ 7293034) : B_Law_law l D p e s m b below meth c cn sn M 23 [(0, .ref b), (1, .ref x1), (2, .ref x2), (3, .ref x3), (4, .int x4)] [] := by
  have hfl := C.2.2.2.2.1
  unfold wp_Law_law_b23 at h
  obtain ⟨I, μ, hmK, hI, hb⟩ := h
  have key : ∀ (n : Nat) (cn sn : Nat) (x4 : Int32) (M : Mem), I x4 M → μ x4 M < n → cn + 1 * μ x4 M + 1 ≤ 601024 → sn + 6 * μ x4 M + 6 ≤ 7293034 → B_Law_law l D p e s m b below meth c cn sn M 23 [(0, .ref b), (1, .ref x1), (2, .ref x2), (3, .ref x3), (4, .int x4)] [] := by
    intro n
    induction n with
    | zero => intro cn sn x4 M _ hn; exact absurd hn (Nat.not_lt_zero _)
    | succ n ih =>
      intro cn sn x4 M hI hn hcn hsn ls H locs hM hS hl
      have h := hb x4 M hI
      refine lv_iload C.1.1 C.1.2.1 d_Law_law_23 (lv_at hl 4 rfl) ?_
      refine lv_aload_n C.1.1 C.1.2.1 d_Law_law_25 rfl (lv_at hl 0 rfl) ?_
      refine va_slen C.1.1 C.1.2.1 C.2.2.2.2.2.1 C.2.2.2.2.2.2 (m0_not C.2.2.2.2.2.2) hS d_Law_law_26 ?_
      refine lv_iconst (v := (4 : Int32)) C.1.1 C.1.2.1 d_Law_law_27 (by decide) ?_
      refine lv_isub C.1.1 C.1.2.1 d_Law_law_28 ?_
      refine lv_icmp_gt (tgt := 665) C.1.1 C.1.2.1 d_Law_law_29 (by decide) (fun c1 => ?_) (fun c1 => ?_)
      · have h := h.1 c1
        refine lv_iconst (v := (1 : Int32)) C.1.1 C.1.2.1 d_Law_law_665 (by decide) ?_
        refine va_forget (fun q hq => m0_ge (hS.2.2 q hq)) ?_
        refine W.widen (k := 601024) (n := 7293034) (show _ ≤ (601024 : Nat) by omega) (show _ ≤ (7293034 : Nat) by omega) ?_
        exact lw_ret C.1.1 C.1.2.1 C.2.1 C.2.2.1 d_Law_law_666
      · have h := h.2 c1
        refine lv_aload_n C.1.1 C.1.2.1 d_Law_law_32 rfl (lv_at hl 0 rfl) ?_
        refine lv_iload C.1.1 C.1.2.1 d_Law_law_33 (lv_at hl 4 rfl) ?_
        obtain ⟨hin, h⟩ := h
        refine va_sld C.1.1 C.1.2.1 C.2.2.2.2.2.1 C.2.2.2.2.2.2 (m0_not C.2.2.2.2.2.2) hS hin d_Law_law_35 ?_
        refine lv_bipush (v := (15 : Int32)) C.1.1 C.1.2.1 d_Law_law_36 (by decide) ?_
        refine lv_iand C.1.1 C.1.2.1 d_Law_law_38 ?_
        by_cases c2 : ((xs x4.toNatClampNeg) &&& (15 : Int32)) = 0
        · have h := h.1 c2
          refine lv_tableIn (tgt := 104) C.1.1 C.1.2.1 d_Law_law_39 (by rw [c2]; decide) (by rw [c2]; decide) (by rw [c2]; rfl) (by decide) ?_
          refine lv_aload_n C.1.1 C.1.2.1 d_Law_law_104 rfl (lv_at hl 1 rfl) ?_
          refine lv_aload_n C.1.1 C.1.2.1 d_Law_law_105 rfl (lv_at hl 0 rfl) ?_
          refine lv_iload C.1.1 C.1.2.1 d_Law_law_106 (lv_at hl 4 rfl) ?_
          refine lv_iconst (v := (1 : Int32)) C.1.1 C.1.2.1 d_Law_law_108 (by decide) ?_
          refine lv_iadd C.1.1 C.1.2.1 d_Law_law_109 ?_
          obtain ⟨hin, h⟩ := h
          refine va_sld C.1.1 C.1.2.1 C.2.2.2.2.2.1 C.2.2.2.2.2.2 (m0_not C.2.2.2.2.2.2) hS hin d_Law_law_110 ?_
          refine lv_i2l (v := (xs (x4 + (1 : Int32)).toNatClampNeg).toInt64) C.1.1 C.1.2.1 d_Law_law_111 rfl ?_
          refine lv_bipush (v := (32 : Int32)) C.1.1 C.1.2.1 d_Law_law_112 (by decide) ?_
          refine lv_lshl (v := ((xs (x4 + (1 : Int32)).toNatClampNeg).toInt64) <<< ((32 : Int32).toInt64 &&& 63)) C.1.1 C.1.2.1 d_Law_law_114 rfl ?_
          refine lv_aload_n C.1.1 C.1.2.1 d_Law_law_115 rfl (lv_at hl 0 rfl) ?_
          refine lv_iload C.1.1 C.1.2.1 d_Law_law_116 (lv_at hl 4 rfl) ?_
          refine lv_iconst (v := (2 : Int32)) C.1.1 C.1.2.1 d_Law_law_118 (by decide) ?_
          refine lv_iadd C.1.1 C.1.2.1 d_Law_law_119 ?_
          obtain ⟨hin, h⟩ := h
          refine va_sld C.1.1 C.1.2.1 C.2.2.2.2.2.1 C.2.2.2.2.2.2 (m0_not C.2.2.2.2.2.2) hS hin d_Law_law_120 ?_
          refine lv_i2l (v := (xs (x4 + (2 : Int32)).toNatClampNeg).toInt64) C.1.1 C.1.2.1 d_Law_law_121 rfl ?_
          refine lv_ldc2 (v := (4294967295 : Int64)) C.1.1 C.1.2.1 C.1.2.2.2.1 (C.1.2.2.2.2.1 _ kw406) d_Law_law_122 ?_
          refine lv_land C.1.1 C.1.2.1 d_Law_law_125 ?_
          refine lv_lor C.1.1 C.1.2.1 d_Law_law_126 ?_
          refine lv_aload_n C.1.1 C.1.2.1 d_Law_law_127 rfl (lv_at hl 0 rfl) ?_
          refine lv_iload C.1.1 C.1.2.1 d_Law_law_128 (lv_at hl 4 rfl) ?_
          refine lv_iconst (v := (3 : Int32)) C.1.1 C.1.2.1 d_Law_law_130 (by decide) ?_
          refine lv_iadd C.1.1 C.1.2.1 d_Law_law_131 ?_
          obtain ⟨hin, h⟩ := h
          refine va_sld C.1.1 C.1.2.1 C.2.2.2.2.2.1 C.2.2.2.2.2.2 (m0_not C.2.2.2.2.2.2) hS hin d_Law_law_132 ?_
          obtain ⟨ho, h⟩ := h
          refine mc_V (As := [.long ((((xs (x4 + (1 : Int32)).toNatClampNeg).toInt64) <<< ((32 : Int32).toInt64 &&& 63)) ||| (((xs (x4 + (2 : Int32)).toNatClampNeg).toInt64) &&& (4294967295 : Int64))), .int (xs (x4 + (3 : Int32)).toNatClampNeg)]) (ci := 0) C.1 hM hS bigGood (c_Desk_type h) rfl ho kw407 kw409 kw410 kw123 kw408 hd_Desk_type ⟨by decide, by decide⟩ hl.1 rfl (Nat.le_of_ble_eq_true rfl) d_Law_law_133 (mc := 0) (ms := 0) rfl rfl ⟨show _ ≤ (601024 : Nat) by omega, show _ ≤ (7293034 : Nat) by omega⟩ (fun v M4 H locs hp hM hS => ?_)
          obtain ⟨v3, rfl, h⟩ := hp
          refine lv_aload_n C.1.1 C.1.2.1 d_Law_law_136 rfl (lv_at hl 2 rfl) ?_
          refine lv_aload_n C.1.1 C.1.2.1 d_Law_law_137 rfl (lv_at hl 0 rfl) ?_
          refine lv_iload C.1.1 C.1.2.1 d_Law_law_138 (lv_at hl 4 rfl) ?_
          refine lv_iconst (v := (1 : Int32)) C.1.1 C.1.2.1 d_Law_law_140 (by decide) ?_
          refine lv_iadd C.1.1 C.1.2.1 d_Law_law_141 ?_
          obtain ⟨hin, h⟩ := h
          refine va_sld C.1.1 C.1.2.1 C.2.2.2.2.2.1 C.2.2.2.2.2.2 (m0_not C.2.2.2.2.2.2) hS hin d_Law_law_142 ?_
          refine lv_i2l (v := (xs (x4 + (1 : Int32)).toNatClampNeg).toInt64) C.1.1 C.1.2.1 d_Law_law_143 rfl ?_
          refine lv_bipush (v := (32 : Int32)) C.1.1 C.1.2.1 d_Law_law_144 (by decide) ?_
          refine lv_lshl (v := ((xs (x4 + (1 : Int32)).toNatClampNeg).toInt64) <<< ((32 : Int32).toInt64 &&& 63)) C.1.1 C.1.2.1 d_Law_law_146 rfl ?_
          refine lv_aload_n C.1.1 C.1.2.1 d_Law_law_147 rfl (lv_at hl 0 rfl) ?_
          refine lv_iload C.1.1 C.1.2.1 d_Law_law_148 (lv_at hl 4 rfl) ?_
          refine lv_iconst (v := (2 : Int32)) C.1.1 C.1.2.1 d_Law_law_150 (by decide) ?_
          refine lv_iadd C.1.1 C.1.2.1 d_Law_law_151 ?_
          obtain ⟨hin, h⟩ := h
          refine va_sld C.1.1 C.1.2.1 C.2.2.2.2.2.1 C.2.2.2.2.2.2 (m0_not C.2.2.2.2.2.2) hS hin d_Law_law_152 ?_
          refine lv_i2l (v := (xs (x4 + (2 : Int32)).toNatClampNeg).toInt64) C.1.1 C.1.2.1 d_Law_law_153 rfl ?_
          refine lv_ldc2 (v := (4294967295 : Int64)) C.1.1 C.1.2.1 C.1.2.2.2.1 (C.1.2.2.2.2.1 _ kw406) d_Law_law_154 ?_
          refine lv_land C.1.1 C.1.2.1 d_Law_law_157 ?_
          refine lv_lor C.1.1 C.1.2.1 d_Law_law_158 ?_
          refine lv_aload_n C.1.1 C.1.2.1 d_Law_law_159 rfl (lv_at hl 0 rfl) ?_
          refine lv_iload C.1.1 C.1.2.1 d_Law_law_160 (lv_at hl 4 rfl) ?_
          refine lv_iconst (v := (3 : Int32)) C.1.1 C.1.2.1 d_Law_law_162 (by decide) ?_
          refine lv_iadd C.1.1 C.1.2.1 d_Law_law_163 ?_
          obtain ⟨hin, h⟩ := h
          refine va_sld C.1.1 C.1.2.1 C.2.2.2.2.2.1 C.2.2.2.2.2.2 (m0_not C.2.2.2.2.2.2) hS hin d_Law_law_164 ?_
          obtain ⟨ho, h⟩ := h
          refine mc_V (As := [.long ((((xs (x4 + (1 : Int32)).toNatClampNeg).toInt64) <<< ((32 : Int32).toInt64 &&& 63)) ||| (((xs (x4 + (2 : Int32)).toNatClampNeg).toInt64) &&& (4294967295 : Int64))), .int (xs (x4 + (3 : Int32)).toNatClampNeg)]) (ci := 6) C.1 hM hS bigGood (c_Mod_type h) rfl ho kw411 kw413 kw414 kw29 kw412 hd_Mod_type ⟨by decide, by decide⟩ hl.1 rfl (Nat.le_of_ble_eq_true rfl) d_Law_law_165 (mc := 0) (ms := 0) rfl rfl ⟨show _ ≤ (601024 : Nat) by omega, show _ ≤ (7293034 : Nat) by omega⟩ (fun v M6 H locs hp hM hS => ?_)
          obtain ⟨v5, rfl, h⟩ := hp
          refine lv_icmp_eq (tgt := 659) C.1.1 C.1.2.1 d_Law_law_168 (by decide) (fun c7 => ?_) (fun c7 => ?_)
          · have h := h.1 c7
            exact t_Law_law_b659 C h (mu := (μ x4 M)) (show _ ≤ (601024 : Nat) by omega) (show _ ≤ (7293034 : Nat) by omega) (fun cn sn y4 N hJ h1 h2 => ih cn sn y4 N hJ.1 (Nat.lt_of_lt_of_le hJ.2 (Nat.le_of_lt_succ hn)) (by have h3 := hJ.2; omega) (by have h3 := hJ.2; omega)) _ _ _ hM hS (lv_sub hl [0, 1, 2, 3, 4] rfl)
          · have h := h.2 c7
            refine lv_iconst (v := (0 : Int32)) C.1.1 C.1.2.1 d_Law_law_171 (by decide) ?_
            exact h.elim
        · have h := h.2 c2
          by_cases c8 : ((xs x4.toNatClampNeg) &&& (15 : Int32)) = 1
          · have h := h.1 c8
            refine lv_tableIn (tgt := 173) C.1.1 C.1.2.1 d_Law_law_39 (by rw [c8]; decide) (by rw [c8]; decide) (by rw [c8]; rfl) (by decide) ?_
            refine lv_aload_n C.1.1 C.1.2.1 d_Law_law_173 rfl (lv_at hl 1 rfl) ?_
            refine lv_aload_n C.1.1 C.1.2.1 d_Law_law_174 rfl (lv_at hl 0 rfl) ?_
            refine lv_iload C.1.1 C.1.2.1 d_Law_law_175 (lv_at hl 4 rfl) ?_
            refine lv_iconst (v := (1 : Int32)) C.1.1 C.1.2.1 d_Law_law_177 (by decide) ?_
            refine lv_iadd C.1.1 C.1.2.1 d_Law_law_178 ?_
            obtain ⟨hin, h⟩ := h
            refine va_sld C.1.1 C.1.2.1 C.2.2.2.2.2.1 C.2.2.2.2.2.2 (m0_not C.2.2.2.2.2.2) hS hin d_Law_law_179 ?_
            refine lv_aload_n C.1.1 C.1.2.1 d_Law_law_180 rfl (lv_at hl 3 rfl) ?_
            refine mcH_S (As := [.ref x1, .int (xs (x4 + (1 : Int32)).toNatClampNeg), .ref x3]) C.1 hM hS bigGood C.2.2.2.1 (m0_W) (c_Law_bind hfl h) kw415 kw417 kw416 kw418 hd_Law_bind ⟨by decide, by decide⟩ hl.1 rfl (Nat.le_of_ble_eq_true rfl) d_Law_law_181 (mc := 1) (ms := 6) rfl rfl ⟨show _ ≤ (601024 : Nat) by omega, show _ ≤ (7293034 : Nat) by omega⟩ (fun v M10 H locs hp hM hS => ?_)
            obtain ⟨v9, rfl, h⟩ := hp
            refine lv_istore (lv' := [(5, .int v9), (0, .ref b), (1, .ref x1), (2, .ref x2), (3, .ref x3), (4, .int x4)]) C.1.1 C.1.2.1 d_Law_law_184 hl (by decide) rfl (fun ls hl => ?_)
            refine lv_aload_n C.1.1 C.1.2.1 d_Law_law_186 rfl (lv_at hl 3 rfl) ?_
            refine lv_aload_n C.1.1 C.1.2.1 d_Law_law_187 rfl (lv_at hl 1 rfl) ?_
            refine lv_iload C.1.1 C.1.2.1 d_Law_law_188 (lv_at hl 5 rfl) ?_
            refine lv_iconst (v := (1 : Int32)) C.1.1 C.1.2.1 d_Law_law_190 (by decide) ?_
            refine lv_iadd C.1.1 C.1.2.1 d_Law_law_191 ?_
            obtain ⟨hin, h⟩ := h
            refine va_sld C.1.1 C.1.2.1 C.2.2.2.2.2.1 C.2.2.2.2.2.2 (m0_not C.2.2.2.2.2.2) hS hin d_Law_law_192 ?_
            obtain ⟨ho, h⟩ := h
            refine mc_V (As := [.int (xs (x4 + (1 : Int32)).toNatClampNeg)]) (ci := 6) C.1 hM hS bigGood (c_Mod_bind h) rfl ho kw419 kw421 kw422 kw29 kw420 hd_Mod_bind ⟨by decide, by decide⟩ hl.1 rfl (Nat.le_of_ble_eq_true rfl) d_Law_law_193 (mc := 0) (ms := 0) rfl rfl ⟨show _ ≤ (601024 : Nat) by omega, show _ ≤ (7293034 : Nat) by omega⟩ (fun v M12 H locs hp hM hS => ?_)
            obtain ⟨v11, rfl, h⟩ := hp
            refine lv_istore (lv' := [(6, .int v11), (5, .int v9), (0, .ref b), (1, .ref x1), (2, .ref x2), (3, .ref x3), (4, .int x4)]) C.1.1 C.1.2.1 d_Law_law_196 hl (by decide) rfl (fun ls hl => ?_)
            refine lv_aload_n C.1.1 C.1.2.1 d_Law_law_198 rfl (lv_at hl 4 rfl) ?_
            obtain ⟨ho, h⟩ := h
            refine mc_V (As := []) (ci := 6) C.1 hM hS bigGood (c_Mod_thrown h) rfl ho kw423 kw425 kw426 kw29 kw424 hd_Mod_thrown ⟨by decide, by decide⟩ hl.1 rfl (Nat.le_of_ble_eq_true rfl) d_Law_law_199 (mc := 0) (ms := 0) rfl rfl ⟨show _ ≤ (601024 : Nat) by omega, show _ ≤ (7293034 : Nat) by omega⟩ (fun v M' H locs hp hM hS => ?_)
            obtain ⟨v13, rfl, rfl, h⟩ := hp
            refine lv_iload C.1.1 C.1.2.1 d_Law_law_202 (lv_at hl 1 rfl) ?_
            refine lv_icmp_eq (tgt := 209) C.1.1 C.1.2.1 d_Law_law_204 (by decide) (fun c15 => ?_) (fun c15 => ?_)
            · have h := h.1 c15
              refine lv_iload C.1.1 C.1.2.1 d_Law_law_209 (lv_at hl 1 rfl) ?_
              refine lv_if_ne (tgt := 226) C.1.1 C.1.2.1 d_Law_law_211 (by decide) (fun c16 => ?_) (fun c16 => ?_)
              · have h := h.2 c16
                exact t_Law_law_b226 C h (mu := (μ x4 M)) (show _ ≤ (601024 : Nat) by omega) (show _ ≤ (7293034 : Nat) by omega) (fun cn sn y4 N hJ h1 h2 => ih cn sn y4 N hJ.1 (Nat.lt_of_lt_of_le hJ.2 (Nat.le_of_lt_succ hn)) (by have h3 := hJ.2; omega) (by have h3 := hJ.2; omega)) _ _ _ hM hS (lv_sub hl [2, 3, 4, 5, 6] rfl)
              · have h := h.1 c16
                refine lv_aload_n C.1.1 C.1.2.1 d_Law_law_214 rfl (lv_at hl 5 rfl) ?_
                refine lv_iconst (v := (0 : Int32)) C.1.1 C.1.2.1 d_Law_law_215 (by decide) ?_
                obtain ⟨v17, ev17, h⟩ := h
                refine ma_L C.1 hM 1 rfl ev17 d_Law_law_216 ?_
                refine lv_iload C.1.1 C.1.2.1 d_Law_law_217 (lv_at hl 0 rfl) ?_
                refine lv_i2l (v := v11.toInt64) C.1.1 C.1.2.1 d_Law_law_219 rfl ?_
                refine W.lcmp C.1.1 C.1.2.1 d_Law_law_220 ?_
                refine lv_if_eq (tgt := 226) C.1.1 C.1.2.1 d_Law_law_221 (by decide) (fun c18 => ?_) (fun c18 => ?_)
                · have h := h.1 c18
                  exact t_Law_law_b226 C h (mu := (μ x4 M)) (show _ ≤ (601024 : Nat) by omega) (show _ ≤ (7293034 : Nat) by omega) (fun cn sn y4 N hJ h1 h2 => ih cn sn y4 N hJ.1 (Nat.lt_of_lt_of_le hJ.2 (Nat.le_of_lt_succ hn)) (by have h3 := hJ.2; omega) (by have h3 := hJ.2; omega)) _ _ _ hM hS (lv_sub hl [2, 3, 4, 5, 6] rfl)
                · have h := h.2 c18
                  refine lv_iconst (v := (0 : Int32)) C.1.1 C.1.2.1 d_Law_law_224 (by decide) ?_
                  exact h.elim
            · have h := h.2 c15
              refine lv_iconst (v := (0 : Int32)) C.1.1 C.1.2.1 d_Law_law_207 (by decide) ?_
              exact h.elim
          · have h := h.2 c8
            by_cases c19 : ((xs x4.toNatClampNeg) &&& (15 : Int32)) = 2
            · have h := h.1 c19
              refine lv_tableIn (tgt := 229) C.1.1 C.1.2.1 d_Law_law_39 (by rw [c19]; decide) (by rw [c19]; decide) (by rw [c19]; rfl) (by decide) ?_
              refine lv_aload_n C.1.1 C.1.2.1 d_Law_law_229 rfl (lv_at hl 1 rfl) ?_
              obtain ⟨ho, h⟩ := h
              refine mc_V (As := []) (ci := 0) C.1 hM hS bigGood (c_Desk_fault h) rfl ho kw427 kw429 kw430 kw123 kw428 hd_Desk_fault ⟨by decide, by decide⟩ hl.1 rfl (Nat.le_of_ble_eq_true rfl) d_Law_law_230 (mc := 0) (ms := 0) rfl rfl ⟨show _ ≤ (601024 : Nat) by omega, show _ ≤ (7293034 : Nat) by omega⟩ (fun v M' H locs hp hM hS => ?_)
              obtain ⟨v20, rfl, rfl, h⟩ := hp
              refine lv_aload_n C.1.1 C.1.2.1 d_Law_law_233 rfl (lv_at hl 2 rfl) ?_
              obtain ⟨ho, h⟩ := h
              refine mc_V (As := []) (ci := 6) C.1 hM hS bigGood (c_Mod_fault h) rfl ho kw431 kw433 kw434 kw29 kw432 hd_Mod_fault ⟨by decide, by decide⟩ hl.1 rfl (Nat.le_of_ble_eq_true rfl) d_Law_law_234 (mc := 0) (ms := 0) rfl rfl ⟨show _ ≤ (601024 : Nat) by omega, show _ ≤ (7293034 : Nat) by omega⟩ (fun v M23 H locs hp hM hS => ?_)
              obtain ⟨v22, rfl, h⟩ := hp
              refine lv_icmp_eq (tgt := 659) C.1.1 C.1.2.1 d_Law_law_237 (by decide) (fun c24 => ?_) (fun c24 => ?_)
              · have h := h.1 c24
                exact t_Law_law_b659 C h (mu := (μ x4 M)) (show _ ≤ (601024 : Nat) by omega) (show _ ≤ (7293034 : Nat) by omega) (fun cn sn y4 N hJ h1 h2 => ih cn sn y4 N hJ.1 (Nat.lt_of_lt_of_le hJ.2 (Nat.le_of_lt_succ hn)) (by have h3 := hJ.2; omega) (by have h3 := hJ.2; omega)) _ _ _ hM hS (lv_sub hl [0, 1, 2, 3, 4] rfl)
              · have h := h.2 c24
                refine lv_iconst (v := (0 : Int32)) C.1.1 C.1.2.1 d_Law_law_240 (by decide) ?_
                exact h.elim
            · have h := h.2 c19
              by_cases c25 : ((xs x4.toNatClampNeg) &&& (15 : Int32)) = 3
              · have h := h.1 c25
                refine lv_tableIn (tgt := 242) C.1.1 C.1.2.1 d_Law_law_39 (by rw [c25]; decide) (by rw [c25]; decide) (by rw [c25]; rfl) (by decide) ?_
                refine lv_aload_n C.1.1 C.1.2.1 d_Law_law_242 rfl (lv_at hl 1 rfl) ?_
                refine lv_aload_n C.1.1 C.1.2.1 d_Law_law_243 rfl (lv_at hl 0 rfl) ?_
                refine lv_iload C.1.1 C.1.2.1 d_Law_law_244 (lv_at hl 4 rfl) ?_
                refine lv_iconst (v := (1 : Int32)) C.1.1 C.1.2.1 d_Law_law_246 (by decide) ?_
                refine lv_iadd C.1.1 C.1.2.1 d_Law_law_247 ?_
                obtain ⟨hin, h⟩ := h
                refine va_sld C.1.1 C.1.2.1 C.2.2.2.2.2.1 C.2.2.2.2.2.2 (m0_not C.2.2.2.2.2.2) hS hin d_Law_law_248 ?_
                obtain ⟨ho, h⟩ := h
                refine mc_V (As := [.int (xs (x4 + (1 : Int32)).toNatClampNeg)]) (ci := 0) C.1 hM hS bigGood (c_Desk_free h) rfl ho kw435 kw437 kw438 kw123 kw436 hd_Desk_free ⟨by decide, by decide⟩ hl.1 rfl (Nat.le_of_ble_eq_true rfl) d_Law_law_249 (mc := 0) (ms := 0) rfl rfl ⟨show _ ≤ (601024 : Nat) by omega, show _ ≤ (7293034 : Nat) by omega⟩ (fun v M27 H locs hp hM hS => ?_)
                obtain ⟨v26, rfl, h⟩ := hp
                refine lv_aload_n C.1.1 C.1.2.1 d_Law_law_252 rfl (lv_at hl 2 rfl) ?_
                refine lv_aload_n C.1.1 C.1.2.1 d_Law_law_253 rfl (lv_at hl 0 rfl) ?_
                refine lv_iload C.1.1 C.1.2.1 d_Law_law_254 (lv_at hl 4 rfl) ?_
                refine lv_iconst (v := (1 : Int32)) C.1.1 C.1.2.1 d_Law_law_256 (by decide) ?_
                refine lv_iadd C.1.1 C.1.2.1 d_Law_law_257 ?_
                obtain ⟨hin, h⟩ := h
                refine va_sld C.1.1 C.1.2.1 C.2.2.2.2.2.1 C.2.2.2.2.2.2 (m0_not C.2.2.2.2.2.2) hS hin d_Law_law_258 ?_
                obtain ⟨ho, h⟩ := h
                refine mc_V (As := [.int (xs (x4 + (1 : Int32)).toNatClampNeg)]) (ci := 6) C.1 hM hS bigGood (c_Mod_free h) rfl ho kw439 kw441 kw442 kw29 kw440 hd_Mod_free ⟨by decide, by decide⟩ hl.1 rfl (Nat.le_of_ble_eq_true rfl) d_Law_law_259 (mc := 0) (ms := 0) rfl rfl ⟨show _ ≤ (601024 : Nat) by omega, show _ ≤ (7293034 : Nat) by omega⟩ (fun v M29 H locs hp hM hS => ?_)
                obtain ⟨v28, rfl, h⟩ := hp
                refine lv_icmp_eq (tgt := 659) C.1.1 C.1.2.1 d_Law_law_262 (by decide) (fun c30 => ?_) (fun c30 => ?_)
                · have h := h.1 c30
                  exact t_Law_law_b659 C h (mu := (μ x4 M)) (show _ ≤ (601024 : Nat) by omega) (show _ ≤ (7293034 : Nat) by omega) (fun cn sn y4 N hJ h1 h2 => ih cn sn y4 N hJ.1 (Nat.lt_of_lt_of_le hJ.2 (Nat.le_of_lt_succ hn)) (by have h3 := hJ.2; omega) (by have h3 := hJ.2; omega)) _ _ _ hM hS (lv_sub hl [0, 1, 2, 3, 4] rfl)
                · have h := h.2 c30
                  refine lv_iconst (v := (0 : Int32)) C.1.1 C.1.2.1 d_Law_law_265 (by decide) ?_
                  exact h.elim
              · have h := h.2 c25
                by_cases c31 : ((xs x4.toNatClampNeg) &&& (15 : Int32)) = 4
                · have h := h.1 c31
                  refine lv_tableIn (tgt := 267) C.1.1 C.1.2.1 d_Law_law_39 (by rw [c31]; decide) (by rw [c31]; decide) (by rw [c31]; rfl) (by decide) ?_
                  refine lv_aload_n C.1.1 C.1.2.1 d_Law_law_267 rfl (lv_at hl 1 rfl) ?_
                  refine lv_aload_n C.1.1 C.1.2.1 d_Law_law_268 rfl (lv_at hl 3 rfl) ?_
                  refine mcH_S (As := [.ref x1, .ref x3]) C.1 hM hS bigGood C.2.2.2.1 (m0_W) (c_Law_route hfl h) kw443 kw444 kw416 kw445 hd_Law_route ⟨by decide, by decide⟩ hl.1 rfl (Nat.le_of_ble_eq_true rfl) d_Law_law_269 (mc := 1) (ms := 6) rfl rfl ⟨show _ ≤ (601024 : Nat) by omega, show _ ≤ (7293034 : Nat) by omega⟩ (fun v M33 H locs hp hM hS => ?_)
                  obtain ⟨v32, rfl, h⟩ := hp
                  refine lv_istore (lv' := [(5, .int v32), (0, .ref b), (1, .ref x1), (2, .ref x2), (3, .ref x3), (4, .int x4)]) C.1.1 C.1.2.1 d_Law_law_272 hl (by decide) rfl (fun ls hl => ?_)
                  refine lv_aload_n C.1.1 C.1.2.1 d_Law_law_274 rfl (lv_at hl 3 rfl) ?_
                  obtain ⟨ho, h⟩ := h
                  refine mc_V (As := []) (ci := 6) C.1 hM hS bigGood (c_Mod_route h) rfl ho kw446 kw448 kw449 kw29 kw447 hd_Mod_route ⟨by decide, by decide⟩ hl.1 rfl (Nat.le_of_ble_eq_true rfl) d_Law_law_275 (mc := 0) (ms := 0) rfl rfl ⟨show _ ≤ (601024 : Nat) by omega, show _ ≤ (7293034 : Nat) by omega⟩ (fun v M35 H locs hp hM hS => ?_)
                  obtain ⟨v34, rfl, h⟩ := hp
                  refine lv_istore (lv' := [(6, .int v34), (5, .int v32), (0, .ref b), (1, .ref x1), (2, .ref x2), (3, .ref x3), (4, .int x4)]) C.1.1 C.1.2.1 d_Law_law_278 hl (by decide) rfl (fun ls hl => ?_)
                  refine lv_aload_n C.1.1 C.1.2.1 d_Law_law_280 rfl (lv_at hl 4 rfl) ?_
                  obtain ⟨ho, h⟩ := h
                  refine mc_V (As := []) (ci := 6) C.1 hM hS bigGood (c_Mod_thrown h) rfl ho kw423 kw425 kw426 kw29 kw424 hd_Mod_thrown ⟨by decide, by decide⟩ hl.1 rfl (Nat.le_of_ble_eq_true rfl) d_Law_law_281 (mc := 0) (ms := 0) rfl rfl ⟨show _ ≤ (601024 : Nat) by omega, show _ ≤ (7293034 : Nat) by omega⟩ (fun v M' H locs hp hM hS => ?_)
                  obtain ⟨v36, rfl, rfl, h⟩ := hp
                  refine lv_iload C.1.1 C.1.2.1 d_Law_law_284 (lv_at hl 1 rfl) ?_
                  refine lv_icmp_eq (tgt := 291) C.1.1 C.1.2.1 d_Law_law_286 (by decide) (fun c38 => ?_) (fun c38 => ?_)
                  · have h := h.1 c38
                    refine lv_iload C.1.1 C.1.2.1 d_Law_law_291 (lv_at hl 1 rfl) ?_
                    refine lv_if_ne (tgt := 308) C.1.1 C.1.2.1 d_Law_law_293 (by decide) (fun c39 => ?_) (fun c39 => ?_)
                    · have h := h.2 c39
                      exact t_Law_law_b308 C h (mu := (μ x4 M)) (show _ ≤ (601024 : Nat) by omega) (show _ ≤ (7293034 : Nat) by omega) (fun cn sn y4 N hJ h1 h2 => ih cn sn y4 N hJ.1 (Nat.lt_of_lt_of_le hJ.2 (Nat.le_of_lt_succ hn)) (by have h3 := hJ.2; omega) (by have h3 := hJ.2; omega)) _ _ _ hM hS (lv_sub hl [2, 3, 4, 5, 6] rfl)
                    · have h := h.1 c39
                      refine lv_aload_n C.1.1 C.1.2.1 d_Law_law_296 rfl (lv_at hl 5 rfl) ?_
                      refine lv_iconst (v := (0 : Int32)) C.1.1 C.1.2.1 d_Law_law_297 (by decide) ?_
                      obtain ⟨v40, ev40, h⟩ := h
                      refine ma_L C.1 hM 1 rfl ev40 d_Law_law_298 ?_
                      refine lv_iload C.1.1 C.1.2.1 d_Law_law_299 (lv_at hl 0 rfl) ?_
                      refine lv_i2l (v := v34.toInt64) C.1.1 C.1.2.1 d_Law_law_301 rfl ?_
                      refine W.lcmp C.1.1 C.1.2.1 d_Law_law_302 ?_
                      refine lv_if_eq (tgt := 308) C.1.1 C.1.2.1 d_Law_law_303 (by decide) (fun c41 => ?_) (fun c41 => ?_)
                      · have h := h.1 c41
                        exact t_Law_law_b308 C h (mu := (μ x4 M)) (show _ ≤ (601024 : Nat) by omega) (show _ ≤ (7293034 : Nat) by omega) (fun cn sn y4 N hJ h1 h2 => ih cn sn y4 N hJ.1 (Nat.lt_of_lt_of_le hJ.2 (Nat.le_of_lt_succ hn)) (by have h3 := hJ.2; omega) (by have h3 := hJ.2; omega)) _ _ _ hM hS (lv_sub hl [2, 3, 4, 5, 6] rfl)
                      · have h := h.2 c41
                        refine lv_iconst (v := (0 : Int32)) C.1.1 C.1.2.1 d_Law_law_306 (by decide) ?_
                        exact h.elim
                  · have h := h.2 c38
                    refine lv_iconst (v := (0 : Int32)) C.1.1 C.1.2.1 d_Law_law_289 (by decide) ?_
                    exact h.elim
                · have h := h.2 c31
                  by_cases c42 : ((xs x4.toNatClampNeg) &&& (15 : Int32)) = 5
                  · have h := h.1 c42
                    refine lv_tableIn (tgt := 311) C.1.1 C.1.2.1 d_Law_law_39 (by rw [c42]; decide) (by rw [c42]; decide) (by rw [c42]; rfl) (by decide) ?_
                    refine lv_aload_n C.1.1 C.1.2.1 d_Law_law_311 rfl (lv_at hl 1 rfl) ?_
                    refine lv_aload_n C.1.1 C.1.2.1 d_Law_law_312 rfl (lv_at hl 0 rfl) ?_
                    refine lv_iload C.1.1 C.1.2.1 d_Law_law_313 (lv_at hl 4 rfl) ?_
                    refine lv_iconst (v := (1 : Int32)) C.1.1 C.1.2.1 d_Law_law_315 (by decide) ?_
                    refine lv_iadd C.1.1 C.1.2.1 d_Law_law_316 ?_
                    obtain ⟨hin, h⟩ := h
                    refine va_sld C.1.1 C.1.2.1 C.2.2.2.2.2.1 C.2.2.2.2.2.2 (m0_not C.2.2.2.2.2.2) hS hin d_Law_law_317 ?_
                    refine lv_aload_n C.1.1 C.1.2.1 d_Law_law_318 rfl (lv_at hl 3 rfl) ?_
                    refine mcH_S (As := [.ref x1, .int (xs (x4 + (1 : Int32)).toNatClampNeg), .ref x3]) C.1 hM hS bigGood C.2.2.2.1 (m0_W) (c_Law_keep hfl h) kw450 kw451 kw416 kw452 hd_Law_keep ⟨by decide, by decide⟩ hl.1 rfl (Nat.le_of_ble_eq_true rfl) d_Law_law_319 (mc := 1) (ms := 6) rfl rfl ⟨show _ ≤ (601024 : Nat) by omega, show _ ≤ (7293034 : Nat) by omega⟩ (fun v M44 H locs hp hM hS => ?_)
                    obtain ⟨v43, rfl, h⟩ := hp
                    refine lv_istore (lv' := [(5, .int v43), (0, .ref b), (1, .ref x1), (2, .ref x2), (3, .ref x3), (4, .int x4)]) C.1.1 C.1.2.1 d_Law_law_322 hl (by decide) rfl (fun ls hl => ?_)
                    refine lv_aload_n C.1.1 C.1.2.1 d_Law_law_324 rfl (lv_at hl 3 rfl) ?_
                    refine lv_aload_n C.1.1 C.1.2.1 d_Law_law_325 rfl (lv_at hl 1 rfl) ?_
                    refine lv_iload C.1.1 C.1.2.1 d_Law_law_326 (lv_at hl 5 rfl) ?_
                    refine lv_iconst (v := (1 : Int32)) C.1.1 C.1.2.1 d_Law_law_328 (by decide) ?_
                    refine lv_iadd C.1.1 C.1.2.1 d_Law_law_329 ?_
                    obtain ⟨hin, h⟩ := h
                    refine va_sld C.1.1 C.1.2.1 C.2.2.2.2.2.1 C.2.2.2.2.2.2 (m0_not C.2.2.2.2.2.2) hS hin d_Law_law_330 ?_
                    obtain ⟨ho, h⟩ := h
                    refine mc_V (As := [.int (xs (x4 + (1 : Int32)).toNatClampNeg)]) (ci := 6) C.1 hM hS bigGood (c_Mod_keep h) rfl ho kw453 kw455 kw456 kw29 kw454 hd_Mod_keep ⟨by decide, by decide⟩ hl.1 rfl (Nat.le_of_ble_eq_true rfl) d_Law_law_331 (mc := 0) (ms := 0) rfl rfl ⟨show _ ≤ (601024 : Nat) by omega, show _ ≤ (7293034 : Nat) by omega⟩ (fun v M46 H locs hp hM hS => ?_)
                    obtain ⟨v45, rfl, h⟩ := hp
                    refine lv_istore (lv' := [(6, .int v45), (5, .int v43), (0, .ref b), (1, .ref x1), (2, .ref x2), (3, .ref x3), (4, .int x4)]) C.1.1 C.1.2.1 d_Law_law_334 hl (by decide) rfl (fun ls hl => ?_)
                    refine lv_aload_n C.1.1 C.1.2.1 d_Law_law_336 rfl (lv_at hl 4 rfl) ?_
                    obtain ⟨ho, h⟩ := h
                    refine mc_V (As := []) (ci := 6) C.1 hM hS bigGood (c_Mod_thrown h) rfl ho kw423 kw425 kw426 kw29 kw424 hd_Mod_thrown ⟨by decide, by decide⟩ hl.1 rfl (Nat.le_of_ble_eq_true rfl) d_Law_law_337 (mc := 0) (ms := 0) rfl rfl ⟨show _ ≤ (601024 : Nat) by omega, show _ ≤ (7293034 : Nat) by omega⟩ (fun v M' H locs hp hM hS => ?_)
                    obtain ⟨v47, rfl, rfl, h⟩ := hp
                    refine lv_iload C.1.1 C.1.2.1 d_Law_law_340 (lv_at hl 1 rfl) ?_
                    refine lv_icmp_eq (tgt := 347) C.1.1 C.1.2.1 d_Law_law_342 (by decide) (fun c49 => ?_) (fun c49 => ?_)
                    · have h := h.1 c49
                      refine lv_iload C.1.1 C.1.2.1 d_Law_law_347 (lv_at hl 1 rfl) ?_
                      refine lv_if_ne (tgt := 364) C.1.1 C.1.2.1 d_Law_law_349 (by decide) (fun c50 => ?_) (fun c50 => ?_)
                      · have h := h.2 c50
                        exact t_Law_law_b364 C h (mu := (μ x4 M)) (show _ ≤ (601024 : Nat) by omega) (show _ ≤ (7293034 : Nat) by omega) (fun cn sn y4 N hJ h1 h2 => ih cn sn y4 N hJ.1 (Nat.lt_of_lt_of_le hJ.2 (Nat.le_of_lt_succ hn)) (by have h3 := hJ.2; omega) (by have h3 := hJ.2; omega)) _ _ _ hM hS (lv_sub hl [2, 3, 4, 5, 6] rfl)
                      · have h := h.1 c50
                        refine lv_aload_n C.1.1 C.1.2.1 d_Law_law_352 rfl (lv_at hl 5 rfl) ?_
                        refine lv_iconst (v := (0 : Int32)) C.1.1 C.1.2.1 d_Law_law_353 (by decide) ?_
                        obtain ⟨v51, ev51, h⟩ := h
                        refine ma_L C.1 hM 1 rfl ev51 d_Law_law_354 ?_
                        refine lv_iload C.1.1 C.1.2.1 d_Law_law_355 (lv_at hl 0 rfl) ?_
                        refine lv_i2l (v := v45.toInt64) C.1.1 C.1.2.1 d_Law_law_357 rfl ?_
                        refine W.lcmp C.1.1 C.1.2.1 d_Law_law_358 ?_
                        refine lv_if_eq (tgt := 364) C.1.1 C.1.2.1 d_Law_law_359 (by decide) (fun c52 => ?_) (fun c52 => ?_)
                        · have h := h.1 c52
                          exact t_Law_law_b364 C h (mu := (μ x4 M)) (show _ ≤ (601024 : Nat) by omega) (show _ ≤ (7293034 : Nat) by omega) (fun cn sn y4 N hJ h1 h2 => ih cn sn y4 N hJ.1 (Nat.lt_of_lt_of_le hJ.2 (Nat.le_of_lt_succ hn)) (by have h3 := hJ.2; omega) (by have h3 := hJ.2; omega)) _ _ _ hM hS (lv_sub hl [2, 3, 4, 5, 6] rfl)
                        · have h := h.2 c52
                          refine lv_iconst (v := (0 : Int32)) C.1.1 C.1.2.1 d_Law_law_362 (by decide) ?_
                          exact h.elim
                    · have h := h.2 c49
                      refine lv_iconst (v := (0 : Int32)) C.1.1 C.1.2.1 d_Law_law_345 (by decide) ?_
                      exact h.elim
                  · have h := h.2 c42
                    by_cases c53 : ((xs x4.toNatClampNeg) &&& (15 : Int32)) = 6
                    · have h := h.1 c53
                      refine lv_tableIn (tgt := 367) C.1.1 C.1.2.1 d_Law_law_39 (by rw [c53]; decide) (by rw [c53]; decide) (by rw [c53]; rfl) (by decide) ?_
                      refine lv_aload_n C.1.1 C.1.2.1 d_Law_law_367 rfl (lv_at hl 1 rfl) ?_
                      refine lv_aload_n C.1.1 C.1.2.1 d_Law_law_368 rfl (lv_at hl 3 rfl) ?_
                      refine mcH_S (As := [.ref x1, .ref x3]) C.1 hM hS bigGood C.2.2.2.1 (m0_W) (c_Law_lose hfl h) kw457 kw458 kw416 kw459 hd_Law_lose ⟨by decide, by decide⟩ hl.1 rfl (Nat.le_of_ble_eq_true rfl) d_Law_law_369 (mc := 1) (ms := 6) rfl rfl ⟨show _ ≤ (601024 : Nat) by omega, show _ ≤ (7293034 : Nat) by omega⟩ (fun v M55 H locs hp hM hS => ?_)
                      obtain ⟨v54, rfl, h⟩ := hp
                      refine lv_istore (lv' := [(5, .int v54), (0, .ref b), (1, .ref x1), (2, .ref x2), (3, .ref x3), (4, .int x4)]) C.1.1 C.1.2.1 d_Law_law_372 hl (by decide) rfl (fun ls hl => ?_)
                      refine lv_aload_n C.1.1 C.1.2.1 d_Law_law_374 rfl (lv_at hl 3 rfl) ?_
                      obtain ⟨ho, h⟩ := h
                      refine mc_V (As := []) (ci := 6) C.1 hM hS bigGood (c_Mod_lose h) rfl ho kw460 kw462 kw463 kw29 kw461 hd_Mod_lose ⟨by decide, by decide⟩ hl.1 rfl (Nat.le_of_ble_eq_true rfl) d_Law_law_375 (mc := 0) (ms := 0) rfl rfl ⟨show _ ≤ (601024 : Nat) by omega, show _ ≤ (7293034 : Nat) by omega⟩ (fun v M57 H locs hp hM hS => ?_)
                      obtain ⟨v56, rfl, h⟩ := hp
                      refine lv_istore (lv' := [(6, .int v56), (5, .int v54), (0, .ref b), (1, .ref x1), (2, .ref x2), (3, .ref x3), (4, .int x4)]) C.1.1 C.1.2.1 d_Law_law_378 hl (by decide) rfl (fun ls hl => ?_)
                      refine lv_aload_n C.1.1 C.1.2.1 d_Law_law_380 rfl (lv_at hl 4 rfl) ?_
                      obtain ⟨ho, h⟩ := h
                      refine mc_V (As := []) (ci := 6) C.1 hM hS bigGood (c_Mod_thrown h) rfl ho kw423 kw425 kw426 kw29 kw424 hd_Mod_thrown ⟨by decide, by decide⟩ hl.1 rfl (Nat.le_of_ble_eq_true rfl) d_Law_law_381 (mc := 0) (ms := 0) rfl rfl ⟨show _ ≤ (601024 : Nat) by omega, show _ ≤ (7293034 : Nat) by omega⟩ (fun v M' H locs hp hM hS => ?_)
                      obtain ⟨v58, rfl, rfl, h⟩ := hp
                      refine lv_iload C.1.1 C.1.2.1 d_Law_law_384 (lv_at hl 1 rfl) ?_
                      refine lv_icmp_eq (tgt := 391) C.1.1 C.1.2.1 d_Law_law_386 (by decide) (fun c60 => ?_) (fun c60 => ?_)
                      · have h := h.1 c60
                        refine lv_iload C.1.1 C.1.2.1 d_Law_law_391 (lv_at hl 1 rfl) ?_
                        refine lv_if_ne (tgt := 415) C.1.1 C.1.2.1 d_Law_law_393 (by decide) (fun c61 => ?_) (fun c61 => ?_)
                        · have h := h.2 c61
                          exact t_Law_law_b415 C h (mu := (μ x4 M)) (show _ ≤ (601024 : Nat) by omega) (show _ ≤ (7293034 : Nat) by omega) (fun cn sn y4 N hJ h1 h2 => ih cn sn y4 N hJ.1 (Nat.lt_of_lt_of_le hJ.2 (Nat.le_of_lt_succ hn)) (by have h3 := hJ.2; omega) (by have h3 := hJ.2; omega)) _ _ _ hM hS (lv_sub hl [2, 3, 4, 5, 6] rfl)
                        · have h := h.1 c61
                          refine lv_aload_n C.1.1 C.1.2.1 d_Law_law_396 rfl (lv_at hl 5 rfl) ?_
                          refine lv_iconst (v := (0 : Int32)) C.1.1 C.1.2.1 d_Law_law_397 (by decide) ?_
                          obtain ⟨v62, ev62, h⟩ := h
                          refine ma_L C.1 hM 1 rfl ev62 d_Law_law_398 ?_
                          refine lv_iload C.1.1 C.1.2.1 d_Law_law_399 (lv_at hl 0 rfl) ?_
                          refine lv_if_eq (tgt := 408) C.1.1 C.1.2.1 d_Law_law_401 (by decide) (fun c63 => ?_) (fun c63 => ?_)
                          · have h := h.1 c63
                            refine lv_lconst (v := (0 : Int64)) C.1.1 C.1.2.1 d_Law_law_408 (by decide) ?_
                            exact t_Law_law_b409 C h (mu := (μ x4 M)) (show _ ≤ (601024 : Nat) by omega) (show _ ≤ (7293034 : Nat) by omega) (fun cn sn y4 N hJ h1 h2 => ih cn sn y4 N hJ.1 (Nat.lt_of_lt_of_le hJ.2 (Nat.le_of_lt_succ hn)) (by have h3 := hJ.2; omega) (by have h3 := hJ.2; omega)) _ _ _ hM hS (lv_sub hl [2, 3, 4, 5, 6] rfl)
                          · have h := h.2 c63
                            refine lv_lconst (v := (1 : Int64)) C.1.1 C.1.2.1 d_Law_law_404 (by decide) ?_
                            refine lv_goto (tgt := 409) C.1.1 C.1.2.1 d_Law_law_405 (by decide) ?_
                            exact t_Law_law_b409 C h (mu := (μ x4 M)) (show _ ≤ (601024 : Nat) by omega) (show _ ≤ (7293034 : Nat) by omega) (fun cn sn y4 N hJ h1 h2 => ih cn sn y4 N hJ.1 (Nat.lt_of_lt_of_le hJ.2 (Nat.le_of_lt_succ hn)) (by have h3 := hJ.2; omega) (by have h3 := hJ.2; omega)) _ _ _ hM hS (lv_sub hl [2, 3, 4, 5, 6] rfl)
                      · have h := h.2 c60
                        refine lv_iconst (v := (0 : Int32)) C.1.1 C.1.2.1 d_Law_law_389 (by decide) ?_
                        exact h.elim
                    · have h := h.2 c53
                      by_cases c64 : ((xs x4.toNatClampNeg) &&& (15 : Int32)) = 7
                      · have h := h.1 c64
                        refine lv_tableIn (tgt := 418) C.1.1 C.1.2.1 d_Law_law_39 (by rw [c64]; decide) (by rw [c64]; decide) (by rw [c64]; rfl) (by decide) ?_
                        refine lv_aload_n C.1.1 C.1.2.1 d_Law_law_418 rfl (lv_at hl 1 rfl) ?_
                        refine lv_aload_n C.1.1 C.1.2.1 d_Law_law_419 rfl (lv_at hl 0 rfl) ?_
                        refine lv_iload C.1.1 C.1.2.1 d_Law_law_420 (lv_at hl 4 rfl) ?_
                        refine lv_iconst (v := (1 : Int32)) C.1.1 C.1.2.1 d_Law_law_422 (by decide) ?_
                        refine lv_iadd C.1.1 C.1.2.1 d_Law_law_423 ?_
                        obtain ⟨hin, h⟩ := h
                        refine va_sld C.1.1 C.1.2.1 C.2.2.2.2.2.1 C.2.2.2.2.2.2 (m0_not C.2.2.2.2.2.2) hS hin d_Law_law_424 ?_
                        refine lv_aload_n C.1.1 C.1.2.1 d_Law_law_425 rfl (lv_at hl 0 rfl) ?_
                        refine lv_iload C.1.1 C.1.2.1 d_Law_law_426 (lv_at hl 4 rfl) ?_
                        refine lv_iconst (v := (2 : Int32)) C.1.1 C.1.2.1 d_Law_law_428 (by decide) ?_
                        refine lv_iadd C.1.1 C.1.2.1 d_Law_law_429 ?_
                        obtain ⟨hin, h⟩ := h
                        refine va_sld C.1.1 C.1.2.1 C.2.2.2.2.2.1 C.2.2.2.2.2.2 (m0_not C.2.2.2.2.2.2) hS hin d_Law_law_430 ?_
                        obtain ⟨ho, h⟩ := h
                        refine mc_V (As := [.int (xs (x4 + (1 : Int32)).toNatClampNeg), .int (xs (x4 + (2 : Int32)).toNatClampNeg)]) (ci := 0) C.1 hM hS bigGood (c_Desk_about h) rfl ho kw464 kw466 kw467 kw123 kw465 hd_Desk_about ⟨by decide, by decide⟩ hl.1 rfl (Nat.le_of_ble_eq_true rfl) d_Law_law_431 (mc := 0) (ms := 0) rfl rfl ⟨show _ ≤ (601024 : Nat) by omega, show _ ≤ (7293034 : Nat) by omega⟩ (fun v M' H locs hp hM hS => ?_)
                        obtain ⟨v65, rfl, rfl, h⟩ := hp
                        refine lv_aload_n C.1.1 C.1.2.1 d_Law_law_434 rfl (lv_at hl 2 rfl) ?_
                        refine lv_aload_n C.1.1 C.1.2.1 d_Law_law_435 rfl (lv_at hl 0 rfl) ?_
                        refine lv_iload C.1.1 C.1.2.1 d_Law_law_436 (lv_at hl 4 rfl) ?_
                        refine lv_iconst (v := (1 : Int32)) C.1.1 C.1.2.1 d_Law_law_438 (by decide) ?_
                        refine lv_iadd C.1.1 C.1.2.1 d_Law_law_439 ?_
                        obtain ⟨hin, h⟩ := h
                        refine va_sld C.1.1 C.1.2.1 C.2.2.2.2.2.1 C.2.2.2.2.2.2 (m0_not C.2.2.2.2.2.2) hS hin d_Law_law_440 ?_
                        refine lv_aload_n C.1.1 C.1.2.1 d_Law_law_441 rfl (lv_at hl 0 rfl) ?_
                        refine lv_iload C.1.1 C.1.2.1 d_Law_law_442 (lv_at hl 4 rfl) ?_
                        refine lv_iconst (v := (2 : Int32)) C.1.1 C.1.2.1 d_Law_law_444 (by decide) ?_
                        refine lv_iadd C.1.1 C.1.2.1 d_Law_law_445 ?_
                        obtain ⟨hin, h⟩ := h
                        refine va_sld C.1.1 C.1.2.1 C.2.2.2.2.2.1 C.2.2.2.2.2.2 (m0_not C.2.2.2.2.2.2) hS hin d_Law_law_446 ?_
                        obtain ⟨ho, h⟩ := h
                        refine mc_V (As := [.int (xs (x4 + (1 : Int32)).toNatClampNeg), .int (xs (x4 + (2 : Int32)).toNatClampNeg)]) (ci := 6) C.1 hM hS bigGood (c_Mod_about h) rfl ho kw468 kw470 kw471 kw29 kw469 hd_Mod_about ⟨by decide, by decide⟩ hl.1 rfl (Nat.le_of_ble_eq_true rfl) d_Law_law_447 (mc := 0) (ms := 0) rfl rfl ⟨show _ ≤ (601024 : Nat) by omega, show _ ≤ (7293034 : Nat) by omega⟩ (fun v M68 H locs hp hM hS => ?_)
                        obtain ⟨v67, rfl, h⟩ := hp
                        refine lv_icmp_eq (tgt := 659) C.1.1 C.1.2.1 d_Law_law_450 (by decide) (fun c69 => ?_) (fun c69 => ?_)
                        · have h := h.1 c69
                          exact t_Law_law_b659 C h (mu := (μ x4 M)) (show _ ≤ (601024 : Nat) by omega) (show _ ≤ (7293034 : Nat) by omega) (fun cn sn y4 N hJ h1 h2 => ih cn sn y4 N hJ.1 (Nat.lt_of_lt_of_le hJ.2 (Nat.le_of_lt_succ hn)) (by have h3 := hJ.2; omega) (by have h3 := hJ.2; omega)) _ _ _ hM hS (lv_sub hl [0, 1, 2, 3, 4] rfl)
                        · have h := h.2 c69
                          refine lv_iconst (v := (0 : Int32)) C.1.1 C.1.2.1 d_Law_law_453 (by decide) ?_
                          exact h.elim
                      · have h := h.2 c64
                        by_cases c70 : ((xs x4.toNatClampNeg) &&& (15 : Int32)) = 8
                        · have h := h.1 c70
                          refine lv_tableIn (tgt := 455) C.1.1 C.1.2.1 d_Law_law_39 (by rw [c70]; decide) (by rw [c70]; decide) (by rw [c70]; rfl) (by decide) ?_
                          refine lv_aload_n C.1.1 C.1.2.1 d_Law_law_455 rfl (lv_at hl 1 rfl) ?_
                          refine lv_aload_n C.1.1 C.1.2.1 d_Law_law_456 rfl (lv_at hl 0 rfl) ?_
                          refine lv_iload C.1.1 C.1.2.1 d_Law_law_457 (lv_at hl 4 rfl) ?_
                          refine lv_iconst (v := (1 : Int32)) C.1.1 C.1.2.1 d_Law_law_459 (by decide) ?_
                          refine lv_iadd C.1.1 C.1.2.1 d_Law_law_460 ?_
                          obtain ⟨hin, h⟩ := h
                          refine va_sld C.1.1 C.1.2.1 C.2.2.2.2.2.1 C.2.2.2.2.2.2 (m0_not C.2.2.2.2.2.2) hS hin d_Law_law_461 ?_
                          refine lv_aload_n C.1.1 C.1.2.1 d_Law_law_462 rfl (lv_at hl 0 rfl) ?_
                          refine lv_iload C.1.1 C.1.2.1 d_Law_law_463 (lv_at hl 4 rfl) ?_
                          refine lv_iconst (v := (2 : Int32)) C.1.1 C.1.2.1 d_Law_law_465 (by decide) ?_
                          refine lv_iadd C.1.1 C.1.2.1 d_Law_law_466 ?_
                          obtain ⟨hin, h⟩ := h
                          refine va_sld C.1.1 C.1.2.1 C.2.2.2.2.2.1 C.2.2.2.2.2.2 (m0_not C.2.2.2.2.2.2) hS hin d_Law_law_467 ?_
                          refine lv_aload_n C.1.1 C.1.2.1 d_Law_law_468 rfl (lv_at hl 3 rfl) ?_
                          refine mcH_S (As := [.ref x1, .int (xs (x4 + (1 : Int32)).toNatClampNeg), .int (xs (x4 + (2 : Int32)).toNatClampNeg), .ref x3]) C.1 hM hS bigGood C.2.2.2.1 (m0_W) (c_Law_kept hfl h) kw472 kw473 kw416 kw474 hd_Law_kept ⟨by decide, by decide⟩ hl.1 rfl (Nat.le_of_ble_eq_true rfl) d_Law_law_469 (mc := 1) (ms := 6) rfl rfl ⟨show _ ≤ (601024 : Nat) by omega, show _ ≤ (7293034 : Nat) by omega⟩ (fun v M72 H locs hp hM hS => ?_)
                          obtain ⟨v71, rfl, h⟩ := hp
                          refine lv_istore (lv' := [(5, .int v71), (0, .ref b), (1, .ref x1), (2, .ref x2), (3, .ref x3), (4, .int x4)]) C.1.1 C.1.2.1 d_Law_law_472 hl (by decide) rfl (fun ls hl => ?_)
                          refine lv_aload_n C.1.1 C.1.2.1 d_Law_law_474 rfl (lv_at hl 3 rfl) ?_
                          refine lv_aload_n C.1.1 C.1.2.1 d_Law_law_475 rfl (lv_at hl 1 rfl) ?_
                          refine lv_iload C.1.1 C.1.2.1 d_Law_law_476 (lv_at hl 5 rfl) ?_
                          refine lv_iconst (v := (1 : Int32)) C.1.1 C.1.2.1 d_Law_law_478 (by decide) ?_
                          refine lv_iadd C.1.1 C.1.2.1 d_Law_law_479 ?_
                          obtain ⟨hin, h⟩ := h
                          refine va_sld C.1.1 C.1.2.1 C.2.2.2.2.2.1 C.2.2.2.2.2.2 (m0_not C.2.2.2.2.2.2) hS hin d_Law_law_480 ?_
                          refine lv_aload_n C.1.1 C.1.2.1 d_Law_law_481 rfl (lv_at hl 1 rfl) ?_
                          refine lv_iload C.1.1 C.1.2.1 d_Law_law_482 (lv_at hl 5 rfl) ?_
                          refine lv_iconst (v := (2 : Int32)) C.1.1 C.1.2.1 d_Law_law_484 (by decide) ?_
                          refine lv_iadd C.1.1 C.1.2.1 d_Law_law_485 ?_
                          obtain ⟨hin, h⟩ := h
                          refine va_sld C.1.1 C.1.2.1 C.2.2.2.2.2.1 C.2.2.2.2.2.2 (m0_not C.2.2.2.2.2.2) hS hin d_Law_law_486 ?_
                          obtain ⟨ho, h⟩ := h
                          refine mc_V (As := [.int (xs (x4 + (1 : Int32)).toNatClampNeg), .int (xs (x4 + (2 : Int32)).toNatClampNeg)]) (ci := 6) C.1 hM hS bigGood (c_Mod_kept h) rfl ho kw475 kw477 kw478 kw29 kw476 hd_Mod_kept ⟨by decide, by decide⟩ hl.1 rfl (Nat.le_of_ble_eq_true rfl) d_Law_law_487 (mc := 0) (ms := 0) rfl rfl ⟨show _ ≤ (601024 : Nat) by omega, show _ ≤ (7293034 : Nat) by omega⟩ (fun v M74 H locs hp hM hS => ?_)
                          obtain ⟨v73, rfl, h⟩ := hp
                          refine lv_istore (lv' := [(6, .int v73), (5, .int v71), (0, .ref b), (1, .ref x1), (2, .ref x2), (3, .ref x3), (4, .int x4)]) C.1.1 C.1.2.1 d_Law_law_490 hl (by decide) rfl (fun ls hl => ?_)
                          refine lv_aload_n C.1.1 C.1.2.1 d_Law_law_492 rfl (lv_at hl 4 rfl) ?_
                          obtain ⟨ho, h⟩ := h
                          refine mc_V (As := []) (ci := 6) C.1 hM hS bigGood (c_Mod_thrown h) rfl ho kw423 kw425 kw426 kw29 kw424 hd_Mod_thrown ⟨by decide, by decide⟩ hl.1 rfl (Nat.le_of_ble_eq_true rfl) d_Law_law_493 (mc := 0) (ms := 0) rfl rfl ⟨show _ ≤ (601024 : Nat) by omega, show _ ≤ (7293034 : Nat) by omega⟩ (fun v M' H locs hp hM hS => ?_)
                          obtain ⟨v75, rfl, rfl, h⟩ := hp
                          refine lv_iload C.1.1 C.1.2.1 d_Law_law_496 (lv_at hl 1 rfl) ?_
                          refine lv_icmp_eq (tgt := 503) C.1.1 C.1.2.1 d_Law_law_498 (by decide) (fun c77 => ?_) (fun c77 => ?_)
                          · have h := h.1 c77
                            refine lv_iload C.1.1 C.1.2.1 d_Law_law_503 (lv_at hl 1 rfl) ?_
                            refine lv_if_ne (tgt := 520) C.1.1 C.1.2.1 d_Law_law_505 (by decide) (fun c78 => ?_) (fun c78 => ?_)
                            · have h := h.2 c78
                              exact t_Law_law_b520 C h (mu := (μ x4 M)) (show _ ≤ (601024 : Nat) by omega) (show _ ≤ (7293034 : Nat) by omega) (fun cn sn y4 N hJ h1 h2 => ih cn sn y4 N hJ.1 (Nat.lt_of_lt_of_le hJ.2 (Nat.le_of_lt_succ hn)) (by have h3 := hJ.2; omega) (by have h3 := hJ.2; omega)) _ _ _ hM hS (lv_sub hl [2, 3, 4, 5, 6] rfl)
                            · have h := h.1 c78
                              refine lv_aload_n C.1.1 C.1.2.1 d_Law_law_508 rfl (lv_at hl 5 rfl) ?_
                              refine lv_iconst (v := (0 : Int32)) C.1.1 C.1.2.1 d_Law_law_509 (by decide) ?_
                              obtain ⟨v79, ev79, h⟩ := h
                              refine ma_L C.1 hM 1 rfl ev79 d_Law_law_510 ?_
                              refine lv_iload C.1.1 C.1.2.1 d_Law_law_511 (lv_at hl 0 rfl) ?_
                              refine lv_i2l (v := v73.toInt64) C.1.1 C.1.2.1 d_Law_law_513 rfl ?_
                              refine W.lcmp C.1.1 C.1.2.1 d_Law_law_514 ?_
                              refine lv_if_eq (tgt := 520) C.1.1 C.1.2.1 d_Law_law_515 (by decide) (fun c80 => ?_) (fun c80 => ?_)
                              · have h := h.1 c80
                                exact t_Law_law_b520 C h (mu := (μ x4 M)) (show _ ≤ (601024 : Nat) by omega) (show _ ≤ (7293034 : Nat) by omega) (fun cn sn y4 N hJ h1 h2 => ih cn sn y4 N hJ.1 (Nat.lt_of_lt_of_le hJ.2 (Nat.le_of_lt_succ hn)) (by have h3 := hJ.2; omega) (by have h3 := hJ.2; omega)) _ _ _ hM hS (lv_sub hl [2, 3, 4, 5, 6] rfl)
                              · have h := h.2 c80
                                refine lv_iconst (v := (0 : Int32)) C.1.1 C.1.2.1 d_Law_law_518 (by decide) ?_
                                exact h.elim
                          · have h := h.2 c77
                            refine lv_iconst (v := (0 : Int32)) C.1.1 C.1.2.1 d_Law_law_501 (by decide) ?_
                            exact h.elim
                        · have h := h.2 c70
                          by_cases c81 : ((xs x4.toNatClampNeg) &&& (15 : Int32)) = 9
                          · have h := h.1 c81
                            refine lv_tableIn (tgt := 523) C.1.1 C.1.2.1 d_Law_law_39 (by rw [c81]; decide) (by rw [c81]; decide) (by rw [c81]; rfl) (by decide) ?_
                            refine lv_aload_n C.1.1 C.1.2.1 d_Law_law_523 rfl (lv_at hl 1 rfl) ?_
                            refine lv_aload_n C.1.1 C.1.2.1 d_Law_law_524 rfl (lv_at hl 0 rfl) ?_
                            refine lv_iload C.1.1 C.1.2.1 d_Law_law_525 (lv_at hl 4 rfl) ?_
                            refine lv_iconst (v := (1 : Int32)) C.1.1 C.1.2.1 d_Law_law_527 (by decide) ?_
                            refine lv_iadd C.1.1 C.1.2.1 d_Law_law_528 ?_
                            obtain ⟨hin, h⟩ := h
                            refine va_sld C.1.1 C.1.2.1 C.2.2.2.2.2.1 C.2.2.2.2.2.2 (m0_not C.2.2.2.2.2.2) hS hin d_Law_law_529 ?_
                            refine lv_aload_n C.1.1 C.1.2.1 d_Law_law_530 rfl (lv_at hl 0 rfl) ?_
                            refine lv_iload C.1.1 C.1.2.1 d_Law_law_531 (lv_at hl 4 rfl) ?_
                            refine lv_iconst (v := (2 : Int32)) C.1.1 C.1.2.1 d_Law_law_533 (by decide) ?_
                            refine lv_iadd C.1.1 C.1.2.1 d_Law_law_534 ?_
                            obtain ⟨hin, h⟩ := h
                            refine va_sld C.1.1 C.1.2.1 C.2.2.2.2.2.1 C.2.2.2.2.2.2 (m0_not C.2.2.2.2.2.2) hS hin d_Law_law_535 ?_
                            obtain ⟨ho, h⟩ := h
                            refine mc_V (As := [.int (xs (x4 + (1 : Int32)).toNatClampNeg), .int (xs (x4 + (2 : Int32)).toNatClampNeg)]) (ci := 0) C.1 hM hS bigGood (c_Desk_sign h) rfl ho kw479 kw481 kw482 kw123 kw480 hd_Desk_sign ⟨by decide, by decide⟩ hl.1 rfl (Nat.le_of_ble_eq_true rfl) d_Law_law_536 (mc := 0) (ms := 0) rfl rfl ⟨show _ ≤ (601024 : Nat) by omega, show _ ≤ (7293034 : Nat) by omega⟩ (fun v M' H locs hp hM hS => ?_)
                            obtain ⟨v82, rfl, rfl, h⟩ := hp
                            refine lv_aload_n C.1.1 C.1.2.1 d_Law_law_539 rfl (lv_at hl 2 rfl) ?_
                            refine lv_aload_n C.1.1 C.1.2.1 d_Law_law_540 rfl (lv_at hl 0 rfl) ?_
                            refine lv_iload C.1.1 C.1.2.1 d_Law_law_541 (lv_at hl 4 rfl) ?_
                            refine lv_iconst (v := (1 : Int32)) C.1.1 C.1.2.1 d_Law_law_543 (by decide) ?_
                            refine lv_iadd C.1.1 C.1.2.1 d_Law_law_544 ?_
                            obtain ⟨hin, h⟩ := h
                            refine va_sld C.1.1 C.1.2.1 C.2.2.2.2.2.1 C.2.2.2.2.2.2 (m0_not C.2.2.2.2.2.2) hS hin d_Law_law_545 ?_
                            refine lv_aload_n C.1.1 C.1.2.1 d_Law_law_546 rfl (lv_at hl 0 rfl) ?_
                            refine lv_iload C.1.1 C.1.2.1 d_Law_law_547 (lv_at hl 4 rfl) ?_
                            refine lv_iconst (v := (2 : Int32)) C.1.1 C.1.2.1 d_Law_law_549 (by decide) ?_
                            refine lv_iadd C.1.1 C.1.2.1 d_Law_law_550 ?_
                            obtain ⟨hin, h⟩ := h
                            refine va_sld C.1.1 C.1.2.1 C.2.2.2.2.2.1 C.2.2.2.2.2.2 (m0_not C.2.2.2.2.2.2) hS hin d_Law_law_551 ?_
                            obtain ⟨ho, h⟩ := h
                            refine mc_V (As := [.int (xs (x4 + (1 : Int32)).toNatClampNeg), .int (xs (x4 + (2 : Int32)).toNatClampNeg)]) (ci := 6) C.1 hM hS bigGood (c_Mod_sign h) rfl ho kw483 kw485 kw486 kw29 kw484 hd_Mod_sign ⟨by decide, by decide⟩ hl.1 rfl (Nat.le_of_ble_eq_true rfl) d_Law_law_552 (mc := 0) (ms := 0) rfl rfl ⟨show _ ≤ (601024 : Nat) by omega, show _ ≤ (7293034 : Nat) by omega⟩ (fun v M85 H locs hp hM hS => ?_)
                            obtain ⟨v84, rfl, h⟩ := hp
                            refine lv_icmp_eq (tgt := 659) C.1.1 C.1.2.1 d_Law_law_555 (by decide) (fun c86 => ?_) (fun c86 => ?_)
                            · have h := h.1 c86
                              exact t_Law_law_b659 C h (mu := (μ x4 M)) (show _ ≤ (601024 : Nat) by omega) (show _ ≤ (7293034 : Nat) by omega) (fun cn sn y4 N hJ h1 h2 => ih cn sn y4 N hJ.1 (Nat.lt_of_lt_of_le hJ.2 (Nat.le_of_lt_succ hn)) (by have h3 := hJ.2; omega) (by have h3 := hJ.2; omega)) _ _ _ hM hS (lv_sub hl [0, 1, 2, 3, 4] rfl)
                            · have h := h.2 c86
                              refine lv_iconst (v := (0 : Int32)) C.1.1 C.1.2.1 d_Law_law_558 (by decide) ?_
                              exact h.elim
                          · have h := h.2 c81
                            by_cases c87 : ((xs x4.toNatClampNeg) &&& (15 : Int32)) = 10
                            · have h := h.1 c87
                              refine lv_tableIn (tgt := 560) C.1.1 C.1.2.1 d_Law_law_39 (by rw [c87]; decide) (by rw [c87]; decide) (by rw [c87]; rfl) (by decide) ?_
                              refine lv_aload_n C.1.1 C.1.2.1 d_Law_law_560 rfl (lv_at hl 1 rfl) ?_
                              refine lv_aload_n C.1.1 C.1.2.1 d_Law_law_561 rfl (lv_at hl 0 rfl) ?_
                              refine lv_iload C.1.1 C.1.2.1 d_Law_law_562 (lv_at hl 4 rfl) ?_
                              refine lv_iconst (v := (1 : Int32)) C.1.1 C.1.2.1 d_Law_law_564 (by decide) ?_
                              refine lv_iadd C.1.1 C.1.2.1 d_Law_law_565 ?_
                              obtain ⟨hin, h⟩ := h
                              refine va_sld C.1.1 C.1.2.1 C.2.2.2.2.2.1 C.2.2.2.2.2.2 (m0_not C.2.2.2.2.2.2) hS hin d_Law_law_566 ?_
                              refine lv_aload_n C.1.1 C.1.2.1 d_Law_law_567 rfl (lv_at hl 0 rfl) ?_
                              refine lv_iload C.1.1 C.1.2.1 d_Law_law_568 (lv_at hl 4 rfl) ?_
                              refine lv_iconst (v := (2 : Int32)) C.1.1 C.1.2.1 d_Law_law_570 (by decide) ?_
                              refine lv_iadd C.1.1 C.1.2.1 d_Law_law_571 ?_
                              obtain ⟨hin, h⟩ := h
                              refine va_sld C.1.1 C.1.2.1 C.2.2.2.2.2.1 C.2.2.2.2.2.2 (m0_not C.2.2.2.2.2.2) hS hin d_Law_law_572 ?_
                              obtain ⟨ho, h⟩ := h
                              refine mc_V (As := [.int (xs (x4 + (1 : Int32)).toNatClampNeg), .int (xs (x4 + (2 : Int32)).toNatClampNeg)]) (ci := 0) C.1 hM hS bigGood (c_Desk_both h) rfl ho kw487 kw489 kw490 kw123 kw488 hd_Desk_both ⟨by decide, by decide⟩ hl.1 rfl (Nat.le_of_ble_eq_true rfl) d_Law_law_573 (mc := 0) (ms := 0) rfl rfl ⟨show _ ≤ (601024 : Nat) by omega, show _ ≤ (7293034 : Nat) by omega⟩ (fun v M89 H locs hp hM hS => ?_)
                              obtain ⟨v88, rfl, h⟩ := hp
                              refine lv_aload_n C.1.1 C.1.2.1 d_Law_law_576 rfl (lv_at hl 2 rfl) ?_
                              refine lv_aload_n C.1.1 C.1.2.1 d_Law_law_577 rfl (lv_at hl 0 rfl) ?_
                              refine lv_iload C.1.1 C.1.2.1 d_Law_law_578 (lv_at hl 4 rfl) ?_
                              refine lv_iconst (v := (1 : Int32)) C.1.1 C.1.2.1 d_Law_law_580 (by decide) ?_
                              refine lv_iadd C.1.1 C.1.2.1 d_Law_law_581 ?_
                              obtain ⟨hin, h⟩ := h
                              refine va_sld C.1.1 C.1.2.1 C.2.2.2.2.2.1 C.2.2.2.2.2.2 (m0_not C.2.2.2.2.2.2) hS hin d_Law_law_582 ?_
                              refine lv_aload_n C.1.1 C.1.2.1 d_Law_law_583 rfl (lv_at hl 0 rfl) ?_
                              refine lv_iload C.1.1 C.1.2.1 d_Law_law_584 (lv_at hl 4 rfl) ?_
                              refine lv_iconst (v := (2 : Int32)) C.1.1 C.1.2.1 d_Law_law_586 (by decide) ?_
                              refine lv_iadd C.1.1 C.1.2.1 d_Law_law_587 ?_
                              obtain ⟨hin, h⟩ := h
                              refine va_sld C.1.1 C.1.2.1 C.2.2.2.2.2.1 C.2.2.2.2.2.2 (m0_not C.2.2.2.2.2.2) hS hin d_Law_law_588 ?_
                              obtain ⟨ho, h⟩ := h
                              refine mc_V (As := [.int (xs (x4 + (1 : Int32)).toNatClampNeg), .int (xs (x4 + (2 : Int32)).toNatClampNeg)]) (ci := 6) C.1 hM hS bigGood (c_Mod_both h) rfl ho kw491 kw493 kw494 kw29 kw492 hd_Mod_both ⟨by decide, by decide⟩ hl.1 rfl (Nat.le_of_ble_eq_true rfl) d_Law_law_589 (mc := 0) (ms := 0) rfl rfl ⟨show _ ≤ (601024 : Nat) by omega, show _ ≤ (7293034 : Nat) by omega⟩ (fun v M91 H locs hp hM hS => ?_)
                              obtain ⟨v90, rfl, h⟩ := hp
                              refine lv_icmp_eq (tgt := 659) C.1.1 C.1.2.1 d_Law_law_592 (by decide) (fun c92 => ?_) (fun c92 => ?_)
                              · have h := h.1 c92
                                exact t_Law_law_b659 C h (mu := (μ x4 M)) (show _ ≤ (601024 : Nat) by omega) (show _ ≤ (7293034 : Nat) by omega) (fun cn sn y4 N hJ h1 h2 => ih cn sn y4 N hJ.1 (Nat.lt_of_lt_of_le hJ.2 (Nat.le_of_lt_succ hn)) (by have h3 := hJ.2; omega) (by have h3 := hJ.2; omega)) _ _ _ hM hS (lv_sub hl [0, 1, 2, 3, 4] rfl)
                              · have h := h.2 c92
                                refine lv_iconst (v := (0 : Int32)) C.1.1 C.1.2.1 d_Law_law_595 (by decide) ?_
                                exact h.elim
                            · have h := h.2 c87
                              by_cases c93 : ((xs x4.toNatClampNeg) &&& (15 : Int32)) = 11
                              · have h := h.1 c93
                                refine lv_tableIn (tgt := 597) C.1.1 C.1.2.1 d_Law_law_39 (by rw [c93]; decide) (by rw [c93]; decide) (by rw [c93]; rfl) (by decide) ?_
                                refine lv_aload_n C.1.1 C.1.2.1 d_Law_law_597 rfl (lv_at hl 1 rfl) ?_
                                refine lv_aload_n C.1.1 C.1.2.1 d_Law_law_598 rfl (lv_at hl 0 rfl) ?_
                                refine lv_iload C.1.1 C.1.2.1 d_Law_law_599 (lv_at hl 4 rfl) ?_
                                refine lv_iconst (v := (1 : Int32)) C.1.1 C.1.2.1 d_Law_law_601 (by decide) ?_
                                refine lv_iadd C.1.1 C.1.2.1 d_Law_law_602 ?_
                                obtain ⟨hin, h⟩ := h
                                refine va_sld C.1.1 C.1.2.1 C.2.2.2.2.2.1 C.2.2.2.2.2.2 (m0_not C.2.2.2.2.2.2) hS hin d_Law_law_603 ?_
                                refine lv_aload_n C.1.1 C.1.2.1 d_Law_law_604 rfl (lv_at hl 0 rfl) ?_
                                refine lv_iload C.1.1 C.1.2.1 d_Law_law_605 (lv_at hl 4 rfl) ?_
                                refine lv_iconst (v := (2 : Int32)) C.1.1 C.1.2.1 d_Law_law_607 (by decide) ?_
                                refine lv_iadd C.1.1 C.1.2.1 d_Law_law_608 ?_
                                obtain ⟨hin, h⟩ := h
                                refine va_sld C.1.1 C.1.2.1 C.2.2.2.2.2.1 C.2.2.2.2.2.2 (m0_not C.2.2.2.2.2.2) hS hin d_Law_law_609 ?_
                                obtain ⟨ho, h⟩ := h
                                refine mc_V (As := [.int (xs (x4 + (1 : Int32)).toNatClampNeg), .int (xs (x4 + (2 : Int32)).toNatClampNeg)]) (ci := 0) C.1 hM hS bigGood (c_Desk_only h) rfl ho kw495 kw497 kw498 kw123 kw496 hd_Desk_only ⟨by decide, by decide⟩ hl.1 rfl (Nat.le_of_ble_eq_true rfl) d_Law_law_610 (mc := 0) (ms := 0) rfl rfl ⟨show _ ≤ (601024 : Nat) by omega, show _ ≤ (7293034 : Nat) by omega⟩ (fun v M95 H locs hp hM hS => ?_)
                                obtain ⟨v94, rfl, h⟩ := hp
                                refine lv_aload_n C.1.1 C.1.2.1 d_Law_law_613 rfl (lv_at hl 2 rfl) ?_
                                refine lv_aload_n C.1.1 C.1.2.1 d_Law_law_614 rfl (lv_at hl 0 rfl) ?_
                                refine lv_iload C.1.1 C.1.2.1 d_Law_law_615 (lv_at hl 4 rfl) ?_
                                refine lv_iconst (v := (1 : Int32)) C.1.1 C.1.2.1 d_Law_law_617 (by decide) ?_
                                refine lv_iadd C.1.1 C.1.2.1 d_Law_law_618 ?_
                                obtain ⟨hin, h⟩ := h
                                refine va_sld C.1.1 C.1.2.1 C.2.2.2.2.2.1 C.2.2.2.2.2.2 (m0_not C.2.2.2.2.2.2) hS hin d_Law_law_619 ?_
                                refine lv_aload_n C.1.1 C.1.2.1 d_Law_law_620 rfl (lv_at hl 0 rfl) ?_
                                refine lv_iload C.1.1 C.1.2.1 d_Law_law_621 (lv_at hl 4 rfl) ?_
                                refine lv_iconst (v := (2 : Int32)) C.1.1 C.1.2.1 d_Law_law_623 (by decide) ?_
                                refine lv_iadd C.1.1 C.1.2.1 d_Law_law_624 ?_
                                obtain ⟨hin, h⟩ := h
                                refine va_sld C.1.1 C.1.2.1 C.2.2.2.2.2.1 C.2.2.2.2.2.2 (m0_not C.2.2.2.2.2.2) hS hin d_Law_law_625 ?_
                                obtain ⟨ho, h⟩ := h
                                refine mc_V (As := [.int (xs (x4 + (1 : Int32)).toNatClampNeg), .int (xs (x4 + (2 : Int32)).toNatClampNeg)]) (ci := 6) C.1 hM hS bigGood (c_Mod_only h) rfl ho kw499 kw501 kw502 kw29 kw500 hd_Mod_only ⟨by decide, by decide⟩ hl.1 rfl (Nat.le_of_ble_eq_true rfl) d_Law_law_626 (mc := 0) (ms := 0) rfl rfl ⟨show _ ≤ (601024 : Nat) by omega, show _ ≤ (7293034 : Nat) by omega⟩ (fun v M97 H locs hp hM hS => ?_)
                                obtain ⟨v96, rfl, h⟩ := hp
                                refine lv_icmp_eq (tgt := 659) C.1.1 C.1.2.1 d_Law_law_629 (by decide) (fun c98 => ?_) (fun c98 => ?_)
                                · have h := h.1 c98
                                  exact t_Law_law_b659 C h (mu := (μ x4 M)) (show _ ≤ (601024 : Nat) by omega) (show _ ≤ (7293034 : Nat) by omega) (fun cn sn y4 N hJ h1 h2 => ih cn sn y4 N hJ.1 (Nat.lt_of_lt_of_le hJ.2 (Nat.le_of_lt_succ hn)) (by have h3 := hJ.2; omega) (by have h3 := hJ.2; omega)) _ _ _ hM hS (lv_sub hl [0, 1, 2, 3, 4] rfl)
                                · have h := h.2 c98
                                  refine lv_iconst (v := (0 : Int32)) C.1.1 C.1.2.1 d_Law_law_632 (by decide) ?_
                                  exact h.elim
                              · have h := h.2 c93
                                by_cases c99 : ((xs x4.toNatClampNeg) &&& (15 : Int32)) = 12
                                · have h := h.1 c99
                                  refine lv_tableIn (tgt := 634) C.1.1 C.1.2.1 d_Law_law_39 (by rw [c99]; decide) (by rw [c99]; decide) (by rw [c99]; rfl) (by decide) ?_
                                  refine lv_aload_n C.1.1 C.1.2.1 d_Law_law_634 rfl (lv_at hl 1 rfl) ?_
                                  refine lv_aload_n C.1.1 C.1.2.1 d_Law_law_635 rfl (lv_at hl 0 rfl) ?_
                                  refine lv_iload C.1.1 C.1.2.1 d_Law_law_636 (lv_at hl 4 rfl) ?_
                                  refine lv_iconst (v := (1 : Int32)) C.1.1 C.1.2.1 d_Law_law_638 (by decide) ?_
                                  refine lv_iadd C.1.1 C.1.2.1 d_Law_law_639 ?_
                                  obtain ⟨hin, h⟩ := h
                                  refine va_sld C.1.1 C.1.2.1 C.2.2.2.2.2.1 C.2.2.2.2.2.2 (m0_not C.2.2.2.2.2.2) hS hin d_Law_law_640 ?_
                                  obtain ⟨ho, h⟩ := h
                                  refine mc_V (As := [.int (xs (x4 + (1 : Int32)).toNatClampNeg)]) (ci := 0) C.1 hM hS bigGood (c_Desk_spare h) rfl ho kw503 kw505 kw506 kw123 kw504 hd_Desk_spare ⟨by decide, by decide⟩ hl.1 rfl (Nat.le_of_ble_eq_true rfl) d_Law_law_641 (mc := 0) (ms := 0) rfl rfl ⟨show _ ≤ (601024 : Nat) by omega, show _ ≤ (7293034 : Nat) by omega⟩ (fun v M101 H locs hp hM hS => ?_)
                                  obtain ⟨v100, rfl, h⟩ := hp
                                  refine lv_aload_n C.1.1 C.1.2.1 d_Law_law_644 rfl (lv_at hl 2 rfl) ?_
                                  refine lv_aload_n C.1.1 C.1.2.1 d_Law_law_645 rfl (lv_at hl 0 rfl) ?_
                                  refine lv_iload C.1.1 C.1.2.1 d_Law_law_646 (lv_at hl 4 rfl) ?_
                                  refine lv_iconst (v := (1 : Int32)) C.1.1 C.1.2.1 d_Law_law_648 (by decide) ?_
                                  refine lv_iadd C.1.1 C.1.2.1 d_Law_law_649 ?_
                                  obtain ⟨hin, h⟩ := h
                                  refine va_sld C.1.1 C.1.2.1 C.2.2.2.2.2.1 C.2.2.2.2.2.2 (m0_not C.2.2.2.2.2.2) hS hin d_Law_law_650 ?_
                                  obtain ⟨ho, h⟩ := h
                                  refine mc_V (As := [.int (xs (x4 + (1 : Int32)).toNatClampNeg)]) (ci := 6) C.1 hM hS bigGood (c_Mod_spare h) rfl ho kw507 kw509 kw510 kw29 kw508 hd_Mod_spare ⟨by decide, by decide⟩ hl.1 rfl (Nat.le_of_ble_eq_true rfl) d_Law_law_651 (mc := 0) (ms := 0) rfl rfl ⟨show _ ≤ (601024 : Nat) by omega, show _ ≤ (7293034 : Nat) by omega⟩ (fun v M103 H locs hp hM hS => ?_)
                                  obtain ⟨v102, rfl, h⟩ := hp
                                  refine lv_icmp_eq (tgt := 659) C.1.1 C.1.2.1 d_Law_law_654 (by decide) (fun c104 => ?_) (fun c104 => ?_)
                                  · have h := h.1 c104
                                    exact t_Law_law_b659 C h (mu := (μ x4 M)) (show _ ≤ (601024 : Nat) by omega) (show _ ≤ (7293034 : Nat) by omega) (fun cn sn y4 N hJ h1 h2 => ih cn sn y4 N hJ.1 (Nat.lt_of_lt_of_le hJ.2 (Nat.le_of_lt_succ hn)) (by have h3 := hJ.2; omega) (by have h3 := hJ.2; omega)) _ _ _ hM hS (lv_sub hl [0, 1, 2, 3, 4] rfl)
                                  · have h := h.2 c104
                                    refine lv_iconst (v := (0 : Int32)) C.1.1 C.1.2.1 d_Law_law_657 (by decide) ?_
                                    exact h.elim
                                · have h := h.2 c99
                                  have hto : ((xs x4.toNatClampNeg) &&& (15 : Int32)).toInt < 0 ∨ 12 < ((xs x4.toNatClampNeg) &&& (15 : Int32)).toInt := by
                                    refine tab_out 0 12 (fun k h1 h2 hk => ?_)
                                    rcases (show k = 0 ∨ k = 1 ∨ k = 2 ∨ k = 3 ∨ k = 4 ∨ k = 5 ∨ k = 6 ∨ k = 7 ∨ k = 8 ∨ k = 9 ∨ k = 10 ∨ k = 11 ∨ k = 12 by omega) with rfl | rfl | rfl | rfl | rfl | rfl | rfl | rfl | rfl | rfl | rfl | rfl | rfl
                                    · exact c2 (hk.trans (by decide))
                                    · exact c8 (hk.trans (by decide))
                                    · exact c19 (hk.trans (by decide))
                                    · exact c25 (hk.trans (by decide))
                                    · exact c31 (hk.trans (by decide))
                                    · exact c42 (hk.trans (by decide))
                                    · exact c53 (hk.trans (by decide))
                                    · exact c64 (hk.trans (by decide))
                                    · exact c70 (hk.trans (by decide))
                                    · exact c81 (hk.trans (by decide))
                                    · exact c87 (hk.trans (by decide))
                                    · exact c93 (hk.trans (by decide))
                                    · exact c99 (hk.trans (by decide))
                                  refine lv_tableOut (tgt := 659) C.1.1 C.1.2.1 d_Law_law_39 hto (by decide) ?_
                                  exact t_Law_law_b659 C h (mu := (μ x4 M)) (show _ ≤ (601024 : Nat) by omega) (show _ ≤ (7293034 : Nat) by omega) (fun cn sn y4 N hJ h1 h2 => ih cn sn y4 N hJ.1 (Nat.lt_of_lt_of_le hJ.2 (Nat.le_of_lt_succ hn)) (by have h3 := hJ.2; omega) (by have h3 := hJ.2; omega)) _ _ _ hM hS (lv_sub hl [0, 1, 2, 3, 4] rfl)
  exact key _ _ _ x4 M hI (Nat.lt_succ_self _) (show _ ≤ (601024 : Nat) by omega) (show _ ≤ (7293034 : Nat) by omega)
def wp_Law_law (g : Nat → ClassId) (b L : Nat) (xs : Nat → Int32) (M : Mem) : Prop :=
  ∀ (q1 : Nat) (M2 : Mem), M q1 = none → M2 = mup M q1 (.inr (0, [.null, .null, .null, .null, .null, .int 0])) → (wp_Desk_init g M2 q1 (fun (M4 : Mem) => ∀ (q5 : Nat) (M6 : Mem), M4 q5 = none → M6 = mup M4 q5 (.inr (6, [.int 0, .null, .int 0, .int 0, .null, .int 0, .int 0, .null, .null, .null, .null, .null, .null, .null, .int 0, .null, .null, .null, .null, .null, .null, .int 0, .null])) → (wp_Mod_init g M6 q5 (fun (M8 : Mem) => ∀ (q9 : Nat) (M10 : Mem), M8 q9 = none → M10 = mup M8 q9 (.inl (g 1, (1, .inr (.inl (fun _ => 0))))) → (wp_Law_law_b23 g b L xs M10 q1 q5 q9 (0 : Int32))))))
set_option maxHeartbeats 4000000 in
set_option maxRecDepth 100000 in
theorem c_Law_law {l : Launch} {D : va_G} {g : Nat → ClassId} {p : Program} {e : Env} {s : State} {m : MethodId} {below : List Frame} {meth : Method} {c : Code} {b L : Nat} {xs : Nat → Int32} {M : Mem} (C : C_Law_law l D g p s m meth c b L xs) (h : wp_Law_law g b L xs M) : B_Law_law l D p e s m b below meth c 0 0 M 0 [(0, .ref b)] [] := by
  intro ls H locs hM hS hl
  have hfl := C.2.2.2.2.1
  have hcn : 0 + 729 ≤ 601024 := by decide
  have hsn : 0 + 42807 ≤ 7293034 := by decide
  unfold wp_Law_law at h
  refine mn_O (fs := [.null, .null, .null, .null, .null, .int 0]) C.1 hM hS ok_Desk kw511 kw512 kw123 (fun j hj => by rcases (show j = 0 ∨ j = 1 ∨ j = 2 ∨ j = 3 ∨ j = 4 ∨ j = 5 by omega) with rfl | rfl | rfl | rfl | rfl | rfl <;> rfl) (show _ ≤ (601024 : Nat) by omega) (show _ ≤ (7293034 : Nat) by omega) d_Law_law_0 (fun q1 H hq1 hM hS => ?_)
  obtain ⟨M2, eM2⟩ : ∃ N : Mem, N = mup M q1 (.inr (0, [.null, .null, .null, .null, .null, .int 0])) := ⟨_, rfl⟩
  rw [← eM2] at hM
  have h := h q1 M2 hq1 eM2
  refine lv_dup C.1.1 C.1.2.1 d_Law_law_3 rfl ?_
  refine mc_I (As := []) C.1 hM hS bigGood (c_Desk_init h) rfl kw513 kw515 kw123 kw514 hd_Desk_init ⟨by decide, by decide⟩ hl.1 rfl (Nat.le_of_ble_eq_true rfl) d_Law_law_4 (mc := 197) (ms := 4581) rfl rfl ⟨show _ ≤ (601024 : Nat) by omega, show _ ≤ (7293034 : Nat) by omega⟩ (fun v M4 H locs hp hM hS => ?_)
  obtain ⟨rfl, h⟩ := hp
  refine lv_astore_n (lv' := [(1, .ref q1), (0, .ref b)]) C.1.1 C.1.2.1 d_Law_law_7 rfl hl (by decide) rfl (fun ls hl => ?_)
  refine mn_O (fs := [.int 0, .null, .int 0, .int 0, .null, .int 0, .int 0, .null, .null, .null, .null, .null, .null, .null, .int 0, .null, .null, .null, .null, .null, .null, .int 0, .null]) C.1 hM hS ok_Mod kw516 kw517 kw29 (fun j hj => by rcases (show j = 0 ∨ j = 1 ∨ j = 2 ∨ j = 3 ∨ j = 4 ∨ j = 5 ∨ j = 6 ∨ j = 7 ∨ j = 8 ∨ j = 9 ∨ j = 10 ∨ j = 11 ∨ j = 12 ∨ j = 13 ∨ j = 14 ∨ j = 15 ∨ j = 16 ∨ j = 17 ∨ j = 18 ∨ j = 19 ∨ j = 20 ∨ j = 21 ∨ j = 22 by omega) with rfl | rfl | rfl | rfl | rfl | rfl | rfl | rfl | rfl | rfl | rfl | rfl | rfl | rfl | rfl | rfl | rfl | rfl | rfl | rfl | rfl | rfl | rfl <;> rfl) (show _ ≤ (601024 : Nat) by omega) (show _ ≤ (7293034 : Nat) by omega) d_Law_law_8 (fun q5 H hq5 hM hS => ?_)
  obtain ⟨M6, eM6⟩ : ∃ N : Mem, N = mup M4 q5 (.inr (6, [.int 0, .null, .int 0, .int 0, .null, .int 0, .int 0, .null, .null, .null, .null, .null, .null, .null, .int 0, .null, .null, .null, .null, .null, .null, .int 0, .null])) := ⟨_, rfl⟩
  rw [← eM6] at hM
  have h := h q5 M6 hq5 eM6
  refine lv_dup C.1.1 C.1.2.1 d_Law_law_11 rfl ?_
  refine mc_I (As := []) C.1 hM hS bigGood (c_Mod_init h) rfl kw518 kw520 kw29 kw519 hd_Mod_init ⟨by decide, by decide⟩ hl.1 rfl (Nat.le_of_ble_eq_true rfl) d_Law_law_12 (mc := 16) (ms := 35118) rfl rfl ⟨show _ ≤ (601024 : Nat) by omega, show _ ≤ (7293034 : Nat) by omega⟩ (fun v M8 H locs hp hM hS => ?_)
  obtain ⟨rfl, h⟩ := hp
  refine lv_astore_n (lv' := [(2, .ref q5), (1, .ref q1), (0, .ref b)]) C.1.1 C.1.2.1 d_Law_law_15 rfl hl (by decide) rfl (fun ls hl => ?_)
  refine lv_iconst (v := (1 : Int32)) C.1.1 C.1.2.1 d_Law_law_16 (by decide) ?_
  refine mn_A (atype := .long) (a0 := (1, .inr (.inl (fun _ => 0)))) (N' := 1) C.1 hM hS (ty := .long) rfl kw8 1 rfl (fun _ => rfl) (by decide) (by decide) (by decide) (show _ ≤ (601024 : Nat) by omega) (show _ ≤ (7293034 : Nat) by omega) d_Law_law_17 (fun q9 H hq9 hM hS => ?_)
  obtain ⟨M10, eM10⟩ : ∃ N : Mem, N = mup M8 q9 (.inl (g 1, (1, .inr (.inl (fun _ => 0))))) := ⟨_, rfl⟩
  rw [← eM10] at hM
  have h := h q9 M10 hq9 eM10
  refine lv_astore_n (lv' := [(3, .ref q9), (2, .ref q5), (1, .ref q1), (0, .ref b)]) C.1.1 C.1.2.1 d_Law_law_19 rfl hl (by decide) rfl (fun ls hl => ?_)
  refine lv_iconst (v := (0 : Int32)) C.1.1 C.1.2.1 d_Law_law_20 (by decide) ?_
  refine lv_istore (lv' := [(4, .int (0 : Int32)), (3, .ref q9), (2, .ref q5), (1, .ref q1), (0, .ref b)]) C.1.1 C.1.2.1 d_Law_law_21 hl (by decide) rfl (fun ls hl => ?_)
  exact t_Law_law_b23 C h (show _ ≤ (601024 : Nat) by omega) (show _ ≤ (7293034 : Nat) by omega) _ _ _ hM hS (lv_sub hl [4, 3, 2, 1, 0] rfl)
