/-! The law: its cases and its loop. -/
theorem d234_23 : decode (am_mc 234) 23 = .ok (.iload 4, 2) := by decide +kernel
theorem d234_25 : decode (am_mc 234) 25 = .ok (.aload_n 0, 1) := by decide +kernel
theorem d234_26 : decode (am_mc 234) 26 = .ok (.arraylength, 1) := by decide +kernel
theorem d234_27 : decode (am_mc 234) 27 = .ok (.iconst 3, 1) := by decide +kernel
theorem d234_28 : decode (am_mc 234) 28 = .ok (.isub, 1) := by decide +kernel
theorem d234_29 : decode (am_mc 234) 29 = .ok (.if_icmp .gt 413, 3) := by decide +kernel
theorem d234_32 : decode (am_mc 234) 32 = .ok (.aload_n 0, 1) := by decide +kernel
theorem d234_33 : decode (am_mc 234) 33 = .ok (.iload 4, 2) := by decide +kernel
theorem d234_35 : decode (am_mc 234) 35 = .ok (.iaload, 1) := by decide +kernel
theorem d234_36 : decode (am_mc 234) 36 = .ok (.bipush 15, 2) := by decide +kernel
theorem d234_38 : decode (am_mc 234) 38 = .ok (.iand, 1) := by decide +kernel
theorem d234_88 : decode (am_mc 234) 88 = .ok (.aload_n 1, 1) := by decide +kernel
theorem d234_89 : decode (am_mc 234) 89 = .ok (.aload_n 0, 1) := by decide +kernel
theorem d234_90 : decode (am_mc 234) 90 = .ok (.iload 4, 2) := by decide +kernel
theorem d234_92 : decode (am_mc 234) 92 = .ok (.iconst 1, 1) := by decide +kernel
theorem d234_93 : decode (am_mc 234) 93 = .ok (.iadd, 1) := by decide +kernel
theorem d234_94 : decode (am_mc 234) 94 = .ok (.iaload, 1) := by decide +kernel
theorem d234_95 : decode (am_mc 234) 95 = .ok (.i2l, 1) := by decide +kernel
theorem d234_96 : decode (am_mc 234) 96 = .ok (.bipush 32, 2) := by decide +kernel
theorem d234_98 : decode (am_mc 234) 98 = .ok (.lshl, 1) := by decide +kernel
theorem d234_99 : decode (am_mc 234) 99 = .ok (.aload_n 0, 1) := by decide +kernel
theorem d234_100 : decode (am_mc 234) 100 = .ok (.iload 4, 2) := by decide +kernel
theorem d234_102 : decode (am_mc 234) 102 = .ok (.iconst 2, 1) := by decide +kernel
theorem d234_103 : decode (am_mc 234) 103 = .ok (.iadd, 1) := by decide +kernel
theorem d234_104 : decode (am_mc 234) 104 = .ok (.iaload, 1) := by decide +kernel
theorem d234_105 : decode (am_mc 234) 105 = .ok (.i2l, 1) := by decide +kernel
theorem d234_106 : decode (am_mc 234) 106 = .ok (.ldc2_w 27, 3) := by decide +kernel
theorem d234_109 : decode (am_mc 234) 109 = .ok (.land, 1) := by decide +kernel
theorem d234_110 : decode (am_mc 234) 110 = .ok (.lor, 1) := by decide +kernel
theorem d234_111 : decode (am_mc 234) 111 = .ok (.invokevirtual 29, 3) := by decide +kernel
theorem d234_114 : decode (am_mc 234) 114 = .ok (.aload_n 2, 1) := by decide +kernel
theorem d234_115 : decode (am_mc 234) 115 = .ok (.aload_n 0, 1) := by decide +kernel
theorem d234_116 : decode (am_mc 234) 116 = .ok (.iload 4, 2) := by decide +kernel
theorem d234_118 : decode (am_mc 234) 118 = .ok (.iconst 1, 1) := by decide +kernel
theorem d234_119 : decode (am_mc 234) 119 = .ok (.iadd, 1) := by decide +kernel
theorem d234_120 : decode (am_mc 234) 120 = .ok (.iaload, 1) := by decide +kernel
theorem d234_121 : decode (am_mc 234) 121 = .ok (.i2l, 1) := by decide +kernel
theorem d234_122 : decode (am_mc 234) 122 = .ok (.bipush 32, 2) := by decide +kernel
theorem d234_124 : decode (am_mc 234) 124 = .ok (.lshl, 1) := by decide +kernel
theorem d234_125 : decode (am_mc 234) 125 = .ok (.aload_n 0, 1) := by decide +kernel
theorem d234_126 : decode (am_mc 234) 126 = .ok (.iload 4, 2) := by decide +kernel
theorem d234_128 : decode (am_mc 234) 128 = .ok (.iconst 2, 1) := by decide +kernel
theorem d234_129 : decode (am_mc 234) 129 = .ok (.iadd, 1) := by decide +kernel
theorem d234_130 : decode (am_mc 234) 130 = .ok (.iaload, 1) := by decide +kernel
theorem d234_131 : decode (am_mc 234) 131 = .ok (.i2l, 1) := by decide +kernel
theorem d234_132 : decode (am_mc 234) 132 = .ok (.ldc2_w 27, 3) := by decide +kernel
theorem d234_135 : decode (am_mc 234) 135 = .ok (.land, 1) := by decide +kernel
theorem d234_136 : decode (am_mc 234) 136 = .ok (.lor, 1) := by decide +kernel
theorem d234_137 : decode (am_mc 234) 137 = .ok (.invokevirtual 33, 3) := by decide +kernel
theorem d234_140 : decode (am_mc 234) 140 = .ok (.if_icmp .eq 296, 3) := by decide +kernel
theorem d234_145 : decode (am_mc 234) 145 = .ok (.aload_n 1, 1) := by decide +kernel
theorem d234_146 : decode (am_mc 234) 146 = .ok (.aload_n 0, 1) := by decide +kernel
theorem d234_147 : decode (am_mc 234) 147 = .ok (.iload 4, 2) := by decide +kernel
theorem d234_149 : decode (am_mc 234) 149 = .ok (.iconst 1, 1) := by decide +kernel
theorem d234_150 : decode (am_mc 234) 150 = .ok (.iadd, 1) := by decide +kernel
theorem d234_151 : decode (am_mc 234) 151 = .ok (.iaload, 1) := by decide +kernel
theorem d234_152 : decode (am_mc 234) 152 = .ok (.i2l, 1) := by decide +kernel
theorem d234_153 : decode (am_mc 234) 153 = .ok (.bipush 32, 2) := by decide +kernel
theorem d234_155 : decode (am_mc 234) 155 = .ok (.lshl, 1) := by decide +kernel
theorem d234_156 : decode (am_mc 234) 156 = .ok (.aload_n 0, 1) := by decide +kernel
theorem d234_157 : decode (am_mc 234) 157 = .ok (.iload 4, 2) := by decide +kernel
theorem d234_159 : decode (am_mc 234) 159 = .ok (.iconst 2, 1) := by decide +kernel
theorem d234_160 : decode (am_mc 234) 160 = .ok (.iadd, 1) := by decide +kernel
theorem d234_161 : decode (am_mc 234) 161 = .ok (.iaload, 1) := by decide +kernel
theorem d234_162 : decode (am_mc 234) 162 = .ok (.i2l, 1) := by decide +kernel
theorem d234_163 : decode (am_mc 234) 163 = .ok (.ldc2_w 27, 3) := by decide +kernel
theorem d234_166 : decode (am_mc 234) 166 = .ok (.land, 1) := by decide +kernel
theorem d234_167 : decode (am_mc 234) 167 = .ok (.lor, 1) := by decide +kernel
theorem d234_168 : decode (am_mc 234) 168 = .ok (.invokevirtual 34, 3) := by decide +kernel
theorem d234_171 : decode (am_mc 234) 171 = .ok (.aload_n 2, 1) := by decide +kernel
theorem d234_172 : decode (am_mc 234) 172 = .ok (.aload_n 0, 1) := by decide +kernel
theorem d234_173 : decode (am_mc 234) 173 = .ok (.iload 4, 2) := by decide +kernel
theorem d234_175 : decode (am_mc 234) 175 = .ok (.iconst 1, 1) := by decide +kernel
theorem d234_176 : decode (am_mc 234) 176 = .ok (.iadd, 1) := by decide +kernel
theorem d234_177 : decode (am_mc 234) 177 = .ok (.iaload, 1) := by decide +kernel
theorem d234_178 : decode (am_mc 234) 178 = .ok (.i2l, 1) := by decide +kernel
theorem d234_179 : decode (am_mc 234) 179 = .ok (.bipush 32, 2) := by decide +kernel
theorem d234_181 : decode (am_mc 234) 181 = .ok (.lshl, 1) := by decide +kernel
theorem d234_182 : decode (am_mc 234) 182 = .ok (.aload_n 0, 1) := by decide +kernel
theorem d234_183 : decode (am_mc 234) 183 = .ok (.iload 4, 2) := by decide +kernel
theorem d234_185 : decode (am_mc 234) 185 = .ok (.iconst 2, 1) := by decide +kernel
theorem d234_186 : decode (am_mc 234) 186 = .ok (.iadd, 1) := by decide +kernel
theorem d234_187 : decode (am_mc 234) 187 = .ok (.iaload, 1) := by decide +kernel
theorem d234_188 : decode (am_mc 234) 188 = .ok (.i2l, 1) := by decide +kernel
theorem d234_189 : decode (am_mc 234) 189 = .ok (.ldc2_w 27, 3) := by decide +kernel
theorem d234_192 : decode (am_mc 234) 192 = .ok (.land, 1) := by decide +kernel
theorem d234_193 : decode (am_mc 234) 193 = .ok (.lor, 1) := by decide +kernel
theorem d234_194 : decode (am_mc 234) 194 = .ok (.invokevirtual 37, 3) := by decide +kernel
theorem d234_197 : decode (am_mc 234) 197 = .ok (.if_icmp .eq 239, 3) := by decide +kernel
theorem d234_202 : decode (am_mc 234) 202 = .ok (.aload_n 1, 1) := by decide +kernel
theorem d234_203 : decode (am_mc 234) 203 = .ok (.aload_n 0, 1) := by decide +kernel
theorem d234_204 : decode (am_mc 234) 204 = .ok (.iload 4, 2) := by decide +kernel
theorem d234_206 : decode (am_mc 234) 206 = .ok (.iconst 1, 1) := by decide +kernel
theorem d234_207 : decode (am_mc 234) 207 = .ok (.iadd, 1) := by decide +kernel
theorem d234_208 : decode (am_mc 234) 208 = .ok (.iaload, 1) := by decide +kernel
theorem d234_209 : decode (am_mc 234) 209 = .ok (.ifCond .eq 7, 3) := by decide +kernel
theorem d234_212 : decode (am_mc 234) 212 = .ok (.iconst 1, 1) := by decide +kernel
theorem d234_213 : decode (am_mc 234) 213 = .ok (.goto 4, 3) := by decide +kernel
theorem d234_216 : decode (am_mc 234) 216 = .ok (.iconst 0, 1) := by decide +kernel
theorem d234_217 : decode (am_mc 234) 217 = .ok (.invokevirtual 38, 3) := by decide +kernel
theorem d234_220 : decode (am_mc 234) 220 = .ok (.aload_n 2, 1) := by decide +kernel
theorem d234_221 : decode (am_mc 234) 221 = .ok (.aload_n 0, 1) := by decide +kernel
theorem d234_222 : decode (am_mc 234) 222 = .ok (.iload 4, 2) := by decide +kernel
theorem d234_224 : decode (am_mc 234) 224 = .ok (.iconst 1, 1) := by decide +kernel
theorem d234_225 : decode (am_mc 234) 225 = .ok (.iadd, 1) := by decide +kernel
theorem d234_226 : decode (am_mc 234) 226 = .ok (.iaload, 1) := by decide +kernel
theorem d234_227 : decode (am_mc 234) 227 = .ok (.ifCond .eq 7, 3) := by decide +kernel
theorem d234_230 : decode (am_mc 234) 230 = .ok (.iconst 1, 1) := by decide +kernel
theorem d234_231 : decode (am_mc 234) 231 = .ok (.goto 4, 3) := by decide +kernel
theorem d234_234 : decode (am_mc 234) 234 = .ok (.iconst 0, 1) := by decide +kernel
theorem d234_235 : decode (am_mc 234) 235 = .ok (.invokevirtual 42, 3) := by decide +kernel
theorem d234_238 : decode (am_mc 234) 238 = .ok (.goto 198, 3) := by decide +kernel
theorem d234_241 : decode (am_mc 234) 241 = .ok (.aload_n 1, 1) := by decide +kernel
theorem d234_242 : decode (am_mc 234) 242 = .ok (.aload_n 0, 1) := by decide +kernel
theorem d234_243 : decode (am_mc 234) 243 = .ok (.iload 4, 2) := by decide +kernel
theorem d234_245 : decode (am_mc 234) 245 = .ok (.iconst 1, 1) := by decide +kernel
theorem d234_246 : decode (am_mc 234) 246 = .ok (.iadd, 1) := by decide +kernel
theorem d234_247 : decode (am_mc 234) 247 = .ok (.iaload, 1) := by decide +kernel
theorem d234_248 : decode (am_mc 234) 248 = .ok (.aload_n 0, 1) := by decide +kernel
theorem d234_249 : decode (am_mc 234) 249 = .ok (.iload 4, 2) := by decide +kernel
theorem d234_251 : decode (am_mc 234) 251 = .ok (.iconst 2, 1) := by decide +kernel
theorem d234_252 : decode (am_mc 234) 252 = .ok (.iadd, 1) := by decide +kernel
theorem d234_253 : decode (am_mc 234) 253 = .ok (.iaload, 1) := by decide +kernel
theorem d234_254 : decode (am_mc 234) 254 = .ok (.invokevirtual 43, 3) := by decide +kernel
theorem d234_257 : decode (am_mc 234) 257 = .ok (.aload_n 2, 1) := by decide +kernel
theorem d234_258 : decode (am_mc 234) 258 = .ok (.aload_n 0, 1) := by decide +kernel
theorem d234_259 : decode (am_mc 234) 259 = .ok (.iload 4, 2) := by decide +kernel
theorem d234_261 : decode (am_mc 234) 261 = .ok (.iconst 1, 1) := by decide +kernel
theorem d234_262 : decode (am_mc 234) 262 = .ok (.iadd, 1) := by decide +kernel
theorem d234_263 : decode (am_mc 234) 263 = .ok (.iaload, 1) := by decide +kernel
theorem d234_264 : decode (am_mc 234) 264 = .ok (.aload_n 0, 1) := by decide +kernel
theorem d234_265 : decode (am_mc 234) 265 = .ok (.iload 4, 2) := by decide +kernel
theorem d234_267 : decode (am_mc 234) 267 = .ok (.iconst 2, 1) := by decide +kernel
theorem d234_268 : decode (am_mc 234) 268 = .ok (.iadd, 1) := by decide +kernel
theorem d234_269 : decode (am_mc 234) 269 = .ok (.iaload, 1) := by decide +kernel
theorem d234_270 : decode (am_mc 234) 270 = .ok (.invokevirtual 47, 3) := by decide +kernel
theorem d234_273 : decode (am_mc 234) 273 = .ok (.if_icmp .eq 163, 3) := by decide +kernel
theorem d234_278 : decode (am_mc 234) 278 = .ok (.aload_n 1, 1) := by decide +kernel
theorem d234_279 : decode (am_mc 234) 279 = .ok (.aload_n 3, 1) := by decide +kernel
theorem d234_280 : decode (am_mc 234) 280 = .ok (.invokestatic 48, 3) := by decide +kernel
theorem d234_283 : decode (am_mc 234) 283 = .ok (.istore 5, 2) := by decide +kernel
theorem d234_285 : decode (am_mc 234) 285 = .ok (.aload_n 2, 1) := by decide +kernel
theorem d234_286 : decode (am_mc 234) 286 = .ok (.invokevirtual 53, 3) := by decide +kernel
theorem d234_289 : decode (am_mc 234) 289 = .ok (.istore 6, 2) := by decide +kernel
theorem d234_291 : decode (am_mc 234) 291 = .ok (.aload_n 2, 1) := by decide +kernel
theorem d234_292 : decode (am_mc 234) 292 = .ok (.invokevirtual 54, 3) := by decide +kernel
theorem d234_295 : decode (am_mc 234) 295 = .ok (.iload 5, 2) := by decide +kernel
theorem d234_297 : decode (am_mc 234) 297 = .ok (.if_icmp .eq 5, 3) := by decide +kernel
theorem d234_302 : decode (am_mc 234) 302 = .ok (.iload 5, 2) := by decide +kernel
theorem d234_304 : decode (am_mc 234) 304 = .ok (.ifCond .ne 15, 3) := by decide +kernel
theorem d234_307 : decode (am_mc 234) 307 = .ok (.aload_n 3, 1) := by decide +kernel
theorem d234_308 : decode (am_mc 234) 308 = .ok (.iconst 0, 1) := by decide +kernel
theorem d234_309 : decode (am_mc 234) 309 = .ok (.laload, 1) := by decide +kernel
theorem d234_310 : decode (am_mc 234) 310 = .ok (.iload 6, 2) := by decide +kernel
theorem d234_312 : decode (am_mc 234) 312 = .ok (.i2l, 1) := by decide +kernel
theorem d234_313 : decode (am_mc 234) 313 = .ok (.lcmp, 1) := by decide +kernel
theorem d234_314 : decode (am_mc 234) 314 = .ok (.ifCond .eq 5, 3) := by decide +kernel
theorem d234_319 : decode (am_mc 234) 319 = .ok (.goto 117, 3) := by decide +kernel
theorem d234_322 : decode (am_mc 234) 322 = .ok (.aload_n 1, 1) := by decide +kernel
theorem d234_323 : decode (am_mc 234) 323 = .ok (.aload_n 0, 1) := by decide +kernel
theorem d234_324 : decode (am_mc 234) 324 = .ok (.iload 4, 2) := by decide +kernel
theorem d234_326 : decode (am_mc 234) 326 = .ok (.iconst 1, 1) := by decide +kernel
theorem d234_327 : decode (am_mc 234) 327 = .ok (.iadd, 1) := by decide +kernel
theorem d234_328 : decode (am_mc 234) 328 = .ok (.iaload, 1) := by decide +kernel
theorem d234_329 : decode (am_mc 234) 329 = .ok (.aload_n 0, 1) := by decide +kernel
theorem d234_330 : decode (am_mc 234) 330 = .ok (.iload 4, 2) := by decide +kernel
theorem d234_332 : decode (am_mc 234) 332 = .ok (.iconst 2, 1) := by decide +kernel
theorem d234_333 : decode (am_mc 234) 333 = .ok (.iadd, 1) := by decide +kernel
theorem d234_334 : decode (am_mc 234) 334 = .ok (.iaload, 1) := by decide +kernel
theorem d234_335 : decode (am_mc 234) 335 = .ok (.invokevirtual 57, 3) := by decide +kernel
theorem d234_338 : decode (am_mc 234) 338 = .ok (.aload_n 2, 1) := by decide +kernel
theorem d234_339 : decode (am_mc 234) 339 = .ok (.aload_n 0, 1) := by decide +kernel
theorem d234_340 : decode (am_mc 234) 340 = .ok (.iload 4, 2) := by decide +kernel
theorem d234_342 : decode (am_mc 234) 342 = .ok (.iconst 1, 1) := by decide +kernel
theorem d234_343 : decode (am_mc 234) 343 = .ok (.iadd, 1) := by decide +kernel
theorem d234_344 : decode (am_mc 234) 344 = .ok (.iaload, 1) := by decide +kernel
theorem d234_345 : decode (am_mc 234) 345 = .ok (.aload_n 0, 1) := by decide +kernel
theorem d234_346 : decode (am_mc 234) 346 = .ok (.iload 4, 2) := by decide +kernel
theorem d234_348 : decode (am_mc 234) 348 = .ok (.iconst 2, 1) := by decide +kernel
theorem d234_349 : decode (am_mc 234) 349 = .ok (.iadd, 1) := by decide +kernel
theorem d234_350 : decode (am_mc 234) 350 = .ok (.iaload, 1) := by decide +kernel
theorem d234_351 : decode (am_mc 234) 351 = .ok (.invokevirtual 61, 3) := by decide +kernel
theorem d234_354 : decode (am_mc 234) 354 = .ok (.if_icmp .eq 82, 3) := by decide +kernel
theorem d234_359 : decode (am_mc 234) 359 = .ok (.aload_n 1, 1) := by decide +kernel
theorem d234_360 : decode (am_mc 234) 360 = .ok (.aload_n 0, 1) := by decide +kernel
theorem d234_361 : decode (am_mc 234) 361 = .ok (.iload 4, 2) := by decide +kernel
theorem d234_363 : decode (am_mc 234) 363 = .ok (.iconst 1, 1) := by decide +kernel
theorem d234_364 : decode (am_mc 234) 364 = .ok (.iadd, 1) := by decide +kernel
theorem d234_365 : decode (am_mc 234) 365 = .ok (.iaload, 1) := by decide +kernel
theorem d234_366 : decode (am_mc 234) 366 = .ok (.invokevirtual 62, 3) := by decide +kernel
theorem d234_369 : decode (am_mc 234) 369 = .ok (.aload_n 2, 1) := by decide +kernel
theorem d234_370 : decode (am_mc 234) 370 = .ok (.aload_n 0, 1) := by decide +kernel
theorem d234_371 : decode (am_mc 234) 371 = .ok (.iload 4, 2) := by decide +kernel
theorem d234_373 : decode (am_mc 234) 373 = .ok (.iconst 1, 1) := by decide +kernel
theorem d234_374 : decode (am_mc 234) 374 = .ok (.iadd, 1) := by decide +kernel
theorem d234_375 : decode (am_mc 234) 375 = .ok (.iaload, 1) := by decide +kernel
theorem d234_376 : decode (am_mc 234) 376 = .ok (.invokevirtual 66, 3) := by decide +kernel
theorem d234_379 : decode (am_mc 234) 379 = .ok (.lcmp, 1) := by decide +kernel
theorem d234_380 : decode (am_mc 234) 380 = .ok (.ifCond .eq 56, 3) := by decide +kernel
theorem d234_385 : decode (am_mc 234) 385 = .ok (.aload_n 1, 1) := by decide +kernel
theorem d234_386 : decode (am_mc 234) 386 = .ok (.aload_n 0, 1) := by decide +kernel
theorem d234_387 : decode (am_mc 234) 387 = .ok (.iload 4, 2) := by decide +kernel
theorem d234_389 : decode (am_mc 234) 389 = .ok (.iconst 1, 1) := by decide +kernel
theorem d234_390 : decode (am_mc 234) 390 = .ok (.iadd, 1) := by decide +kernel
theorem d234_391 : decode (am_mc 234) 391 = .ok (.iaload, 1) := by decide +kernel
theorem d234_392 : decode (am_mc 234) 392 = .ok (.invokevirtual 67, 3) := by decide +kernel
theorem d234_395 : decode (am_mc 234) 395 = .ok (.aload_n 2, 1) := by decide +kernel
theorem d234_396 : decode (am_mc 234) 396 = .ok (.aload_n 0, 1) := by decide +kernel
theorem d234_397 : decode (am_mc 234) 397 = .ok (.iload 4, 2) := by decide +kernel
theorem d234_399 : decode (am_mc 234) 399 = .ok (.iconst 1, 1) := by decide +kernel
theorem d234_400 : decode (am_mc 234) 400 = .ok (.iadd, 1) := by decide +kernel
theorem d234_401 : decode (am_mc 234) 401 = .ok (.iaload, 1) := by decide +kernel
theorem d234_402 : decode (am_mc 234) 402 = .ok (.invokevirtual 71, 3) := by decide +kernel
theorem d234_405 : decode (am_mc 234) 405 = .ok (.if_icmp .eq 31, 3) := by decide +kernel
theorem d234_410 : decode (am_mc 234) 410 = .ok (.aload_n 1, 1) := by decide +kernel
theorem d234_411 : decode (am_mc 234) 411 = .ok (.aload_n 0, 1) := by decide +kernel
theorem d234_412 : decode (am_mc 234) 412 = .ok (.iload 4, 2) := by decide +kernel
theorem d234_414 : decode (am_mc 234) 414 = .ok (.iconst 1, 1) := by decide +kernel
theorem d234_415 : decode (am_mc 234) 415 = .ok (.iadd, 1) := by decide +kernel
theorem d234_416 : decode (am_mc 234) 416 = .ok (.iaload, 1) := by decide +kernel
theorem d234_417 : decode (am_mc 234) 417 = .ok (.invokevirtual 72, 3) := by decide +kernel
theorem d234_420 : decode (am_mc 234) 420 = .ok (.aload_n 2, 1) := by decide +kernel
theorem d234_421 : decode (am_mc 234) 421 = .ok (.aload_n 0, 1) := by decide +kernel
theorem d234_422 : decode (am_mc 234) 422 = .ok (.iload 4, 2) := by decide +kernel
theorem d234_424 : decode (am_mc 234) 424 = .ok (.iconst 1, 1) := by decide +kernel
theorem d234_425 : decode (am_mc 234) 425 = .ok (.iadd, 1) := by decide +kernel
theorem d234_426 : decode (am_mc 234) 426 = .ok (.iaload, 1) := by decide +kernel
theorem d234_427 : decode (am_mc 234) 427 = .ok (.invokevirtual 75, 3) := by decide +kernel
theorem d234_430 : decode (am_mc 234) 430 = .ok (.lcmp, 1) := by decide +kernel
theorem d234_431 : decode (am_mc 234) 431 = .ok (.ifCond .eq 5, 3) := by decide +kernel
theorem d234_436 : decode (am_mc 234) 436 = .ok (.iinc 4 3, 3) := by decide +kernel
theorem d234_439 : decode (am_mc 234) 439 = .ok (.goto (-416), 3) := by decide +kernel
theorem d234_442 : decode (am_mc 234) 442 = .ok (.iconst 1, 1) := by decide +kernel
theorem d234_39 : decode (am_mc 234) 39 = .ok (.tableswitch 397 0 8 #[49, 106, 163, 202, 239, 283, 320, 346, 371], 49) := by decide +kernel
theorem d234_443 : decode (am_mc 234) 443 = .ok (.ireturn, 1) := by decide +kernel
theorem k12_27 : tb_kl 12 27 = some 4294967295 := by decide +kernel
theorem m12_29 : tb_m 12 29 = some (3, 2, 1, 0) := by decide +kernel
theorem dp234_3 : am_md 3 + 1 ≤ am_md 234 ∧ 8 + (am_ml 3 + 11) + am_lr 3 ≤ am_lr 234 := by decide +kernel
theorem m12_33 : tb_m 12 33 = some (166, 2, 1, 0) := by decide +kernel
theorem dp234_166 : am_md 166 + 1 ≤ am_md 234 ∧ 8 + (am_ml 166 + 11) + am_lr 166 ≤ am_lr 234 := by decide +kernel
theorem m12_34 : tb_m 12 34 = some (4, 2, 1, 0) := by decide +kernel
theorem dp234_4 : am_md 4 + 1 ≤ am_md 234 ∧ 8 + (am_ml 4 + 11) + am_lr 4 ≤ am_lr 234 := by decide +kernel
theorem m12_37 : tb_m 12 37 = some (167, 2, 1, 0) := by decide +kernel
theorem dp234_167 : am_md 167 + 1 ≤ am_md 234 ∧ 8 + (am_ml 167 + 11) + am_lr 167 ≤ am_lr 234 := by decide +kernel
theorem m12_38 : tb_m 12 38 = some (6, 2, 0, 0) := by decide +kernel
theorem dp234_6 : am_md 6 + 1 ≤ am_md 234 ∧ 8 + (am_ml 6 + 11) + am_lr 6 ≤ am_lr 234 := by decide +kernel
theorem m12_42 : tb_m 12 42 = some (168, 2, 0, 0) := by decide +kernel
theorem dp234_168 : am_md 168 + 1 ≤ am_md 234 ∧ 8 + (am_ml 168 + 11) + am_lr 168 ≤ am_lr 234 := by decide +kernel
theorem m12_43 : tb_m 12 43 = some (8, 3, 1, 0) := by decide +kernel
theorem dp234_8 : am_md 8 + 1 ≤ am_md 234 ∧ 8 + (am_ml 8 + 11) + am_lr 8 ≤ am_lr 234 := by decide +kernel
theorem m12_47 : tb_m 12 47 = some (169, 3, 1, 0) := by decide +kernel
theorem dp234_169 : am_md 169 + 1 ≤ am_md 234 ∧ 8 + (am_ml 169 + 11) + am_lr 169 ≤ am_lr 234 := by decide +kernel
theorem m12_53 : tb_m 12 53 = some (227, 1, 1, 0) := by decide +kernel
theorem dp234_227 : am_md 227 + 1 ≤ am_md 234 ∧ 8 + (am_ml 227 + 11) + am_lr 227 ≤ am_lr 234 := by decide +kernel
theorem m12_54 : tb_m 12 54 = some (163, 1, 1, 0) := by decide +kernel
theorem dp234_163 : am_md 163 + 1 ≤ am_md 234 ∧ 8 + (am_ml 163 + 11) + am_lr 163 ≤ am_lr 234 := by decide +kernel
theorem m12_57 : tb_m 12 57 = some (11, 3, 1, 0) := by decide +kernel
theorem dp234_11 : am_md 11 + 1 ≤ am_md 234 ∧ 8 + (am_ml 11 + 11) + am_lr 11 ≤ am_lr 234 := by decide +kernel
theorem m12_61 : tb_m 12 61 = some (228, 3, 1, 0) := by decide +kernel
theorem dp234_228 : am_md 228 + 1 ≤ am_md 234 ∧ 8 + (am_ml 228 + 11) + am_lr 228 ≤ am_lr 234 := by decide +kernel
theorem m12_62 : tb_m 12 62 = some (12, 2, 2, 0) := by decide +kernel
theorem dp234_12 : am_md 12 + 1 ≤ am_md 234 ∧ 8 + (am_ml 12 + 11) + am_lr 12 ≤ am_lr 234 := by decide +kernel
theorem m12_66 : tb_m 12 66 = some (229, 2, 2, 0) := by decide +kernel
theorem dp234_229 : am_md 229 + 1 ≤ am_md 234 ∧ 8 + (am_ml 229 + 11) + am_lr 229 ≤ am_lr 234 := by decide +kernel
theorem m12_67 : tb_m 12 67 = some (46, 2, 1, 0) := by decide +kernel
theorem dp234_46 : am_md 46 + 1 ≤ am_md 234 ∧ 8 + (am_ml 46 + 11) + am_lr 46 ≤ am_lr 234 := by decide +kernel
theorem m12_71 : tb_m 12 71 = some (230, 2, 1, 0) := by decide +kernel
theorem dp234_230 : am_md 230 + 1 ≤ am_md 234 ∧ 8 + (am_ml 230 + 11) + am_lr 230 ≤ am_lr 234 := by decide +kernel
theorem m12_72 : tb_m 12 72 = some (47, 2, 2, 0) := by decide +kernel
theorem dp234_47 : am_md 47 + 1 ≤ am_md 234 ∧ 8 + (am_ml 47 + 11) + am_lr 47 ≤ am_lr 234 := by decide +kernel
theorem m12_75 : tb_m 12 75 = some (231, 2, 2, 0) := by decide +kernel
theorem dp234_231 : am_md 231 + 1 ≤ am_md 234 ∧ 8 + (am_ml 231 + 11) + am_lr 231 ≤ am_lr 234 := by decide +kernel
/-- what is wanted of column and of draw -/
def RC : Prop := ∀ (μ : am_M) (a : Int), am_R μ → am_okM μ → am_inI a → ∃ x μ1 μ2, fn46 0 a μ = some (x, μ1) ∧ fn230 240 a μ1 = some (x, μ2) ∧ am_R μ2
def RD : Prop := ∀ μ : am_M, am_R μ → am_okM μ → ∃ x μ1 y μ2, fn233 0 262 μ = some (x, μ1) ∧ fn227 240 μ1 = some (y, μ2) ∧ fn163 240 μ2 = some (x, μ2) ∧ (x = 0 → μ2 262 0 = y) ∧ am_R μ2
section LW
variable {X : am_K} {C : am_C} {cells slots : Nat} {sc : Nat × (Nat → Int)} {Q : State → Prop} {pc : Nat} {lv : am_L} {st : List am_V} {μ : am_M}
theorem lq_v (hG : am_G X C 234 cells slots sc) {x jj n rt : Nat} {f : am_F} {rest : List am_V} {t o : Nat} {as2 : List am_V} {z : Int} {μ' : am_M} (hd : decode (am_mc 234) pc = .ok (.invokevirtual x, 3)) (hq : tb_m 12 x = some (jj, n, 0, rt)) (hj2 : jj < am_nm) (hdep : am_md jj + 1 ≤ am_md 234 ∧ 8 + (am_ml jj + 11) + am_lr jj ≤ am_lr 234) (ha : (st.take n).reverse = .inr (.inr (t, o)) :: as2) (hr : st.drop n = rest) (hn : n ≤ st.length) (hcat : (rest.map am_cat).sum ≤ 8) (hg : am_rcg jj = t + 1) (hSd : am_Sd jj f) (hres : f (.inr (.inr (t, o)) :: as2) μ = some (z, μ')) (hk : am_W X C 234 Q cells slots (pc + 3) lv (rest) μ') : am_W X C 234 Q cells slots pc lv st μ := x_virtual_v (T := fun z => some z) (b := (z, μ')) hG hd wd_4.1 hq hj2 hdep ha hr hn hcat hg hSd hres rfl (fun z h => by cases h; exact hk)
theorem lq_i (hG : am_G X C 234 cells slots sc) {x jj n rt : Nat} {f : am_F} {rest : List am_V} {t o : Nat} {as2 : List am_V} {z : Int} {μ' : am_M} (hd : decode (am_mc 234) pc = .ok (.invokevirtual x, 3)) (hq : tb_m 12 x = some (jj, n, 1, rt)) (hj2 : jj < am_nm) (hdep : am_md jj + 1 ≤ am_md 234 ∧ 8 + (am_ml jj + 11) + am_lr jj ≤ am_lr 234) (ha : (st.take n).reverse = .inr (.inr (t, o)) :: as2) (hr : st.drop n = rest) (hn : n ≤ st.length) (hcat : (rest.map am_cat).sum ≤ 8) (hg : am_rcg jj = t + 1) (hSd : am_Sd jj f) (hres : f (.inr (.inr (t, o)) :: as2) μ = some (z, μ')) (hk : am_W X C 234 Q cells slots (pc + 3) lv (.inl z :: rest) μ') : am_W X C 234 Q cells slots pc lv st μ := x_virtual_i (T := fun z => some z) (b := (z, μ')) hG hd wd_4.1 hq hj2 hdep ha hr hn hcat hg hSd hres rfl (fun z h => by cases h; exact hk)
theorem lq_l (hG : am_G X C 234 cells slots sc) {x jj n rt : Nat} {f : am_F} {rest : List am_V} {t o : Nat} {as2 : List am_V} {z : Int} {μ' : am_M} (hd : decode (am_mc 234) pc = .ok (.invokevirtual x, 3)) (hq : tb_m 12 x = some (jj, n, 2, rt)) (hj2 : jj < am_nm) (hdep : am_md jj + 1 ≤ am_md 234 ∧ 8 + (am_ml jj + 11) + am_lr jj ≤ am_lr 234) (ha : (st.take n).reverse = .inr (.inr (t, o)) :: as2) (hr : st.drop n = rest) (hn : n ≤ st.length) (hcat : (rest.map am_cat).sum ≤ 8) (hg : am_rcg jj = t + 1) (hSd : am_Sd jj f) (hres : f (.inr (.inr (t, o)) :: as2) μ = some (z, μ')) (hk : am_W X C 234 Q cells slots (pc + 3) lv (.inr (.inl z) :: rest) μ') : am_W X C 234 Q cells slots pc lv st μ := x_virtual_l (T := fun z => some z) (b := (z, μ')) hG hd wd_4.1 hq hj2 hdep ha hr hn hcat hg hSd hres rfl (fun z h => by cases h; exact hk)
theorem lc_88 (hG : am_G X C 234 cells slots sc) {i : Int} (hi : 0 ≤ i ∧ i + 2 < sc.1) (hL : sc.1 ≤ 1536) (hR : am_R μ) (hk : ∀ μ', am_R μ' → am_W X C 234 Q cells slots 436 [(4, .inl i), (3, .inr (.inr (17, 262))), (2, .inr (.inr (11, 240))), (1, .inr (.inr (0, 0))), (0, .inr (.inr (33, 0)))] [] μ') : am_W X C 234 Q cells slots 88 [(4, .inl i), (3, .inr (.inr (17, 262))), (2, .inr (.inr (11, 240))), (1, .inr (.inr (0, 0))), (0, .inr (.inr (33, 0)))] [] μ := by
  have w1 : w32 (i + 1) = i + 1 := w32_id (by omega) (by omega)
  have w2 : w32 (i + 2) = i + 2 := w32_id (by omega) (by omega)
  obtain ⟨x, μ1, μ2, e1, e2, hR2⟩ := r_data hR (o_lorl (o_shll (sc.2 (i + 1).toNat) 32) (o_landl (sc.2 (i + 2).toNat) 4294967295))
  refine am_c_aload_n hG d234_88 rfl ?_
  refine am_c_aload_n hG d234_89 rfl ?_
  refine am_c_iload hG d234_90 rfl ?_
  refine am_c_iconst hG d234_92 (by decide) ?_
  refine am_c_iadd hG d234_93 ?_
  rw [w1]
  refine am_c_scload hG rfl rfl d234_94 ⟨by omega, by omega⟩ ?_
  refine am_c_i2l hG d234_95 ?_
  refine am_c_bipush hG d234_96 (by decide) ?_
  refine am_c_lshl hG d234_98 ?_
  refine am_c_aload_n hG d234_99 rfl ?_
  refine am_c_iload hG d234_100 rfl ?_
  refine am_c_iconst hG d234_102 (by decide) ?_
  refine am_c_iadd hG d234_103 ?_
  rw [w2]
  refine am_c_scload hG rfl rfl d234_104 ⟨by omega, by omega⟩ ?_
  refine am_c_i2l hG d234_105 ?_
  refine am_c_ldc2 hG d234_106 (by rw [wd_4.1]; exact k12_27) ?_
  refine am_c_land hG d234_109 ?_
  refine am_c_lor hG d234_110 ?_
  refine lq_i (t := 0) (o := 0) (as2 := [.inr (.inl (o_lorl (o_shll (sc.2 (i + 1).toNat) 32) (o_landl (sc.2 (i + 2).toNat) 4294967295)))]) (rest := []) hG d234_111 m12_29 (by decide) dp234_3 rfl rfl (Nat.le_of_ble_eq_true rfl) (Nat.le_of_ble_eq_true rfl) rg3 sd3 ((e3 _ _ _).trans e1) ?_
  refine am_c_aload_n hG d234_114 rfl ?_
  refine am_c_aload_n hG d234_115 rfl ?_
  refine am_c_iload hG d234_116 rfl ?_
  refine am_c_iconst hG d234_118 (by decide) ?_
  refine am_c_iadd hG d234_119 ?_
  rw [w1]
  refine am_c_scload hG rfl rfl d234_120 ⟨by omega, by omega⟩ ?_
  refine am_c_i2l hG d234_121 ?_
  refine am_c_bipush hG d234_122 (by decide) ?_
  refine am_c_lshl hG d234_124 ?_
  refine am_c_aload_n hG d234_125 rfl ?_
  refine am_c_iload hG d234_126 rfl ?_
  refine am_c_iconst hG d234_128 (by decide) ?_
  refine am_c_iadd hG d234_129 ?_
  rw [w2]
  refine am_c_scload hG rfl rfl d234_130 ⟨by omega, by omega⟩ ?_
  refine am_c_i2l hG d234_131 ?_
  refine am_c_ldc2 hG d234_132 (by rw [wd_4.1]; exact k12_27) ?_
  refine am_c_land hG d234_135 ?_
  refine am_c_lor hG d234_136 ?_
  refine lq_i (t := 11) (o := 240) (as2 := [.inr (.inl (o_lorl (o_shll (sc.2 (i + 1).toNat) 32) (o_landl (sc.2 (i + 2).toNat) 4294967295)))]) (rest := [.inl x]) hG d234_137 m12_33 (by decide) dp234_166 rfl rfl (Nat.le_of_ble_eq_true rfl) (Nat.le_of_ble_eq_true rfl) rg166 sd166 ((e166 _ _ _).trans e2) ?_
  exact y_icmp_eq (tgt := 436) hG d234_140 rfl rfl (hk μ2 hR2)
theorem lc_145 (hG : am_G X C 234 cells slots sc) {i : Int} (hi : 0 ≤ i ∧ i + 2 < sc.1) (hL : sc.1 ≤ 1536) (hR : am_R μ) (hk : ∀ μ', am_R μ' → am_W X C 234 Q cells slots 436 [(4, .inl i), (3, .inr (.inr (17, 262))), (2, .inr (.inr (11, 240))), (1, .inr (.inr (0, 0))), (0, .inr (.inr (33, 0)))] [] μ') : am_W X C 234 Q cells slots 145 [(4, .inl i), (3, .inr (.inr (17, 262))), (2, .inr (.inr (11, 240))), (1, .inr (.inr (0, 0))), (0, .inr (.inr (33, 0)))] [] μ := by
  have w1 : w32 (i + 1) = i + 1 := w32_id (by omega) (by omega)
  have w2 : w32 (i + 2) = i + 2 := w32_id (by omega) (by omega)
  obtain ⟨x, μ1, μ2, e1, e2, hR2⟩ := r_text hR (o_lorl (o_shll (sc.2 (i + 1).toNat) 32) (o_landl (sc.2 (i + 2).toNat) 4294967295))
  refine am_c_aload_n hG d234_145 rfl ?_
  refine am_c_aload_n hG d234_146 rfl ?_
  refine am_c_iload hG d234_147 rfl ?_
  refine am_c_iconst hG d234_149 (by decide) ?_
  refine am_c_iadd hG d234_150 ?_
  rw [w1]
  refine am_c_scload hG rfl rfl d234_151 ⟨by omega, by omega⟩ ?_
  refine am_c_i2l hG d234_152 ?_
  refine am_c_bipush hG d234_153 (by decide) ?_
  refine am_c_lshl hG d234_155 ?_
  refine am_c_aload_n hG d234_156 rfl ?_
  refine am_c_iload hG d234_157 rfl ?_
  refine am_c_iconst hG d234_159 (by decide) ?_
  refine am_c_iadd hG d234_160 ?_
  rw [w2]
  refine am_c_scload hG rfl rfl d234_161 ⟨by omega, by omega⟩ ?_
  refine am_c_i2l hG d234_162 ?_
  refine am_c_ldc2 hG d234_163 (by rw [wd_4.1]; exact k12_27) ?_
  refine am_c_land hG d234_166 ?_
  refine am_c_lor hG d234_167 ?_
  refine lq_i (t := 0) (o := 0) (as2 := [.inr (.inl (o_lorl (o_shll (sc.2 (i + 1).toNat) 32) (o_landl (sc.2 (i + 2).toNat) 4294967295)))]) (rest := []) hG d234_168 m12_34 (by decide) dp234_4 rfl rfl (Nat.le_of_ble_eq_true rfl) (Nat.le_of_ble_eq_true rfl) rg4 sd4 ((e4 _ _ _).trans e1) ?_
  refine am_c_aload_n hG d234_171 rfl ?_
  refine am_c_aload_n hG d234_172 rfl ?_
  refine am_c_iload hG d234_173 rfl ?_
  refine am_c_iconst hG d234_175 (by decide) ?_
  refine am_c_iadd hG d234_176 ?_
  rw [w1]
  refine am_c_scload hG rfl rfl d234_177 ⟨by omega, by omega⟩ ?_
  refine am_c_i2l hG d234_178 ?_
  refine am_c_bipush hG d234_179 (by decide) ?_
  refine am_c_lshl hG d234_181 ?_
  refine am_c_aload_n hG d234_182 rfl ?_
  refine am_c_iload hG d234_183 rfl ?_
  refine am_c_iconst hG d234_185 (by decide) ?_
  refine am_c_iadd hG d234_186 ?_
  rw [w2]
  refine am_c_scload hG rfl rfl d234_187 ⟨by omega, by omega⟩ ?_
  refine am_c_i2l hG d234_188 ?_
  refine am_c_ldc2 hG d234_189 (by rw [wd_4.1]; exact k12_27) ?_
  refine am_c_land hG d234_192 ?_
  refine am_c_lor hG d234_193 ?_
  refine lq_i (t := 11) (o := 240) (as2 := [.inr (.inl (o_lorl (o_shll (sc.2 (i + 1).toNat) 32) (o_landl (sc.2 (i + 2).toNat) 4294967295)))]) (rest := [.inl x]) hG d234_194 m12_37 (by decide) dp234_167 rfl rfl (Nat.le_of_ble_eq_true rfl) (Nat.le_of_ble_eq_true rfl) rg167 sd167 ((e167 _ _ _).trans e2) ?_
  exact y_icmp_eq (tgt := 436) hG d234_197 rfl rfl (hk μ2 hR2)
theorem lc_202 (hG : am_G X C 234 cells slots sc) {i : Int} (hi : 0 ≤ i ∧ i + 2 < sc.1) (hL : sc.1 ≤ 1536) (hR : am_R μ) (hk : ∀ μ', am_R μ' → am_W X C 234 Q cells slots 436 [(4, .inl i), (3, .inr (.inr (17, 262))), (2, .inr (.inr (11, 240))), (1, .inr (.inr (0, 0))), (0, .inr (.inr (33, 0)))] [] μ') : am_W X C 234 Q cells slots 202 [(4, .inl i), (3, .inr (.inr (17, 262))), (2, .inr (.inr (11, 240))), (1, .inr (.inr (0, 0))), (0, .inr (.inr (33, 0)))] [] μ := by
  have w1 : w32 (i + 1) = i + 1 := w32_id (by omega) (by omega)
  have w2 : w32 (i + 2) = i + 2 := w32_id (by omega) (by omega)
  have fin : ∀ v : Int, (v = if sc.2 (i + 1).toNat = 0 then 0 else 1) → am_W X C 234 Q cells slots 217 [(4, .inl i), (3, .inr (.inr (17, 262))), (2, .inr (.inr (11, 240))), (1, .inr (.inr (0, 0))), (0, .inr (.inr (33, 0)))] [.inl v, .inr (.inr (0, 0))] μ := by
    intro v hv
    obtain ⟨μ1, μ2, e1, e2, hR2⟩ := r_wipe hR v
    refine lq_v (t := 0) (o := 0) (as2 := [.inl v]) (rest := []) hG d234_217 m12_38 (by decide) dp234_6 rfl rfl (Nat.le_of_ble_eq_true rfl) (Nat.le_of_ble_eq_true rfl) rg6 sd6 ((e6 _ _ _).trans e1) ?_
    refine am_c_aload_n hG d234_220 rfl ?_
    refine am_c_aload_n hG d234_221 rfl ?_
    refine am_c_iload hG d234_222 rfl ?_
    refine am_c_iconst hG d234_224 (by decide) ?_
    refine am_c_iadd hG d234_225 ?_
    rw [w1]
    refine am_c_scload hG rfl rfl d234_226 ⟨by omega, by omega⟩ ?_
    by_cases hz : sc.2 (i + 1).toNat = 0
    · have hv0 : v = 0 := by rw [hv, if_pos hz]
      refine y_if_eq (tgt := 234) hG d234_227 rfl hz ?_
      refine am_c_iconst hG d234_234 (by decide) ?_
      rw [hv0] at e2
      refine lq_v (t := 11) (o := 240) (as2 := [.inl 0]) (rest := []) hG d234_235 m12_42 (by decide) dp234_168 rfl rfl (Nat.le_of_ble_eq_true rfl) (Nat.le_of_ble_eq_true rfl) rg168 sd168 ((e168 _ _ _).trans e2) ?_
      exact x_goto (tgt := 436) hG d234_238 rfl (hk μ2 hR2)
    · have hv0 : v = 1 := by rw [hv, if_neg hz]
      refine n_if_eq (tgt := 234) hG d234_227 rfl hz ?_
      refine am_c_iconst hG d234_230 (by decide) (x_goto (tgt := 235) hG d234_231 rfl ?_)
      rw [hv0] at e2
      refine lq_v (t := 11) (o := 240) (as2 := [.inl 1]) (rest := []) hG d234_235 m12_42 (by decide) dp234_168 rfl rfl (Nat.le_of_ble_eq_true rfl) (Nat.le_of_ble_eq_true rfl) rg168 sd168 ((e168 _ _ _).trans e2) ?_
      exact x_goto (tgt := 436) hG d234_238 rfl (hk μ2 hR2)
  refine am_c_aload_n hG d234_202 rfl ?_
  refine am_c_aload_n hG d234_203 rfl ?_
  refine am_c_iload hG d234_204 rfl ?_
  refine am_c_iconst hG d234_206 (by decide) ?_
  refine am_c_iadd hG d234_207 ?_
  rw [w1]
  refine am_c_scload hG rfl rfl d234_208 ⟨by omega, by omega⟩ ?_
  by_cases hz : sc.2 (i + 1).toNat = 0
  · refine y_if_eq (tgt := 216) hG d234_209 rfl hz ?_
    exact am_c_iconst hG d234_216 (by decide) (fin 0 (by rw [if_pos hz]))
  · refine n_if_eq (tgt := 216) hG d234_209 rfl hz ?_
    exact am_c_iconst hG d234_212 (by decide) (x_goto (tgt := 217) hG d234_213 rfl (fin 1 (by rw [if_neg hz])))
theorem lc_241 (hG : am_G X C 234 cells slots sc) {i : Int} (hi : 0 ≤ i ∧ i + 2 < sc.1) (hL : sc.1 ≤ 1536) (hR : am_R μ) (hk : ∀ μ', am_R μ' → am_W X C 234 Q cells slots 436 [(4, .inl i), (3, .inr (.inr (17, 262))), (2, .inr (.inr (11, 240))), (1, .inr (.inr (0, 0))), (0, .inr (.inr (33, 0)))] [] μ') : am_W X C 234 Q cells slots 241 [(4, .inl i), (3, .inr (.inr (17, 262))), (2, .inr (.inr (11, 240))), (1, .inr (.inr (0, 0))), (0, .inr (.inr (33, 0)))] [] μ := by
  have w1 : w32 (i + 1) = i + 1 := w32_id (by omega) (by omega)
  have w2 : w32 (i + 2) = i + 2 := w32_id (by omega) (by omega)
  obtain ⟨x, μ1, μ2, e1, e2, hR2⟩ := r_canvas hR (sc.2 (i + 1).toNat) (sc.2 (i + 2).toNat)
  refine am_c_aload_n hG d234_241 rfl ?_
  refine am_c_aload_n hG d234_242 rfl ?_
  refine am_c_iload hG d234_243 rfl ?_
  refine am_c_iconst hG d234_245 (by decide) ?_
  refine am_c_iadd hG d234_246 ?_
  rw [w1]
  refine am_c_scload hG rfl rfl d234_247 ⟨by omega, by omega⟩ ?_
  refine am_c_aload_n hG d234_248 rfl ?_
  refine am_c_iload hG d234_249 rfl ?_
  refine am_c_iconst hG d234_251 (by decide) ?_
  refine am_c_iadd hG d234_252 ?_
  rw [w2]
  refine am_c_scload hG rfl rfl d234_253 ⟨by omega, by omega⟩ ?_
  refine lq_i (t := 0) (o := 0) (as2 := [.inl (sc.2 (i + 1).toNat), .inl (sc.2 (i + 2).toNat)]) (rest := []) hG d234_254 m12_43 (by decide) dp234_8 rfl rfl (Nat.le_of_ble_eq_true rfl) (Nat.le_of_ble_eq_true rfl) rg8 sd8 ((e8 _ _ _ _).trans e1) ?_
  refine am_c_aload_n hG d234_257 rfl ?_
  refine am_c_aload_n hG d234_258 rfl ?_
  refine am_c_iload hG d234_259 rfl ?_
  refine am_c_iconst hG d234_261 (by decide) ?_
  refine am_c_iadd hG d234_262 ?_
  rw [w1]
  refine am_c_scload hG rfl rfl d234_263 ⟨by omega, by omega⟩ ?_
  refine am_c_aload_n hG d234_264 rfl ?_
  refine am_c_iload hG d234_265 rfl ?_
  refine am_c_iconst hG d234_267 (by decide) ?_
  refine am_c_iadd hG d234_268 ?_
  rw [w2]
  refine am_c_scload hG rfl rfl d234_269 ⟨by omega, by omega⟩ ?_
  refine lq_i (t := 11) (o := 240) (as2 := [.inl (sc.2 (i + 1).toNat), .inl (sc.2 (i + 2).toNat)]) (rest := [.inl x]) hG d234_270 m12_47 (by decide) dp234_169 rfl rfl (Nat.le_of_ble_eq_true rfl) (Nat.le_of_ble_eq_true rfl) rg169 sd169 ((e169 _ _ _ _).trans e2) ?_
  exact y_icmp_eq (tgt := 436) hG d234_273 rfl rfl (hk μ2 hR2)
theorem lc_322 (hG : am_G X C 234 cells slots sc) {i : Int} (hi : 0 ≤ i ∧ i + 2 < sc.1) (hL : sc.1 ≤ 1536) (hR : am_R μ) (hk : ∀ μ', am_R μ' → am_W X C 234 Q cells slots 436 [(4, .inl i), (3, .inr (.inr (17, 262))), (2, .inr (.inr (11, 240))), (1, .inr (.inr (0, 0))), (0, .inr (.inr (33, 0)))] [] μ') : am_W X C 234 Q cells slots 322 [(4, .inl i), (3, .inr (.inr (17, 262))), (2, .inr (.inr (11, 240))), (1, .inr (.inr (0, 0))), (0, .inr (.inr (33, 0)))] [] μ := by
  have w1 : w32 (i + 1) = i + 1 := w32_id (by omega) (by omega)
  have w2 : w32 (i + 2) = i + 2 := w32_id (by omega) (by omega)
  obtain ⟨x, μ2, e1, e2, hR2⟩ := r_pixel hR (sc.2 (i + 1).toNat) (sc.2 (i + 2).toNat)
  refine am_c_aload_n hG d234_322 rfl ?_
  refine am_c_aload_n hG d234_323 rfl ?_
  refine am_c_iload hG d234_324 rfl ?_
  refine am_c_iconst hG d234_326 (by decide) ?_
  refine am_c_iadd hG d234_327 ?_
  rw [w1]
  refine am_c_scload hG rfl rfl d234_328 ⟨by omega, by omega⟩ ?_
  refine am_c_aload_n hG d234_329 rfl ?_
  refine am_c_iload hG d234_330 rfl ?_
  refine am_c_iconst hG d234_332 (by decide) ?_
  refine am_c_iadd hG d234_333 ?_
  rw [w2]
  refine am_c_scload hG rfl rfl d234_334 ⟨by omega, by omega⟩ ?_
  refine lq_i (t := 0) (o := 0) (as2 := [.inl (sc.2 (i + 1).toNat), .inl (sc.2 (i + 2).toNat)]) (rest := []) hG d234_335 m12_57 (by decide) dp234_11 rfl rfl (Nat.le_of_ble_eq_true rfl) (Nat.le_of_ble_eq_true rfl) rg11 sd11 ((e11 _ _ _ _).trans e1) ?_
  refine am_c_aload_n hG d234_338 rfl ?_
  refine am_c_aload_n hG d234_339 rfl ?_
  refine am_c_iload hG d234_340 rfl ?_
  refine am_c_iconst hG d234_342 (by decide) ?_
  refine am_c_iadd hG d234_343 ?_
  rw [w1]
  refine am_c_scload hG rfl rfl d234_344 ⟨by omega, by omega⟩ ?_
  refine am_c_aload_n hG d234_345 rfl ?_
  refine am_c_iload hG d234_346 rfl ?_
  refine am_c_iconst hG d234_348 (by decide) ?_
  refine am_c_iadd hG d234_349 ?_
  rw [w2]
  refine am_c_scload hG rfl rfl d234_350 ⟨by omega, by omega⟩ ?_
  refine lq_i (t := 11) (o := 240) (as2 := [.inl (sc.2 (i + 1).toNat), .inl (sc.2 (i + 2).toNat)]) (rest := [.inl x]) hG d234_351 m12_61 (by decide) dp234_228 rfl rfl (Nat.le_of_ble_eq_true rfl) (Nat.le_of_ble_eq_true rfl) rg228 sd228 ((e228 _ _ _ _).trans e2) ?_
  exact y_icmp_eq (tgt := 436) hG d234_354 rfl rfl (hk μ2 hR2)
theorem lc_359 (hG : am_G X C 234 cells slots sc) {i : Int} (hi : 0 ≤ i ∧ i + 2 < sc.1) (hL : sc.1 ≤ 1536) (hR : am_R μ) (hk : ∀ μ', am_R μ' → am_W X C 234 Q cells slots 436 [(4, .inl i), (3, .inr (.inr (17, 262))), (2, .inr (.inr (11, 240))), (1, .inr (.inr (0, 0))), (0, .inr (.inr (33, 0)))] [] μ') : am_W X C 234 Q cells slots 359 [(4, .inl i), (3, .inr (.inr (17, 262))), (2, .inr (.inr (11, 240))), (1, .inr (.inr (0, 0))), (0, .inr (.inr (33, 0)))] [] μ := by
  have w1 : w32 (i + 1) = i + 1 := w32_id (by omega) (by omega)
  have w2 : w32 (i + 2) = i + 2 := w32_id (by omega) (by omega)
  obtain ⟨x, μ2, e1, e2, hR2⟩ := r_figure hR (sc.2 (i + 1).toNat)
  refine am_c_aload_n hG d234_359 rfl ?_
  refine am_c_aload_n hG d234_360 rfl ?_
  refine am_c_iload hG d234_361 rfl ?_
  refine am_c_iconst hG d234_363 (by decide) ?_
  refine am_c_iadd hG d234_364 ?_
  rw [w1]
  refine am_c_scload hG rfl rfl d234_365 ⟨by omega, by omega⟩ ?_
  refine lq_l (t := 0) (o := 0) (as2 := [.inl (sc.2 (i + 1).toNat)]) (rest := []) hG d234_366 m12_62 (by decide) dp234_12 rfl rfl (Nat.le_of_ble_eq_true rfl) (Nat.le_of_ble_eq_true rfl) rg12 sd12 ((e12 _ _ _).trans e1) ?_
  refine am_c_aload_n hG d234_369 rfl ?_
  refine am_c_aload_n hG d234_370 rfl ?_
  refine am_c_iload hG d234_371 rfl ?_
  refine am_c_iconst hG d234_373 (by decide) ?_
  refine am_c_iadd hG d234_374 ?_
  rw [w1]
  refine am_c_scload hG rfl rfl d234_375 ⟨by omega, by omega⟩ ?_
  refine lq_l (t := 11) (o := 240) (as2 := [.inl (sc.2 (i + 1).toNat)]) (rest := [.inr (.inl x)]) hG d234_376 m12_66 (by decide) dp234_229 rfl rfl (Nat.le_of_ble_eq_true rfl) (Nat.le_of_ble_eq_true rfl) rg229 sd229 ((e229 _ _ _).trans e2) ?_
  refine am_c_lcmp hG d234_379 ?_
  exact y_if_eq (tgt := 436) hG d234_380 rfl (o_cmp_eq.mpr rfl) (hk μ2 hR2)
theorem lc_410 (hG : am_G X C 234 cells slots sc) {i : Int} (hi : 0 ≤ i ∧ i + 2 < sc.1) (hL : sc.1 ≤ 1536) (hR : am_R μ) (hk : ∀ μ', am_R μ' → am_W X C 234 Q cells slots 436 [(4, .inl i), (3, .inr (.inr (17, 262))), (2, .inr (.inr (11, 240))), (1, .inr (.inr (0, 0))), (0, .inr (.inr (33, 0)))] [] μ') : am_W X C 234 Q cells slots 410 [(4, .inl i), (3, .inr (.inr (17, 262))), (2, .inr (.inr (11, 240))), (1, .inr (.inr (0, 0))), (0, .inr (.inr (33, 0)))] [] μ := by
  have w1 : w32 (i + 1) = i + 1 := w32_id (by omega) (by omega)
  have w2 : w32 (i + 2) = i + 2 := w32_id (by omega) (by omega)
  obtain ⟨x, μ2, e1, e2, hR2⟩ := r_value hR (sc.2 (i + 1).toNat)
  refine am_c_aload_n hG d234_410 rfl ?_
  refine am_c_aload_n hG d234_411 rfl ?_
  refine am_c_iload hG d234_412 rfl ?_
  refine am_c_iconst hG d234_414 (by decide) ?_
  refine am_c_iadd hG d234_415 ?_
  rw [w1]
  refine am_c_scload hG rfl rfl d234_416 ⟨by omega, by omega⟩ ?_
  refine lq_l (t := 0) (o := 0) (as2 := [.inl (sc.2 (i + 1).toNat)]) (rest := []) hG d234_417 m12_72 (by decide) dp234_47 rfl rfl (Nat.le_of_ble_eq_true rfl) (Nat.le_of_ble_eq_true rfl) rg47 sd47 ((e47 _ _ _).trans e1) ?_
  refine am_c_aload_n hG d234_420 rfl ?_
  refine am_c_aload_n hG d234_421 rfl ?_
  refine am_c_iload hG d234_422 rfl ?_
  refine am_c_iconst hG d234_424 (by decide) ?_
  refine am_c_iadd hG d234_425 ?_
  rw [w1]
  refine am_c_scload hG rfl rfl d234_426 ⟨by omega, by omega⟩ ?_
  refine lq_l (t := 11) (o := 240) (as2 := [.inl (sc.2 (i + 1).toNat)]) (rest := [.inr (.inl x)]) hG d234_427 m12_75 (by decide) dp234_231 rfl rfl (Nat.le_of_ble_eq_true rfl) (Nat.le_of_ble_eq_true rfl) rg231 sd231 ((e231 _ _ _).trans e2) ?_
  refine am_c_lcmp hG d234_430 ?_
  exact y_if_eq (tgt := 436) hG d234_431 rfl (o_cmp_eq.mpr rfl) (hk μ2 hR2)
theorem lc_385 (hG : am_G X C 234 cells slots sc) {i : Int} (hi : 0 ≤ i ∧ i + 2 < sc.1) (hL : sc.1 ≤ 1536) (hR : am_R μ) (hk : ∀ μ', am_R μ' → am_W X C 234 Q cells slots 436 [(4, .inl i), (3, .inr (.inr (17, 262))), (2, .inr (.inr (11, 240))), (1, .inr (.inr (0, 0))), (0, .inr (.inr (33, 0)))] [] μ') (hRC : RC) (hM : am_okM μ) (hin : am_inI (sc.2 (i + 1).toNat)) : am_W X C 234 Q cells slots 385 [(4, .inl i), (3, .inr (.inr (17, 262))), (2, .inr (.inr (11, 240))), (1, .inr (.inr (0, 0))), (0, .inr (.inr (33, 0)))] [] μ := by
  have w1 : w32 (i + 1) = i + 1 := w32_id (by omega) (by omega)
  have w2 : w32 (i + 2) = i + 2 := w32_id (by omega) (by omega)
  obtain ⟨x, μ1, μ2, e1, e2, hR2⟩ := hRC μ (sc.2 (i + 1).toNat) hR hM hin
  refine am_c_aload_n hG d234_385 rfl ?_
  refine am_c_aload_n hG d234_386 rfl ?_
  refine am_c_iload hG d234_387 rfl ?_
  refine am_c_iconst hG d234_389 (by decide) ?_
  refine am_c_iadd hG d234_390 ?_
  rw [w1]
  refine am_c_scload hG rfl rfl d234_391 ⟨by omega, by omega⟩ ?_
  refine lq_i (t := 0) (o := 0) (as2 := [.inl (sc.2 (i + 1).toNat)]) (rest := []) hG d234_392 m12_67 (by decide) dp234_46 rfl rfl (Nat.le_of_ble_eq_true rfl) (Nat.le_of_ble_eq_true rfl) rg46 sd46 ((e46 _ _ _).trans e1) ?_
  refine am_c_aload_n hG d234_395 rfl ?_
  refine am_c_aload_n hG d234_396 rfl ?_
  refine am_c_iload hG d234_397 rfl ?_
  refine am_c_iconst hG d234_399 (by decide) ?_
  refine am_c_iadd hG d234_400 ?_
  rw [w1]
  refine am_c_scload hG rfl rfl d234_401 ⟨by omega, by omega⟩ ?_
  refine lq_i (t := 11) (o := 240) (as2 := [.inl (sc.2 (i + 1).toNat)]) (rest := [.inl x]) hG d234_402 m12_71 (by decide) dp234_230 rfl rfl (Nat.le_of_ble_eq_true rfl) (Nat.le_of_ble_eq_true rfl) rg230 sd230 ((e230 _ _ _).trans e2) ?_
  exact y_icmp_eq (tgt := 436) hG d234_405 rfl rfl (hk μ2 hR2)
theorem lc_278 (hG0 : am_G X C 234 cells slots sc) (hG : am_G X C 234 (cells + 1) (slots + 6) sc) (hst : match X with | (_, l, _, R, s, _, _, _, _, _) => l.stackTraces = false ∧ am_dx C.2.2.2.1 s s.heap ∧ am_nc s ∧ cells + 1 ≤ R.cells ∧ slots + 6 ≤ R.slots) {i : Int} (hRD : RD) (hM : am_okM μ) (hR : am_R μ) (hk : ∀ μ', am_R μ' → am_W X C 234 Q (cells + 1) (slots + 6) 436 [(4, .inl i), (3, .inr (.inr (17, 262))), (2, .inr (.inr (11, 240))), (1, .inr (.inr (0, 0))), (0, .inr (.inr (33, 0)))] [] μ') : am_W X C 234 Q cells slots 278 [(4, .inl i), (3, .inr (.inr (17, 262))), (2, .inr (.inr (11, 240))), (1, .inr (.inr (0, 0))), (0, .inr (.inr (33, 0)))] [] μ := by
  obtain ⟨x, μ1, y, μ2, e1, e2, e3, e4, hR2⟩ := hRD μ hR hM
  have fin : am_W X C 234 Q (cells + 1) (slots + 6) 319 ((6, .inl y) :: (5, .inl x) :: [(4, .inl i), (3, .inr (.inr (17, 262))), (2, .inr (.inr (11, 240))), (1, .inr (.inr (0, 0))), (0, .inr (.inr (33, 0)))]) [] μ2 := x_goto (tgt := 436) hG d234_319 rfl (am_lvw (lv2 := [(4, .inl i), (3, .inr (.inr (17, 262))), (2, .inr (.inr (11, 240))), (1, .inr (.inr (0, 0))), (0, .inr (.inr (33, 0)))]) [2, 3, 4, 5, 6] rfl (hk μ2 hR2))
  refine am_c_aload_n hG0 d234_278 rfl ?_
  refine am_c_aload_n hG0 d234_279 rfl ?_
  refine am_c_lawdraw hG0 hst d234_280 e1 ?_
  refine x_istore (lv' := (5, .inl x) :: [(4, .inl i), (3, .inr (.inr (17, 262))), (2, .inr (.inr (11, 240))), (1, .inr (.inr (0, 0))), (0, .inr (.inr (33, 0)))]) hG d234_283 (by rw [wd_4.2.2.1]; decide) rfl ?_
  refine am_c_aload_n hG d234_285 rfl ?_
  refine lq_i (t := 11) (o := 240) (as2 := []) (rest := []) hG d234_286 m12_53 (by decide) dp234_227 rfl rfl (Nat.le_of_ble_eq_true rfl) (Nat.le_of_ble_eq_true rfl) rg227 sd227 ((e227 _ _).trans e2) ?_
  refine x_istore (lv' := (6, .inl y) :: (5, .inl x) :: [(4, .inl i), (3, .inr (.inr (17, 262))), (2, .inr (.inr (11, 240))), (1, .inr (.inr (0, 0))), (0, .inr (.inr (33, 0)))]) hG d234_289 (by rw [wd_4.2.2.1]; decide) rfl ?_
  refine am_c_aload_n hG d234_291 rfl ?_
  refine lq_i (t := 11) (o := 240) (as2 := []) (rest := []) hG d234_292 m12_54 (by decide) dp234_163 rfl rfl (Nat.le_of_ble_eq_true rfl) (Nat.le_of_ble_eq_true rfl) rg163 sd163 ((e163 _ _).trans e3) ?_
  refine am_c_iload hG d234_295 rfl ?_
  refine y_icmp_eq (tgt := 302) hG d234_297 rfl rfl ?_
  refine am_c_iload hG d234_302 rfl ?_
  by_cases hx : x = 0
  · refine y_if_ne (tgt := 319) hG d234_304 rfl hx ?_
    refine am_c_aload_n hG d234_307 rfl ?_
    refine am_c_iconst hG d234_308 (by decide) ?_
    refine am_c_laload hG d234_309 ⟨by decide, by decide +kernel⟩ ?_
    refine am_c_iload hG d234_310 rfl ?_
    refine am_c_i2l hG d234_312 ?_
    refine am_c_lcmp hG d234_313 ?_
    exact y_if_eq (tgt := 319) hG d234_314 rfl (o_cmp_eq.mpr (e4 hx)) fin
  · exact n_if_ne (tgt := 319) hG d234_304 rfl hx fin
end LW
