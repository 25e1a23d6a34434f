theorem d_L_0 : decode code 0 = .ok (.new 7, 3) := by decide +kernel
theorem d_L_3 : decode code 3 = .ok (.dup, 1) := by decide +kernel
theorem d_L_4 : decode code 4 = .ok (.invokespecial 9, 3) := by decide +kernel
theorem d_L_7 : decode code 7 = .ok (.astore_n 1, 1) := by decide +kernel
theorem d_L_8 : decode code 8 = .ok (.new 10, 3) := by decide +kernel
theorem d_L_11 : decode code 11 = .ok (.dup, 1) := by decide +kernel
theorem d_L_12 : decode code 12 = .ok (.invokespecial 12, 3) := by decide +kernel
theorem d_L_15 : decode code 15 = .ok (.astore_n 2, 1) := by decide +kernel
theorem d_L_16 : decode code 16 = .ok (.iconst 0, 1) := by decide +kernel
theorem d_L_17 : decode code 17 = .ok (.istore_n 3, 1) := by decide +kernel
theorem d_L_18 : decode code 18 = .ok (.iload_n 3, 1) := by decide +kernel
theorem d_L_19 : decode code 19 = .ok (.aload_n 0, 1) := by decide +kernel
theorem d_L_20 : decode code 20 = .ok (.arraylength, 1) := by decide +kernel
theorem d_L_21 : decode code 21 = .ok (.iconst 5, 1) := by decide +kernel
theorem d_L_22 : decode code 22 = .ok (.isub, 1) := by decide +kernel
theorem d_L_23 : decode code 23 = .ok (.if_icmp .gt 687, 3) := by decide +kernel
theorem d_L_26 : decode code 26 = .ok (.aload_n 0, 1) := by decide +kernel
theorem d_L_27 : decode code 27 = .ok (.iload_n 3, 1) := by decide +kernel
theorem d_L_28 : decode code 28 = .ok (.iaload, 1) := by decide +kernel
theorem d_L_29 : decode code 29 = .ok (.bipush 31, 2) := by decide +kernel
theorem d_L_31 : decode code 31 = .ok (.iand, 1) := by decide +kernel
theorem d_L_32 : decode code 32 = .ok (.tableswitch 672 0 19 #[96, 155, 208, 241, 294, 327, 360, 393, 416, 449, 472, 495, 508, 541, 554, 587, 600, 633, 646, 659], 96) := by decide +kernel
theorem d_L_128 : decode code 128 = .ok (.aload_n 1, 1) := by decide +kernel
theorem d_L_129 : decode code 129 = .ok (.aload_n 0, 1) := by decide +kernel
theorem d_L_130 : decode code 130 = .ok (.iload_n 3, 1) := by decide +kernel
theorem d_L_131 : decode code 131 = .ok (.iconst 1, 1) := by decide +kernel
theorem d_L_132 : decode code 132 = .ok (.iadd, 1) := by decide +kernel
theorem d_L_133 : decode code 133 = .ok (.iaload, 1) := by decide +kernel
theorem d_L_134 : decode code 134 = .ok (.aload_n 0, 1) := by decide +kernel
theorem d_L_135 : decode code 135 = .ok (.iload_n 3, 1) := by decide +kernel
theorem d_L_136 : decode code 136 = .ok (.iconst 2, 1) := by decide +kernel
theorem d_L_137 : decode code 137 = .ok (.iadd, 1) := by decide +kernel
theorem d_L_138 : decode code 138 = .ok (.iaload, 1) := by decide +kernel
theorem d_L_139 : decode code 139 = .ok (.aload_n 0, 1) := by decide +kernel
theorem d_L_140 : decode code 140 = .ok (.iload_n 3, 1) := by decide +kernel
theorem d_L_141 : decode code 141 = .ok (.iconst 3, 1) := by decide +kernel
theorem d_L_142 : decode code 142 = .ok (.iadd, 1) := by decide +kernel
theorem d_L_143 : decode code 143 = .ok (.iaload, 1) := by decide +kernel
theorem d_L_144 : decode code 144 = .ok (.ifCond .eq 7, 3) := by decide +kernel
theorem d_L_147 : decode code 147 = .ok (.iconst 1, 1) := by decide +kernel
theorem d_L_148 : decode code 148 = .ok (.goto 4, 3) := by decide +kernel
theorem d_L_151 : decode code 151 = .ok (.iconst 0, 1) := by decide +kernel
theorem d_L_152 : decode code 152 = .ok (.invokevirtual 13, 3) := by decide +kernel
theorem d_L_155 : decode code 155 = .ok (.aload_n 2, 1) := by decide +kernel
theorem d_L_156 : decode code 156 = .ok (.aload_n 0, 1) := by decide +kernel
theorem d_L_157 : decode code 157 = .ok (.iload_n 3, 1) := by decide +kernel
theorem d_L_158 : decode code 158 = .ok (.iconst 1, 1) := by decide +kernel
theorem d_L_159 : decode code 159 = .ok (.iadd, 1) := by decide +kernel
theorem d_L_160 : decode code 160 = .ok (.iaload, 1) := by decide +kernel
theorem d_L_161 : decode code 161 = .ok (.aload_n 0, 1) := by decide +kernel
theorem d_L_162 : decode code 162 = .ok (.iload_n 3, 1) := by decide +kernel
theorem d_L_163 : decode code 163 = .ok (.iconst 2, 1) := by decide +kernel
theorem d_L_164 : decode code 164 = .ok (.iadd, 1) := by decide +kernel
theorem d_L_165 : decode code 165 = .ok (.iaload, 1) := by decide +kernel
theorem d_L_166 : decode code 166 = .ok (.aload_n 0, 1) := by decide +kernel
theorem d_L_167 : decode code 167 = .ok (.iload_n 3, 1) := by decide +kernel
theorem d_L_168 : decode code 168 = .ok (.iconst 3, 1) := by decide +kernel
theorem d_L_169 : decode code 169 = .ok (.iadd, 1) := by decide +kernel
theorem d_L_170 : decode code 170 = .ok (.iaload, 1) := by decide +kernel
theorem d_L_171 : decode code 171 = .ok (.ifCond .eq 7, 3) := by decide +kernel
theorem d_L_174 : decode code 174 = .ok (.iconst 1, 1) := by decide +kernel
theorem d_L_175 : decode code 175 = .ok (.goto 4, 3) := by decide +kernel
theorem d_L_178 : decode code 178 = .ok (.iconst 0, 1) := by decide +kernel
theorem d_L_179 : decode code 179 = .ok (.invokevirtual 17, 3) := by decide +kernel
theorem d_L_182 : decode code 182 = .ok (.if_icmp .eq 522, 3) := by decide +kernel
theorem d_L_185 : decode code 185 = .ok (.iconst 0, 1) := by decide +kernel
theorem d_L_186 : decode code 186 = .ok (.ireturn, 1) := by decide +kernel
theorem d_L_187 : decode code 187 = .ok (.aload_n 1, 1) := by decide +kernel
theorem d_L_188 : decode code 188 = .ok (.aload_n 0, 1) := by decide +kernel
theorem d_L_189 : decode code 189 = .ok (.iload_n 3, 1) := by decide +kernel
theorem d_L_190 : decode code 190 = .ok (.iconst 1, 1) := by decide +kernel
theorem d_L_191 : decode code 191 = .ok (.iadd, 1) := by decide +kernel
theorem d_L_192 : decode code 192 = .ok (.iaload, 1) := by decide +kernel
theorem d_L_193 : decode code 193 = .ok (.aload_n 0, 1) := by decide +kernel
theorem d_L_194 : decode code 194 = .ok (.iload_n 3, 1) := by decide +kernel
theorem d_L_195 : decode code 195 = .ok (.iconst 2, 1) := by decide +kernel
theorem d_L_196 : decode code 196 = .ok (.iadd, 1) := by decide +kernel
theorem d_L_197 : decode code 197 = .ok (.iaload, 1) := by decide +kernel
theorem d_L_198 : decode code 198 = .ok (.aload_n 0, 1) := by decide +kernel
theorem d_L_199 : decode code 199 = .ok (.iload_n 3, 1) := by decide +kernel
theorem d_L_200 : decode code 200 = .ok (.iconst 3, 1) := by decide +kernel
theorem d_L_201 : decode code 201 = .ok (.iadd, 1) := by decide +kernel
theorem d_L_202 : decode code 202 = .ok (.iaload, 1) := by decide +kernel
theorem d_L_203 : decode code 203 = .ok (.aload_n 0, 1) := by decide +kernel
theorem d_L_204 : decode code 204 = .ok (.iload_n 3, 1) := by decide +kernel
theorem d_L_205 : decode code 205 = .ok (.iconst 4, 1) := by decide +kernel
theorem d_L_206 : decode code 206 = .ok (.iadd, 1) := by decide +kernel
theorem d_L_207 : decode code 207 = .ok (.iaload, 1) := by decide +kernel
theorem d_L_208 : decode code 208 = .ok (.invokevirtual 18, 3) := by decide +kernel
theorem d_L_211 : decode code 211 = .ok (.aload_n 2, 1) := by decide +kernel
theorem d_L_212 : decode code 212 = .ok (.aload_n 0, 1) := by decide +kernel
theorem d_L_213 : decode code 213 = .ok (.iload_n 3, 1) := by decide +kernel
theorem d_L_214 : decode code 214 = .ok (.iconst 1, 1) := by decide +kernel
theorem d_L_215 : decode code 215 = .ok (.iadd, 1) := by decide +kernel
theorem d_L_216 : decode code 216 = .ok (.iaload, 1) := by decide +kernel
theorem d_L_217 : decode code 217 = .ok (.aload_n 0, 1) := by decide +kernel
theorem d_L_218 : decode code 218 = .ok (.iload_n 3, 1) := by decide +kernel
theorem d_L_219 : decode code 219 = .ok (.iconst 2, 1) := by decide +kernel
theorem d_L_220 : decode code 220 = .ok (.iadd, 1) := by decide +kernel
theorem d_L_221 : decode code 221 = .ok (.iaload, 1) := by decide +kernel
theorem d_L_222 : decode code 222 = .ok (.aload_n 0, 1) := by decide +kernel
theorem d_L_223 : decode code 223 = .ok (.iload_n 3, 1) := by decide +kernel
theorem d_L_224 : decode code 224 = .ok (.iconst 3, 1) := by decide +kernel
theorem d_L_225 : decode code 225 = .ok (.iadd, 1) := by decide +kernel
theorem d_L_226 : decode code 226 = .ok (.iaload, 1) := by decide +kernel
theorem d_L_227 : decode code 227 = .ok (.aload_n 0, 1) := by decide +kernel
theorem d_L_228 : decode code 228 = .ok (.iload_n 3, 1) := by decide +kernel
theorem d_L_229 : decode code 229 = .ok (.iconst 4, 1) := by decide +kernel
theorem d_L_230 : decode code 230 = .ok (.iadd, 1) := by decide +kernel
theorem d_L_231 : decode code 231 = .ok (.iaload, 1) := by decide +kernel
theorem d_L_232 : decode code 232 = .ok (.invokevirtual 22, 3) := by decide +kernel
theorem d_L_235 : decode code 235 = .ok (.if_icmp .eq 469, 3) := by decide +kernel
theorem d_L_238 : decode code 238 = .ok (.iconst 0, 1) := by decide +kernel
theorem d_L_239 : decode code 239 = .ok (.ireturn, 1) := by decide +kernel
theorem d_L_240 : decode code 240 = .ok (.aload_n 1, 1) := by decide +kernel
theorem d_L_241 : decode code 241 = .ok (.aload_n 0, 1) := by decide +kernel
theorem d_L_242 : decode code 242 = .ok (.iload_n 3, 1) := by decide +kernel
theorem d_L_243 : decode code 243 = .ok (.iconst 1, 1) := by decide +kernel
theorem d_L_244 : decode code 244 = .ok (.iadd, 1) := by decide +kernel
theorem d_L_245 : decode code 245 = .ok (.iaload, 1) := by decide +kernel
theorem d_L_246 : decode code 246 = .ok (.aload_n 0, 1) := by decide +kernel
theorem d_L_247 : decode code 247 = .ok (.iload_n 3, 1) := by decide +kernel
theorem d_L_248 : decode code 248 = .ok (.iconst 2, 1) := by decide +kernel
theorem d_L_249 : decode code 249 = .ok (.iadd, 1) := by decide +kernel
theorem d_L_250 : decode code 250 = .ok (.iaload, 1) := by decide +kernel
theorem d_L_251 : decode code 251 = .ok (.invokevirtual 23, 3) := by decide +kernel
theorem d_L_254 : decode code 254 = .ok (.aload_n 2, 1) := by decide +kernel
theorem d_L_255 : decode code 255 = .ok (.aload_n 0, 1) := by decide +kernel
theorem d_L_256 : decode code 256 = .ok (.iload_n 3, 1) := by decide +kernel
theorem d_L_257 : decode code 257 = .ok (.iconst 1, 1) := by decide +kernel
theorem d_L_258 : decode code 258 = .ok (.iadd, 1) := by decide +kernel
theorem d_L_259 : decode code 259 = .ok (.iaload, 1) := by decide +kernel
theorem d_L_260 : decode code 260 = .ok (.aload_n 0, 1) := by decide +kernel
theorem d_L_261 : decode code 261 = .ok (.iload_n 3, 1) := by decide +kernel
theorem d_L_262 : decode code 262 = .ok (.iconst 2, 1) := by decide +kernel
theorem d_L_263 : decode code 263 = .ok (.iadd, 1) := by decide +kernel
theorem d_L_264 : decode code 264 = .ok (.iaload, 1) := by decide +kernel
theorem d_L_265 : decode code 265 = .ok (.invokevirtual 27, 3) := by decide +kernel
theorem d_L_268 : decode code 268 = .ok (.if_icmp .eq 436, 3) := by decide +kernel
theorem d_L_271 : decode code 271 = .ok (.iconst 0, 1) := by decide +kernel
theorem d_L_272 : decode code 272 = .ok (.ireturn, 1) := by decide +kernel
theorem d_L_273 : decode code 273 = .ok (.aload_n 1, 1) := by decide +kernel
theorem d_L_274 : decode code 274 = .ok (.aload_n 0, 1) := by decide +kernel
theorem d_L_275 : decode code 275 = .ok (.iload_n 3, 1) := by decide +kernel
theorem d_L_276 : decode code 276 = .ok (.iconst 1, 1) := by decide +kernel
theorem d_L_277 : decode code 277 = .ok (.iadd, 1) := by decide +kernel
theorem d_L_278 : decode code 278 = .ok (.iaload, 1) := by decide +kernel
theorem d_L_279 : decode code 279 = .ok (.aload_n 0, 1) := by decide +kernel
theorem d_L_280 : decode code 280 = .ok (.iload_n 3, 1) := by decide +kernel
theorem d_L_281 : decode code 281 = .ok (.iconst 2, 1) := by decide +kernel
theorem d_L_282 : decode code 282 = .ok (.iadd, 1) := by decide +kernel
theorem d_L_283 : decode code 283 = .ok (.iaload, 1) := by decide +kernel
theorem d_L_284 : decode code 284 = .ok (.aload_n 0, 1) := by decide +kernel
theorem d_L_285 : decode code 285 = .ok (.iload_n 3, 1) := by decide +kernel
theorem d_L_286 : decode code 286 = .ok (.iconst 3, 1) := by decide +kernel
theorem d_L_287 : decode code 287 = .ok (.iadd, 1) := by decide +kernel
theorem d_L_288 : decode code 288 = .ok (.iaload, 1) := by decide +kernel
theorem d_L_289 : decode code 289 = .ok (.aload_n 0, 1) := by decide +kernel
theorem d_L_290 : decode code 290 = .ok (.iload_n 3, 1) := by decide +kernel
theorem d_L_291 : decode code 291 = .ok (.iconst 4, 1) := by decide +kernel
theorem d_L_292 : decode code 292 = .ok (.iadd, 1) := by decide +kernel
theorem d_L_293 : decode code 293 = .ok (.iaload, 1) := by decide +kernel
theorem d_L_294 : decode code 294 = .ok (.invokevirtual 28, 3) := by decide +kernel
theorem d_L_297 : decode code 297 = .ok (.aload_n 2, 1) := by decide +kernel
theorem d_L_298 : decode code 298 = .ok (.aload_n 0, 1) := by decide +kernel
theorem d_L_299 : decode code 299 = .ok (.iload_n 3, 1) := by decide +kernel
theorem d_L_300 : decode code 300 = .ok (.iconst 1, 1) := by decide +kernel
theorem d_L_301 : decode code 301 = .ok (.iadd, 1) := by decide +kernel
theorem d_L_302 : decode code 302 = .ok (.iaload, 1) := by decide +kernel
theorem d_L_303 : decode code 303 = .ok (.aload_n 0, 1) := by decide +kernel
theorem d_L_304 : decode code 304 = .ok (.iload_n 3, 1) := by decide +kernel
theorem d_L_305 : decode code 305 = .ok (.iconst 2, 1) := by decide +kernel
theorem d_L_306 : decode code 306 = .ok (.iadd, 1) := by decide +kernel
theorem d_L_307 : decode code 307 = .ok (.iaload, 1) := by decide +kernel
theorem d_L_308 : decode code 308 = .ok (.aload_n 0, 1) := by decide +kernel
theorem d_L_309 : decode code 309 = .ok (.iload_n 3, 1) := by decide +kernel
theorem d_L_310 : decode code 310 = .ok (.iconst 3, 1) := by decide +kernel
theorem d_L_311 : decode code 311 = .ok (.iadd, 1) := by decide +kernel
theorem d_L_312 : decode code 312 = .ok (.iaload, 1) := by decide +kernel
theorem d_L_313 : decode code 313 = .ok (.aload_n 0, 1) := by decide +kernel
theorem d_L_314 : decode code 314 = .ok (.iload_n 3, 1) := by decide +kernel
theorem d_L_315 : decode code 315 = .ok (.iconst 4, 1) := by decide +kernel
theorem d_L_316 : decode code 316 = .ok (.iadd, 1) := by decide +kernel
theorem d_L_317 : decode code 317 = .ok (.iaload, 1) := by decide +kernel
theorem d_L_318 : decode code 318 = .ok (.invokevirtual 31, 3) := by decide +kernel
theorem d_L_321 : decode code 321 = .ok (.if_icmp .eq 383, 3) := by decide +kernel
theorem d_L_324 : decode code 324 = .ok (.iconst 0, 1) := by decide +kernel
theorem d_L_325 : decode code 325 = .ok (.ireturn, 1) := by decide +kernel
theorem d_L_326 : decode code 326 = .ok (.aload_n 1, 1) := by decide +kernel
theorem d_L_327 : decode code 327 = .ok (.aload_n 0, 1) := by decide +kernel
theorem d_L_328 : decode code 328 = .ok (.iload_n 3, 1) := by decide +kernel
theorem d_L_329 : decode code 329 = .ok (.iconst 1, 1) := by decide +kernel
theorem d_L_330 : decode code 330 = .ok (.iadd, 1) := by decide +kernel
theorem d_L_331 : decode code 331 = .ok (.iaload, 1) := by decide +kernel
theorem d_L_332 : decode code 332 = .ok (.aload_n 0, 1) := by decide +kernel
theorem d_L_333 : decode code 333 = .ok (.iload_n 3, 1) := by decide +kernel
theorem d_L_334 : decode code 334 = .ok (.iconst 2, 1) := by decide +kernel
theorem d_L_335 : decode code 335 = .ok (.iadd, 1) := by decide +kernel
theorem d_L_336 : decode code 336 = .ok (.iaload, 1) := by decide +kernel
theorem d_L_337 : decode code 337 = .ok (.invokevirtual 32, 3) := by decide +kernel
theorem d_L_340 : decode code 340 = .ok (.aload_n 2, 1) := by decide +kernel
theorem d_L_341 : decode code 341 = .ok (.aload_n 0, 1) := by decide +kernel
theorem d_L_342 : decode code 342 = .ok (.iload_n 3, 1) := by decide +kernel
theorem d_L_343 : decode code 343 = .ok (.iconst 1, 1) := by decide +kernel
theorem d_L_344 : decode code 344 = .ok (.iadd, 1) := by decide +kernel
theorem d_L_345 : decode code 345 = .ok (.iaload, 1) := by decide +kernel
theorem d_L_346 : decode code 346 = .ok (.aload_n 0, 1) := by decide +kernel
theorem d_L_347 : decode code 347 = .ok (.iload_n 3, 1) := by decide +kernel
theorem d_L_348 : decode code 348 = .ok (.iconst 2, 1) := by decide +kernel
theorem d_L_349 : decode code 349 = .ok (.iadd, 1) := by decide +kernel
theorem d_L_350 : decode code 350 = .ok (.iaload, 1) := by decide +kernel
theorem d_L_351 : decode code 351 = .ok (.invokevirtual 35, 3) := by decide +kernel
theorem d_L_354 : decode code 354 = .ok (.if_icmp .eq 350, 3) := by decide +kernel
theorem d_L_357 : decode code 357 = .ok (.iconst 0, 1) := by decide +kernel
theorem d_L_358 : decode code 358 = .ok (.ireturn, 1) := by decide +kernel
theorem d_L_359 : decode code 359 = .ok (.aload_n 1, 1) := by decide +kernel
theorem d_L_360 : decode code 360 = .ok (.aload_n 0, 1) := by decide +kernel
theorem d_L_361 : decode code 361 = .ok (.iload_n 3, 1) := by decide +kernel
theorem d_L_362 : decode code 362 = .ok (.iconst 1, 1) := by decide +kernel
theorem d_L_363 : decode code 363 = .ok (.iadd, 1) := by decide +kernel
theorem d_L_364 : decode code 364 = .ok (.iaload, 1) := by decide +kernel
theorem d_L_365 : decode code 365 = .ok (.aload_n 0, 1) := by decide +kernel
theorem d_L_366 : decode code 366 = .ok (.iload_n 3, 1) := by decide +kernel
theorem d_L_367 : decode code 367 = .ok (.iconst 2, 1) := by decide +kernel
theorem d_L_368 : decode code 368 = .ok (.iadd, 1) := by decide +kernel
theorem d_L_369 : decode code 369 = .ok (.iaload, 1) := by decide +kernel
theorem d_L_370 : decode code 370 = .ok (.invokevirtual 36, 3) := by decide +kernel
theorem d_L_373 : decode code 373 = .ok (.aload_n 2, 1) := by decide +kernel
theorem d_L_374 : decode code 374 = .ok (.aload_n 0, 1) := by decide +kernel
theorem d_L_375 : decode code 375 = .ok (.iload_n 3, 1) := by decide +kernel
theorem d_L_376 : decode code 376 = .ok (.iconst 1, 1) := by decide +kernel
theorem d_L_377 : decode code 377 = .ok (.iadd, 1) := by decide +kernel
theorem d_L_378 : decode code 378 = .ok (.iaload, 1) := by decide +kernel
theorem d_L_379 : decode code 379 = .ok (.aload_n 0, 1) := by decide +kernel
theorem d_L_380 : decode code 380 = .ok (.iload_n 3, 1) := by decide +kernel
theorem d_L_381 : decode code 381 = .ok (.iconst 2, 1) := by decide +kernel
theorem d_L_382 : decode code 382 = .ok (.iadd, 1) := by decide +kernel
theorem d_L_383 : decode code 383 = .ok (.iaload, 1) := by decide +kernel
theorem d_L_384 : decode code 384 = .ok (.invokevirtual 39, 3) := by decide +kernel
theorem d_L_387 : decode code 387 = .ok (.if_icmp .eq 317, 3) := by decide +kernel
theorem d_L_390 : decode code 390 = .ok (.iconst 0, 1) := by decide +kernel
theorem d_L_391 : decode code 391 = .ok (.ireturn, 1) := by decide +kernel
theorem d_L_392 : decode code 392 = .ok (.aload_n 1, 1) := by decide +kernel
theorem d_L_393 : decode code 393 = .ok (.aload_n 0, 1) := by decide +kernel
theorem d_L_394 : decode code 394 = .ok (.iload_n 3, 1) := by decide +kernel
theorem d_L_395 : decode code 395 = .ok (.iconst 1, 1) := by decide +kernel
theorem d_L_396 : decode code 396 = .ok (.iadd, 1) := by decide +kernel
theorem d_L_397 : decode code 397 = .ok (.iaload, 1) := by decide +kernel
theorem d_L_398 : decode code 398 = .ok (.aload_n 0, 1) := by decide +kernel
theorem d_L_399 : decode code 399 = .ok (.iload_n 3, 1) := by decide +kernel
theorem d_L_400 : decode code 400 = .ok (.iconst 2, 1) := by decide +kernel
theorem d_L_401 : decode code 401 = .ok (.iadd, 1) := by decide +kernel
theorem d_L_402 : decode code 402 = .ok (.iaload, 1) := by decide +kernel
theorem d_L_403 : decode code 403 = .ok (.invokevirtual 40, 3) := by decide +kernel
theorem d_L_406 : decode code 406 = .ok (.aload_n 2, 1) := by decide +kernel
theorem d_L_407 : decode code 407 = .ok (.aload_n 0, 1) := by decide +kernel
theorem d_L_408 : decode code 408 = .ok (.iload_n 3, 1) := by decide +kernel
theorem d_L_409 : decode code 409 = .ok (.iconst 1, 1) := by decide +kernel
theorem d_L_410 : decode code 410 = .ok (.iadd, 1) := by decide +kernel
theorem d_L_411 : decode code 411 = .ok (.iaload, 1) := by decide +kernel
theorem d_L_412 : decode code 412 = .ok (.aload_n 0, 1) := by decide +kernel
theorem d_L_413 : decode code 413 = .ok (.iload_n 3, 1) := by decide +kernel
theorem d_L_414 : decode code 414 = .ok (.iconst 2, 1) := by decide +kernel
theorem d_L_415 : decode code 415 = .ok (.iadd, 1) := by decide +kernel
theorem d_L_416 : decode code 416 = .ok (.iaload, 1) := by decide +kernel
theorem d_L_417 : decode code 417 = .ok (.invokevirtual 43, 3) := by decide +kernel
theorem d_L_420 : decode code 420 = .ok (.if_icmp .eq 284, 3) := by decide +kernel
theorem d_L_423 : decode code 423 = .ok (.iconst 0, 1) := by decide +kernel
theorem d_L_424 : decode code 424 = .ok (.ireturn, 1) := by decide +kernel
theorem d_L_425 : decode code 425 = .ok (.aload_n 1, 1) := by decide +kernel
theorem d_L_426 : decode code 426 = .ok (.aload_n 0, 1) := by decide +kernel
theorem d_L_427 : decode code 427 = .ok (.iload_n 3, 1) := by decide +kernel
theorem d_L_428 : decode code 428 = .ok (.iconst 1, 1) := by decide +kernel
theorem d_L_429 : decode code 429 = .ok (.iadd, 1) := by decide +kernel
theorem d_L_430 : decode code 430 = .ok (.iaload, 1) := by decide +kernel
theorem d_L_431 : decode code 431 = .ok (.invokevirtual 44, 3) := by decide +kernel
theorem d_L_434 : decode code 434 = .ok (.aload_n 2, 1) := by decide +kernel
theorem d_L_435 : decode code 435 = .ok (.aload_n 0, 1) := by decide +kernel
theorem d_L_436 : decode code 436 = .ok (.iload_n 3, 1) := by decide +kernel
theorem d_L_437 : decode code 437 = .ok (.iconst 1, 1) := by decide +kernel
theorem d_L_438 : decode code 438 = .ok (.iadd, 1) := by decide +kernel
theorem d_L_439 : decode code 439 = .ok (.iaload, 1) := by decide +kernel
theorem d_L_440 : decode code 440 = .ok (.invokevirtual 48, 3) := by decide +kernel
theorem d_L_443 : decode code 443 = .ok (.if_icmp .eq 261, 3) := by decide +kernel
theorem d_L_446 : decode code 446 = .ok (.iconst 0, 1) := by decide +kernel
theorem d_L_447 : decode code 447 = .ok (.ireturn, 1) := by decide +kernel
theorem d_L_448 : decode code 448 = .ok (.aload_n 1, 1) := by decide +kernel
theorem d_L_449 : decode code 449 = .ok (.aload_n 0, 1) := by decide +kernel
theorem d_L_450 : decode code 450 = .ok (.iload_n 3, 1) := by decide +kernel
theorem d_L_451 : decode code 451 = .ok (.iconst 1, 1) := by decide +kernel
theorem d_L_452 : decode code 452 = .ok (.iadd, 1) := by decide +kernel
theorem d_L_453 : decode code 453 = .ok (.iaload, 1) := by decide +kernel
theorem d_L_454 : decode code 454 = .ok (.aload_n 0, 1) := by decide +kernel
theorem d_L_455 : decode code 455 = .ok (.iload_n 3, 1) := by decide +kernel
theorem d_L_456 : decode code 456 = .ok (.iconst 2, 1) := by decide +kernel
theorem d_L_457 : decode code 457 = .ok (.iadd, 1) := by decide +kernel
theorem d_L_458 : decode code 458 = .ok (.iaload, 1) := by decide +kernel
theorem d_L_459 : decode code 459 = .ok (.invokevirtual 49, 3) := by decide +kernel
theorem d_L_462 : decode code 462 = .ok (.aload_n 2, 1) := by decide +kernel
theorem d_L_463 : decode code 463 = .ok (.aload_n 0, 1) := by decide +kernel
theorem d_L_464 : decode code 464 = .ok (.iload_n 3, 1) := by decide +kernel
theorem d_L_465 : decode code 465 = .ok (.iconst 1, 1) := by decide +kernel
theorem d_L_466 : decode code 466 = .ok (.iadd, 1) := by decide +kernel
theorem d_L_467 : decode code 467 = .ok (.iaload, 1) := by decide +kernel
theorem d_L_468 : decode code 468 = .ok (.aload_n 0, 1) := by decide +kernel
theorem d_L_469 : decode code 469 = .ok (.iload_n 3, 1) := by decide +kernel
theorem d_L_470 : decode code 470 = .ok (.iconst 2, 1) := by decide +kernel
theorem d_L_471 : decode code 471 = .ok (.iadd, 1) := by decide +kernel
theorem d_L_472 : decode code 472 = .ok (.iaload, 1) := by decide +kernel
theorem d_L_473 : decode code 473 = .ok (.invokevirtual 52, 3) := by decide +kernel
theorem d_L_476 : decode code 476 = .ok (.if_icmp .eq 228, 3) := by decide +kernel
theorem d_L_479 : decode code 479 = .ok (.iconst 0, 1) := by decide +kernel
theorem d_L_480 : decode code 480 = .ok (.ireturn, 1) := by decide +kernel
theorem d_L_481 : decode code 481 = .ok (.aload_n 1, 1) := by decide +kernel
theorem d_L_482 : decode code 482 = .ok (.aload_n 0, 1) := by decide +kernel
theorem d_L_483 : decode code 483 = .ok (.iload_n 3, 1) := by decide +kernel
theorem d_L_484 : decode code 484 = .ok (.iconst 1, 1) := by decide +kernel
theorem d_L_485 : decode code 485 = .ok (.iadd, 1) := by decide +kernel
theorem d_L_486 : decode code 486 = .ok (.iaload, 1) := by decide +kernel
theorem d_L_487 : decode code 487 = .ok (.invokevirtual 53, 3) := by decide +kernel
theorem d_L_490 : decode code 490 = .ok (.aload_n 2, 1) := by decide +kernel
theorem d_L_491 : decode code 491 = .ok (.aload_n 0, 1) := by decide +kernel
theorem d_L_492 : decode code 492 = .ok (.iload_n 3, 1) := by decide +kernel
theorem d_L_493 : decode code 493 = .ok (.iconst 1, 1) := by decide +kernel
theorem d_L_494 : decode code 494 = .ok (.iadd, 1) := by decide +kernel
theorem d_L_495 : decode code 495 = .ok (.iaload, 1) := by decide +kernel
theorem d_L_496 : decode code 496 = .ok (.invokevirtual 56, 3) := by decide +kernel
theorem d_L_499 : decode code 499 = .ok (.if_icmp .eq 205, 3) := by decide +kernel
theorem d_L_502 : decode code 502 = .ok (.iconst 0, 1) := by decide +kernel
theorem d_L_503 : decode code 503 = .ok (.ireturn, 1) := by decide +kernel
theorem d_L_504 : decode code 504 = .ok (.aload_n 1, 1) := by decide +kernel
theorem d_L_505 : decode code 505 = .ok (.aload_n 0, 1) := by decide +kernel
theorem d_L_506 : decode code 506 = .ok (.iload_n 3, 1) := by decide +kernel
theorem d_L_507 : decode code 507 = .ok (.iconst 1, 1) := by decide +kernel
theorem d_L_508 : decode code 508 = .ok (.iadd, 1) := by decide +kernel
theorem d_L_509 : decode code 509 = .ok (.iaload, 1) := by decide +kernel
theorem d_L_510 : decode code 510 = .ok (.invokevirtual 57, 3) := by decide +kernel
theorem d_L_513 : decode code 513 = .ok (.aload_n 2, 1) := by decide +kernel
theorem d_L_514 : decode code 514 = .ok (.aload_n 0, 1) := by decide +kernel
theorem d_L_515 : decode code 515 = .ok (.iload_n 3, 1) := by decide +kernel
theorem d_L_516 : decode code 516 = .ok (.iconst 1, 1) := by decide +kernel
theorem d_L_517 : decode code 517 = .ok (.iadd, 1) := by decide +kernel
theorem d_L_518 : decode code 518 = .ok (.iaload, 1) := by decide +kernel
theorem d_L_519 : decode code 519 = .ok (.invokevirtual 60, 3) := by decide +kernel
theorem d_L_522 : decode code 522 = .ok (.if_icmp .eq 182, 3) := by decide +kernel
theorem d_L_525 : decode code 525 = .ok (.iconst 0, 1) := by decide +kernel
theorem d_L_526 : decode code 526 = .ok (.ireturn, 1) := by decide +kernel
theorem d_L_527 : decode code 527 = .ok (.aload_n 1, 1) := by decide +kernel
theorem d_L_528 : decode code 528 = .ok (.invokevirtual 61, 3) := by decide +kernel
theorem d_L_531 : decode code 531 = .ok (.aload_n 2, 1) := by decide +kernel
theorem d_L_532 : decode code 532 = .ok (.invokevirtual 65, 3) := by decide +kernel
theorem d_L_535 : decode code 535 = .ok (.if_icmp .eq 169, 3) := by decide +kernel
theorem d_L_538 : decode code 538 = .ok (.iconst 0, 1) := by decide +kernel
theorem d_L_539 : decode code 539 = .ok (.ireturn, 1) := by decide +kernel
theorem d_L_540 : decode code 540 = .ok (.aload_n 1, 1) := by decide +kernel
theorem d_L_541 : decode code 541 = .ok (.aload_n 0, 1) := by decide +kernel
theorem d_L_542 : decode code 542 = .ok (.iload_n 3, 1) := by decide +kernel
theorem d_L_543 : decode code 543 = .ok (.iconst 1, 1) := by decide +kernel
theorem d_L_544 : decode code 544 = .ok (.iadd, 1) := by decide +kernel
theorem d_L_545 : decode code 545 = .ok (.iaload, 1) := by decide +kernel
theorem d_L_546 : decode code 546 = .ok (.aload_n 0, 1) := by decide +kernel
theorem d_L_547 : decode code 547 = .ok (.iload_n 3, 1) := by decide +kernel
theorem d_L_548 : decode code 548 = .ok (.iconst 2, 1) := by decide +kernel
theorem d_L_549 : decode code 549 = .ok (.iadd, 1) := by decide +kernel
theorem d_L_550 : decode code 550 = .ok (.iaload, 1) := by decide +kernel
theorem d_L_551 : decode code 551 = .ok (.invokevirtual 66, 3) := by decide +kernel
theorem d_L_554 : decode code 554 = .ok (.aload_n 2, 1) := by decide +kernel
theorem d_L_555 : decode code 555 = .ok (.aload_n 0, 1) := by decide +kernel
theorem d_L_556 : decode code 556 = .ok (.iload_n 3, 1) := by decide +kernel
theorem d_L_557 : decode code 557 = .ok (.iconst 1, 1) := by decide +kernel
theorem d_L_558 : decode code 558 = .ok (.iadd, 1) := by decide +kernel
theorem d_L_559 : decode code 559 = .ok (.iaload, 1) := by decide +kernel
theorem d_L_560 : decode code 560 = .ok (.aload_n 0, 1) := by decide +kernel
theorem d_L_561 : decode code 561 = .ok (.iload_n 3, 1) := by decide +kernel
theorem d_L_562 : decode code 562 = .ok (.iconst 2, 1) := by decide +kernel
theorem d_L_563 : decode code 563 = .ok (.iadd, 1) := by decide +kernel
theorem d_L_564 : decode code 564 = .ok (.iaload, 1) := by decide +kernel
theorem d_L_565 : decode code 565 = .ok (.invokevirtual 69, 3) := by decide +kernel
theorem d_L_568 : decode code 568 = .ok (.if_icmp .eq 136, 3) := by decide +kernel
theorem d_L_571 : decode code 571 = .ok (.iconst 0, 1) := by decide +kernel
theorem d_L_572 : decode code 572 = .ok (.ireturn, 1) := by decide +kernel
theorem d_L_573 : decode code 573 = .ok (.aload_n 1, 1) := by decide +kernel
theorem d_L_574 : decode code 574 = .ok (.invokevirtual 70, 3) := by decide +kernel
theorem d_L_577 : decode code 577 = .ok (.aload_n 2, 1) := by decide +kernel
theorem d_L_578 : decode code 578 = .ok (.invokevirtual 73, 3) := by decide +kernel
theorem d_L_581 : decode code 581 = .ok (.if_icmp .eq 123, 3) := by decide +kernel
theorem d_L_584 : decode code 584 = .ok (.iconst 0, 1) := by decide +kernel
theorem d_L_585 : decode code 585 = .ok (.ireturn, 1) := by decide +kernel
theorem d_L_586 : decode code 586 = .ok (.aload_n 1, 1) := by decide +kernel
theorem d_L_587 : decode code 587 = .ok (.aload_n 0, 1) := by decide +kernel
theorem d_L_588 : decode code 588 = .ok (.iload_n 3, 1) := by decide +kernel
theorem d_L_589 : decode code 589 = .ok (.iconst 1, 1) := by decide +kernel
theorem d_L_590 : decode code 590 = .ok (.iadd, 1) := by decide +kernel
theorem d_L_591 : decode code 591 = .ok (.iaload, 1) := by decide +kernel
theorem d_L_592 : decode code 592 = .ok (.aload_n 0, 1) := by decide +kernel
theorem d_L_593 : decode code 593 = .ok (.iload_n 3, 1) := by decide +kernel
theorem d_L_594 : decode code 594 = .ok (.iconst 2, 1) := by decide +kernel
theorem d_L_595 : decode code 595 = .ok (.iadd, 1) := by decide +kernel
theorem d_L_596 : decode code 596 = .ok (.iaload, 1) := by decide +kernel
theorem d_L_597 : decode code 597 = .ok (.invokevirtual 74, 3) := by decide +kernel
theorem d_L_600 : decode code 600 = .ok (.aload_n 2, 1) := by decide +kernel
theorem d_L_601 : decode code 601 = .ok (.aload_n 0, 1) := by decide +kernel
theorem d_L_602 : decode code 602 = .ok (.iload_n 3, 1) := by decide +kernel
theorem d_L_603 : decode code 603 = .ok (.iconst 1, 1) := by decide +kernel
theorem d_L_604 : decode code 604 = .ok (.iadd, 1) := by decide +kernel
theorem d_L_605 : decode code 605 = .ok (.iaload, 1) := by decide +kernel
theorem d_L_606 : decode code 606 = .ok (.aload_n 0, 1) := by decide +kernel
theorem d_L_607 : decode code 607 = .ok (.iload_n 3, 1) := by decide +kernel
theorem d_L_608 : decode code 608 = .ok (.iconst 2, 1) := by decide +kernel
theorem d_L_609 : decode code 609 = .ok (.iadd, 1) := by decide +kernel
theorem d_L_610 : decode code 610 = .ok (.iaload, 1) := by decide +kernel
theorem d_L_611 : decode code 611 = .ok (.invokevirtual 77, 3) := by decide +kernel
theorem d_L_614 : decode code 614 = .ok (.if_icmp .eq 90, 3) := by decide +kernel
theorem d_L_617 : decode code 617 = .ok (.iconst 0, 1) := by decide +kernel
theorem d_L_618 : decode code 618 = .ok (.ireturn, 1) := by decide +kernel
theorem d_L_619 : decode code 619 = .ok (.aload_n 1, 1) := by decide +kernel
theorem d_L_620 : decode code 620 = .ok (.invokevirtual 78, 3) := by decide +kernel
theorem d_L_623 : decode code 623 = .ok (.aload_n 2, 1) := by decide +kernel
theorem d_L_624 : decode code 624 = .ok (.invokevirtual 82, 3) := by decide +kernel
theorem d_L_627 : decode code 627 = .ok (.if_icmp .eq 77, 3) := by decide +kernel
theorem d_L_630 : decode code 630 = .ok (.iconst 0, 1) := by decide +kernel
theorem d_L_631 : decode code 631 = .ok (.ireturn, 1) := by decide +kernel
theorem d_L_632 : decode code 632 = .ok (.aload_n 1, 1) := by decide +kernel
theorem d_L_633 : decode code 633 = .ok (.aload_n 0, 1) := by decide +kernel
theorem d_L_634 : decode code 634 = .ok (.iload_n 3, 1) := by decide +kernel
theorem d_L_635 : decode code 635 = .ok (.iconst 1, 1) := by decide +kernel
theorem d_L_636 : decode code 636 = .ok (.iadd, 1) := by decide +kernel
theorem d_L_637 : decode code 637 = .ok (.iaload, 1) := by decide +kernel
theorem d_L_638 : decode code 638 = .ok (.aload_n 0, 1) := by decide +kernel
theorem d_L_639 : decode code 639 = .ok (.iload_n 3, 1) := by decide +kernel
theorem d_L_640 : decode code 640 = .ok (.iconst 2, 1) := by decide +kernel
theorem d_L_641 : decode code 641 = .ok (.iadd, 1) := by decide +kernel
theorem d_L_642 : decode code 642 = .ok (.iaload, 1) := by decide +kernel
theorem d_L_643 : decode code 643 = .ok (.invokevirtual 83, 3) := by decide +kernel
theorem d_L_646 : decode code 646 = .ok (.aload_n 2, 1) := by decide +kernel
theorem d_L_647 : decode code 647 = .ok (.aload_n 0, 1) := by decide +kernel
theorem d_L_648 : decode code 648 = .ok (.iload_n 3, 1) := by decide +kernel
theorem d_L_649 : decode code 649 = .ok (.iconst 1, 1) := by decide +kernel
theorem d_L_650 : decode code 650 = .ok (.iadd, 1) := by decide +kernel
theorem d_L_651 : decode code 651 = .ok (.iaload, 1) := by decide +kernel
theorem d_L_652 : decode code 652 = .ok (.aload_n 0, 1) := by decide +kernel
theorem d_L_653 : decode code 653 = .ok (.iload_n 3, 1) := by decide +kernel
theorem d_L_654 : decode code 654 = .ok (.iconst 2, 1) := by decide +kernel
theorem d_L_655 : decode code 655 = .ok (.iadd, 1) := by decide +kernel
theorem d_L_656 : decode code 656 = .ok (.iaload, 1) := by decide +kernel
theorem d_L_657 : decode code 657 = .ok (.invokevirtual 87, 3) := by decide +kernel
theorem d_L_660 : decode code 660 = .ok (.if_icmp .eq 44, 3) := by decide +kernel
theorem d_L_663 : decode code 663 = .ok (.iconst 0, 1) := by decide +kernel
theorem d_L_664 : decode code 664 = .ok (.ireturn, 1) := by decide +kernel
theorem d_L_665 : decode code 665 = .ok (.aload_n 1, 1) := by decide +kernel
theorem d_L_666 : decode code 666 = .ok (.invokevirtual 88, 3) := by decide +kernel
theorem d_L_669 : decode code 669 = .ok (.aload_n 2, 1) := by decide +kernel
theorem d_L_670 : decode code 670 = .ok (.invokevirtual 91, 3) := by decide +kernel
theorem d_L_673 : decode code 673 = .ok (.if_icmp .eq 31, 3) := by decide +kernel
theorem d_L_676 : decode code 676 = .ok (.iconst 0, 1) := by decide +kernel
theorem d_L_677 : decode code 677 = .ok (.ireturn, 1) := by decide +kernel
theorem d_L_678 : decode code 678 = .ok (.aload_n 1, 1) := by decide +kernel
theorem d_L_679 : decode code 679 = .ok (.invokevirtual 92, 3) := by decide +kernel
theorem d_L_682 : decode code 682 = .ok (.aload_n 2, 1) := by decide +kernel
theorem d_L_683 : decode code 683 = .ok (.invokevirtual 95, 3) := by decide +kernel
theorem d_L_686 : decode code 686 = .ok (.if_icmp .eq 18, 3) := by decide +kernel
theorem d_L_689 : decode code 689 = .ok (.iconst 0, 1) := by decide +kernel
theorem d_L_690 : decode code 690 = .ok (.ireturn, 1) := by decide +kernel
theorem d_L_691 : decode code 691 = .ok (.aload_n 1, 1) := by decide +kernel
theorem d_L_692 : decode code 692 = .ok (.invokevirtual 96, 3) := by decide +kernel
theorem d_L_695 : decode code 695 = .ok (.aload_n 2, 1) := by decide +kernel
theorem d_L_696 : decode code 696 = .ok (.invokevirtual 99, 3) := by decide +kernel
theorem d_L_699 : decode code 699 = .ok (.if_icmp .eq 5, 3) := by decide +kernel
theorem d_L_702 : decode code 702 = .ok (.iconst 0, 1) := by decide +kernel
theorem d_L_703 : decode code 703 = .ok (.ireturn, 1) := by decide +kernel
theorem d_L_704 : decode code 704 = .ok (.iinc 3 5, 3) := by decide +kernel
theorem d_L_707 : decode code 707 = .ok (.goto (-689), 3) := by decide +kernel
theorem d_L_710 : decode code 710 = .ok (.iconst 1, 1) := by decide +kernel
theorem d_L_711 : decode code 711 = .ok (.ireturn, 1) := by decide +kernel
