/-! ===== 86.law1: cases of the law ===== -/
theorem d_LW_law_0 : decode code 0 = .ok (.new 7, 3) := by decide +kernel
theorem d_LW_law_3 : decode code 3 = .ok (.dup, 1) := by decide +kernel
theorem d_LW_law_4 : decode code 4 = .ok (.invokespecial 9, 3) := by decide +kernel
theorem d_LW_law_7 : decode code 7 = .ok (.astore_n 1, 1) := by decide +kernel
theorem d_LW_law_8 : decode code 8 = .ok (.new 10, 3) := by decide +kernel
theorem d_LW_law_11 : decode code 11 = .ok (.dup, 1) := by decide +kernel
theorem d_LW_law_12 : decode code 12 = .ok (.invokespecial 12, 3) := by decide +kernel
theorem d_LW_law_15 : decode code 15 = .ok (.astore_n 2, 1) := by decide +kernel
theorem d_LW_law_16 : decode code 16 = .ok (.iconst 0, 1) := by decide +kernel
theorem d_LW_law_17 : decode code 17 = .ok (.istore_n 3, 1) := by decide +kernel
theorem d_LW_law_18 : decode code 18 = .ok (.iload_n 3, 1) := by decide +kernel
theorem d_LW_law_19 : decode code 19 = .ok (.aload_n 0, 1) := by decide +kernel
theorem d_LW_law_20 : decode code 20 = .ok (.arraylength, 1) := by decide +kernel
theorem d_LW_law_21 : decode code 21 = .ok (.iconst 3, 1) := by decide +kernel
theorem d_LW_law_22 : decode code 22 = .ok (.isub, 1) := by decide +kernel
theorem d_LW_law_23 : decode code 23 = .ok (.if_icmp .gt 592, 3) := by decide +kernel
theorem d_LW_law_26 : decode code 26 = .ok (.aload_n 0, 1) := by decide +kernel
theorem d_LW_law_27 : decode code 27 = .ok (.iload_n 3, 1) := by decide +kernel
theorem d_LW_law_28 : decode code 28 = .ok (.iaload, 1) := by decide +kernel
theorem d_LW_law_29 : decode code 29 = .ok (.bipush 31, 2) := by decide +kernel
theorem d_LW_law_31 : decode code 31 = .ok (.iand, 1) := by decide +kernel
theorem d_LW_law_32 : decode code 32 = .ok (.tableswitch 577 0 18 #[92, 103, 116, 149, 172, 195, 218, 241, 264, 287, 310, 343, 376, 409, 442, 475, 498, 531, 564], 92) := by decide +kernel
theorem d_LW_law_124 : decode code 124 = .ok (.aload_n 1, 1) := by decide +kernel
theorem d_LW_law_125 : decode code 125 = .ok (.invokevirtual 13, 3) := by decide +kernel
theorem d_LW_law_128 : decode code 128 = .ok (.aload_n 2, 1) := by decide +kernel
theorem d_LW_law_129 : decode code 129 = .ok (.invokevirtual 16, 3) := by decide +kernel
theorem d_LW_law_132 : decode code 132 = .ok (.goto 477, 3) := by decide +kernel
theorem d_LW_law_135 : decode code 135 = .ok (.aload_n 1, 1) := by decide +kernel
theorem d_LW_law_136 : decode code 136 = .ok (.invokevirtual 17, 3) := by decide +kernel
theorem d_LW_law_139 : decode code 139 = .ok (.aload_n 2, 1) := by decide +kernel
theorem d_LW_law_140 : decode code 140 = .ok (.invokevirtual 21, 3) := by decide +kernel
theorem d_LW_law_143 : decode code 143 = .ok (.if_icmp .eq 466, 3) := by decide +kernel
theorem d_LW_law_146 : decode code 146 = .ok (.iconst 0, 1) := by decide +kernel
theorem d_LW_law_147 : decode code 147 = .ok (.ireturn, 1) := by decide +kernel
theorem d_LW_law_148 : decode code 148 = .ok (.aload_n 1, 1) := by decide +kernel
theorem d_LW_law_149 : decode code 149 = .ok (.aload_n 0, 1) := by decide +kernel
theorem d_LW_law_150 : decode code 150 = .ok (.iload_n 3, 1) := by decide +kernel
theorem d_LW_law_151 : decode code 151 = .ok (.iconst 1, 1) := by decide +kernel
theorem d_LW_law_152 : decode code 152 = .ok (.iadd, 1) := by decide +kernel
theorem d_LW_law_153 : decode code 153 = .ok (.iaload, 1) := by decide +kernel
theorem d_LW_law_154 : decode code 154 = .ok (.aload_n 0, 1) := by decide +kernel
theorem d_LW_law_155 : decode code 155 = .ok (.iload_n 3, 1) := by decide +kernel
theorem d_LW_law_156 : decode code 156 = .ok (.iconst 2, 1) := by decide +kernel
theorem d_LW_law_157 : decode code 157 = .ok (.iadd, 1) := by decide +kernel
theorem d_LW_law_158 : decode code 158 = .ok (.iaload, 1) := by decide +kernel
theorem d_LW_law_159 : decode code 159 = .ok (.invokevirtual 22, 3) := by decide +kernel
theorem d_LW_law_162 : decode code 162 = .ok (.aload_n 2, 1) := by decide +kernel
theorem d_LW_law_163 : decode code 163 = .ok (.aload_n 0, 1) := by decide +kernel
theorem d_LW_law_164 : decode code 164 = .ok (.iload_n 3, 1) := by decide +kernel
theorem d_LW_law_165 : decode code 165 = .ok (.iconst 1, 1) := by decide +kernel
theorem d_LW_law_166 : decode code 166 = .ok (.iadd, 1) := by decide +kernel
theorem d_LW_law_167 : decode code 167 = .ok (.iaload, 1) := by decide +kernel
theorem d_LW_law_168 : decode code 168 = .ok (.aload_n 0, 1) := by decide +kernel
theorem d_LW_law_169 : decode code 169 = .ok (.iload_n 3, 1) := by decide +kernel
theorem d_LW_law_170 : decode code 170 = .ok (.iconst 2, 1) := by decide +kernel
theorem d_LW_law_171 : decode code 171 = .ok (.iadd, 1) := by decide +kernel
theorem d_LW_law_172 : decode code 172 = .ok (.iaload, 1) := by decide +kernel
theorem d_LW_law_173 : decode code 173 = .ok (.invokevirtual 26, 3) := by decide +kernel
theorem d_LW_law_176 : decode code 176 = .ok (.if_icmp .eq 433, 3) := by decide +kernel
theorem d_LW_law_179 : decode code 179 = .ok (.iconst 0, 1) := by decide +kernel
theorem d_LW_law_180 : decode code 180 = .ok (.ireturn, 1) := by decide +kernel
theorem d_LW_law_181 : decode code 181 = .ok (.aload_n 1, 1) := by decide +kernel
theorem d_LW_law_182 : decode code 182 = .ok (.aload_n 0, 1) := by decide +kernel
theorem d_LW_law_183 : decode code 183 = .ok (.iload_n 3, 1) := by decide +kernel
theorem d_LW_law_184 : decode code 184 = .ok (.iconst 1, 1) := by decide +kernel
theorem d_LW_law_185 : decode code 185 = .ok (.iadd, 1) := by decide +kernel
theorem d_LW_law_186 : decode code 186 = .ok (.iaload, 1) := by decide +kernel
theorem d_LW_law_187 : decode code 187 = .ok (.invokevirtual 27, 3) := by decide +kernel
theorem d_LW_law_190 : decode code 190 = .ok (.aload_n 2, 1) := by decide +kernel
theorem d_LW_law_191 : decode code 191 = .ok (.aload_n 0, 1) := by decide +kernel
theorem d_LW_law_192 : decode code 192 = .ok (.iload_n 3, 1) := by decide +kernel
theorem d_LW_law_193 : decode code 193 = .ok (.iconst 1, 1) := by decide +kernel
theorem d_LW_law_194 : decode code 194 = .ok (.iadd, 1) := by decide +kernel
theorem d_LW_law_195 : decode code 195 = .ok (.iaload, 1) := by decide +kernel
theorem d_LW_law_196 : decode code 196 = .ok (.invokevirtual 31, 3) := by decide +kernel
theorem d_LW_law_199 : decode code 199 = .ok (.if_icmp .eq 410, 3) := by decide +kernel
theorem d_LW_law_202 : decode code 202 = .ok (.iconst 0, 1) := by decide +kernel
theorem d_LW_law_203 : decode code 203 = .ok (.ireturn, 1) := by decide +kernel
theorem d_LW_law_204 : decode code 204 = .ok (.aload_n 1, 1) := by decide +kernel
theorem d_LW_law_205 : decode code 205 = .ok (.aload_n 0, 1) := by decide +kernel
theorem d_LW_law_206 : decode code 206 = .ok (.iload_n 3, 1) := by decide +kernel
theorem d_LW_law_207 : decode code 207 = .ok (.iconst 1, 1) := by decide +kernel
theorem d_LW_law_208 : decode code 208 = .ok (.iadd, 1) := by decide +kernel
theorem d_LW_law_209 : decode code 209 = .ok (.iaload, 1) := by decide +kernel
theorem d_LW_law_210 : decode code 210 = .ok (.invokevirtual 32, 3) := by decide +kernel
theorem d_LW_law_213 : decode code 213 = .ok (.aload_n 2, 1) := by decide +kernel
theorem d_LW_law_214 : decode code 214 = .ok (.aload_n 0, 1) := by decide +kernel
theorem d_LW_law_215 : decode code 215 = .ok (.iload_n 3, 1) := by decide +kernel
theorem d_LW_law_216 : decode code 216 = .ok (.iconst 1, 1) := by decide +kernel
theorem d_LW_law_217 : decode code 217 = .ok (.iadd, 1) := by decide +kernel
theorem d_LW_law_218 : decode code 218 = .ok (.iaload, 1) := by decide +kernel
theorem d_LW_law_219 : decode code 219 = .ok (.invokevirtual 35, 3) := by decide +kernel
theorem d_LW_law_222 : decode code 222 = .ok (.if_icmp .eq 387, 3) := by decide +kernel
theorem d_LW_law_225 : decode code 225 = .ok (.iconst 0, 1) := by decide +kernel
theorem d_LW_law_226 : decode code 226 = .ok (.ireturn, 1) := by decide +kernel
theorem d_LW_law_227 : decode code 227 = .ok (.aload_n 1, 1) := by decide +kernel
theorem d_LW_law_228 : decode code 228 = .ok (.aload_n 0, 1) := by decide +kernel
theorem d_LW_law_229 : decode code 229 = .ok (.iload_n 3, 1) := by decide +kernel
theorem d_LW_law_230 : decode code 230 = .ok (.iconst 1, 1) := by decide +kernel
theorem d_LW_law_231 : decode code 231 = .ok (.iadd, 1) := by decide +kernel
theorem d_LW_law_232 : decode code 232 = .ok (.iaload, 1) := by decide +kernel
theorem d_LW_law_233 : decode code 233 = .ok (.invokevirtual 36, 3) := by decide +kernel
theorem d_LW_law_236 : decode code 236 = .ok (.aload_n 2, 1) := by decide +kernel
theorem d_LW_law_237 : decode code 237 = .ok (.aload_n 0, 1) := by decide +kernel
theorem d_LW_law_238 : decode code 238 = .ok (.iload_n 3, 1) := by decide +kernel
theorem d_LW_law_239 : decode code 239 = .ok (.iconst 1, 1) := by decide +kernel
theorem d_LW_law_240 : decode code 240 = .ok (.iadd, 1) := by decide +kernel
theorem d_LW_law_241 : decode code 241 = .ok (.iaload, 1) := by decide +kernel
theorem d_LW_law_242 : decode code 242 = .ok (.invokevirtual 39, 3) := by decide +kernel
theorem d_LW_law_245 : decode code 245 = .ok (.if_icmp .eq 364, 3) := by decide +kernel
theorem d_LW_law_248 : decode code 248 = .ok (.iconst 0, 1) := by decide +kernel
theorem d_LW_law_249 : decode code 249 = .ok (.ireturn, 1) := by decide +kernel
theorem d_LW_law_250 : decode code 250 = .ok (.aload_n 1, 1) := by decide +kernel
theorem d_LW_law_251 : decode code 251 = .ok (.aload_n 0, 1) := by decide +kernel
theorem d_LW_law_252 : decode code 252 = .ok (.iload_n 3, 1) := by decide +kernel
theorem d_LW_law_253 : decode code 253 = .ok (.iconst 1, 1) := by decide +kernel
theorem d_LW_law_254 : decode code 254 = .ok (.iadd, 1) := by decide +kernel
theorem d_LW_law_255 : decode code 255 = .ok (.iaload, 1) := by decide +kernel
theorem d_LW_law_256 : decode code 256 = .ok (.invokevirtual 40, 3) := by decide +kernel
theorem d_LW_law_259 : decode code 259 = .ok (.aload_n 2, 1) := by decide +kernel
theorem d_LW_law_260 : decode code 260 = .ok (.aload_n 0, 1) := by decide +kernel
theorem d_LW_law_261 : decode code 261 = .ok (.iload_n 3, 1) := by decide +kernel
theorem d_LW_law_262 : decode code 262 = .ok (.iconst 1, 1) := by decide +kernel
theorem d_LW_law_263 : decode code 263 = .ok (.iadd, 1) := by decide +kernel
theorem d_LW_law_264 : decode code 264 = .ok (.iaload, 1) := by decide +kernel
theorem d_LW_law_265 : decode code 265 = .ok (.invokevirtual 43, 3) := by decide +kernel
theorem d_LW_law_268 : decode code 268 = .ok (.if_icmp .eq 341, 3) := by decide +kernel
theorem d_LW_law_271 : decode code 271 = .ok (.iconst 0, 1) := by decide +kernel
theorem d_LW_law_272 : decode code 272 = .ok (.ireturn, 1) := by decide +kernel
theorem d_LW_law_273 : decode code 273 = .ok (.aload_n 1, 1) := by decide +kernel
theorem d_LW_law_274 : decode code 274 = .ok (.aload_n 0, 1) := by decide +kernel
theorem d_LW_law_275 : decode code 275 = .ok (.iload_n 3, 1) := by decide +kernel
theorem d_LW_law_276 : decode code 276 = .ok (.iconst 1, 1) := by decide +kernel
theorem d_LW_law_277 : decode code 277 = .ok (.iadd, 1) := by decide +kernel
theorem d_LW_law_278 : decode code 278 = .ok (.iaload, 1) := by decide +kernel
theorem d_LW_law_279 : decode code 279 = .ok (.invokevirtual 44, 3) := by decide +kernel
theorem d_LW_law_282 : decode code 282 = .ok (.aload_n 2, 1) := by decide +kernel
theorem d_LW_law_283 : decode code 283 = .ok (.aload_n 0, 1) := by decide +kernel
theorem d_LW_law_284 : decode code 284 = .ok (.iload_n 3, 1) := by decide +kernel
theorem d_LW_law_285 : decode code 285 = .ok (.iconst 1, 1) := by decide +kernel
theorem d_LW_law_286 : decode code 286 = .ok (.iadd, 1) := by decide +kernel
theorem d_LW_law_287 : decode code 287 = .ok (.iaload, 1) := by decide +kernel
theorem d_LW_law_288 : decode code 288 = .ok (.invokevirtual 47, 3) := by decide +kernel
theorem d_LW_law_291 : decode code 291 = .ok (.if_icmp .eq 318, 3) := by decide +kernel
theorem d_LW_law_294 : decode code 294 = .ok (.iconst 0, 1) := by decide +kernel
theorem d_LW_law_295 : decode code 295 = .ok (.ireturn, 1) := by decide +kernel
theorem d_LW_law_296 : decode code 296 = .ok (.aload_n 1, 1) := by decide +kernel
theorem d_LW_law_297 : decode code 297 = .ok (.aload_n 0, 1) := by decide +kernel
theorem d_LW_law_298 : decode code 298 = .ok (.iload_n 3, 1) := by decide +kernel
theorem d_LW_law_299 : decode code 299 = .ok (.iconst 1, 1) := by decide +kernel
theorem d_LW_law_300 : decode code 300 = .ok (.iadd, 1) := by decide +kernel
theorem d_LW_law_301 : decode code 301 = .ok (.iaload, 1) := by decide +kernel
theorem d_LW_law_302 : decode code 302 = .ok (.invokevirtual 48, 3) := by decide +kernel
theorem d_LW_law_305 : decode code 305 = .ok (.aload_n 2, 1) := by decide +kernel
theorem d_LW_law_306 : decode code 306 = .ok (.aload_n 0, 1) := by decide +kernel
theorem d_LW_law_307 : decode code 307 = .ok (.iload_n 3, 1) := by decide +kernel
theorem d_LW_law_308 : decode code 308 = .ok (.iconst 1, 1) := by decide +kernel
theorem d_LW_law_309 : decode code 309 = .ok (.iadd, 1) := by decide +kernel
theorem d_LW_law_310 : decode code 310 = .ok (.iaload, 1) := by decide +kernel
theorem d_LW_law_311 : decode code 311 = .ok (.invokevirtual 51, 3) := by decide +kernel
theorem d_LW_law_314 : decode code 314 = .ok (.if_icmp .eq 295, 3) := by decide +kernel
theorem d_LW_law_317 : decode code 317 = .ok (.iconst 0, 1) := by decide +kernel
theorem d_LW_law_318 : decode code 318 = .ok (.ireturn, 1) := by decide +kernel
theorem d_LW_law_319 : decode code 319 = .ok (.aload_n 1, 1) := by decide +kernel
theorem d_LW_law_320 : decode code 320 = .ok (.aload_n 0, 1) := by decide +kernel
theorem d_LW_law_321 : decode code 321 = .ok (.iload_n 3, 1) := by decide +kernel
theorem d_LW_law_322 : decode code 322 = .ok (.iconst 1, 1) := by decide +kernel
theorem d_LW_law_323 : decode code 323 = .ok (.iadd, 1) := by decide +kernel
theorem d_LW_law_324 : decode code 324 = .ok (.iaload, 1) := by decide +kernel
theorem d_LW_law_325 : decode code 325 = .ok (.invokevirtual 52, 3) := by decide +kernel
theorem d_LW_law_328 : decode code 328 = .ok (.aload_n 2, 1) := by decide +kernel
theorem d_LW_law_329 : decode code 329 = .ok (.aload_n 0, 1) := by decide +kernel
theorem d_LW_law_330 : decode code 330 = .ok (.iload_n 3, 1) := by decide +kernel
theorem d_LW_law_331 : decode code 331 = .ok (.iconst 1, 1) := by decide +kernel
theorem d_LW_law_332 : decode code 332 = .ok (.iadd, 1) := by decide +kernel
theorem d_LW_law_333 : decode code 333 = .ok (.iaload, 1) := by decide +kernel
theorem d_LW_law_334 : decode code 334 = .ok (.invokevirtual 55, 3) := by decide +kernel
theorem d_LW_law_337 : decode code 337 = .ok (.if_icmp .eq 272, 3) := by decide +kernel
theorem d_LW_law_340 : decode code 340 = .ok (.iconst 0, 1) := by decide +kernel
theorem d_LW_law_341 : decode code 341 = .ok (.ireturn, 1) := by decide +kernel
theorem d_LW_law_342 : decode code 342 = .ok (.aload_n 1, 1) := by decide +kernel
theorem d_LW_law_343 : decode code 343 = .ok (.aload_n 0, 1) := by decide +kernel
theorem d_LW_law_344 : decode code 344 = .ok (.iload_n 3, 1) := by decide +kernel
theorem d_LW_law_345 : decode code 345 = .ok (.iconst 1, 1) := by decide +kernel
theorem d_LW_law_346 : decode code 346 = .ok (.iadd, 1) := by decide +kernel
theorem d_LW_law_347 : decode code 347 = .ok (.iaload, 1) := by decide +kernel
theorem d_LW_law_348 : decode code 348 = .ok (.aload_n 0, 1) := by decide +kernel
theorem d_LW_law_349 : decode code 349 = .ok (.iload_n 3, 1) := by decide +kernel
theorem d_LW_law_350 : decode code 350 = .ok (.iconst 2, 1) := by decide +kernel
theorem d_LW_law_351 : decode code 351 = .ok (.iadd, 1) := by decide +kernel
theorem d_LW_law_352 : decode code 352 = .ok (.iaload, 1) := by decide +kernel
theorem d_LW_law_353 : decode code 353 = .ok (.invokevirtual 56, 3) := by decide +kernel
theorem d_LW_law_356 : decode code 356 = .ok (.aload_n 2, 1) := by decide +kernel
theorem d_LW_law_357 : decode code 357 = .ok (.aload_n 0, 1) := by decide +kernel
theorem d_LW_law_358 : decode code 358 = .ok (.iload_n 3, 1) := by decide +kernel
theorem d_LW_law_359 : decode code 359 = .ok (.iconst 1, 1) := by decide +kernel
theorem d_LW_law_360 : decode code 360 = .ok (.iadd, 1) := by decide +kernel
theorem d_LW_law_361 : decode code 361 = .ok (.iaload, 1) := by decide +kernel
theorem d_LW_law_362 : decode code 362 = .ok (.aload_n 0, 1) := by decide +kernel
theorem d_LW_law_363 : decode code 363 = .ok (.iload_n 3, 1) := by decide +kernel
theorem d_LW_law_364 : decode code 364 = .ok (.iconst 2, 1) := by decide +kernel
theorem d_LW_law_365 : decode code 365 = .ok (.iadd, 1) := by decide +kernel
theorem d_LW_law_366 : decode code 366 = .ok (.iaload, 1) := by decide +kernel
theorem d_LW_law_367 : decode code 367 = .ok (.invokevirtual 59, 3) := by decide +kernel
theorem d_LW_law_370 : decode code 370 = .ok (.if_icmp .eq 239, 3) := by decide +kernel
theorem d_LW_law_373 : decode code 373 = .ok (.iconst 0, 1) := by decide +kernel
theorem d_LW_law_374 : decode code 374 = .ok (.ireturn, 1) := by decide +kernel
theorem d_LW_law_375 : decode code 375 = .ok (.aload_n 1, 1) := by decide +kernel
theorem d_LW_law_376 : decode code 376 = .ok (.aload_n 0, 1) := by decide +kernel
theorem d_LW_law_377 : decode code 377 = .ok (.iload_n 3, 1) := by decide +kernel
theorem d_LW_law_378 : decode code 378 = .ok (.iconst 1, 1) := by decide +kernel
theorem d_LW_law_379 : decode code 379 = .ok (.iadd, 1) := by decide +kernel
theorem d_LW_law_380 : decode code 380 = .ok (.iaload, 1) := by decide +kernel
theorem d_LW_law_381 : decode code 381 = .ok (.aload_n 0, 1) := by decide +kernel
theorem d_LW_law_382 : decode code 382 = .ok (.iload_n 3, 1) := by decide +kernel
theorem d_LW_law_383 : decode code 383 = .ok (.iconst 2, 1) := by decide +kernel
theorem d_LW_law_384 : decode code 384 = .ok (.iadd, 1) := by decide +kernel
theorem d_LW_law_385 : decode code 385 = .ok (.iaload, 1) := by decide +kernel
theorem d_LW_law_386 : decode code 386 = .ok (.invokevirtual 60, 3) := by decide +kernel
theorem d_LW_law_389 : decode code 389 = .ok (.aload_n 2, 1) := by decide +kernel
theorem d_LW_law_390 : decode code 390 = .ok (.aload_n 0, 1) := by decide +kernel
theorem d_LW_law_391 : decode code 391 = .ok (.iload_n 3, 1) := by decide +kernel
theorem d_LW_law_392 : decode code 392 = .ok (.iconst 1, 1) := by decide +kernel
theorem d_LW_law_393 : decode code 393 = .ok (.iadd, 1) := by decide +kernel
theorem d_LW_law_394 : decode code 394 = .ok (.iaload, 1) := by decide +kernel
theorem d_LW_law_395 : decode code 395 = .ok (.aload_n 0, 1) := by decide +kernel
theorem d_LW_law_396 : decode code 396 = .ok (.iload_n 3, 1) := by decide +kernel
theorem d_LW_law_397 : decode code 397 = .ok (.iconst 2, 1) := by decide +kernel
theorem d_LW_law_398 : decode code 398 = .ok (.iadd, 1) := by decide +kernel
theorem d_LW_law_399 : decode code 399 = .ok (.iaload, 1) := by decide +kernel
theorem d_LW_law_400 : decode code 400 = .ok (.invokevirtual 63, 3) := by decide +kernel
theorem d_LW_law_403 : decode code 403 = .ok (.if_icmp .eq 206, 3) := by decide +kernel
theorem d_LW_law_406 : decode code 406 = .ok (.iconst 0, 1) := by decide +kernel
theorem d_LW_law_407 : decode code 407 = .ok (.ireturn, 1) := by decide +kernel
theorem d_LW_law_408 : decode code 408 = .ok (.aload_n 1, 1) := by decide +kernel
theorem d_LW_law_409 : decode code 409 = .ok (.aload_n 0, 1) := by decide +kernel
theorem d_LW_law_410 : decode code 410 = .ok (.iload_n 3, 1) := by decide +kernel
theorem d_LW_law_411 : decode code 411 = .ok (.iconst 1, 1) := by decide +kernel
theorem d_LW_law_412 : decode code 412 = .ok (.iadd, 1) := by decide +kernel
theorem d_LW_law_413 : decode code 413 = .ok (.iaload, 1) := by decide +kernel
theorem d_LW_law_414 : decode code 414 = .ok (.aload_n 0, 1) := by decide +kernel
theorem d_LW_law_415 : decode code 415 = .ok (.iload_n 3, 1) := by decide +kernel
theorem d_LW_law_416 : decode code 416 = .ok (.iconst 2, 1) := by decide +kernel
theorem d_LW_law_417 : decode code 417 = .ok (.iadd, 1) := by decide +kernel
theorem d_LW_law_418 : decode code 418 = .ok (.iaload, 1) := by decide +kernel
theorem d_LW_law_419 : decode code 419 = .ok (.invokevirtual 64, 3) := by decide +kernel
theorem d_LW_law_422 : decode code 422 = .ok (.aload_n 2, 1) := by decide +kernel
theorem d_LW_law_423 : decode code 423 = .ok (.aload_n 0, 1) := by decide +kernel
theorem d_LW_law_424 : decode code 424 = .ok (.iload_n 3, 1) := by decide +kernel
theorem d_LW_law_425 : decode code 425 = .ok (.iconst 1, 1) := by decide +kernel
theorem d_LW_law_426 : decode code 426 = .ok (.iadd, 1) := by decide +kernel
theorem d_LW_law_427 : decode code 427 = .ok (.iaload, 1) := by decide +kernel
theorem d_LW_law_428 : decode code 428 = .ok (.aload_n 0, 1) := by decide +kernel
theorem d_LW_law_429 : decode code 429 = .ok (.iload_n 3, 1) := by decide +kernel
theorem d_LW_law_430 : decode code 430 = .ok (.iconst 2, 1) := by decide +kernel
theorem d_LW_law_431 : decode code 431 = .ok (.iadd, 1) := by decide +kernel
theorem d_LW_law_432 : decode code 432 = .ok (.iaload, 1) := by decide +kernel
theorem d_LW_law_433 : decode code 433 = .ok (.invokevirtual 67, 3) := by decide +kernel
theorem d_LW_law_436 : decode code 436 = .ok (.if_icmp .eq 173, 3) := by decide +kernel
theorem d_LW_law_439 : decode code 439 = .ok (.iconst 0, 1) := by decide +kernel
theorem d_LW_law_440 : decode code 440 = .ok (.ireturn, 1) := by decide +kernel
theorem d_LW_law_441 : decode code 441 = .ok (.aload_n 1, 1) := by decide +kernel
theorem d_LW_law_442 : decode code 442 = .ok (.aload_n 0, 1) := by decide +kernel
theorem d_LW_law_443 : decode code 443 = .ok (.iload_n 3, 1) := by decide +kernel
theorem d_LW_law_444 : decode code 444 = .ok (.iconst 1, 1) := by decide +kernel
theorem d_LW_law_445 : decode code 445 = .ok (.iadd, 1) := by decide +kernel
theorem d_LW_law_446 : decode code 446 = .ok (.iaload, 1) := by decide +kernel
theorem d_LW_law_447 : decode code 447 = .ok (.aload_n 0, 1) := by decide +kernel
theorem d_LW_law_448 : decode code 448 = .ok (.iload_n 3, 1) := by decide +kernel
theorem d_LW_law_449 : decode code 449 = .ok (.iconst 2, 1) := by decide +kernel
theorem d_LW_law_450 : decode code 450 = .ok (.iadd, 1) := by decide +kernel
theorem d_LW_law_451 : decode code 451 = .ok (.iaload, 1) := by decide +kernel
theorem d_LW_law_452 : decode code 452 = .ok (.invokevirtual 68, 3) := by decide +kernel
theorem d_LW_law_455 : decode code 455 = .ok (.aload_n 2, 1) := by decide +kernel
theorem d_LW_law_456 : decode code 456 = .ok (.aload_n 0, 1) := by decide +kernel
theorem d_LW_law_457 : decode code 457 = .ok (.iload_n 3, 1) := by decide +kernel
theorem d_LW_law_458 : decode code 458 = .ok (.iconst 1, 1) := by decide +kernel
theorem d_LW_law_459 : decode code 459 = .ok (.iadd, 1) := by decide +kernel
theorem d_LW_law_460 : decode code 460 = .ok (.iaload, 1) := by decide +kernel
theorem d_LW_law_461 : decode code 461 = .ok (.aload_n 0, 1) := by decide +kernel
theorem d_LW_law_462 : decode code 462 = .ok (.iload_n 3, 1) := by decide +kernel
theorem d_LW_law_463 : decode code 463 = .ok (.iconst 2, 1) := by decide +kernel
theorem d_LW_law_464 : decode code 464 = .ok (.iadd, 1) := by decide +kernel
theorem d_LW_law_465 : decode code 465 = .ok (.iaload, 1) := by decide +kernel
theorem d_LW_law_466 : decode code 466 = .ok (.invokevirtual 71, 3) := by decide +kernel
theorem d_LW_law_469 : decode code 469 = .ok (.if_icmp .eq 140, 3) := by decide +kernel
theorem d_LW_law_472 : decode code 472 = .ok (.iconst 0, 1) := by decide +kernel
theorem d_LW_law_473 : decode code 473 = .ok (.ireturn, 1) := by decide +kernel
theorem d_LW_law_474 : decode code 474 = .ok (.aload_n 1, 1) := by decide +kernel
theorem d_LW_law_475 : decode code 475 = .ok (.aload_n 0, 1) := by decide +kernel
theorem d_LW_law_476 : decode code 476 = .ok (.iload_n 3, 1) := by decide +kernel
theorem d_LW_law_477 : decode code 477 = .ok (.iconst 1, 1) := by decide +kernel
theorem d_LW_law_478 : decode code 478 = .ok (.iadd, 1) := by decide +kernel
theorem d_LW_law_479 : decode code 479 = .ok (.iaload, 1) := by decide +kernel
theorem d_LW_law_480 : decode code 480 = .ok (.aload_n 0, 1) := by decide +kernel
theorem d_LW_law_481 : decode code 481 = .ok (.iload_n 3, 1) := by decide +kernel
theorem d_LW_law_482 : decode code 482 = .ok (.iconst 2, 1) := by decide +kernel
theorem d_LW_law_483 : decode code 483 = .ok (.iadd, 1) := by decide +kernel
theorem d_LW_law_484 : decode code 484 = .ok (.iaload, 1) := by decide +kernel
theorem d_LW_law_485 : decode code 485 = .ok (.invokevirtual 72, 3) := by decide +kernel
theorem d_LW_law_488 : decode code 488 = .ok (.aload_n 2, 1) := by decide +kernel
theorem d_LW_law_489 : decode code 489 = .ok (.aload_n 0, 1) := by decide +kernel
theorem d_LW_law_490 : decode code 490 = .ok (.iload_n 3, 1) := by decide +kernel
theorem d_LW_law_491 : decode code 491 = .ok (.iconst 1, 1) := by decide +kernel
theorem d_LW_law_492 : decode code 492 = .ok (.iadd, 1) := by decide +kernel
theorem d_LW_law_493 : decode code 493 = .ok (.iaload, 1) := by decide +kernel
theorem d_LW_law_494 : decode code 494 = .ok (.aload_n 0, 1) := by decide +kernel
theorem d_LW_law_495 : decode code 495 = .ok (.iload_n 3, 1) := by decide +kernel
theorem d_LW_law_496 : decode code 496 = .ok (.iconst 2, 1) := by decide +kernel
theorem d_LW_law_497 : decode code 497 = .ok (.iadd, 1) := by decide +kernel
theorem d_LW_law_498 : decode code 498 = .ok (.iaload, 1) := by decide +kernel
theorem d_LW_law_499 : decode code 499 = .ok (.invokevirtual 75, 3) := by decide +kernel
theorem d_LW_law_502 : decode code 502 = .ok (.if_icmp .eq 107, 3) := by decide +kernel
theorem d_LW_law_505 : decode code 505 = .ok (.iconst 0, 1) := by decide +kernel
theorem d_LW_law_506 : decode code 506 = .ok (.ireturn, 1) := by decide +kernel
theorem d_LW_law_507 : decode code 507 = .ok (.aload_n 1, 1) := by decide +kernel
theorem d_LW_law_508 : decode code 508 = .ok (.aload_n 0, 1) := by decide +kernel
theorem d_LW_law_509 : decode code 509 = .ok (.iload_n 3, 1) := by decide +kernel
theorem d_LW_law_510 : decode code 510 = .ok (.iconst 1, 1) := by decide +kernel
theorem d_LW_law_511 : decode code 511 = .ok (.iadd, 1) := by decide +kernel
theorem d_LW_law_512 : decode code 512 = .ok (.iaload, 1) := by decide +kernel
theorem d_LW_law_513 : decode code 513 = .ok (.invokevirtual 76, 3) := by decide +kernel
theorem d_LW_law_516 : decode code 516 = .ok (.aload_n 2, 1) := by decide +kernel
theorem d_LW_law_517 : decode code 517 = .ok (.aload_n 0, 1) := by decide +kernel
theorem d_LW_law_518 : decode code 518 = .ok (.iload_n 3, 1) := by decide +kernel
theorem d_LW_law_519 : decode code 519 = .ok (.iconst 1, 1) := by decide +kernel
theorem d_LW_law_520 : decode code 520 = .ok (.iadd, 1) := by decide +kernel
theorem d_LW_law_521 : decode code 521 = .ok (.iaload, 1) := by decide +kernel
theorem d_LW_law_522 : decode code 522 = .ok (.invokevirtual 79, 3) := by decide +kernel
theorem d_LW_law_525 : decode code 525 = .ok (.if_icmp .eq 84, 3) := by decide +kernel
theorem d_LW_law_528 : decode code 528 = .ok (.iconst 0, 1) := by decide +kernel
theorem d_LW_law_529 : decode code 529 = .ok (.ireturn, 1) := by decide +kernel
theorem d_LW_law_530 : decode code 530 = .ok (.aload_n 1, 1) := by decide +kernel
theorem d_LW_law_531 : decode code 531 = .ok (.aload_n 0, 1) := by decide +kernel
theorem d_LW_law_532 : decode code 532 = .ok (.iload_n 3, 1) := by decide +kernel
theorem d_LW_law_533 : decode code 533 = .ok (.iconst 1, 1) := by decide +kernel
theorem d_LW_law_534 : decode code 534 = .ok (.iadd, 1) := by decide +kernel
theorem d_LW_law_535 : decode code 535 = .ok (.iaload, 1) := by decide +kernel
theorem d_LW_law_536 : decode code 536 = .ok (.aload_n 0, 1) := by decide +kernel
theorem d_LW_law_537 : decode code 537 = .ok (.iload_n 3, 1) := by decide +kernel
theorem d_LW_law_538 : decode code 538 = .ok (.iconst 2, 1) := by decide +kernel
theorem d_LW_law_539 : decode code 539 = .ok (.iadd, 1) := by decide +kernel
theorem d_LW_law_540 : decode code 540 = .ok (.iaload, 1) := by decide +kernel
theorem d_LW_law_541 : decode code 541 = .ok (.invokevirtual 80, 3) := by decide +kernel
theorem d_LW_law_544 : decode code 544 = .ok (.aload_n 2, 1) := by decide +kernel
theorem d_LW_law_545 : decode code 545 = .ok (.aload_n 0, 1) := by decide +kernel
theorem d_LW_law_546 : decode code 546 = .ok (.iload_n 3, 1) := by decide +kernel
theorem d_LW_law_547 : decode code 547 = .ok (.iconst 1, 1) := by decide +kernel
theorem d_LW_law_548 : decode code 548 = .ok (.iadd, 1) := by decide +kernel
theorem d_LW_law_549 : decode code 549 = .ok (.iaload, 1) := by decide +kernel
theorem d_LW_law_550 : decode code 550 = .ok (.aload_n 0, 1) := by decide +kernel
theorem d_LW_law_551 : decode code 551 = .ok (.iload_n 3, 1) := by decide +kernel
theorem d_LW_law_552 : decode code 552 = .ok (.iconst 2, 1) := by decide +kernel
theorem d_LW_law_553 : decode code 553 = .ok (.iadd, 1) := by decide +kernel
theorem d_LW_law_554 : decode code 554 = .ok (.iaload, 1) := by decide +kernel
theorem d_LW_law_555 : decode code 555 = .ok (.invokevirtual 83, 3) := by decide +kernel
theorem d_LW_law_558 : decode code 558 = .ok (.if_icmp .eq 51, 3) := by decide +kernel
theorem d_LW_law_561 : decode code 561 = .ok (.iconst 0, 1) := by decide +kernel
theorem d_LW_law_562 : decode code 562 = .ok (.ireturn, 1) := by decide +kernel
theorem d_LW_law_563 : decode code 563 = .ok (.aload_n 1, 1) := by decide +kernel
theorem d_LW_law_564 : decode code 564 = .ok (.aload_n 0, 1) := by decide +kernel
theorem d_LW_law_565 : decode code 565 = .ok (.iload_n 3, 1) := by decide +kernel
theorem d_LW_law_566 : decode code 566 = .ok (.iconst 1, 1) := by decide +kernel
theorem d_LW_law_567 : decode code 567 = .ok (.iadd, 1) := by decide +kernel
theorem d_LW_law_568 : decode code 568 = .ok (.iaload, 1) := by decide +kernel
theorem d_LW_law_569 : decode code 569 = .ok (.aload_n 0, 1) := by decide +kernel
theorem d_LW_law_570 : decode code 570 = .ok (.iload_n 3, 1) := by decide +kernel
theorem d_LW_law_571 : decode code 571 = .ok (.iconst 2, 1) := by decide +kernel
theorem d_LW_law_572 : decode code 572 = .ok (.iadd, 1) := by decide +kernel
theorem d_LW_law_573 : decode code 573 = .ok (.iaload, 1) := by decide +kernel
theorem d_LW_law_574 : decode code 574 = .ok (.invokevirtual 84, 3) := by decide +kernel
theorem d_LW_law_577 : decode code 577 = .ok (.aload_n 2, 1) := by decide +kernel
theorem d_LW_law_578 : decode code 578 = .ok (.aload_n 0, 1) := by decide +kernel
theorem d_LW_law_579 : decode code 579 = .ok (.iload_n 3, 1) := by decide +kernel
theorem d_LW_law_580 : decode code 580 = .ok (.iconst 1, 1) := by decide +kernel
theorem d_LW_law_581 : decode code 581 = .ok (.iadd, 1) := by decide +kernel
theorem d_LW_law_582 : decode code 582 = .ok (.iaload, 1) := by decide +kernel
theorem d_LW_law_583 : decode code 583 = .ok (.aload_n 0, 1) := by decide +kernel
theorem d_LW_law_584 : decode code 584 = .ok (.iload_n 3, 1) := by decide +kernel
theorem d_LW_law_585 : decode code 585 = .ok (.iconst 2, 1) := by decide +kernel
theorem d_LW_law_586 : decode code 586 = .ok (.iadd, 1) := by decide +kernel
theorem d_LW_law_587 : decode code 587 = .ok (.iaload, 1) := by decide +kernel
theorem d_LW_law_588 : decode code 588 = .ok (.invokevirtual 87, 3) := by decide +kernel
theorem d_LW_law_591 : decode code 591 = .ok (.if_icmp .eq 18, 3) := by decide +kernel
theorem d_LW_law_594 : decode code 594 = .ok (.iconst 0, 1) := by decide +kernel
theorem d_LW_law_595 : decode code 595 = .ok (.ireturn, 1) := by decide +kernel
theorem d_LW_law_596 : decode code 596 = .ok (.aload_n 1, 1) := by decide +kernel
theorem d_LW_law_597 : decode code 597 = .ok (.invokevirtual 88, 3) := by decide +kernel
theorem d_LW_law_600 : decode code 600 = .ok (.aload_n 2, 1) := by decide +kernel
theorem d_LW_law_601 : decode code 601 = .ok (.invokevirtual 91, 3) := by decide +kernel
theorem d_LW_law_604 : decode code 604 = .ok (.if_icmp .eq 5, 3) := by decide +kernel
theorem d_LW_law_607 : decode code 607 = .ok (.iconst 0, 1) := by decide +kernel
theorem d_LW_law_608 : decode code 608 = .ok (.ireturn, 1) := by decide +kernel
theorem d_LW_law_609 : decode code 609 = .ok (.iinc 3 3, 3) := by decide +kernel
theorem d_LW_law_612 : decode code 612 = .ok (.goto (-594), 3) := by decide +kernel
theorem d_LW_law_615 : decode code 615 = .ok (.iconst 1, 1) := by decide +kernel
theorem d_LW_law_616 : decode code 616 = .ok (.ireturn, 1) := by decide +kernel
set_option maxHeartbeats 8000000 in
set_option maxRecDepth 100000 in
theorem lw_clear {p : Program} {l : Launch} {e : Env} {s : State} {m : MethodId} {args : Array Value} {below : List Frame} {meth : Method} {c : Code} {H : Heap} {locs : List Loc} {Q : State → Prop} {dC : Nat → ClassId} {dI : Nat → Nat → Nat} {cI cJ cZ : ClassId} {A0 : Nat → Prop} {sc L : Nat} {xs : Nat → Int32} {ls : Array Slot} (X : LX p s m args c dC dI cI cJ cZ A0 sc L xs) {i : Nat} (hi : i + 3 ≤ L) {ca : CA} {ma : MA} {u : CS} {v : MS} (hI : LI u v) (hP : va_P (dC, dI) cls (WL cI cJ cZ ca ma u v) H) (hD : va_D A0 (WL cI cJ cZ ca ma u v)) (hS : va_S A0 s.heap H locs) (hl : lv_has ls 4 [(0, .ref sc), (1, .ref ca.cp), (2, .ref ma.o), (3, .int (nI i))])
    (kk : ∀ (u1 : CS) (v1 : MS) (H1 : Heap) (locs1 : List Loc), LI u1 v1 → va_P (dC, dI) cls (WL cI cJ cZ ca ma u1 v1) H1 → va_D A0 (WL cI cJ cZ ca ma u1 v1) → va_S A0 s.heap H1 locs1 → W p l e room_1 s m args below meth c H1 locs1 40 19226 Q (F0 m 609 ls [])) : W p l e room_1 s m args below meth c H locs 40 19226 Q (F0 m 124 ls []) := by
  obtain ⟨hx, hb, hml, hown, hts, hK, hX, hbl, hbA, hL⟩ := X
  have hRc : 40 ≤ room_1.cells := Nat.le_of_ble_eq_true rfl
  have hRs : 19226 ≤ room_1.slots := Nat.le_of_ble_eq_true rfl
  obtain ⟨nd, ar, pr, F, G, N, Fm, Rs, A, z, Se, al, br, N2, Fm2, Rs2, A2, zi2, S2, al2, br2, Cr, Op, Bf, sn, Ld, zi, Sg, Pi, Bo, pci, Gd, gci, bl0⟩ := u
  obtain ⟨th, ndm, arm, be, bz, sz, F', G', P, Nm, Wm, Td, Ob, Sp, D⟩ := v
  obtain ⟨hGA, hSK, hB0, e1, e2, hF, hG, hLK, hTd⟩ := hI
  have e1 : nd = ndm := e1
  have e2 : ar = arm := e2
  subst e1
  subst e2
  have hGA : GAR F G nd ar pr := hGA
  have hSK : SKI (lb pr) F G nd N Fm A Se z al br := hSK
  have hB0 : Bo 0 = 0 := hB0
  have hF : ∀ k, F' k < 14 := hF
  have hG : ∀ k, G' k < 14 := hG
  have hLK : LK F G pr F' G' P ar := hLK
  have hTd : ∀ k, Td k < 3 := hTd
  have hnd14 : nd ≤ 14 := hGA.1
  have har : ar ≤ 40 := hGA.2.1
  have hM := (lk_M hLK hGA).1
  have hNE := (lk_M hLK hGA).2
  refine lv_aload_n hx hb d_LW_law_124 rfl (lv_at hl 1 rfl) ?_
  refine x_cv (k_V (n := 0) (C := R_CP) (rest := []) ⟨hx, hb, hml, hown, hts⟩ (c_CP_clear l dC dI cI cJ cZ ca.cp ca.g ca.k ca.k2 ca.fl ca.co ca.sp ca.a1 ca.a2 nd ar pr F G (by first | assumption | omega) ca.nr ca.fr ca.rs ca.at_ ca.h al br N Fm A ca.b1 (nI z) Se) wml_LW_13 wim_CP_clear wsel_CP_clear wini_CP wcode_CP_clear (by decide +kernel) ⟨Nat.le_of_ble_eq_true rfl, Nat.le_of_ble_eq_true rfl⟩ (preV_M (q := (R_CP, F_CP, 6)) (ci := 0) (q0 := 0) (hP.sub (ws' := [(ca.cp, .inr (0, [.ref ca.g, .ref ca.k, .ref ca.k2, .ref ca.fl, .ref ca.co, .ref ca.sp])), (ca.g, .inr (1, [.ref ca.a1, .ref ca.a2, .int (nI nd), .int (nI ar), .long pr])), (ca.a1, .inl (cI, 41, .inl (nF F))), (ca.a2, .inl (cI, 41, .inl (nF G))), (ca.k, .inr (2, [.ref ca.nr, .ref ca.fr, .ref ca.rs, .ref ca.at_, .ref ca.h, .int al, .long br])), (ca.nr, .inl (cI, 14, .inl N)), (ca.fr, .inl (cI, 14, .inl Fm)), (ca.at_, .inl (cJ, 14, .inr (.inl A))), (ca.h, .inr (3, [.ref ca.b1, .int (nI z)])), (ca.b1, .inl (cJ, 41, .inr (.inl Se)))]) [0, 1, 2, 3, 4, 5, 6, 8, 9, 10] rfl) hK (hD.sub (ws' := [(ca.cp, .inr (0, [.ref ca.g, .ref ca.k, .ref ca.k2, .ref ca.fl, .ref ca.co, .ref ca.sp])), (ca.g, .inr (1, [.ref ca.a1, .ref ca.a2, .int (nI nd), .int (nI ar), .long pr])), (ca.a1, .inl (cI, 41, .inl (nF F))), (ca.a2, .inl (cI, 41, .inl (nF G))), (ca.k, .inr (2, [.ref ca.nr, .ref ca.fr, .ref ca.rs, .ref ca.at_, .ref ca.h, .int al, .long br])), (ca.nr, .inl (cI, 14, .inl N)), (ca.fr, .inl (cI, 14, .inl Fm)), (ca.at_, .inl (cJ, 14, .inr (.inl A))), (ca.h, .inr (3, [.ref ca.b1, .int (nI z)])), (ca.b1, .inl (cJ, 41, .inr (.inl Se)))]) [0, 1, 2, 3, 4, 5, 6, 8, 9, 10] (by decide) rfl) rfl rfl) rfl hl.1 rfl (Nat.le_of_ble_eq_true rfl) d_LW_law_125 ⟨hRc, hRs⟩) hP hD hS [0, 1, 2, 3, 4, 5, 6, 8, 9, 10] rfl (fun _ => rfl) (fun u_1 H locs hu_1 hP hS => ?_)
  obtain ⟨N9_1, Fm9_1, A9_1, S9_1, z9_1, al9_1, br9_1⟩ := u_1
  have hP : va_P (dC, dI) cls (WL cI cJ cZ ca ma ⟨0, 0, 0, F, G, N9_1, Fm9_1, Rs, A9_1, z9_1, S9_1, al9_1, br9_1, N2, Fm2, Rs2, A2, zi2, S2, al2, br2, Cr, Op, Bf, sn, Ld, zi, Sg, Pi, Bo, pci, Gd, gci, bl0⟩ ⟨th, nd, ar, be, bz, sz, F', G', P, Nm, Wm, Td, Ob, Sp, D⟩) H := hP
  have hD := hD.addr (ws' := (WL cI cJ cZ ca ma ⟨0, 0, 0, F, G, N9_1, Fm9_1, Rs, A9_1, z9_1, S9_1, al9_1, br9_1, N2, Fm2, Rs2, A2, zi2, S2, al2, br2, Cr, Op, Bf, sn, Ld, zi, Sg, Pi, Bo, pci, Gd, gci, bl0⟩ ⟨th, nd, ar, be, bz, sz, F', G', P, Nm, Wm, Td, Ob, Sp, D⟩)) rfl
  refine lv_aload_n hx hb d_LW_law_128 rfl (lv_at hl 2 rfl) ?_
  refine x_cv (k_V (n := 0) (C := R_MO) (rest := []) ⟨hx, hb, hml, hown, hts⟩ (c_MO_clear l dC dI cI cJ cZ ma.o ma.fF ma.fG ma.fT ma.fN ma.fW ma.fO ma.fB ma.fS ma.fD th be bz sz nd ar) wml_LW_16 wim_MO_clear wsel_MO_clear wini_MO wcode_MO_clear (by decide +kernel) ⟨Nat.le_of_ble_eq_true rfl, Nat.le_of_ble_eq_true rfl⟩ (preV_M (q := (R_MO, F_MO, 15)) (ci := 7) (q0 := 0) (hP.sub (ws' := [(ma.o, .inr (7, [.int th, .int (nI nd), .int (nI ar), .ref ma.fF, .ref ma.fG, .ref ma.fT, .ref ma.fN, .ref ma.fW, .int be, .ref ma.fO, .ref ma.fB, .int bz, .ref ma.fS, .ref ma.fD, .int sz]))]) [30] rfl) hK (hD.sub (ws' := [(ma.o, .inr (7, [.int th, .int (nI nd), .int (nI ar), .ref ma.fF, .ref ma.fG, .ref ma.fT, .ref ma.fN, .ref ma.fW, .int be, .ref ma.fO, .ref ma.fB, .int bz, .ref ma.fS, .ref ma.fD, .int sz]))]) [30] (by decide) rfl) rfl rfl) rfl hl.1 rfl (Nat.le_of_ble_eq_true rfl) d_LW_law_129 ⟨hRc, hRs⟩) hP hD hS [30] rfl (fun _ => rfl) (fun u_2 H locs hu_2 hP hS => ?_)
  have hP : va_P (dC, dI) cls (WL cI cJ cZ ca ma ⟨0, 0, 0, F, G, N9_1, Fm9_1, Rs, A9_1, z9_1, S9_1, al9_1, br9_1, N2, Fm2, Rs2, A2, zi2, S2, al2, br2, Cr, Op, Bf, sn, Ld, zi, Sg, Pi, Bo, pci, Gd, gci, bl0⟩ ⟨(nI 0), 0, 0, be, bz, sz, F', G', P, Nm, Wm, Td, Ob, Sp, D⟩) H := hP
  have hD := hD.addr (ws' := (WL cI cJ cZ ca ma ⟨0, 0, 0, F, G, N9_1, Fm9_1, Rs, A9_1, z9_1, S9_1, al9_1, br9_1, N2, Fm2, Rs2, A2, zi2, S2, al2, br2, Cr, Op, Bf, sn, Ld, zi, Sg, Pi, Bo, pci, Gd, gci, bl0⟩ ⟨(nI 0), 0, 0, be, bz, sz, F', G', P, Nm, Wm, Td, Ob, Sp, D⟩)) rfl
  refine lv_goto (tgt := 609) hx hb d_LW_law_132 (by decide) ?_
  exact kk ⟨0, 0, 0, F, G, N9_1, Fm9_1, Rs, A9_1, z9_1, S9_1, al9_1, br9_1, N2, Fm2, Rs2, A2, zi2, S2, al2, br2, Cr, Op, Bf, sn, Ld, zi, Sg, Pi, Bo, pci, Gd, gci, bl0⟩ ⟨(nI 0), 0, 0, be, bz, sz, F', G', P, Nm, Wm, Td, Ob, Sp, D⟩ H locs ⟨GAR_0 hGA.2.2.2.2.1 hGA.2.2.2.2.2, hu_1, hB0, rfl, rfl, hF, hG, lk_clear, hTd⟩ hP hD hS

set_option maxHeartbeats 8000000 in
set_option maxRecDepth 100000 in
theorem lw_node {p : Program} {l : Launch} {e : Env} {s : State} {m : MethodId} {args : Array Value} {below : List Frame} {meth : Method} {c : Code} {H : Heap} {locs : List Loc} {Q : State → Prop} {dC : Nat → ClassId} {dI : Nat → Nat → Nat} {cI cJ cZ : ClassId} {A0 : Nat → Prop} {sc L : Nat} {xs : Nat → Int32} {ls : Array Slot} (X : LX p s m args c dC dI cI cJ cZ A0 sc L xs) {i : Nat} (hi : i + 3 ≤ L) {ca : CA} {ma : MA} {u : CS} {v : MS} (hI : LI u v) (hP : va_P (dC, dI) cls (WL cI cJ cZ ca ma u v) H) (hD : va_D A0 (WL cI cJ cZ ca ma u v)) (hS : va_S A0 s.heap H locs) (hl : lv_has ls 4 [(0, .ref sc), (1, .ref ca.cp), (2, .ref ma.o), (3, .int (nI i))])
    (kk : ∀ (u1 : CS) (v1 : MS) (H1 : Heap) (locs1 : List Loc), LI u1 v1 → va_P (dC, dI) cls (WL cI cJ cZ ca ma u1 v1) H1 → va_D A0 (WL cI cJ cZ ca ma u1 v1) → va_S A0 s.heap H1 locs1 → W p l e room_1 s m args below meth c H1 locs1 40 19226 Q (F0 m 609 ls [])) : W p l e room_1 s m args below meth c H locs 40 19226 Q (F0 m 135 ls []) := by
  obtain ⟨hx, hb, hml, hown, hts, hK, hX, hbl, hbA, hL⟩ := X
  have hRc : 40 ≤ room_1.cells := Nat.le_of_ble_eq_true rfl
  have hRs : 19226 ≤ room_1.slots := Nat.le_of_ble_eq_true rfl
  obtain ⟨nd, ar, pr, F, G, N, Fm, Rs, A, z, Se, al, br, N2, Fm2, Rs2, A2, zi2, S2, al2, br2, Cr, Op, Bf, sn, Ld, zi, Sg, Pi, Bo, pci, Gd, gci, bl0⟩ := u
  obtain ⟨th, ndm, arm, be, bz, sz, F', G', P, Nm, Wm, Td, Ob, Sp, D⟩ := v
  obtain ⟨hGA, hSK, hB0, e1, e2, hF, hG, hLK, hTd⟩ := hI
  have e1 : nd = ndm := e1
  have e2 : ar = arm := e2
  subst e1
  subst e2
  have hGA : GAR F G nd ar pr := hGA
  have hSK : SKI (lb pr) F G nd N Fm A Se z al br := hSK
  have hB0 : Bo 0 = 0 := hB0
  have hF : ∀ k, F' k < 14 := hF
  have hG : ∀ k, G' k < 14 := hG
  have hLK : LK F G pr F' G' P ar := hLK
  have hTd : ∀ k, Td k < 3 := hTd
  have hnd14 : nd ≤ 14 := hGA.1
  have har : ar ≤ 40 := hGA.2.1
  have hM := (lk_M hLK hGA).1
  have hNE := (lk_M hLK hGA).2
  refine lv_aload_n hx hb d_LW_law_135 rfl (lv_at hl 1 rfl) ?_
  by_cases hn : nd = 14
  · skip
    refine vp_callSi (va_Run.run (k_V (n := 0) (C := R_CP) (rest := []) ⟨hx, hb, hml, hown, hts⟩ (c_CP_node_f l dC dI cI cJ cZ ca.cp ca.g ca.k ca.k2 ca.fl ca.co ca.sp ca.a1 ca.a2 nd ar pr (by first | assumption | omega)) wml_LW_17 wim_CP_node wsel_CP_node wini_CP wcode_CP_node (by decide +kernel) ⟨Nat.le_of_ble_eq_true rfl, Nat.le_of_ble_eq_true rfl⟩ (preV_R (q := (R_CP, F_CP, 6)) (ci := 0) (q0 := 0) (hP.sub (ws' := [(ca.cp, .inr (0, [.ref ca.g, .ref ca.k, .ref ca.k2, .ref ca.fl, .ref ca.co, .ref ca.sp])), (ca.g, .inr (1, [.ref ca.a1, .ref ca.a2, .int (nI nd), .int (nI ar), .long pr]))]) [0, 1] rfl) hK rfl rfl) rfl hl.1 rfl (Nat.le_of_ble_eq_true rfl) d_LW_law_136 ⟨hRc, hRs⟩)) (fun r_1 hr_2 => ?_)
    refine xe_i (y := (-4)) hr_2 ?_
    refine lv_aload_n hx hb d_LW_law_139 rfl (lv_at hl 2 rfl) ?_
    refine x_ci (k_V (n := 0) (C := R_MO) (rest := [.int (-4)]) ⟨hx, hb, hml, hown, hts⟩ (c_MO_node_f l dC dI cI cJ cZ ma.o ma.fF ma.fG ma.fT ma.fN ma.fW ma.fO ma.fB ma.fS ma.fD th be bz sz nd ar (by first | assumption | omega)) wml_LW_21 wim_MO_node wsel_MO_node wini_MO wcode_MO_node (by decide +kernel) ⟨Nat.le_of_ble_eq_true rfl, Nat.le_of_ble_eq_true rfl⟩ (preV_M (q := (R_MO, F_MO, 15)) (ci := 7) (q0 := 0) (hP.sub (ws' := [(ma.o, .inr (7, [.int th, .int (nI nd), .int (nI ar), .ref ma.fF, .ref ma.fG, .ref ma.fT, .ref ma.fN, .ref ma.fW, .int be, .ref ma.fO, .ref ma.fB, .int bz, .ref ma.fS, .ref ma.fD, .int sz]))]) [30] rfl) hK (hD.sub (ws' := [(ma.o, .inr (7, [.int th, .int (nI nd), .int (nI ar), .ref ma.fF, .ref ma.fG, .ref ma.fT, .ref ma.fN, .ref ma.fW, .int be, .ref ma.fO, .ref ma.fB, .int bz, .ref ma.fS, .ref ma.fD, .int sz]))]) [30] (by decide) rfl) rfl rfl) rfl hl.1 rfl (Nat.le_of_ble_eq_true rfl) d_LW_law_140 ⟨hRc, hRs⟩) hP hD hS [30] rfl (fun _ => rfl) (fun r_3 u_3 H locs hu_3 hP hS => ?_)
    have hP : va_P (dC, dI) cls (WL cI cJ cZ ca ma ⟨nd, ar, pr, F, G, N, Fm, Rs, A, z, Se, al, br, N2, Fm2, Rs2, A2, zi2, S2, al2, br2, Cr, Op, Bf, sn, Ld, zi, Sg, Pi, Bo, pci, Gd, gci, bl0⟩ ⟨(nI 0), nd, ar, be, bz, sz, F', G', P, Nm, Wm, Td, Ob, Sp, D⟩) H := hP
    have hD := hD.addr (ws' := (WL cI cJ cZ ca ma ⟨nd, ar, pr, F, G, N, Fm, Rs, A, z, Se, al, br, N2, Fm2, Rs2, A2, zi2, S2, al2, br2, Cr, Op, Bf, sn, Ld, zi, Sg, Pi, Bo, pci, Gd, gci, bl0⟩ ⟨(nI 0), nd, ar, be, bz, sz, F', G', P, Nm, Wm, Td, Ob, Sp, D⟩)) rfl
    have hag : r_3 = (-4) := hu_3
    refine xe_i (y := (-4)) hag ?_
    refine lv_icmp_eq (tgt := 609) hx hb d_LW_law_143 (by decide) (fun _ => ?_) (fun q9 => absurd rfl q9)
    exact kk ⟨nd, ar, pr, F, G, N, Fm, Rs, A, z, Se, al, br, N2, Fm2, Rs2, A2, zi2, S2, al2, br2, Cr, Op, Bf, sn, Ld, zi, Sg, Pi, Bo, pci, Gd, gci, bl0⟩ ⟨(nI 0), nd, ar, be, bz, sz, F', G', P, Nm, Wm, Td, Ob, Sp, D⟩ H locs ⟨hGA, hSK, hB0, rfl, rfl, hF, hG, hLK, hTd⟩ hP hD hS
  · skip
    have hnd : nd < 14 := by omega
    refine x_ci (k_V (n := 0) (C := R_CP) (rest := []) ⟨hx, hb, hml, hown, hts⟩ (c_CP_node_k l dC dI cI cJ cZ ca.cp ca.g ca.k ca.k2 ca.fl ca.co ca.sp ca.a1 ca.a2 nd ar pr F G (by first | assumption | omega) ca.nr ca.fr ca.rs ca.at_ ca.h al br N Fm A ca.b1 (nI z) Se (by first | assumption | omega)) wml_LW_17 wim_CP_node wsel_CP_node wini_CP wcode_CP_node (by decide +kernel) ⟨Nat.le_of_ble_eq_true rfl, Nat.le_of_ble_eq_true rfl⟩ (preV_M (q := (R_CP, F_CP, 6)) (ci := 0) (q0 := 0) (hP.sub (ws' := [(ca.cp, .inr (0, [.ref ca.g, .ref ca.k, .ref ca.k2, .ref ca.fl, .ref ca.co, .ref ca.sp])), (ca.g, .inr (1, [.ref ca.a1, .ref ca.a2, .int (nI nd), .int (nI ar), .long pr])), (ca.a1, .inl (cI, 41, .inl (nF F))), (ca.a2, .inl (cI, 41, .inl (nF G))), (ca.k, .inr (2, [.ref ca.nr, .ref ca.fr, .ref ca.rs, .ref ca.at_, .ref ca.h, .int al, .long br])), (ca.nr, .inl (cI, 14, .inl N)), (ca.fr, .inl (cI, 14, .inl Fm)), (ca.at_, .inl (cJ, 14, .inr (.inl A))), (ca.h, .inr (3, [.ref ca.b1, .int (nI z)])), (ca.b1, .inl (cJ, 41, .inr (.inl Se)))]) [0, 1, 2, 3, 4, 5, 6, 8, 9, 10] rfl) hK (hD.sub (ws' := [(ca.cp, .inr (0, [.ref ca.g, .ref ca.k, .ref ca.k2, .ref ca.fl, .ref ca.co, .ref ca.sp])), (ca.g, .inr (1, [.ref ca.a1, .ref ca.a2, .int (nI nd), .int (nI ar), .long pr])), (ca.a1, .inl (cI, 41, .inl (nF F))), (ca.a2, .inl (cI, 41, .inl (nF G))), (ca.k, .inr (2, [.ref ca.nr, .ref ca.fr, .ref ca.rs, .ref ca.at_, .ref ca.h, .int al, .long br])), (ca.nr, .inl (cI, 14, .inl N)), (ca.fr, .inl (cI, 14, .inl Fm)), (ca.at_, .inl (cJ, 14, .inr (.inl A))), (ca.h, .inr (3, [.ref ca.b1, .int (nI z)])), (ca.b1, .inl (cJ, 41, .inr (.inl Se)))]) [0, 1, 2, 3, 4, 5, 6, 8, 9, 10] (by decide) rfl) rfl rfl) rfl hl.1 rfl (Nat.le_of_ble_eq_true rfl) d_LW_law_136 ⟨hRc, hRs⟩) hP hD hS [0, 1, 2, 3, 4, 5, 6, 8, 9, 10] rfl (fun _ => rfl) (fun r_4 u_4 H locs hu_4 hP hS => ?_)
    obtain ⟨N9_4, Fm9_4, A9_4, S9_4, z9_4, al9_4, br9_4⟩ := u_4
    have hP : va_P (dC, dI) cls (WL cI cJ cZ ca ma ⟨(nd + 1), ar, pr, F, G, N9_4, Fm9_4, Rs, A9_4, z9_4, S9_4, al9_4, br9_4, N2, Fm2, Rs2, A2, zi2, S2, al2, br2, Cr, Op, Bf, sn, Ld, zi, Sg, Pi, Bo, pci, Gd, gci, bl0⟩ ⟨th, nd, ar, be, bz, sz, F', G', P, Nm, Wm, Td, Ob, Sp, D⟩) H := hP
    have hD := hD.addr (ws' := (WL cI cJ cZ ca ma ⟨(nd + 1), ar, pr, F, G, N9_4, Fm9_4, Rs, A9_4, z9_4, S9_4, al9_4, br9_4, N2, Fm2, Rs2, A2, zi2, S2, al2, br2, Cr, Op, Bf, sn, Ld, zi, Sg, Pi, Bo, pci, Gd, gci, bl0⟩ ⟨th, nd, ar, be, bz, sz, F', G', P, Nm, Wm, Td, Ob, Sp, D⟩)) rfl
    refine xe_i (y := (nI nd)) hu_4.1 ?_
    refine lv_aload_n hx hb d_LW_law_139 rfl (lv_at hl 2 rfl) ?_
    refine x_ci (k_V (n := 0) (C := R_MO) (rest := [.int (nI nd)]) ⟨hx, hb, hml, hown, hts⟩ (c_MO_node_k l dC dI cI cJ cZ ma.o ma.fF ma.fG ma.fT ma.fN ma.fW ma.fO ma.fB ma.fS ma.fD th be bz sz nd ar (by first | assumption | omega)) wml_LW_21 wim_MO_node wsel_MO_node wini_MO wcode_MO_node (by decide +kernel) ⟨Nat.le_of_ble_eq_true rfl, Nat.le_of_ble_eq_true rfl⟩ (preV_M (q := (R_MO, F_MO, 15)) (ci := 7) (q0 := 0) (hP.sub (ws' := [(ma.o, .inr (7, [.int th, .int (nI nd), .int (nI ar), .ref ma.fF, .ref ma.fG, .ref ma.fT, .ref ma.fN, .ref ma.fW, .int be, .ref ma.fO, .ref ma.fB, .int bz, .ref ma.fS, .ref ma.fD, .int sz]))]) [30] rfl) hK (hD.sub (ws' := [(ma.o, .inr (7, [.int th, .int (nI nd), .int (nI ar), .ref ma.fF, .ref ma.fG, .ref ma.fT, .ref ma.fN, .ref ma.fW, .int be, .ref ma.fO, .ref ma.fB, .int bz, .ref ma.fS, .ref ma.fD, .int sz]))]) [30] (by decide) rfl) rfl rfl) rfl hl.1 rfl (Nat.le_of_ble_eq_true rfl) d_LW_law_140 ⟨hRc, hRs⟩) hP hD hS [30] rfl (fun _ => rfl) (fun r_5 u_5 H locs hu_5 hP hS => ?_)
    have hP : va_P (dC, dI) cls (WL cI cJ cZ ca ma ⟨(nd + 1), ar, pr, F, G, N9_4, Fm9_4, Rs, A9_4, z9_4, S9_4, al9_4, br9_4, N2, Fm2, Rs2, A2, zi2, S2, al2, br2, Cr, Op, Bf, sn, Ld, zi, Sg, Pi, Bo, pci, Gd, gci, bl0⟩ ⟨(nI 0), (nd + 1), ar, be, bz, sz, F', G', P, Nm, Wm, Td, Ob, Sp, D⟩) H := hP
    have hD := hD.addr (ws' := (WL cI cJ cZ ca ma ⟨(nd + 1), ar, pr, F, G, N9_4, Fm9_4, Rs, A9_4, z9_4, S9_4, al9_4, br9_4, N2, Fm2, Rs2, A2, zi2, S2, al2, br2, Cr, Op, Bf, sn, Ld, zi, Sg, Pi, Bo, pci, Gd, gci, bl0⟩ ⟨(nI 0), (nd + 1), ar, be, bz, sz, F', G', P, Nm, Wm, Td, Ob, Sp, D⟩)) rfl
    have hag : r_5 = (nI nd) := hu_5
    refine xe_i (y := (nI nd)) hag ?_
    refine lv_icmp_eq (tgt := 609) hx hb d_LW_law_143 (by decide) (fun _ => ?_) (fun q9 => absurd rfl q9)
    exact kk ⟨(nd + 1), ar, pr, F, G, N9_4, Fm9_4, Rs, A9_4, z9_4, S9_4, al9_4, br9_4, N2, Fm2, Rs2, A2, zi2, S2, al2, br2, Cr, Op, Bf, sn, Ld, zi, Sg, Pi, Bo, pci, Gd, gci, bl0⟩ ⟨(nI 0), (nd + 1), ar, be, bz, sz, F', G', P, Nm, Wm, Td, Ob, Sp, D⟩ H locs ⟨GAR_n hGA hnd, hu_4.2, hB0, rfl, rfl, hF, hG, hLK, hTd⟩ hP hD hS

set_option maxHeartbeats 8000000 in
set_option maxRecDepth 100000 in
theorem lw_arc {p : Program} {l : Launch} {e : Env} {s : State} {m : MethodId} {args : Array Value} {below : List Frame} {meth : Method} {c : Code} {H : Heap} {locs : List Loc} {Q : State → Prop} {dC : Nat → ClassId} {dI : Nat → Nat → Nat} {cI cJ cZ : ClassId} {A0 : Nat → Prop} {sc L : Nat} {xs : Nat → Int32} {ls : Array Slot} (X : LX p s m args c dC dI cI cJ cZ A0 sc L xs) {i : Nat} (hi : i + 3 ≤ L) {ca : CA} {ma : MA} {u : CS} {v : MS} (hI : LI u v) (hP : va_P (dC, dI) cls (WL cI cJ cZ ca ma u v) H) (hD : va_D A0 (WL cI cJ cZ ca ma u v)) (hS : va_S A0 s.heap H locs) (hl : lv_has ls 4 [(0, .ref sc), (1, .ref ca.cp), (2, .ref ma.o), (3, .int (nI i))])
    (kk : ∀ (u1 : CS) (v1 : MS) (H1 : Heap) (locs1 : List Loc), LI u1 v1 → va_P (dC, dI) cls (WL cI cJ cZ ca ma u1 v1) H1 → va_D A0 (WL cI cJ cZ ca ma u1 v1) → va_S A0 s.heap H1 locs1 → W p l e room_1 s m args below meth c H1 locs1 40 19226 Q (F0 m 609 ls [])) : W p l e room_1 s m args below meth c H locs 40 19226 Q (F0 m 148 ls []) := by
  obtain ⟨hx, hb, hml, hown, hts, hK, hX, hbl, hbA, hL⟩ := X
  have hRc : 40 ≤ room_1.cells := Nat.le_of_ble_eq_true rfl
  have hRs : 19226 ≤ room_1.slots := Nat.le_of_ble_eq_true rfl
  obtain ⟨nd, ar, pr, F, G, N, Fm, Rs, A, z, Se, al, br, N2, Fm2, Rs2, A2, zi2, S2, al2, br2, Cr, Op, Bf, sn, Ld, zi, Sg, Pi, Bo, pci, Gd, gci, bl0⟩ := u
  obtain ⟨th, ndm, arm, be, bz, sz, F', G', P, Nm, Wm, Td, Ob, Sp, D⟩ := v
  obtain ⟨hGA, hSK, hB0, e1, e2, hF, hG, hLK, hTd⟩ := hI
  have e1 : nd = ndm := e1
  have e2 : ar = arm := e2
  subst e1
  subst e2
  have hGA : GAR F G nd ar pr := hGA
  have hSK : SKI (lb pr) F G nd N Fm A Se z al br := hSK
  have hB0 : Bo 0 = 0 := hB0
  have hF : ∀ k, F' k < 14 := hF
  have hG : ∀ k, G' k < 14 := hG
  have hLK : LK F G pr F' G' P ar := hLK
  have hTd : ∀ k, Td k < 3 := hTd
  have hnd14 : nd ≤ 14 := hGA.1
  have har : ar ≤ 40 := hGA.2.1
  have hM := (lk_M hLK hGA).1
  have hNE := (lk_M hLK hGA).2
  refine lv_aload_n hx hb d_LW_law_148 rfl (lv_at hl 1 rfl) ?_
  refine lv_aload_n hx hb d_LW_law_149 rfl (lv_at hl 0 rfl) ?_
  refine lv_iload_n hx hb d_LW_law_150 rfl (lv_at hl 3 rfl) ?_
  refine lv_iconst (v := (nI 1)) hx hb d_LW_law_151 (by decide) ?_
  refine lv_iadd hx hb d_LW_law_152 ?_
  refine xe_i (nI_add _ _) ?_
  refine x_sld hx hb hX hbl hbA hS (by omega) hL d_LW_law_153 ?_
  refine lv_aload_n hx hb d_LW_law_154 rfl (lv_at hl 0 rfl) ?_
  refine lv_iload_n hx hb d_LW_law_155 rfl (lv_at hl 3 rfl) ?_
  refine lv_iconst (v := (nI 2)) hx hb d_LW_law_156 (by decide) ?_
  refine lv_iadd hx hb d_LW_law_157 ?_
  refine xe_i (nI_add _ _) ?_
  refine x_sld hx hb hX hbl hbA hS (by omega) hL d_LW_law_158 ?_
  cases hv : (vd (xs (i + 1)) nd && vd (xs (i + 2)) nd)
  · skip
    have hbad := hv
    refine vp_callSi (va_Run.run (k_V (n := 2) (C := R_CP) (rest := []) ⟨hx, hb, hml, hown, hts⟩ (c_CP_arc_b l dC dI cI cJ cZ ca.cp ca.g ca.k ca.k2 ca.fl ca.co ca.sp ca.a1 ca.a2 nd ar pr (xs (i + 1)) (xs (i + 2)) (by first | assumption | omega) (by first | assumption | omega)) wml_LW_22 wim_CP_arc wsel_CP_arc wini_CP wcode_CP_arc (by decide +kernel) ⟨Nat.le_of_ble_eq_true rfl, Nat.le_of_ble_eq_true rfl⟩ (preV_R (q := (R_CP, F_CP, 6)) (ci := 0) (q0 := 0) (hP.sub (ws' := [(ca.cp, .inr (0, [.ref ca.g, .ref ca.k, .ref ca.k2, .ref ca.fl, .ref ca.co, .ref ca.sp])), (ca.g, .inr (1, [.ref ca.a1, .ref ca.a2, .int (nI nd), .int (nI ar), .long pr]))]) [0, 1] rfl) hK rfl rfl) rfl hl.1 rfl (Nat.le_of_ble_eq_true rfl) d_LW_law_159 ⟨hRc, hRs⟩)) (fun r_1 hr_2 => ?_)
    refine xe_i (y := (-1)) hr_2 ?_
    refine lv_aload_n hx hb d_LW_law_162 rfl (lv_at hl 2 rfl) ?_
    refine lv_aload_n hx hb d_LW_law_163 rfl (lv_at hl 0 rfl) ?_
    refine lv_iload_n hx hb d_LW_law_164 rfl (lv_at hl 3 rfl) ?_
    refine lv_iconst (v := (nI 1)) hx hb d_LW_law_165 (by decide) ?_
    refine lv_iadd hx hb d_LW_law_166 ?_
    refine xe_i (nI_add _ _) ?_
    refine x_sld hx hb hX hbl hbA hS (by omega) hL d_LW_law_167 ?_
    refine lv_aload_n hx hb d_LW_law_168 rfl (lv_at hl 0 rfl) ?_
    refine lv_iload_n hx hb d_LW_law_169 rfl (lv_at hl 3 rfl) ?_
    refine lv_iconst (v := (nI 2)) hx hb d_LW_law_170 (by decide) ?_
    refine lv_iadd hx hb d_LW_law_171 ?_
    refine xe_i (nI_add _ _) ?_
    refine x_sld hx hb hX hbl hbA hS (by omega) hL d_LW_law_172 ?_
    refine x_ci (k_V (n := 2) (C := R_MO) (rest := [.int (-1)]) ⟨hx, hb, hml, hown, hts⟩ (c_MO_arc_b l dC dI cI cJ cZ ma.o ma.fF ma.fG ma.fT ma.fN ma.fW ma.fO ma.fB ma.fS ma.fD th be bz sz nd ar (xs (i + 1)) (xs (i + 2)) (by first | assumption | omega) (by first | assumption | omega)) wml_LW_26 wim_MO_arc wsel_MO_arc wini_MO wcode_MO_arc (by decide +kernel) ⟨Nat.le_of_ble_eq_true rfl, Nat.le_of_ble_eq_true rfl⟩ (preV_M (q := (R_MO, F_MO, 15)) (ci := 7) (q0 := 0) (hP.sub (ws' := [(ma.o, .inr (7, [.int th, .int (nI nd), .int (nI ar), .ref ma.fF, .ref ma.fG, .ref ma.fT, .ref ma.fN, .ref ma.fW, .int be, .ref ma.fO, .ref ma.fB, .int bz, .ref ma.fS, .ref ma.fD, .int sz]))]) [30] rfl) hK (hD.sub (ws' := [(ma.o, .inr (7, [.int th, .int (nI nd), .int (nI ar), .ref ma.fF, .ref ma.fG, .ref ma.fT, .ref ma.fN, .ref ma.fW, .int be, .ref ma.fO, .ref ma.fB, .int bz, .ref ma.fS, .ref ma.fD, .int sz]))]) [30] (by decide) rfl) rfl rfl) rfl hl.1 rfl (Nat.le_of_ble_eq_true rfl) d_LW_law_173 ⟨hRc, hRs⟩) hP hD hS [30] rfl (fun _ => rfl) (fun r_3 u_3 H locs hu_3 hP hS => ?_)
    have hP : va_P (dC, dI) cls (WL cI cJ cZ ca ma ⟨nd, ar, pr, F, G, N, Fm, Rs, A, z, Se, al, br, N2, Fm2, Rs2, A2, zi2, S2, al2, br2, Cr, Op, Bf, sn, Ld, zi, Sg, Pi, Bo, pci, Gd, gci, bl0⟩ ⟨(nI 0), nd, ar, be, bz, sz, F', G', P, Nm, Wm, Td, Ob, Sp, D⟩) H := hP
    have hD := hD.addr (ws' := (WL cI cJ cZ ca ma ⟨nd, ar, pr, F, G, N, Fm, Rs, A, z, Se, al, br, N2, Fm2, Rs2, A2, zi2, S2, al2, br2, Cr, Op, Bf, sn, Ld, zi, Sg, Pi, Bo, pci, Gd, gci, bl0⟩ ⟨(nI 0), nd, ar, be, bz, sz, F', G', P, Nm, Wm, Td, Ob, Sp, D⟩)) rfl
    have hag : r_3 = (-1) := hu_3
    refine xe_i (y := (-1)) hag ?_
    refine lv_icmp_eq (tgt := 609) hx hb d_LW_law_176 (by decide) (fun _ => ?_) (fun q9 => absurd rfl q9)
    exact kk ⟨nd, ar, pr, F, G, N, Fm, Rs, A, z, Se, al, br, N2, Fm2, Rs2, A2, zi2, S2, al2, br2, Cr, Op, Bf, sn, Ld, zi, Sg, Pi, Bo, pci, Gd, gci, bl0⟩ ⟨(nI 0), nd, ar, be, bz, sz, F', G', P, Nm, Wm, Td, Ob, Sp, D⟩ H locs ⟨hGA, hSK, hB0, rfl, rfl, hF, hG, hLK, hTd⟩ hP hD hS
  · skip
    obtain ⟨⟨x, ha, ex⟩, ⟨y, hb_, ey⟩⟩ := two_ok hnd14 hv
    by_cases hab : x = y
    · skip
      rw [ex, ey]
      refine vp_callSi (va_Run.run (k_V (n := 2) (C := R_CP) (rest := []) ⟨hx, hb, hml, hown, hts⟩ (c_CP_arc_s l dC dI cI cJ cZ ca.cp ca.g ca.k ca.k2 ca.fl ca.co ca.sp ca.a1 ca.a2 nd ar pr x y (by first | assumption | omega) (by first | assumption | omega) (by first | assumption | omega)) wml_LW_22 wim_CP_arc wsel_CP_arc wini_CP wcode_CP_arc (by decide +kernel) ⟨Nat.le_of_ble_eq_true rfl, Nat.le_of_ble_eq_true rfl⟩ (preV_R (q := (R_CP, F_CP, 6)) (ci := 0) (q0 := 0) (hP.sub (ws' := [(ca.cp, .inr (0, [.ref ca.g, .ref ca.k, .ref ca.k2, .ref ca.fl, .ref ca.co, .ref ca.sp])), (ca.g, .inr (1, [.ref ca.a1, .ref ca.a2, .int (nI nd), .int (nI ar), .long pr]))]) [0, 1] rfl) hK rfl rfl) rfl hl.1 rfl (Nat.le_of_ble_eq_true rfl) d_LW_law_159 ⟨hRc, hRs⟩)) (fun r_4 hr_5 => ?_)
      refine xe_i (y := (-3)) hr_5 ?_
      refine lv_aload_n hx hb d_LW_law_162 rfl (lv_at hl 2 rfl) ?_
      refine lv_aload_n hx hb d_LW_law_163 rfl (lv_at hl 0 rfl) ?_
      refine lv_iload_n hx hb d_LW_law_164 rfl (lv_at hl 3 rfl) ?_
      refine lv_iconst (v := (nI 1)) hx hb d_LW_law_165 (by decide) ?_
      refine lv_iadd hx hb d_LW_law_166 ?_
      refine xe_i (nI_add _ _) ?_
      refine x_sld hx hb hX hbl hbA hS (by omega) hL d_LW_law_167 ?_
      refine lv_aload_n hx hb d_LW_law_168 rfl (lv_at hl 0 rfl) ?_
      refine lv_iload_n hx hb d_LW_law_169 rfl (lv_at hl 3 rfl) ?_
      refine lv_iconst (v := (nI 2)) hx hb d_LW_law_170 (by decide) ?_
      refine lv_iadd hx hb d_LW_law_171 ?_
      refine xe_i (nI_add _ _) ?_
      refine x_sld hx hb hX hbl hbA hS (by omega) hL d_LW_law_172 ?_
      rw [ex, ey]
      refine x_ci (k_V (n := 2) (C := R_MO) (rest := [.int (-3)]) ⟨hx, hb, hml, hown, hts⟩ (c_MO_arc_s l dC dI cI cJ cZ ma.o ma.fF ma.fG ma.fT ma.fN ma.fW ma.fO ma.fB ma.fS ma.fD th be bz sz nd ar x y (by first | assumption | omega) (by first | assumption | omega) (by first | assumption | omega)) wml_LW_26 wim_MO_arc wsel_MO_arc wini_MO wcode_MO_arc (by decide +kernel) ⟨Nat.le_of_ble_eq_true rfl, Nat.le_of_ble_eq_true rfl⟩ (preV_M (q := (R_MO, F_MO, 15)) (ci := 7) (q0 := 0) (hP.sub (ws' := [(ma.o, .inr (7, [.int th, .int (nI nd), .int (nI ar), .ref ma.fF, .ref ma.fG, .ref ma.fT, .ref ma.fN, .ref ma.fW, .int be, .ref ma.fO, .ref ma.fB, .int bz, .ref ma.fS, .ref ma.fD, .int sz]))]) [30] rfl) hK (hD.sub (ws' := [(ma.o, .inr (7, [.int th, .int (nI nd), .int (nI ar), .ref ma.fF, .ref ma.fG, .ref ma.fT, .ref ma.fN, .ref ma.fW, .int be, .ref ma.fO, .ref ma.fB, .int bz, .ref ma.fS, .ref ma.fD, .int sz]))]) [30] (by decide) rfl) rfl rfl) rfl hl.1 rfl (Nat.le_of_ble_eq_true rfl) d_LW_law_173 ⟨hRc, hRs⟩) hP hD hS [30] rfl (fun _ => rfl) (fun r_6 u_6 H locs hu_6 hP hS => ?_)
      have hP : va_P (dC, dI) cls (WL cI cJ cZ ca ma ⟨nd, ar, pr, F, G, N, Fm, Rs, A, z, Se, al, br, N2, Fm2, Rs2, A2, zi2, S2, al2, br2, Cr, Op, Bf, sn, Ld, zi, Sg, Pi, Bo, pci, Gd, gci, bl0⟩ ⟨(nI 0), nd, ar, be, bz, sz, F', G', P, Nm, Wm, Td, Ob, Sp, D⟩) H := hP
      have hD := hD.addr (ws' := (WL cI cJ cZ ca ma ⟨nd, ar, pr, F, G, N, Fm, Rs, A, z, Se, al, br, N2, Fm2, Rs2, A2, zi2, S2, al2, br2, Cr, Op, Bf, sn, Ld, zi, Sg, Pi, Bo, pci, Gd, gci, bl0⟩ ⟨(nI 0), nd, ar, be, bz, sz, F', G', P, Nm, Wm, Td, Ob, Sp, D⟩)) rfl
      have hag : r_6 = (-3) := hu_6
      refine xe_i (y := (-3)) hag ?_
      refine lv_icmp_eq (tgt := 609) hx hb d_LW_law_176 (by decide) (fun _ => ?_) (fun q9 => absurd rfl q9)
      exact kk ⟨nd, ar, pr, F, G, N, Fm, Rs, A, z, Se, al, br, N2, Fm2, Rs2, A2, zi2, S2, al2, br2, Cr, Op, Bf, sn, Ld, zi, Sg, Pi, Bo, pci, Gd, gci, bl0⟩ ⟨(nI 0), nd, ar, be, bz, sz, F', G', P, Nm, Wm, Td, Ob, Sp, D⟩ H locs ⟨hGA, hSK, hB0, rfl, rfl, hF, hG, hLK, hTd⟩ hP hD hS
    · skip
      by_cases h40 : ar = 40
      · skip
        rw [ex, ey]
        refine vp_callSi (va_Run.run (k_V (n := 2) (C := R_CP) (rest := []) ⟨hx, hb, hml, hown, hts⟩ (c_CP_arc_f l dC dI cI cJ cZ ca.cp ca.g ca.k ca.k2 ca.fl ca.co ca.sp ca.a1 ca.a2 nd ar pr x y (by first | assumption | omega) (by first | assumption | omega) (by first | assumption | omega) (by first | assumption | omega) (by first | assumption | omega)) wml_LW_22 wim_CP_arc wsel_CP_arc wini_CP wcode_CP_arc (by decide +kernel) ⟨Nat.le_of_ble_eq_true rfl, Nat.le_of_ble_eq_true rfl⟩ (preV_R (q := (R_CP, F_CP, 6)) (ci := 0) (q0 := 0) (hP.sub (ws' := [(ca.cp, .inr (0, [.ref ca.g, .ref ca.k, .ref ca.k2, .ref ca.fl, .ref ca.co, .ref ca.sp])), (ca.g, .inr (1, [.ref ca.a1, .ref ca.a2, .int (nI nd), .int (nI ar), .long pr]))]) [0, 1] rfl) hK rfl rfl) rfl hl.1 rfl (Nat.le_of_ble_eq_true rfl) d_LW_law_159 ⟨hRc, hRs⟩)) (fun r_7 hr_8 => ?_)
        refine xe_i (y := (-4)) hr_8 ?_
        refine lv_aload_n hx hb d_LW_law_162 rfl (lv_at hl 2 rfl) ?_
        refine lv_aload_n hx hb d_LW_law_163 rfl (lv_at hl 0 rfl) ?_
        refine lv_iload_n hx hb d_LW_law_164 rfl (lv_at hl 3 rfl) ?_
        refine lv_iconst (v := (nI 1)) hx hb d_LW_law_165 (by decide) ?_
        refine lv_iadd hx hb d_LW_law_166 ?_
        refine xe_i (nI_add _ _) ?_
        refine x_sld hx hb hX hbl hbA hS (by omega) hL d_LW_law_167 ?_
        refine lv_aload_n hx hb d_LW_law_168 rfl (lv_at hl 0 rfl) ?_
        refine lv_iload_n hx hb d_LW_law_169 rfl (lv_at hl 3 rfl) ?_
        refine lv_iconst (v := (nI 2)) hx hb d_LW_law_170 (by decide) ?_
        refine lv_iadd hx hb d_LW_law_171 ?_
        refine xe_i (nI_add _ _) ?_
        refine x_sld hx hb hX hbl hbA hS (by omega) hL d_LW_law_172 ?_
        rw [ex, ey]
        refine x_ci (k_V (n := 2) (C := R_MO) (rest := [.int (-4)]) ⟨hx, hb, hml, hown, hts⟩ (c_MO_arc_f l dC dI cI cJ cZ ma.o ma.fF ma.fG ma.fT ma.fN ma.fW ma.fO ma.fB ma.fS ma.fD th be bz sz nd ar (by first | assumption | omega) (by first | assumption | omega) x y (by first | assumption | omega) (by first | assumption | omega) (by first | assumption | omega)) wml_LW_26 wim_MO_arc wsel_MO_arc wini_MO wcode_MO_arc (by decide +kernel) ⟨Nat.le_of_ble_eq_true rfl, Nat.le_of_ble_eq_true rfl⟩ (preV_M (q := (R_MO, F_MO, 15)) (ci := 7) (q0 := 0) (hP.sub (ws' := [(ma.o, .inr (7, [.int th, .int (nI nd), .int (nI ar), .ref ma.fF, .ref ma.fG, .ref ma.fT, .ref ma.fN, .ref ma.fW, .int be, .ref ma.fO, .ref ma.fB, .int bz, .ref ma.fS, .ref ma.fD, .int sz]))]) [30] rfl) hK (hD.sub (ws' := [(ma.o, .inr (7, [.int th, .int (nI nd), .int (nI ar), .ref ma.fF, .ref ma.fG, .ref ma.fT, .ref ma.fN, .ref ma.fW, .int be, .ref ma.fO, .ref ma.fB, .int bz, .ref ma.fS, .ref ma.fD, .int sz]))]) [30] (by decide) rfl) rfl rfl) rfl hl.1 rfl (Nat.le_of_ble_eq_true rfl) d_LW_law_173 ⟨hRc, hRs⟩) hP hD hS [30] rfl (fun _ => rfl) (fun r_9 u_9 H locs hu_9 hP hS => ?_)
        have hP : va_P (dC, dI) cls (WL cI cJ cZ ca ma ⟨nd, ar, pr, F, G, N, Fm, Rs, A, z, Se, al, br, N2, Fm2, Rs2, A2, zi2, S2, al2, br2, Cr, Op, Bf, sn, Ld, zi, Sg, Pi, Bo, pci, Gd, gci, bl0⟩ ⟨(nI 0), nd, ar, be, bz, sz, F', G', P, Nm, Wm, Td, Ob, Sp, D⟩) H := hP
        have hD := hD.addr (ws' := (WL cI cJ cZ ca ma ⟨nd, ar, pr, F, G, N, Fm, Rs, A, z, Se, al, br, N2, Fm2, Rs2, A2, zi2, S2, al2, br2, Cr, Op, Bf, sn, Ld, zi, Sg, Pi, Bo, pci, Gd, gci, bl0⟩ ⟨(nI 0), nd, ar, be, bz, sz, F', G', P, Nm, Wm, Td, Ob, Sp, D⟩)) rfl
        have hag : r_9 = (-4) := hu_9
        refine xe_i (y := (-4)) hag ?_
        refine lv_icmp_eq (tgt := 609) hx hb d_LW_law_176 (by decide) (fun _ => ?_) (fun q9 => absurd rfl q9)
        exact kk ⟨nd, ar, pr, F, G, N, Fm, Rs, A, z, Se, al, br, N2, Fm2, Rs2, A2, zi2, S2, al2, br2, Cr, Op, Bf, sn, Ld, zi, Sg, Pi, Bo, pci, Gd, gci, bl0⟩ ⟨(nI 0), nd, ar, be, bz, sz, F', G', P, Nm, Wm, Td, Ob, Sp, D⟩ H locs ⟨hGA, hSK, hB0, rfl, rfl, hF, hG, hLK, hTd⟩ hP hD hS
      · skip
        have h39 : ar < 40 := by omega
        rw [ex, ey]
        refine x_ci (k_V (n := 2) (C := R_CP) (rest := []) ⟨hx, hb, hml, hown, hts⟩ (c_CP_arc_k l dC dI cI cJ cZ ca.cp ca.g ca.k ca.k2 ca.fl ca.co ca.sp ca.a1 ca.a2 nd ar pr F G (by first | assumption | omega) ca.nr ca.fr ca.rs ca.at_ ca.h al br N Fm A ca.b1 (nI z) Se x y (by first | assumption | omega) (by first | assumption | omega) (by first | assumption | omega) (by first | assumption | omega)) wml_LW_22 wim_CP_arc wsel_CP_arc wini_CP wcode_CP_arc (by decide +kernel) ⟨Nat.le_of_ble_eq_true rfl, Nat.le_of_ble_eq_true rfl⟩ (preV_M (q := (R_CP, F_CP, 6)) (ci := 0) (q0 := 0) (hP.sub (ws' := [(ca.cp, .inr (0, [.ref ca.g, .ref ca.k, .ref ca.k2, .ref ca.fl, .ref ca.co, .ref ca.sp])), (ca.g, .inr (1, [.ref ca.a1, .ref ca.a2, .int (nI nd), .int (nI ar), .long pr])), (ca.a1, .inl (cI, 41, .inl (nF F))), (ca.a2, .inl (cI, 41, .inl (nF G))), (ca.k, .inr (2, [.ref ca.nr, .ref ca.fr, .ref ca.rs, .ref ca.at_, .ref ca.h, .int al, .long br])), (ca.nr, .inl (cI, 14, .inl N)), (ca.fr, .inl (cI, 14, .inl Fm)), (ca.at_, .inl (cJ, 14, .inr (.inl A))), (ca.h, .inr (3, [.ref ca.b1, .int (nI z)])), (ca.b1, .inl (cJ, 41, .inr (.inl Se)))]) [0, 1, 2, 3, 4, 5, 6, 8, 9, 10] rfl) hK (hD.sub (ws' := [(ca.cp, .inr (0, [.ref ca.g, .ref ca.k, .ref ca.k2, .ref ca.fl, .ref ca.co, .ref ca.sp])), (ca.g, .inr (1, [.ref ca.a1, .ref ca.a2, .int (nI nd), .int (nI ar), .long pr])), (ca.a1, .inl (cI, 41, .inl (nF F))), (ca.a2, .inl (cI, 41, .inl (nF G))), (ca.k, .inr (2, [.ref ca.nr, .ref ca.fr, .ref ca.rs, .ref ca.at_, .ref ca.h, .int al, .long br])), (ca.nr, .inl (cI, 14, .inl N)), (ca.fr, .inl (cI, 14, .inl Fm)), (ca.at_, .inl (cJ, 14, .inr (.inl A))), (ca.h, .inr (3, [.ref ca.b1, .int (nI z)])), (ca.b1, .inl (cJ, 41, .inr (.inl Se)))]) [0, 1, 2, 3, 4, 5, 6, 8, 9, 10] (by decide) rfl) rfl rfl) rfl hl.1 rfl (Nat.le_of_ble_eq_true rfl) d_LW_law_159 ⟨hRc, hRs⟩) hP hD hS [0, 1, 2, 3, 4, 5, 6, 8, 9, 10] rfl (fun _ => rfl) (fun r_10 u_10 H locs hu_10 hP hS => ?_)
        obtain ⟨N9_10, Fm9_10, A9_10, S9_10, z9_10, al9_10, br9_10⟩ := u_10
        have hP : va_P (dC, dI) cls (WL cI cJ cZ ca ma ⟨nd, (ar + 1), (pr ||| (lsb ar)), (va_up F ar x), (va_up G ar y), N9_10, Fm9_10, Rs, A9_10, z9_10, S9_10, al9_10, br9_10, N2, Fm2, Rs2, A2, zi2, S2, al2, br2, Cr, Op, Bf, sn, Ld, zi, Sg, Pi, Bo, pci, Gd, gci, bl0⟩ ⟨th, nd, ar, be, bz, sz, F', G', P, Nm, Wm, Td, Ob, Sp, D⟩) H := hP
        have hD := hD.addr (ws' := (WL cI cJ cZ ca ma ⟨nd, (ar + 1), (pr ||| (lsb ar)), (va_up F ar x), (va_up G ar y), N9_10, Fm9_10, Rs, A9_10, z9_10, S9_10, al9_10, br9_10, N2, Fm2, Rs2, A2, zi2, S2, al2, br2, Cr, Op, Bf, sn, Ld, zi, Sg, Pi, Bo, pci, Gd, gci, bl0⟩ ⟨th, nd, ar, be, bz, sz, F', G', P, Nm, Wm, Td, Ob, Sp, D⟩)) rfl
        refine xe_i (y := (nI ar)) hu_10.1 ?_
        refine lv_aload_n hx hb d_LW_law_162 rfl (lv_at hl 2 rfl) ?_
        refine lv_aload_n hx hb d_LW_law_163 rfl (lv_at hl 0 rfl) ?_
        refine lv_iload_n hx hb d_LW_law_164 rfl (lv_at hl 3 rfl) ?_
        refine lv_iconst (v := (nI 1)) hx hb d_LW_law_165 (by decide) ?_
        refine lv_iadd hx hb d_LW_law_166 ?_
        refine xe_i (nI_add _ _) ?_
        refine x_sld hx hb hX hbl hbA hS (by omega) hL d_LW_law_167 ?_
        refine lv_aload_n hx hb d_LW_law_168 rfl (lv_at hl 0 rfl) ?_
        refine lv_iload_n hx hb d_LW_law_169 rfl (lv_at hl 3 rfl) ?_
        refine lv_iconst (v := (nI 2)) hx hb d_LW_law_170 (by decide) ?_
        refine lv_iadd hx hb d_LW_law_171 ?_
        refine xe_i (nI_add _ _) ?_
        refine x_sld hx hb hX hbl hbA hS (by omega) hL d_LW_law_172 ?_
        rw [ex, ey]
        refine x_ci (k_V (n := 2) (C := R_MO) (rest := [.int (nI ar)]) ⟨hx, hb, hml, hown, hts⟩ (c_MO_arc_k l dC dI cI cJ cZ ma.o ma.fF ma.fG ma.fT ma.fN ma.fW ma.fO ma.fB ma.fS ma.fD th be bz sz nd ar F' G' P (by first | assumption | omega) (by first | assumption | omega) x y (by first | assumption | omega) (by first | assumption | omega) (by first | assumption | omega)) wml_LW_26 wim_MO_arc wsel_MO_arc wini_MO wcode_MO_arc (by decide +kernel) ⟨Nat.le_of_ble_eq_true rfl, Nat.le_of_ble_eq_true rfl⟩ (preV_M (q := (R_MO, F_MO, 15)) (ci := 7) (q0 := 0) (hP.sub (ws' := [(ma.o, .inr (7, [.int th, .int (nI nd), .int (nI ar), .ref ma.fF, .ref ma.fG, .ref ma.fT, .ref ma.fN, .ref ma.fW, .int be, .ref ma.fO, .ref ma.fB, .int bz, .ref ma.fS, .ref ma.fD, .int sz])), (ma.fF, .inl (cI, 41, .inl (nF F'))), (ma.fG, .inl (cI, 41, .inl (nF G'))), (ma.fT, .inl (cZ, 41, .inl (bF P)))]) [30, 31, 32, 33] rfl) hK (hD.sub (ws' := [(ma.o, .inr (7, [.int th, .int (nI nd), .int (nI ar), .ref ma.fF, .ref ma.fG, .ref ma.fT, .ref ma.fN, .ref ma.fW, .int be, .ref ma.fO, .ref ma.fB, .int bz, .ref ma.fS, .ref ma.fD, .int sz])), (ma.fF, .inl (cI, 41, .inl (nF F'))), (ma.fG, .inl (cI, 41, .inl (nF G'))), (ma.fT, .inl (cZ, 41, .inl (bF P)))]) [30, 31, 32, 33] (by decide) rfl) rfl rfl) rfl hl.1 rfl (Nat.le_of_ble_eq_true rfl) d_LW_law_173 ⟨hRc, hRs⟩) hP hD hS [30, 31, 32, 33] rfl (fun _ => rfl) (fun r_11 u_11 H locs hu_11 hP hS => ?_)
        have hP : va_P (dC, dI) cls (WL cI cJ cZ ca ma ⟨nd, (ar + 1), (pr ||| (lsb ar)), (va_up F ar x), (va_up G ar y), N9_10, Fm9_10, Rs, A9_10, z9_10, S9_10, al9_10, br9_10, N2, Fm2, Rs2, A2, zi2, S2, al2, br2, Cr, Op, Bf, sn, Ld, zi, Sg, Pi, Bo, pci, Gd, gci, bl0⟩ ⟨(nI 0), nd, (ar + 1), be, bz, sz, (va_up F' ar x), (va_up G' ar y), (va_up P ar true), Nm, Wm, Td, Ob, Sp, D⟩) H := hP
        have hD := hD.addr (ws' := (WL cI cJ cZ ca ma ⟨nd, (ar + 1), (pr ||| (lsb ar)), (va_up F ar x), (va_up G ar y), N9_10, Fm9_10, Rs, A9_10, z9_10, S9_10, al9_10, br9_10, N2, Fm2, Rs2, A2, zi2, S2, al2, br2, Cr, Op, Bf, sn, Ld, zi, Sg, Pi, Bo, pci, Gd, gci, bl0⟩ ⟨(nI 0), nd, (ar + 1), be, bz, sz, (va_up F' ar x), (va_up G' ar y), (va_up P ar true), Nm, Wm, Td, Ob, Sp, D⟩)) rfl
        have hag : r_11 = (nI ar) := hu_11
        refine xe_i (y := (nI ar)) hag ?_
        refine lv_icmp_eq (tgt := 609) hx hb d_LW_law_176 (by decide) (fun _ => ?_) (fun q9 => absurd rfl q9)
        exact kk ⟨nd, (ar + 1), (pr ||| (lsb ar)), (va_up F ar x), (va_up G ar y), N9_10, Fm9_10, Rs, A9_10, z9_10, S9_10, al9_10, br9_10, N2, Fm2, Rs2, A2, zi2, S2, al2, br2, Cr, Op, Bf, sn, Ld, zi, Sg, Pi, Bo, pci, Gd, gci, bl0⟩ ⟨(nI 0), nd, (ar + 1), be, bz, sz, (va_up F' ar x), (va_up G' ar y), (va_up P ar true), Nm, Wm, Td, Ob, Sp, D⟩ H locs ⟨GAR_a hGA ha hb_ hab h39, hu_10.2, hB0, rfl, rfl, upm_lt hF (by omega), upm_lt hG (by omega), lk_arc hLK h39, hTd⟩ hP hD hS

set_option maxHeartbeats 8000000 in
set_option maxRecDepth 100000 in
theorem lw_turn {p : Program} {l : Launch} {e : Env} {s : State} {m : MethodId} {args : Array Value} {below : List Frame} {meth : Method} {c : Code} {H : Heap} {locs : List Loc} {Q : State → Prop} {dC : Nat → ClassId} {dI : Nat → Nat → Nat} {cI cJ cZ : ClassId} {A0 : Nat → Prop} {sc L : Nat} {xs : Nat → Int32} {ls : Array Slot} (X : LX p s m args c dC dI cI cJ cZ A0 sc L xs) {i : Nat} (hi : i + 3 ≤ L) {ca : CA} {ma : MA} {u : CS} {v : MS} (hI : LI u v) (hP : va_P (dC, dI) cls (WL cI cJ cZ ca ma u v) H) (hD : va_D A0 (WL cI cJ cZ ca ma u v)) (hS : va_S A0 s.heap H locs) (hl : lv_has ls 4 [(0, .ref sc), (1, .ref ca.cp), (2, .ref ma.o), (3, .int (nI i))])
    (kk : ∀ (u1 : CS) (v1 : MS) (H1 : Heap) (locs1 : List Loc), LI u1 v1 → va_P (dC, dI) cls (WL cI cJ cZ ca ma u1 v1) H1 → va_D A0 (WL cI cJ cZ ca ma u1 v1) → va_S A0 s.heap H1 locs1 → W p l e room_1 s m args below meth c H1 locs1 40 19226 Q (F0 m 609 ls [])) : W p l e room_1 s m args below meth c H locs 40 19226 Q (F0 m 181 ls []) := by
  obtain ⟨hx, hb, hml, hown, hts, hK, hX, hbl, hbA, hL⟩ := X
  have hRc : 40 ≤ room_1.cells := Nat.le_of_ble_eq_true rfl
  have hRs : 19226 ≤ room_1.slots := Nat.le_of_ble_eq_true rfl
  obtain ⟨nd, ar, pr, F, G, N, Fm, Rs, A, z, Se, al, br, N2, Fm2, Rs2, A2, zi2, S2, al2, br2, Cr, Op, Bf, sn, Ld, zi, Sg, Pi, Bo, pci, Gd, gci, bl0⟩ := u
  obtain ⟨th, ndm, arm, be, bz, sz, F', G', P, Nm, Wm, Td, Ob, Sp, D⟩ := v
  obtain ⟨hGA, hSK, hB0, e1, e2, hF, hG, hLK, hTd⟩ := hI
  have e1 : nd = ndm := e1
  have e2 : ar = arm := e2
  subst e1
  subst e2
  have hGA : GAR F G nd ar pr := hGA
  have hSK : SKI (lb pr) F G nd N Fm A Se z al br := hSK
  have hB0 : Bo 0 = 0 := hB0
  have hF : ∀ k, F' k < 14 := hF
  have hG : ∀ k, G' k < 14 := hG
  have hLK : LK F G pr F' G' P ar := hLK
  have hTd : ∀ k, Td k < 3 := hTd
  have hnd14 : nd ≤ 14 := hGA.1
  have har : ar ≤ 40 := hGA.2.1
  have hM := (lk_M hLK hGA).1
  have hNE := (lk_M hLK hGA).2
  refine lv_aload_n hx hb d_LW_law_181 rfl (lv_at hl 1 rfl) ?_
  refine lv_aload_n hx hb d_LW_law_182 rfl (lv_at hl 0 rfl) ?_
  refine lv_iload_n hx hb d_LW_law_183 rfl (lv_at hl 3 rfl) ?_
  refine lv_iconst (v := (nI 1)) hx hb d_LW_law_184 (by decide) ?_
  refine lv_iadd hx hb d_LW_law_185 ?_
  refine xe_i (nI_add _ _) ?_
  refine x_sld hx hb hX hbl hbA hS (by omega) hL d_LW_law_186 ?_
  cases hv : vd (xs (i + 1)) ar
  · skip
    have hbad := hv
    refine vp_callSi (va_Run.run (k_V (n := 1) (C := R_CP) (rest := []) ⟨hx, hb, hml, hown, hts⟩ (c_CP_turn_b l dC dI cI cJ cZ ca.cp ca.g ca.k ca.k2 ca.fl ca.co ca.sp ca.a1 ca.a2 nd ar pr (xs (i + 1)) (by first | assumption | omega) (by first | assumption | omega)) wml_LW_27 wim_CP_turn wsel_CP_turn wini_CP wcode_CP_turn (by decide +kernel) ⟨Nat.le_of_ble_eq_true rfl, Nat.le_of_ble_eq_true rfl⟩ (preV_R (q := (R_CP, F_CP, 6)) (ci := 0) (q0 := 0) (hP.sub (ws' := [(ca.cp, .inr (0, [.ref ca.g, .ref ca.k, .ref ca.k2, .ref ca.fl, .ref ca.co, .ref ca.sp])), (ca.g, .inr (1, [.ref ca.a1, .ref ca.a2, .int (nI nd), .int (nI ar), .long pr]))]) [0, 1] rfl) hK rfl rfl) rfl hl.1 rfl (Nat.le_of_ble_eq_true rfl) d_LW_law_187 ⟨hRc, hRs⟩)) (fun r_1 hr_2 => ?_)
    refine xe_i (y := (-1)) hr_2 ?_
    refine lv_aload_n hx hb d_LW_law_190 rfl (lv_at hl 2 rfl) ?_
    refine lv_aload_n hx hb d_LW_law_191 rfl (lv_at hl 0 rfl) ?_
    refine lv_iload_n hx hb d_LW_law_192 rfl (lv_at hl 3 rfl) ?_
    refine lv_iconst (v := (nI 1)) hx hb d_LW_law_193 (by decide) ?_
    refine lv_iadd hx hb d_LW_law_194 ?_
    refine xe_i (nI_add _ _) ?_
    refine x_sld hx hb hX hbl hbA hS (by omega) hL d_LW_law_195 ?_
    refine x_ci (k_V (n := 1) (C := R_MO) (rest := [.int (-1)]) ⟨hx, hb, hml, hown, hts⟩ (c_MO_turn_b l dC dI cI cJ cZ ma.o ma.fF ma.fG ma.fT ma.fN ma.fW ma.fO ma.fB ma.fS ma.fD th be bz sz nd ar (xs (i + 1)) (by first | assumption | omega) (by first | assumption | omega)) wml_LW_31 wim_MO_turn wsel_MO_turn wini_MO wcode_MO_turn (by decide +kernel) ⟨Nat.le_of_ble_eq_true rfl, Nat.le_of_ble_eq_true rfl⟩ (preV_M (q := (R_MO, F_MO, 15)) (ci := 7) (q0 := 0) (hP.sub (ws' := [(ma.o, .inr (7, [.int th, .int (nI nd), .int (nI ar), .ref ma.fF, .ref ma.fG, .ref ma.fT, .ref ma.fN, .ref ma.fW, .int be, .ref ma.fO, .ref ma.fB, .int bz, .ref ma.fS, .ref ma.fD, .int sz]))]) [30] rfl) hK (hD.sub (ws' := [(ma.o, .inr (7, [.int th, .int (nI nd), .int (nI ar), .ref ma.fF, .ref ma.fG, .ref ma.fT, .ref ma.fN, .ref ma.fW, .int be, .ref ma.fO, .ref ma.fB, .int bz, .ref ma.fS, .ref ma.fD, .int sz]))]) [30] (by decide) rfl) rfl rfl) rfl hl.1 rfl (Nat.le_of_ble_eq_true rfl) d_LW_law_196 ⟨hRc, hRs⟩) hP hD hS [30] rfl (fun _ => rfl) (fun r_3 u_3 H locs hu_3 hP hS => ?_)
    have hP : va_P (dC, dI) cls (WL cI cJ cZ ca ma ⟨nd, ar, pr, F, G, N, Fm, Rs, A, z, Se, al, br, N2, Fm2, Rs2, A2, zi2, S2, al2, br2, Cr, Op, Bf, sn, Ld, zi, Sg, Pi, Bo, pci, Gd, gci, bl0⟩ ⟨(nI 0), nd, ar, be, bz, sz, F', G', P, Nm, Wm, Td, Ob, Sp, D⟩) H := hP
    have hD := hD.addr (ws' := (WL cI cJ cZ ca ma ⟨nd, ar, pr, F, G, N, Fm, Rs, A, z, Se, al, br, N2, Fm2, Rs2, A2, zi2, S2, al2, br2, Cr, Op, Bf, sn, Ld, zi, Sg, Pi, Bo, pci, Gd, gci, bl0⟩ ⟨(nI 0), nd, ar, be, bz, sz, F', G', P, Nm, Wm, Td, Ob, Sp, D⟩)) rfl
    have hag : r_3 = (-1) := hu_3
    refine xe_i (y := (-1)) hag ?_
    refine lv_icmp_eq (tgt := 609) hx hb d_LW_law_199 (by decide) (fun _ => ?_) (fun q9 => absurd rfl q9)
    exact kk ⟨nd, ar, pr, F, G, N, Fm, Rs, A, z, Se, al, br, N2, Fm2, Rs2, A2, zi2, S2, al2, br2, Cr, Op, Bf, sn, Ld, zi, Sg, Pi, Bo, pci, Gd, gci, bl0⟩ ⟨(nI 0), nd, ar, be, bz, sz, F', G', P, Nm, Wm, Td, Ob, Sp, D⟩ H locs ⟨hGA, hSK, hB0, rfl, rfl, hF, hG, hLK, hTd⟩ hP hD hS
  · skip
    obtain ⟨x, hxa, ex⟩ := vd_t hv (by omega)
    rw [ex]
    refine x_ci (k_V (n := 1) (C := R_CP) (rest := []) ⟨hx, hb, hml, hown, hts⟩ (c_CP_turn_k l dC dI cI cJ cZ ca.cp ca.g ca.k ca.k2 ca.fl ca.co ca.sp ca.a1 ca.a2 nd ar pr F G (by first | assumption | omega) ca.nr ca.fr ca.rs ca.at_ ca.h al br N Fm A ca.b1 (nI z) Se x (by first | assumption | omega)) wml_LW_27 wim_CP_turn wsel_CP_turn wini_CP wcode_CP_turn (by decide +kernel) ⟨Nat.le_of_ble_eq_true rfl, Nat.le_of_ble_eq_true rfl⟩ (preV_M (q := (R_CP, F_CP, 6)) (ci := 0) (q0 := 0) (hP.sub (ws' := [(ca.cp, .inr (0, [.ref ca.g, .ref ca.k, .ref ca.k2, .ref ca.fl, .ref ca.co, .ref ca.sp])), (ca.g, .inr (1, [.ref ca.a1, .ref ca.a2, .int (nI nd), .int (nI ar), .long pr])), (ca.a1, .inl (cI, 41, .inl (nF F))), (ca.a2, .inl (cI, 41, .inl (nF G))), (ca.k, .inr (2, [.ref ca.nr, .ref ca.fr, .ref ca.rs, .ref ca.at_, .ref ca.h, .int al, .long br])), (ca.nr, .inl (cI, 14, .inl N)), (ca.fr, .inl (cI, 14, .inl Fm)), (ca.at_, .inl (cJ, 14, .inr (.inl A))), (ca.h, .inr (3, [.ref ca.b1, .int (nI z)])), (ca.b1, .inl (cJ, 41, .inr (.inl Se)))]) [0, 1, 2, 3, 4, 5, 6, 8, 9, 10] rfl) hK (hD.sub (ws' := [(ca.cp, .inr (0, [.ref ca.g, .ref ca.k, .ref ca.k2, .ref ca.fl, .ref ca.co, .ref ca.sp])), (ca.g, .inr (1, [.ref ca.a1, .ref ca.a2, .int (nI nd), .int (nI ar), .long pr])), (ca.a1, .inl (cI, 41, .inl (nF F))), (ca.a2, .inl (cI, 41, .inl (nF G))), (ca.k, .inr (2, [.ref ca.nr, .ref ca.fr, .ref ca.rs, .ref ca.at_, .ref ca.h, .int al, .long br])), (ca.nr, .inl (cI, 14, .inl N)), (ca.fr, .inl (cI, 14, .inl Fm)), (ca.at_, .inl (cJ, 14, .inr (.inl A))), (ca.h, .inr (3, [.ref ca.b1, .int (nI z)])), (ca.b1, .inl (cJ, 41, .inr (.inl Se)))]) [0, 1, 2, 3, 4, 5, 6, 8, 9, 10] (by decide) rfl) rfl rfl) rfl hl.1 rfl (Nat.le_of_ble_eq_true rfl) d_LW_law_187 ⟨hRc, hRs⟩) hP hD hS [0, 1, 2, 3, 4, 5, 6, 8, 9, 10] rfl (fun _ => rfl) (fun r_4 u_4 H locs hu_4 hP hS => ?_)
    obtain ⟨N9_4, Fm9_4, A9_4, S9_4, z9_4, al9_4, br9_4⟩ := u_4
    have hP : va_P (dC, dI) cls (WL cI cJ cZ ca ma ⟨nd, ar, (pr ^^^ (lsb x)), F, G, N9_4, Fm9_4, Rs, A9_4, z9_4, S9_4, al9_4, br9_4, N2, Fm2, Rs2, A2, zi2, S2, al2, br2, Cr, Op, Bf, sn, Ld, zi, Sg, Pi, Bo, pci, Gd, gci, bl0⟩ ⟨th, nd, ar, be, bz, sz, F', G', P, Nm, Wm, Td, Ob, Sp, D⟩) H := hP
    have hD := hD.addr (ws' := (WL cI cJ cZ ca ma ⟨nd, ar, (pr ^^^ (lsb x)), F, G, N9_4, Fm9_4, Rs, A9_4, z9_4, S9_4, al9_4, br9_4, N2, Fm2, Rs2, A2, zi2, S2, al2, br2, Cr, Op, Bf, sn, Ld, zi, Sg, Pi, Bo, pci, Gd, gci, bl0⟩ ⟨th, nd, ar, be, bz, sz, F', G', P, Nm, Wm, Td, Ob, Sp, D⟩)) rfl
    refine xe_i (y := (bI (!lb pr x))) hu_4.1 ?_
    refine lv_aload_n hx hb d_LW_law_190 rfl (lv_at hl 2 rfl) ?_
    refine lv_aload_n hx hb d_LW_law_191 rfl (lv_at hl 0 rfl) ?_
    refine lv_iload_n hx hb d_LW_law_192 rfl (lv_at hl 3 rfl) ?_
    refine lv_iconst (v := (nI 1)) hx hb d_LW_law_193 (by decide) ?_
    refine lv_iadd hx hb d_LW_law_194 ?_
    refine xe_i (nI_add _ _) ?_
    refine x_sld hx hb hX hbl hbA hS (by omega) hL d_LW_law_195 ?_
    rw [ex]
    refine x_ci (k_V (n := 1) (C := R_MO) (rest := [.int (bI (!lb pr x))]) ⟨hx, hb, hml, hown, hts⟩ (c_MO_turn_k l dC dI cI cJ cZ ma.o ma.fF ma.fG ma.fT ma.fN ma.fW ma.fO ma.fB ma.fS ma.fD th be bz sz nd ar P (by first | assumption | omega) x (by first | assumption | omega)) wml_LW_31 wim_MO_turn wsel_MO_turn wini_MO wcode_MO_turn (by decide +kernel) ⟨Nat.le_of_ble_eq_true rfl, Nat.le_of_ble_eq_true rfl⟩ (preV_M (q := (R_MO, F_MO, 15)) (ci := 7) (q0 := 0) (hP.sub (ws' := [(ma.o, .inr (7, [.int th, .int (nI nd), .int (nI ar), .ref ma.fF, .ref ma.fG, .ref ma.fT, .ref ma.fN, .ref ma.fW, .int be, .ref ma.fO, .ref ma.fB, .int bz, .ref ma.fS, .ref ma.fD, .int sz])), (ma.fT, .inl (cZ, 41, .inl (bF P)))]) [30, 33] rfl) hK (hD.sub (ws' := [(ma.o, .inr (7, [.int th, .int (nI nd), .int (nI ar), .ref ma.fF, .ref ma.fG, .ref ma.fT, .ref ma.fN, .ref ma.fW, .int be, .ref ma.fO, .ref ma.fB, .int bz, .ref ma.fS, .ref ma.fD, .int sz])), (ma.fT, .inl (cZ, 41, .inl (bF P)))]) [30, 33] (by decide) rfl) rfl rfl) rfl hl.1 rfl (Nat.le_of_ble_eq_true rfl) d_LW_law_196 ⟨hRc, hRs⟩) hP hD hS [30, 33] rfl (fun _ => rfl) (fun r_5 u_5 H locs hu_5 hP hS => ?_)
    obtain ⟨P9_5, rfl⟩ : ∃ z, z = u_5 := ⟨_, rfl⟩
    have hP : va_P (dC, dI) cls (WL cI cJ cZ ca ma ⟨nd, ar, (pr ^^^ (lsb x)), F, G, N9_4, Fm9_4, Rs, A9_4, z9_4, S9_4, al9_4, br9_4, N2, Fm2, Rs2, A2, zi2, S2, al2, br2, Cr, Op, Bf, sn, Ld, zi, Sg, Pi, Bo, pci, Gd, gci, bl0⟩ ⟨(nI 0), nd, ar, be, bz, sz, F', G', P9_5, Nm, Wm, Td, Ob, Sp, D⟩) H := hP
    have hD := hD.addr (ws' := (WL cI cJ cZ ca ma ⟨nd, ar, (pr ^^^ (lsb x)), F, G, N9_4, Fm9_4, Rs, A9_4, z9_4, S9_4, al9_4, br9_4, N2, Fm2, Rs2, A2, zi2, S2, al2, br2, Cr, Op, Bf, sn, Ld, zi, Sg, Pi, Bo, pci, Gd, gci, bl0⟩ ⟨(nI 0), nd, ar, be, bz, sz, F', G', P9_5, Nm, Wm, Td, Ob, Sp, D⟩)) rfl
    have hag : r_5 = (bI (!lb pr x)) := hu_5.1.trans (by rw [lk_P hLK hxa])
    refine xe_i (y := (bI (!lb pr x))) hag ?_
    refine lv_icmp_eq (tgt := 609) hx hb d_LW_law_199 (by decide) (fun _ => ?_) (fun q9 => absurd rfl q9)
    exact kk ⟨nd, ar, (pr ^^^ (lsb x)), F, G, N9_4, Fm9_4, Rs, A9_4, z9_4, S9_4, al9_4, br9_4, N2, Fm2, Rs2, A2, zi2, S2, al2, br2, Cr, Op, Bf, sn, Ld, zi, Sg, Pi, Bo, pci, Gd, gci, bl0⟩ ⟨(nI 0), nd, ar, be, bz, sz, F', G', P9_5, Nm, Wm, Td, Ob, Sp, D⟩ H locs ⟨GAR_t hGA hxa, hu_4.2, hB0, rfl, rfl, hF, hG, by rw [hu_5.2]; exact lk_turn hLK hxa, hTd⟩ hP hD hS

