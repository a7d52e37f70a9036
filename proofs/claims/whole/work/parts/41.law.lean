abbrev m_L_law : MD := (x, code, 4, ret)
theorem dL_law_0 : decode cL_law 0 = .ok (.new 7, 3) := by decide +kernel
theorem dL_law_3 : decode cL_law 3 = .ok (.dup, 1) := by decide +kernel
theorem dL_law_4 : decode cL_law 4 = .ok (.invokespecial 9, 3) := by decide +kernel
theorem dL_law_7 : decode cL_law 7 = .ok (.astore_n 1, 1) := by decide +kernel
theorem dL_law_8 : decode cL_law 8 = .ok (.new 10, 3) := by decide +kernel
theorem dL_law_11 : decode cL_law 11 = .ok (.dup, 1) := by decide +kernel
theorem dL_law_12 : decode cL_law 12 = .ok (.invokespecial 12, 3) := by decide +kernel
theorem dL_law_15 : decode cL_law 15 = .ok (.astore_n 2, 1) := by decide +kernel
theorem dL_law_16 : decode cL_law 16 = .ok (.iconst 0, 1) := by decide +kernel
theorem dL_law_17 : decode cL_law 17 = .ok (.istore_n 3, 1) := by decide +kernel
theorem dL_law_18 : decode cL_law 18 = .ok (.iload_n 3, 1) := by decide +kernel
theorem dL_law_19 : decode cL_law 19 = .ok (.aload_n 0, 1) := by decide +kernel
theorem dL_law_20 : decode cL_law 20 = .ok (.arraylength, 1) := by decide +kernel
theorem dL_law_21 : decode cL_law 21 = .ok (.bipush 6, 2) := by decide +kernel
theorem dL_law_23 : decode cL_law 23 = .ok (.isub, 1) := by decide +kernel
theorem dL_law_24 : decode cL_law 24 = .ok (.if_icmp .gt 793, 3) := by decide +kernel
theorem dL_law_27 : decode cL_law 27 = .ok (.aload_n 0, 1) := by decide +kernel
theorem dL_law_28 : decode cL_law 28 = .ok (.iload_n 3, 1) := by decide +kernel
theorem dL_law_29 : decode cL_law 29 = .ok (.iaload, 1) := by decide +kernel
theorem dL_law_30 : decode cL_law 30 = .ok (.bipush 31, 2) := by decide +kernel
theorem dL_law_32 : decode cL_law 32 = .ok (.iand, 1) := by decide +kernel
theorem dL_law_33 : decode cL_law 33 = .ok (.tableswitch 778 0 25 #[119, 182, 205, 218, 231, 274, 297, 340, 383, 416, 429, 452, 476, 489, 502, 535, 568, 581, 624, 637, 680, 713, 726, 739, 752, 765], 119) := by decide +kernel
theorem dL_law_152 : decode cL_law 152 = .ok (.aload_n 1, 1) := by decide +kernel
theorem dL_law_153 : decode cL_law 153 = .ok (.aload_n 0, 1) := by decide +kernel
theorem dL_law_154 : decode cL_law 154 = .ok (.iload_n 3, 1) := by decide +kernel
theorem dL_law_155 : decode cL_law 155 = .ok (.iconst 1, 1) := by decide +kernel
theorem dL_law_156 : decode cL_law 156 = .ok (.iadd, 1) := by decide +kernel
theorem dL_law_157 : decode cL_law 157 = .ok (.iaload, 1) := by decide +kernel
theorem dL_law_158 : decode cL_law 158 = .ok (.aload_n 0, 1) := by decide +kernel
theorem dL_law_159 : decode cL_law 159 = .ok (.iload_n 3, 1) := by decide +kernel
theorem dL_law_160 : decode cL_law 160 = .ok (.iconst 2, 1) := by decide +kernel
theorem dL_law_161 : decode cL_law 161 = .ok (.iadd, 1) := by decide +kernel
theorem dL_law_162 : decode cL_law 162 = .ok (.iaload, 1) := by decide +kernel
theorem dL_law_163 : decode cL_law 163 = .ok (.aload_n 0, 1) := by decide +kernel
theorem dL_law_164 : decode cL_law 164 = .ok (.iload_n 3, 1) := by decide +kernel
theorem dL_law_165 : decode cL_law 165 = .ok (.iconst 3, 1) := by decide +kernel
theorem dL_law_166 : decode cL_law 166 = .ok (.iadd, 1) := by decide +kernel
theorem dL_law_167 : decode cL_law 167 = .ok (.iaload, 1) := by decide +kernel
theorem dL_law_168 : decode cL_law 168 = .ok (.aload_n 0, 1) := by decide +kernel
theorem dL_law_169 : decode cL_law 169 = .ok (.iload_n 3, 1) := by decide +kernel
theorem dL_law_170 : decode cL_law 170 = .ok (.iconst 4, 1) := by decide +kernel
theorem dL_law_171 : decode cL_law 171 = .ok (.iadd, 1) := by decide +kernel
theorem dL_law_172 : decode cL_law 172 = .ok (.iaload, 1) := by decide +kernel
theorem dL_law_173 : decode cL_law 173 = .ok (.aload_n 0, 1) := by decide +kernel
theorem dL_law_174 : decode cL_law 174 = .ok (.iload_n 3, 1) := by decide +kernel
theorem dL_law_175 : decode cL_law 175 = .ok (.iconst 5, 1) := by decide +kernel
theorem dL_law_176 : decode cL_law 176 = .ok (.iadd, 1) := by decide +kernel
theorem dL_law_177 : decode cL_law 177 = .ok (.iaload, 1) := by decide +kernel
theorem dL_law_178 : decode cL_law 178 = .ok (.invokevirtual 13, 3) := by decide +kernel
theorem dL_law_181 : decode cL_law 181 = .ok (.aload_n 2, 1) := by decide +kernel
theorem dL_law_182 : decode cL_law 182 = .ok (.aload_n 0, 1) := by decide +kernel
theorem dL_law_183 : decode cL_law 183 = .ok (.iload_n 3, 1) := by decide +kernel
theorem dL_law_184 : decode cL_law 184 = .ok (.iconst 1, 1) := by decide +kernel
theorem dL_law_185 : decode cL_law 185 = .ok (.iadd, 1) := by decide +kernel
theorem dL_law_186 : decode cL_law 186 = .ok (.iaload, 1) := by decide +kernel
theorem dL_law_187 : decode cL_law 187 = .ok (.aload_n 0, 1) := by decide +kernel
theorem dL_law_188 : decode cL_law 188 = .ok (.iload_n 3, 1) := by decide +kernel
theorem dL_law_189 : decode cL_law 189 = .ok (.iconst 2, 1) := by decide +kernel
theorem dL_law_190 : decode cL_law 190 = .ok (.iadd, 1) := by decide +kernel
theorem dL_law_191 : decode cL_law 191 = .ok (.iaload, 1) := by decide +kernel
theorem dL_law_192 : decode cL_law 192 = .ok (.aload_n 0, 1) := by decide +kernel
theorem dL_law_193 : decode cL_law 193 = .ok (.iload_n 3, 1) := by decide +kernel
theorem dL_law_194 : decode cL_law 194 = .ok (.iconst 3, 1) := by decide +kernel
theorem dL_law_195 : decode cL_law 195 = .ok (.iadd, 1) := by decide +kernel
theorem dL_law_196 : decode cL_law 196 = .ok (.iaload, 1) := by decide +kernel
theorem dL_law_197 : decode cL_law 197 = .ok (.aload_n 0, 1) := by decide +kernel
theorem dL_law_198 : decode cL_law 198 = .ok (.iload_n 3, 1) := by decide +kernel
theorem dL_law_199 : decode cL_law 199 = .ok (.iconst 4, 1) := by decide +kernel
theorem dL_law_200 : decode cL_law 200 = .ok (.iadd, 1) := by decide +kernel
theorem dL_law_201 : decode cL_law 201 = .ok (.iaload, 1) := by decide +kernel
theorem dL_law_202 : decode cL_law 202 = .ok (.aload_n 0, 1) := by decide +kernel
theorem dL_law_203 : decode cL_law 203 = .ok (.iload_n 3, 1) := by decide +kernel
theorem dL_law_204 : decode cL_law 204 = .ok (.iconst 5, 1) := by decide +kernel
theorem dL_law_205 : decode cL_law 205 = .ok (.iadd, 1) := by decide +kernel
theorem dL_law_206 : decode cL_law 206 = .ok (.iaload, 1) := by decide +kernel
theorem dL_law_207 : decode cL_law 207 = .ok (.invokevirtual 17, 3) := by decide +kernel
theorem dL_law_210 : decode cL_law 210 = .ok (.if_icmp .eq 601, 3) := by decide +kernel
theorem dL_law_213 : decode cL_law 213 = .ok (.iconst 0, 1) := by decide +kernel
theorem dL_law_214 : decode cL_law 214 = .ok (.ireturn, 1) := by decide +kernel
theorem dL_law_215 : decode cL_law 215 = .ok (.aload_n 1, 1) := by decide +kernel
theorem dL_law_216 : decode cL_law 216 = .ok (.aload_n 0, 1) := by decide +kernel
theorem dL_law_217 : decode cL_law 217 = .ok (.iload_n 3, 1) := by decide +kernel
theorem dL_law_218 : decode cL_law 218 = .ok (.iconst 1, 1) := by decide +kernel
theorem dL_law_219 : decode cL_law 219 = .ok (.iadd, 1) := by decide +kernel
theorem dL_law_220 : decode cL_law 220 = .ok (.iaload, 1) := by decide +kernel
theorem dL_law_221 : decode cL_law 221 = .ok (.invokevirtual 18, 3) := by decide +kernel
theorem dL_law_224 : decode cL_law 224 = .ok (.aload_n 2, 1) := by decide +kernel
theorem dL_law_225 : decode cL_law 225 = .ok (.aload_n 0, 1) := by decide +kernel
theorem dL_law_226 : decode cL_law 226 = .ok (.iload_n 3, 1) := by decide +kernel
theorem dL_law_227 : decode cL_law 227 = .ok (.iconst 1, 1) := by decide +kernel
theorem dL_law_228 : decode cL_law 228 = .ok (.iadd, 1) := by decide +kernel
theorem dL_law_229 : decode cL_law 229 = .ok (.iaload, 1) := by decide +kernel
theorem dL_law_230 : decode cL_law 230 = .ok (.invokevirtual 22, 3) := by decide +kernel
theorem dL_law_233 : decode cL_law 233 = .ok (.if_icmp .eq 578, 3) := by decide +kernel
theorem dL_law_236 : decode cL_law 236 = .ok (.iconst 0, 1) := by decide +kernel
theorem dL_law_237 : decode cL_law 237 = .ok (.ireturn, 1) := by decide +kernel
theorem dL_law_238 : decode cL_law 238 = .ok (.aload_n 1, 1) := by decide +kernel
theorem dL_law_239 : decode cL_law 239 = .ok (.invokevirtual 23, 3) := by decide +kernel
theorem dL_law_242 : decode cL_law 242 = .ok (.aload_n 2, 1) := by decide +kernel
theorem dL_law_243 : decode cL_law 243 = .ok (.invokevirtual 27, 3) := by decide +kernel
theorem dL_law_246 : decode cL_law 246 = .ok (.if_icmp .eq 565, 3) := by decide +kernel
theorem dL_law_249 : decode cL_law 249 = .ok (.iconst 0, 1) := by decide +kernel
theorem dL_law_250 : decode cL_law 250 = .ok (.ireturn, 1) := by decide +kernel
theorem dL_law_251 : decode cL_law 251 = .ok (.aload_n 1, 1) := by decide +kernel
theorem dL_law_252 : decode cL_law 252 = .ok (.invokevirtual 28, 3) := by decide +kernel
theorem dL_law_255 : decode cL_law 255 = .ok (.aload_n 2, 1) := by decide +kernel
theorem dL_law_256 : decode cL_law 256 = .ok (.invokevirtual 31, 3) := by decide +kernel
theorem dL_law_259 : decode cL_law 259 = .ok (.if_icmp .eq 552, 3) := by decide +kernel
theorem dL_law_262 : decode cL_law 262 = .ok (.iconst 0, 1) := by decide +kernel
theorem dL_law_263 : decode cL_law 263 = .ok (.ireturn, 1) := by decide +kernel
theorem dL_law_264 : decode cL_law 264 = .ok (.aload_n 1, 1) := by decide +kernel
theorem dL_law_265 : decode cL_law 265 = .ok (.aload_n 0, 1) := by decide +kernel
theorem dL_law_266 : decode cL_law 266 = .ok (.iload_n 3, 1) := by decide +kernel
theorem dL_law_267 : decode cL_law 267 = .ok (.iconst 1, 1) := by decide +kernel
theorem dL_law_268 : decode cL_law 268 = .ok (.iadd, 1) := by decide +kernel
theorem dL_law_269 : decode cL_law 269 = .ok (.iaload, 1) := by decide +kernel
theorem dL_law_270 : decode cL_law 270 = .ok (.aload_n 0, 1) := by decide +kernel
theorem dL_law_271 : decode cL_law 271 = .ok (.iload_n 3, 1) := by decide +kernel
theorem dL_law_272 : decode cL_law 272 = .ok (.iconst 2, 1) := by decide +kernel
theorem dL_law_273 : decode cL_law 273 = .ok (.iadd, 1) := by decide +kernel
theorem dL_law_274 : decode cL_law 274 = .ok (.iaload, 1) := by decide +kernel
theorem dL_law_275 : decode cL_law 275 = .ok (.aload_n 0, 1) := by decide +kernel
theorem dL_law_276 : decode cL_law 276 = .ok (.iload_n 3, 1) := by decide +kernel
theorem dL_law_277 : decode cL_law 277 = .ok (.iconst 3, 1) := by decide +kernel
theorem dL_law_278 : decode cL_law 278 = .ok (.iadd, 1) := by decide +kernel
theorem dL_law_279 : decode cL_law 279 = .ok (.iaload, 1) := by decide +kernel
theorem dL_law_280 : decode cL_law 280 = .ok (.invokevirtual 32, 3) := by decide +kernel
theorem dL_law_283 : decode cL_law 283 = .ok (.aload_n 2, 1) := by decide +kernel
theorem dL_law_284 : decode cL_law 284 = .ok (.aload_n 0, 1) := by decide +kernel
theorem dL_law_285 : decode cL_law 285 = .ok (.iload_n 3, 1) := by decide +kernel
theorem dL_law_286 : decode cL_law 286 = .ok (.iconst 1, 1) := by decide +kernel
theorem dL_law_287 : decode cL_law 287 = .ok (.iadd, 1) := by decide +kernel
theorem dL_law_288 : decode cL_law 288 = .ok (.iaload, 1) := by decide +kernel
theorem dL_law_289 : decode cL_law 289 = .ok (.aload_n 0, 1) := by decide +kernel
theorem dL_law_290 : decode cL_law 290 = .ok (.iload_n 3, 1) := by decide +kernel
theorem dL_law_291 : decode cL_law 291 = .ok (.iconst 2, 1) := by decide +kernel
theorem dL_law_292 : decode cL_law 292 = .ok (.iadd, 1) := by decide +kernel
theorem dL_law_293 : decode cL_law 293 = .ok (.iaload, 1) := by decide +kernel
theorem dL_law_294 : decode cL_law 294 = .ok (.aload_n 0, 1) := by decide +kernel
theorem dL_law_295 : decode cL_law 295 = .ok (.iload_n 3, 1) := by decide +kernel
theorem dL_law_296 : decode cL_law 296 = .ok (.iconst 3, 1) := by decide +kernel
theorem dL_law_297 : decode cL_law 297 = .ok (.iadd, 1) := by decide +kernel
theorem dL_law_298 : decode cL_law 298 = .ok (.iaload, 1) := by decide +kernel
theorem dL_law_299 : decode cL_law 299 = .ok (.invokevirtual 36, 3) := by decide +kernel
theorem dL_law_302 : decode cL_law 302 = .ok (.if_icmp .eq 509, 3) := by decide +kernel
theorem dL_law_305 : decode cL_law 305 = .ok (.iconst 0, 1) := by decide +kernel
theorem dL_law_306 : decode cL_law 306 = .ok (.ireturn, 1) := by decide +kernel
theorem dL_law_307 : decode cL_law 307 = .ok (.aload_n 1, 1) := by decide +kernel
theorem dL_law_308 : decode cL_law 308 = .ok (.aload_n 0, 1) := by decide +kernel
theorem dL_law_309 : decode cL_law 309 = .ok (.iload_n 3, 1) := by decide +kernel
theorem dL_law_310 : decode cL_law 310 = .ok (.iconst 1, 1) := by decide +kernel
theorem dL_law_311 : decode cL_law 311 = .ok (.iadd, 1) := by decide +kernel
theorem dL_law_312 : decode cL_law 312 = .ok (.iaload, 1) := by decide +kernel
theorem dL_law_313 : decode cL_law 313 = .ok (.invokevirtual 37, 3) := by decide +kernel
theorem dL_law_316 : decode cL_law 316 = .ok (.aload_n 2, 1) := by decide +kernel
theorem dL_law_317 : decode cL_law 317 = .ok (.aload_n 0, 1) := by decide +kernel
theorem dL_law_318 : decode cL_law 318 = .ok (.iload_n 3, 1) := by decide +kernel
theorem dL_law_319 : decode cL_law 319 = .ok (.iconst 1, 1) := by decide +kernel
theorem dL_law_320 : decode cL_law 320 = .ok (.iadd, 1) := by decide +kernel
theorem dL_law_321 : decode cL_law 321 = .ok (.iaload, 1) := by decide +kernel
theorem dL_law_322 : decode cL_law 322 = .ok (.invokevirtual 40, 3) := by decide +kernel
theorem dL_law_325 : decode cL_law 325 = .ok (.if_icmp .eq 486, 3) := by decide +kernel
theorem dL_law_328 : decode cL_law 328 = .ok (.iconst 0, 1) := by decide +kernel
theorem dL_law_329 : decode cL_law 329 = .ok (.ireturn, 1) := by decide +kernel
theorem dL_law_330 : decode cL_law 330 = .ok (.aload_n 1, 1) := by decide +kernel
theorem dL_law_331 : decode cL_law 331 = .ok (.aload_n 0, 1) := by decide +kernel
theorem dL_law_332 : decode cL_law 332 = .ok (.iload_n 3, 1) := by decide +kernel
theorem dL_law_333 : decode cL_law 333 = .ok (.iconst 1, 1) := by decide +kernel
theorem dL_law_334 : decode cL_law 334 = .ok (.iadd, 1) := by decide +kernel
theorem dL_law_335 : decode cL_law 335 = .ok (.iaload, 1) := by decide +kernel
theorem dL_law_336 : decode cL_law 336 = .ok (.aload_n 0, 1) := by decide +kernel
theorem dL_law_337 : decode cL_law 337 = .ok (.iload_n 3, 1) := by decide +kernel
theorem dL_law_338 : decode cL_law 338 = .ok (.iconst 2, 1) := by decide +kernel
theorem dL_law_339 : decode cL_law 339 = .ok (.iadd, 1) := by decide +kernel
theorem dL_law_340 : decode cL_law 340 = .ok (.iaload, 1) := by decide +kernel
theorem dL_law_341 : decode cL_law 341 = .ok (.aload_n 0, 1) := by decide +kernel
theorem dL_law_342 : decode cL_law 342 = .ok (.iload_n 3, 1) := by decide +kernel
theorem dL_law_343 : decode cL_law 343 = .ok (.iconst 3, 1) := by decide +kernel
theorem dL_law_344 : decode cL_law 344 = .ok (.iadd, 1) := by decide +kernel
theorem dL_law_345 : decode cL_law 345 = .ok (.iaload, 1) := by decide +kernel
theorem dL_law_346 : decode cL_law 346 = .ok (.invokevirtual 41, 3) := by decide +kernel
theorem dL_law_349 : decode cL_law 349 = .ok (.aload_n 2, 1) := by decide +kernel
theorem dL_law_350 : decode cL_law 350 = .ok (.aload_n 0, 1) := by decide +kernel
theorem dL_law_351 : decode cL_law 351 = .ok (.iload_n 3, 1) := by decide +kernel
theorem dL_law_352 : decode cL_law 352 = .ok (.iconst 1, 1) := by decide +kernel
theorem dL_law_353 : decode cL_law 353 = .ok (.iadd, 1) := by decide +kernel
theorem dL_law_354 : decode cL_law 354 = .ok (.iaload, 1) := by decide +kernel
theorem dL_law_355 : decode cL_law 355 = .ok (.aload_n 0, 1) := by decide +kernel
theorem dL_law_356 : decode cL_law 356 = .ok (.iload_n 3, 1) := by decide +kernel
theorem dL_law_357 : decode cL_law 357 = .ok (.iconst 2, 1) := by decide +kernel
theorem dL_law_358 : decode cL_law 358 = .ok (.iadd, 1) := by decide +kernel
theorem dL_law_359 : decode cL_law 359 = .ok (.iaload, 1) := by decide +kernel
theorem dL_law_360 : decode cL_law 360 = .ok (.aload_n 0, 1) := by decide +kernel
theorem dL_law_361 : decode cL_law 361 = .ok (.iload_n 3, 1) := by decide +kernel
theorem dL_law_362 : decode cL_law 362 = .ok (.iconst 3, 1) := by decide +kernel
theorem dL_law_363 : decode cL_law 363 = .ok (.iadd, 1) := by decide +kernel
theorem dL_law_364 : decode cL_law 364 = .ok (.iaload, 1) := by decide +kernel
theorem dL_law_365 : decode cL_law 365 = .ok (.invokevirtual 45, 3) := by decide +kernel
theorem dL_law_368 : decode cL_law 368 = .ok (.if_icmp .eq 443, 3) := by decide +kernel
theorem dL_law_371 : decode cL_law 371 = .ok (.iconst 0, 1) := by decide +kernel
theorem dL_law_372 : decode cL_law 372 = .ok (.ireturn, 1) := by decide +kernel
theorem dL_law_373 : decode cL_law 373 = .ok (.aload_n 1, 1) := by decide +kernel
theorem dL_law_374 : decode cL_law 374 = .ok (.aload_n 0, 1) := by decide +kernel
theorem dL_law_375 : decode cL_law 375 = .ok (.iload_n 3, 1) := by decide +kernel
theorem dL_law_376 : decode cL_law 376 = .ok (.iconst 1, 1) := by decide +kernel
theorem dL_law_377 : decode cL_law 377 = .ok (.iadd, 1) := by decide +kernel
theorem dL_law_378 : decode cL_law 378 = .ok (.iaload, 1) := by decide +kernel
theorem dL_law_379 : decode cL_law 379 = .ok (.aload_n 0, 1) := by decide +kernel
theorem dL_law_380 : decode cL_law 380 = .ok (.iload_n 3, 1) := by decide +kernel
theorem dL_law_381 : decode cL_law 381 = .ok (.iconst 2, 1) := by decide +kernel
theorem dL_law_382 : decode cL_law 382 = .ok (.iadd, 1) := by decide +kernel
theorem dL_law_383 : decode cL_law 383 = .ok (.iaload, 1) := by decide +kernel
theorem dL_law_384 : decode cL_law 384 = .ok (.aload_n 0, 1) := by decide +kernel
theorem dL_law_385 : decode cL_law 385 = .ok (.iload_n 3, 1) := by decide +kernel
theorem dL_law_386 : decode cL_law 386 = .ok (.iconst 3, 1) := by decide +kernel
theorem dL_law_387 : decode cL_law 387 = .ok (.iadd, 1) := by decide +kernel
theorem dL_law_388 : decode cL_law 388 = .ok (.iaload, 1) := by decide +kernel
theorem dL_law_389 : decode cL_law 389 = .ok (.invokevirtual 46, 3) := by decide +kernel
theorem dL_law_392 : decode cL_law 392 = .ok (.aload_n 2, 1) := by decide +kernel
theorem dL_law_393 : decode cL_law 393 = .ok (.aload_n 0, 1) := by decide +kernel
theorem dL_law_394 : decode cL_law 394 = .ok (.iload_n 3, 1) := by decide +kernel
theorem dL_law_395 : decode cL_law 395 = .ok (.iconst 1, 1) := by decide +kernel
theorem dL_law_396 : decode cL_law 396 = .ok (.iadd, 1) := by decide +kernel
theorem dL_law_397 : decode cL_law 397 = .ok (.iaload, 1) := by decide +kernel
theorem dL_law_398 : decode cL_law 398 = .ok (.aload_n 0, 1) := by decide +kernel
theorem dL_law_399 : decode cL_law 399 = .ok (.iload_n 3, 1) := by decide +kernel
theorem dL_law_400 : decode cL_law 400 = .ok (.iconst 2, 1) := by decide +kernel
theorem dL_law_401 : decode cL_law 401 = .ok (.iadd, 1) := by decide +kernel
theorem dL_law_402 : decode cL_law 402 = .ok (.iaload, 1) := by decide +kernel
theorem dL_law_403 : decode cL_law 403 = .ok (.aload_n 0, 1) := by decide +kernel
theorem dL_law_404 : decode cL_law 404 = .ok (.iload_n 3, 1) := by decide +kernel
theorem dL_law_405 : decode cL_law 405 = .ok (.iconst 3, 1) := by decide +kernel
theorem dL_law_406 : decode cL_law 406 = .ok (.iadd, 1) := by decide +kernel
theorem dL_law_407 : decode cL_law 407 = .ok (.iaload, 1) := by decide +kernel
theorem dL_law_408 : decode cL_law 408 = .ok (.invokevirtual 49, 3) := by decide +kernel
theorem dL_law_411 : decode cL_law 411 = .ok (.if_icmp .eq 400, 3) := by decide +kernel
theorem dL_law_414 : decode cL_law 414 = .ok (.iconst 0, 1) := by decide +kernel
theorem dL_law_415 : decode cL_law 415 = .ok (.ireturn, 1) := by decide +kernel
theorem dL_law_416 : decode cL_law 416 = .ok (.aload_n 1, 1) := by decide +kernel
theorem dL_law_417 : decode cL_law 417 = .ok (.aload_n 0, 1) := by decide +kernel
theorem dL_law_418 : decode cL_law 418 = .ok (.iload_n 3, 1) := by decide +kernel
theorem dL_law_419 : decode cL_law 419 = .ok (.iconst 1, 1) := by decide +kernel
theorem dL_law_420 : decode cL_law 420 = .ok (.iadd, 1) := by decide +kernel
theorem dL_law_421 : decode cL_law 421 = .ok (.iaload, 1) := by decide +kernel
theorem dL_law_422 : decode cL_law 422 = .ok (.aload_n 0, 1) := by decide +kernel
theorem dL_law_423 : decode cL_law 423 = .ok (.iload_n 3, 1) := by decide +kernel
theorem dL_law_424 : decode cL_law 424 = .ok (.iconst 2, 1) := by decide +kernel
theorem dL_law_425 : decode cL_law 425 = .ok (.iadd, 1) := by decide +kernel
theorem dL_law_426 : decode cL_law 426 = .ok (.iaload, 1) := by decide +kernel
theorem dL_law_427 : decode cL_law 427 = .ok (.invokevirtual 50, 3) := by decide +kernel
theorem dL_law_430 : decode cL_law 430 = .ok (.aload_n 2, 1) := by decide +kernel
theorem dL_law_431 : decode cL_law 431 = .ok (.aload_n 0, 1) := by decide +kernel
theorem dL_law_432 : decode cL_law 432 = .ok (.iload_n 3, 1) := by decide +kernel
theorem dL_law_433 : decode cL_law 433 = .ok (.iconst 1, 1) := by decide +kernel
theorem dL_law_434 : decode cL_law 434 = .ok (.iadd, 1) := by decide +kernel
theorem dL_law_435 : decode cL_law 435 = .ok (.iaload, 1) := by decide +kernel
theorem dL_law_436 : decode cL_law 436 = .ok (.aload_n 0, 1) := by decide +kernel
theorem dL_law_437 : decode cL_law 437 = .ok (.iload_n 3, 1) := by decide +kernel
theorem dL_law_438 : decode cL_law 438 = .ok (.iconst 2, 1) := by decide +kernel
theorem dL_law_439 : decode cL_law 439 = .ok (.iadd, 1) := by decide +kernel
theorem dL_law_440 : decode cL_law 440 = .ok (.iaload, 1) := by decide +kernel
theorem dL_law_441 : decode cL_law 441 = .ok (.invokevirtual 54, 3) := by decide +kernel
theorem dL_law_444 : decode cL_law 444 = .ok (.if_icmp .eq 367, 3) := by decide +kernel
theorem dL_law_447 : decode cL_law 447 = .ok (.iconst 0, 1) := by decide +kernel
theorem dL_law_448 : decode cL_law 448 = .ok (.ireturn, 1) := by decide +kernel
theorem dL_law_449 : decode cL_law 449 = .ok (.aload_n 1, 1) := by decide +kernel
theorem dL_law_450 : decode cL_law 450 = .ok (.invokevirtual 55, 3) := by decide +kernel
theorem dL_law_453 : decode cL_law 453 = .ok (.aload_n 2, 1) := by decide +kernel
theorem dL_law_454 : decode cL_law 454 = .ok (.invokevirtual 59, 3) := by decide +kernel
theorem dL_law_457 : decode cL_law 457 = .ok (.if_icmp .eq 354, 3) := by decide +kernel
theorem dL_law_460 : decode cL_law 460 = .ok (.iconst 0, 1) := by decide +kernel
theorem dL_law_461 : decode cL_law 461 = .ok (.ireturn, 1) := by decide +kernel
theorem dL_law_462 : decode cL_law 462 = .ok (.aload_n 1, 1) := by decide +kernel
theorem dL_law_463 : decode cL_law 463 = .ok (.aload_n 0, 1) := by decide +kernel
theorem dL_law_464 : decode cL_law 464 = .ok (.iload_n 3, 1) := by decide +kernel
theorem dL_law_465 : decode cL_law 465 = .ok (.iconst 1, 1) := by decide +kernel
theorem dL_law_466 : decode cL_law 466 = .ok (.iadd, 1) := by decide +kernel
theorem dL_law_467 : decode cL_law 467 = .ok (.iaload, 1) := by decide +kernel
theorem dL_law_468 : decode cL_law 468 = .ok (.invokevirtual 60, 3) := by decide +kernel
theorem dL_law_471 : decode cL_law 471 = .ok (.aload_n 2, 1) := by decide +kernel
theorem dL_law_472 : decode cL_law 472 = .ok (.aload_n 0, 1) := by decide +kernel
theorem dL_law_473 : decode cL_law 473 = .ok (.iload_n 3, 1) := by decide +kernel
theorem dL_law_474 : decode cL_law 474 = .ok (.iconst 1, 1) := by decide +kernel
theorem dL_law_475 : decode cL_law 475 = .ok (.iadd, 1) := by decide +kernel
theorem dL_law_476 : decode cL_law 476 = .ok (.iaload, 1) := by decide +kernel
theorem dL_law_477 : decode cL_law 477 = .ok (.invokevirtual 63, 3) := by decide +kernel
theorem dL_law_480 : decode cL_law 480 = .ok (.if_icmp .eq 331, 3) := by decide +kernel
theorem dL_law_483 : decode cL_law 483 = .ok (.iconst 0, 1) := by decide +kernel
theorem dL_law_484 : decode cL_law 484 = .ok (.ireturn, 1) := by decide +kernel
theorem dL_law_485 : decode cL_law 485 = .ok (.aload_n 1, 1) := by decide +kernel
theorem dL_law_486 : decode cL_law 486 = .ok (.aload_n 0, 1) := by decide +kernel
theorem dL_law_487 : decode cL_law 487 = .ok (.iload_n 3, 1) := by decide +kernel
theorem dL_law_488 : decode cL_law 488 = .ok (.iconst 1, 1) := by decide +kernel
theorem dL_law_489 : decode cL_law 489 = .ok (.iadd, 1) := by decide +kernel
theorem dL_law_490 : decode cL_law 490 = .ok (.iaload, 1) := by decide +kernel
theorem dL_law_491 : decode cL_law 491 = .ok (.invokevirtual 64, 3) := by decide +kernel
theorem dL_law_494 : decode cL_law 494 = .ok (.aload_n 2, 1) := by decide +kernel
theorem dL_law_495 : decode cL_law 495 = .ok (.aload_n 0, 1) := by decide +kernel
theorem dL_law_496 : decode cL_law 496 = .ok (.iload_n 3, 1) := by decide +kernel
theorem dL_law_497 : decode cL_law 497 = .ok (.iconst 1, 1) := by decide +kernel
theorem dL_law_498 : decode cL_law 498 = .ok (.iadd, 1) := by decide +kernel
theorem dL_law_499 : decode cL_law 499 = .ok (.iaload, 1) := by decide +kernel
theorem dL_law_500 : decode cL_law 500 = .ok (.invokevirtual 68, 3) := by decide +kernel
theorem dL_law_503 : decode cL_law 503 = .ok (.lcmp, 1) := by decide +kernel
theorem dL_law_504 : decode cL_law 504 = .ok (.ifCond .eq 307, 3) := by decide +kernel
theorem dL_law_507 : decode cL_law 507 = .ok (.iconst 0, 1) := by decide +kernel
theorem dL_law_508 : decode cL_law 508 = .ok (.ireturn, 1) := by decide +kernel
theorem dL_law_509 : decode cL_law 509 = .ok (.aload_n 1, 1) := by decide +kernel
theorem dL_law_510 : decode cL_law 510 = .ok (.invokevirtual 69, 3) := by decide +kernel
theorem dL_law_513 : decode cL_law 513 = .ok (.aload_n 2, 1) := by decide +kernel
theorem dL_law_514 : decode cL_law 514 = .ok (.invokevirtual 72, 3) := by decide +kernel
theorem dL_law_517 : decode cL_law 517 = .ok (.if_icmp .eq 294, 3) := by decide +kernel
theorem dL_law_520 : decode cL_law 520 = .ok (.iconst 0, 1) := by decide +kernel
theorem dL_law_521 : decode cL_law 521 = .ok (.ireturn, 1) := by decide +kernel
theorem dL_law_522 : decode cL_law 522 = .ok (.aload_n 1, 1) := by decide +kernel
theorem dL_law_523 : decode cL_law 523 = .ok (.invokevirtual 73, 3) := by decide +kernel
theorem dL_law_526 : decode cL_law 526 = .ok (.aload_n 2, 1) := by decide +kernel
theorem dL_law_527 : decode cL_law 527 = .ok (.invokevirtual 76, 3) := by decide +kernel
theorem dL_law_530 : decode cL_law 530 = .ok (.if_icmp .eq 281, 3) := by decide +kernel
theorem dL_law_533 : decode cL_law 533 = .ok (.iconst 0, 1) := by decide +kernel
theorem dL_law_534 : decode cL_law 534 = .ok (.ireturn, 1) := by decide +kernel
theorem dL_law_535 : decode cL_law 535 = .ok (.aload_n 1, 1) := by decide +kernel
theorem dL_law_536 : decode cL_law 536 = .ok (.aload_n 0, 1) := by decide +kernel
theorem dL_law_537 : decode cL_law 537 = .ok (.iload_n 3, 1) := by decide +kernel
theorem dL_law_538 : decode cL_law 538 = .ok (.iconst 1, 1) := by decide +kernel
theorem dL_law_539 : decode cL_law 539 = .ok (.iadd, 1) := by decide +kernel
theorem dL_law_540 : decode cL_law 540 = .ok (.iaload, 1) := by decide +kernel
theorem dL_law_541 : decode cL_law 541 = .ok (.aload_n 0, 1) := by decide +kernel
theorem dL_law_542 : decode cL_law 542 = .ok (.iload_n 3, 1) := by decide +kernel
theorem dL_law_543 : decode cL_law 543 = .ok (.iconst 2, 1) := by decide +kernel
theorem dL_law_544 : decode cL_law 544 = .ok (.iadd, 1) := by decide +kernel
theorem dL_law_545 : decode cL_law 545 = .ok (.iaload, 1) := by decide +kernel
theorem dL_law_546 : decode cL_law 546 = .ok (.invokevirtual 77, 3) := by decide +kernel
theorem dL_law_549 : decode cL_law 549 = .ok (.aload_n 2, 1) := by decide +kernel
theorem dL_law_550 : decode cL_law 550 = .ok (.aload_n 0, 1) := by decide +kernel
theorem dL_law_551 : decode cL_law 551 = .ok (.iload_n 3, 1) := by decide +kernel
theorem dL_law_552 : decode cL_law 552 = .ok (.iconst 1, 1) := by decide +kernel
theorem dL_law_553 : decode cL_law 553 = .ok (.iadd, 1) := by decide +kernel
theorem dL_law_554 : decode cL_law 554 = .ok (.iaload, 1) := by decide +kernel
theorem dL_law_555 : decode cL_law 555 = .ok (.aload_n 0, 1) := by decide +kernel
theorem dL_law_556 : decode cL_law 556 = .ok (.iload_n 3, 1) := by decide +kernel
theorem dL_law_557 : decode cL_law 557 = .ok (.iconst 2, 1) := by decide +kernel
theorem dL_law_558 : decode cL_law 558 = .ok (.iadd, 1) := by decide +kernel
theorem dL_law_559 : decode cL_law 559 = .ok (.iaload, 1) := by decide +kernel
theorem dL_law_560 : decode cL_law 560 = .ok (.invokevirtual 80, 3) := by decide +kernel
theorem dL_law_563 : decode cL_law 563 = .ok (.if_icmp .eq 248, 3) := by decide +kernel
theorem dL_law_566 : decode cL_law 566 = .ok (.iconst 0, 1) := by decide +kernel
theorem dL_law_567 : decode cL_law 567 = .ok (.ireturn, 1) := by decide +kernel
theorem dL_law_568 : decode cL_law 568 = .ok (.aload_n 1, 1) := by decide +kernel
theorem dL_law_569 : decode cL_law 569 = .ok (.aload_n 0, 1) := by decide +kernel
theorem dL_law_570 : decode cL_law 570 = .ok (.iload_n 3, 1) := by decide +kernel
theorem dL_law_571 : decode cL_law 571 = .ok (.iconst 1, 1) := by decide +kernel
theorem dL_law_572 : decode cL_law 572 = .ok (.iadd, 1) := by decide +kernel
theorem dL_law_573 : decode cL_law 573 = .ok (.iaload, 1) := by decide +kernel
theorem dL_law_574 : decode cL_law 574 = .ok (.aload_n 0, 1) := by decide +kernel
theorem dL_law_575 : decode cL_law 575 = .ok (.iload_n 3, 1) := by decide +kernel
theorem dL_law_576 : decode cL_law 576 = .ok (.iconst 2, 1) := by decide +kernel
theorem dL_law_577 : decode cL_law 577 = .ok (.iadd, 1) := by decide +kernel
theorem dL_law_578 : decode cL_law 578 = .ok (.iaload, 1) := by decide +kernel
theorem dL_law_579 : decode cL_law 579 = .ok (.invokevirtual 81, 3) := by decide +kernel
theorem dL_law_582 : decode cL_law 582 = .ok (.aload_n 2, 1) := by decide +kernel
theorem dL_law_583 : decode cL_law 583 = .ok (.aload_n 0, 1) := by decide +kernel
theorem dL_law_584 : decode cL_law 584 = .ok (.iload_n 3, 1) := by decide +kernel
theorem dL_law_585 : decode cL_law 585 = .ok (.iconst 1, 1) := by decide +kernel
theorem dL_law_586 : decode cL_law 586 = .ok (.iadd, 1) := by decide +kernel
theorem dL_law_587 : decode cL_law 587 = .ok (.iaload, 1) := by decide +kernel
theorem dL_law_588 : decode cL_law 588 = .ok (.aload_n 0, 1) := by decide +kernel
theorem dL_law_589 : decode cL_law 589 = .ok (.iload_n 3, 1) := by decide +kernel
theorem dL_law_590 : decode cL_law 590 = .ok (.iconst 2, 1) := by decide +kernel
theorem dL_law_591 : decode cL_law 591 = .ok (.iadd, 1) := by decide +kernel
theorem dL_law_592 : decode cL_law 592 = .ok (.iaload, 1) := by decide +kernel
theorem dL_law_593 : decode cL_law 593 = .ok (.invokevirtual 84, 3) := by decide +kernel
theorem dL_law_596 : decode cL_law 596 = .ok (.if_icmp .eq 215, 3) := by decide +kernel
theorem dL_law_599 : decode cL_law 599 = .ok (.iconst 0, 1) := by decide +kernel
theorem dL_law_600 : decode cL_law 600 = .ok (.ireturn, 1) := by decide +kernel
theorem dL_law_601 : decode cL_law 601 = .ok (.aload_n 1, 1) := by decide +kernel
theorem dL_law_602 : decode cL_law 602 = .ok (.invokevirtual 85, 3) := by decide +kernel
theorem dL_law_605 : decode cL_law 605 = .ok (.aload_n 2, 1) := by decide +kernel
theorem dL_law_606 : decode cL_law 606 = .ok (.invokevirtual 88, 3) := by decide +kernel
theorem dL_law_609 : decode cL_law 609 = .ok (.if_icmp .eq 202, 3) := by decide +kernel
theorem dL_law_612 : decode cL_law 612 = .ok (.iconst 0, 1) := by decide +kernel
theorem dL_law_613 : decode cL_law 613 = .ok (.ireturn, 1) := by decide +kernel
theorem dL_law_614 : decode cL_law 614 = .ok (.aload_n 1, 1) := by decide +kernel
theorem dL_law_615 : decode cL_law 615 = .ok (.aload_n 0, 1) := by decide +kernel
theorem dL_law_616 : decode cL_law 616 = .ok (.iload_n 3, 1) := by decide +kernel
theorem dL_law_617 : decode cL_law 617 = .ok (.iconst 1, 1) := by decide +kernel
theorem dL_law_618 : decode cL_law 618 = .ok (.iadd, 1) := by decide +kernel
theorem dL_law_619 : decode cL_law 619 = .ok (.iaload, 1) := by decide +kernel
theorem dL_law_620 : decode cL_law 620 = .ok (.aload_n 0, 1) := by decide +kernel
theorem dL_law_621 : decode cL_law 621 = .ok (.iload_n 3, 1) := by decide +kernel
theorem dL_law_622 : decode cL_law 622 = .ok (.iconst 2, 1) := by decide +kernel
theorem dL_law_623 : decode cL_law 623 = .ok (.iadd, 1) := by decide +kernel
theorem dL_law_624 : decode cL_law 624 = .ok (.iaload, 1) := by decide +kernel
theorem dL_law_625 : decode cL_law 625 = .ok (.aload_n 0, 1) := by decide +kernel
theorem dL_law_626 : decode cL_law 626 = .ok (.iload_n 3, 1) := by decide +kernel
theorem dL_law_627 : decode cL_law 627 = .ok (.iconst 3, 1) := by decide +kernel
theorem dL_law_628 : decode cL_law 628 = .ok (.iadd, 1) := by decide +kernel
theorem dL_law_629 : decode cL_law 629 = .ok (.iaload, 1) := by decide +kernel
theorem dL_law_630 : decode cL_law 630 = .ok (.invokevirtual 89, 3) := by decide +kernel
theorem dL_law_633 : decode cL_law 633 = .ok (.aload_n 2, 1) := by decide +kernel
theorem dL_law_634 : decode cL_law 634 = .ok (.aload_n 0, 1) := by decide +kernel
theorem dL_law_635 : decode cL_law 635 = .ok (.iload_n 3, 1) := by decide +kernel
theorem dL_law_636 : decode cL_law 636 = .ok (.iconst 1, 1) := by decide +kernel
theorem dL_law_637 : decode cL_law 637 = .ok (.iadd, 1) := by decide +kernel
theorem dL_law_638 : decode cL_law 638 = .ok (.iaload, 1) := by decide +kernel
theorem dL_law_639 : decode cL_law 639 = .ok (.aload_n 0, 1) := by decide +kernel
theorem dL_law_640 : decode cL_law 640 = .ok (.iload_n 3, 1) := by decide +kernel
theorem dL_law_641 : decode cL_law 641 = .ok (.iconst 2, 1) := by decide +kernel
theorem dL_law_642 : decode cL_law 642 = .ok (.iadd, 1) := by decide +kernel
theorem dL_law_643 : decode cL_law 643 = .ok (.iaload, 1) := by decide +kernel
theorem dL_law_644 : decode cL_law 644 = .ok (.aload_n 0, 1) := by decide +kernel
theorem dL_law_645 : decode cL_law 645 = .ok (.iload_n 3, 1) := by decide +kernel
theorem dL_law_646 : decode cL_law 646 = .ok (.iconst 3, 1) := by decide +kernel
theorem dL_law_647 : decode cL_law 647 = .ok (.iadd, 1) := by decide +kernel
theorem dL_law_648 : decode cL_law 648 = .ok (.iaload, 1) := by decide +kernel
theorem dL_law_649 : decode cL_law 649 = .ok (.invokevirtual 92, 3) := by decide +kernel
theorem dL_law_652 : decode cL_law 652 = .ok (.if_icmp .eq 159, 3) := by decide +kernel
theorem dL_law_655 : decode cL_law 655 = .ok (.iconst 0, 1) := by decide +kernel
theorem dL_law_656 : decode cL_law 656 = .ok (.ireturn, 1) := by decide +kernel
theorem dL_law_657 : decode cL_law 657 = .ok (.aload_n 1, 1) := by decide +kernel
theorem dL_law_658 : decode cL_law 658 = .ok (.invokevirtual 93, 3) := by decide +kernel
theorem dL_law_661 : decode cL_law 661 = .ok (.aload_n 2, 1) := by decide +kernel
theorem dL_law_662 : decode cL_law 662 = .ok (.invokevirtual 96, 3) := by decide +kernel
theorem dL_law_665 : decode cL_law 665 = .ok (.if_icmp .eq 146, 3) := by decide +kernel
theorem dL_law_668 : decode cL_law 668 = .ok (.iconst 0, 1) := by decide +kernel
theorem dL_law_669 : decode cL_law 669 = .ok (.ireturn, 1) := by decide +kernel
theorem dL_law_670 : decode cL_law 670 = .ok (.aload_n 1, 1) := by decide +kernel
theorem dL_law_671 : decode cL_law 671 = .ok (.aload_n 0, 1) := by decide +kernel
theorem dL_law_672 : decode cL_law 672 = .ok (.iload_n 3, 1) := by decide +kernel
theorem dL_law_673 : decode cL_law 673 = .ok (.iconst 1, 1) := by decide +kernel
theorem dL_law_674 : decode cL_law 674 = .ok (.iadd, 1) := by decide +kernel
theorem dL_law_675 : decode cL_law 675 = .ok (.iaload, 1) := by decide +kernel
theorem dL_law_676 : decode cL_law 676 = .ok (.aload_n 0, 1) := by decide +kernel
theorem dL_law_677 : decode cL_law 677 = .ok (.iload_n 3, 1) := by decide +kernel
theorem dL_law_678 : decode cL_law 678 = .ok (.iconst 2, 1) := by decide +kernel
theorem dL_law_679 : decode cL_law 679 = .ok (.iadd, 1) := by decide +kernel
theorem dL_law_680 : decode cL_law 680 = .ok (.iaload, 1) := by decide +kernel
theorem dL_law_681 : decode cL_law 681 = .ok (.aload_n 0, 1) := by decide +kernel
theorem dL_law_682 : decode cL_law 682 = .ok (.iload_n 3, 1) := by decide +kernel
theorem dL_law_683 : decode cL_law 683 = .ok (.iconst 3, 1) := by decide +kernel
theorem dL_law_684 : decode cL_law 684 = .ok (.iadd, 1) := by decide +kernel
theorem dL_law_685 : decode cL_law 685 = .ok (.iaload, 1) := by decide +kernel
theorem dL_law_686 : decode cL_law 686 = .ok (.invokevirtual 97, 3) := by decide +kernel
theorem dL_law_689 : decode cL_law 689 = .ok (.aload_n 2, 1) := by decide +kernel
theorem dL_law_690 : decode cL_law 690 = .ok (.aload_n 0, 1) := by decide +kernel
theorem dL_law_691 : decode cL_law 691 = .ok (.iload_n 3, 1) := by decide +kernel
theorem dL_law_692 : decode cL_law 692 = .ok (.iconst 1, 1) := by decide +kernel
theorem dL_law_693 : decode cL_law 693 = .ok (.iadd, 1) := by decide +kernel
theorem dL_law_694 : decode cL_law 694 = .ok (.iaload, 1) := by decide +kernel
theorem dL_law_695 : decode cL_law 695 = .ok (.aload_n 0, 1) := by decide +kernel
theorem dL_law_696 : decode cL_law 696 = .ok (.iload_n 3, 1) := by decide +kernel
theorem dL_law_697 : decode cL_law 697 = .ok (.iconst 2, 1) := by decide +kernel
theorem dL_law_698 : decode cL_law 698 = .ok (.iadd, 1) := by decide +kernel
theorem dL_law_699 : decode cL_law 699 = .ok (.iaload, 1) := by decide +kernel
theorem dL_law_700 : decode cL_law 700 = .ok (.aload_n 0, 1) := by decide +kernel
theorem dL_law_701 : decode cL_law 701 = .ok (.iload_n 3, 1) := by decide +kernel
theorem dL_law_702 : decode cL_law 702 = .ok (.iconst 3, 1) := by decide +kernel
theorem dL_law_703 : decode cL_law 703 = .ok (.iadd, 1) := by decide +kernel
theorem dL_law_704 : decode cL_law 704 = .ok (.iaload, 1) := by decide +kernel
theorem dL_law_705 : decode cL_law 705 = .ok (.invokevirtual 100, 3) := by decide +kernel
theorem dL_law_708 : decode cL_law 708 = .ok (.if_icmp .eq 103, 3) := by decide +kernel
theorem dL_law_711 : decode cL_law 711 = .ok (.iconst 0, 1) := by decide +kernel
theorem dL_law_712 : decode cL_law 712 = .ok (.ireturn, 1) := by decide +kernel
theorem dL_law_713 : decode cL_law 713 = .ok (.aload_n 1, 1) := by decide +kernel
theorem dL_law_714 : decode cL_law 714 = .ok (.aload_n 0, 1) := by decide +kernel
theorem dL_law_715 : decode cL_law 715 = .ok (.iload_n 3, 1) := by decide +kernel
theorem dL_law_716 : decode cL_law 716 = .ok (.iconst 1, 1) := by decide +kernel
theorem dL_law_717 : decode cL_law 717 = .ok (.iadd, 1) := by decide +kernel
theorem dL_law_718 : decode cL_law 718 = .ok (.iaload, 1) := by decide +kernel
theorem dL_law_719 : decode cL_law 719 = .ok (.aload_n 0, 1) := by decide +kernel
theorem dL_law_720 : decode cL_law 720 = .ok (.iload_n 3, 1) := by decide +kernel
theorem dL_law_721 : decode cL_law 721 = .ok (.iconst 2, 1) := by decide +kernel
theorem dL_law_722 : decode cL_law 722 = .ok (.iadd, 1) := by decide +kernel
theorem dL_law_723 : decode cL_law 723 = .ok (.iaload, 1) := by decide +kernel
theorem dL_law_724 : decode cL_law 724 = .ok (.invokevirtual 101, 3) := by decide +kernel
theorem dL_law_727 : decode cL_law 727 = .ok (.aload_n 2, 1) := by decide +kernel
theorem dL_law_728 : decode cL_law 728 = .ok (.aload_n 0, 1) := by decide +kernel
theorem dL_law_729 : decode cL_law 729 = .ok (.iload_n 3, 1) := by decide +kernel
theorem dL_law_730 : decode cL_law 730 = .ok (.iconst 1, 1) := by decide +kernel
theorem dL_law_731 : decode cL_law 731 = .ok (.iadd, 1) := by decide +kernel
theorem dL_law_732 : decode cL_law 732 = .ok (.iaload, 1) := by decide +kernel
theorem dL_law_733 : decode cL_law 733 = .ok (.aload_n 0, 1) := by decide +kernel
theorem dL_law_734 : decode cL_law 734 = .ok (.iload_n 3, 1) := by decide +kernel
theorem dL_law_735 : decode cL_law 735 = .ok (.iconst 2, 1) := by decide +kernel
theorem dL_law_736 : decode cL_law 736 = .ok (.iadd, 1) := by decide +kernel
theorem dL_law_737 : decode cL_law 737 = .ok (.iaload, 1) := by decide +kernel
theorem dL_law_738 : decode cL_law 738 = .ok (.invokevirtual 104, 3) := by decide +kernel
theorem dL_law_741 : decode cL_law 741 = .ok (.if_icmp .eq 70, 3) := by decide +kernel
theorem dL_law_744 : decode cL_law 744 = .ok (.iconst 0, 1) := by decide +kernel
theorem dL_law_745 : decode cL_law 745 = .ok (.ireturn, 1) := by decide +kernel
theorem dL_law_746 : decode cL_law 746 = .ok (.aload_n 1, 1) := by decide +kernel
theorem dL_law_747 : decode cL_law 747 = .ok (.invokevirtual 105, 3) := by decide +kernel
theorem dL_law_750 : decode cL_law 750 = .ok (.aload_n 2, 1) := by decide +kernel
theorem dL_law_751 : decode cL_law 751 = .ok (.invokevirtual 108, 3) := by decide +kernel
theorem dL_law_754 : decode cL_law 754 = .ok (.if_icmp .eq 57, 3) := by decide +kernel
theorem dL_law_757 : decode cL_law 757 = .ok (.iconst 0, 1) := by decide +kernel
theorem dL_law_758 : decode cL_law 758 = .ok (.ireturn, 1) := by decide +kernel
theorem dL_law_759 : decode cL_law 759 = .ok (.aload_n 1, 1) := by decide +kernel
theorem dL_law_760 : decode cL_law 760 = .ok (.invokevirtual 109, 3) := by decide +kernel
theorem dL_law_763 : decode cL_law 763 = .ok (.aload_n 2, 1) := by decide +kernel
theorem dL_law_764 : decode cL_law 764 = .ok (.invokevirtual 112, 3) := by decide +kernel
theorem dL_law_767 : decode cL_law 767 = .ok (.if_icmp .eq 44, 3) := by decide +kernel
theorem dL_law_770 : decode cL_law 770 = .ok (.iconst 0, 1) := by decide +kernel
theorem dL_law_771 : decode cL_law 771 = .ok (.ireturn, 1) := by decide +kernel
theorem dL_law_772 : decode cL_law 772 = .ok (.aload_n 1, 1) := by decide +kernel
theorem dL_law_773 : decode cL_law 773 = .ok (.invokevirtual 113, 3) := by decide +kernel
theorem dL_law_776 : decode cL_law 776 = .ok (.aload_n 2, 1) := by decide +kernel
theorem dL_law_777 : decode cL_law 777 = .ok (.invokevirtual 116, 3) := by decide +kernel
theorem dL_law_780 : decode cL_law 780 = .ok (.if_icmp .eq 31, 3) := by decide +kernel
theorem dL_law_783 : decode cL_law 783 = .ok (.iconst 0, 1) := by decide +kernel
theorem dL_law_784 : decode cL_law 784 = .ok (.ireturn, 1) := by decide +kernel
theorem dL_law_785 : decode cL_law 785 = .ok (.aload_n 1, 1) := by decide +kernel
theorem dL_law_786 : decode cL_law 786 = .ok (.invokevirtual 117, 3) := by decide +kernel
theorem dL_law_789 : decode cL_law 789 = .ok (.aload_n 2, 1) := by decide +kernel
theorem dL_law_790 : decode cL_law 790 = .ok (.invokevirtual 120, 3) := by decide +kernel
theorem dL_law_793 : decode cL_law 793 = .ok (.if_icmp .eq 18, 3) := by decide +kernel
theorem dL_law_796 : decode cL_law 796 = .ok (.iconst 0, 1) := by decide +kernel
theorem dL_law_797 : decode cL_law 797 = .ok (.ireturn, 1) := by decide +kernel
theorem dL_law_798 : decode cL_law 798 = .ok (.aload_n 1, 1) := by decide +kernel
theorem dL_law_799 : decode cL_law 799 = .ok (.invokevirtual 121, 3) := by decide +kernel
theorem dL_law_802 : decode cL_law 802 = .ok (.aload_n 2, 1) := by decide +kernel
theorem dL_law_803 : decode cL_law 803 = .ok (.invokevirtual 124, 3) := by decide +kernel
theorem dL_law_806 : decode cL_law 806 = .ok (.if_icmp .eq 5, 3) := by decide +kernel
theorem dL_law_809 : decode cL_law 809 = .ok (.iconst 0, 1) := by decide +kernel
theorem dL_law_810 : decode cL_law 810 = .ok (.ireturn, 1) := by decide +kernel
theorem dL_law_811 : decode cL_law 811 = .ok (.iinc 3 6, 3) := by decide +kernel
theorem dL_law_814 : decode cL_law 814 = .ok (.goto (-796), 3) := by decide +kernel
theorem dL_law_817 : decode cL_law 817 = .ok (.iconst 1, 1) := by decide +kernel
theorem dL_law_818 : decode cL_law 818 = .ok (.ireturn, 1) := by decide +kernel
/-- what stands around the law: its end, its room, the script as cell 66 -/
def PL (b N : Nat) (xs : Nat → Int32) (a : Am) : Prop := a_Q a = lw_Z (a_below a) #[Value.ref b] (a_s a) ∧ a_args a = #[Value.ref b] ∧ a_R a = room_1 ∧ a_cells a = 600000 ∧ a_slots a = 7302250 ∧ (a_A a = fun q => (a_s a).heap.size ≤ q) ∧ a_H0 a = (a_s a).heap ∧ a_ad a 66 = b ∧ va_X b N xs (a_s a) (a_s a).heap ∧ b < (a_s a).heap.size ∧ N < 2 ^ 31
def scA (N : Nat) (xs : Nat → Int32) (i : Int32) : Option Int32 := if inB i N = true then some (xs i.toNatClampNeg) else none
theorem wl_sc {M : MD} {d : Nat} {pc b N : Nat} {xs : Nat → Int32} {ls : List (Option Value)} {st : List Value} {σ : St} {i x : Int32} (hd : decode M.2.1 pc = .ok (.iaload, 1)) (h : scA N xs i = some x) (k : Wp M d (PL b N xs) (pc + 1) ls (.int x :: st) σ) : Wp M d (PL b N xs) pc ls (.int i :: .ref 66 :: st) σ := by
  intro a X hP H locs lsA hW hS hlo
  obtain ⟨h2, rfl⟩ := ite_sm h
  have kk := k a X hP H locs lsA hW hS hlo
  obtain ⟨-, hargs, hR, -, -, hA, hH0, hb66, hX, hbl, -⟩ := hP
  have hb2 : ¬ a_A a b := by rw [hA]; exact Nat.not_le.mpr hbl
  rw [hH0] at hS
  rw [show (List.map (cv (a_ad a)) (.int i :: .ref 66 :: st)) = .int i :: .ref b :: st.map (cv (a_ad a)) by simp [cv, hb66]]
  exact va_sld X.1 X.2.1 hX hbl hb2 hS (inB_vp h2) hd kk
theorem wl_len {M : MD} {d : Nat} {pc b N : Nat} {xs : Nat → Int32} {ls : List (Option Value)} {st : List Value} {σ : St} (hd : decode M.2.1 pc = .ok (.arraylength, 1)) (k : Wp M d (PL b N xs) (pc + 1) ls (.int (nI N) :: st) σ) : Wp M d (PL b N xs) pc ls (.ref 66 :: st) σ := by
  intro a X hP H locs lsA hW hS hlo
  have kk := k a X hP H locs lsA hW hS hlo
  obtain ⟨-, hargs, hR, -, -, hA, hH0, hb66, hX, hbl, -⟩ := hP
  have hb2 : ¬ a_A a b := by rw [hA]; exact Nat.not_le.mpr hbl
  rw [hH0] at hS
  rw [show (List.map (cv (a_ad a)) (.ref 66 :: st)) = .ref b :: st.map (cv (a_ad a)) by simp [cv, hb66]]
  exact va_slen X.1 X.2.1 hX hbl hb2 hS hd kk
theorem wl_ret {d : Nat} {pc b N : Nat} {xs : Nat → Int32} {ls : List (Option Value)} {σ : St} (hd : decode code pc = .ok (.ireturn, 1)) : Wp m_L_law d (PL b N xs) pc ls [.int 1] σ := by
  intro a X hP H locs lsA hW hS hlo
  obtain ⟨hx, hb, hml, hown, hts, hN, hK, hT, -, -, -, -, -, -, -, hret, hlocks⟩ := X
  obtain ⟨hQ, hargs, hR, hc, hs, hA, hH0, hb66, hX, hbl, -⟩ := hP
  rw [hQ, hargs, hR, hc, hs]
  refine va_forget (fun q hq => ?_) (lw_ret hx hb hret hlocks hd)
  have h1 := hS.2.2 q hq
  rw [hA] at h1
  exact h1
def f_L_law_811 (N : Nat) (xs : Nat → Int32) (K18 : Int32 → St → Option (Int32 × St)) (v3 : Int32) (s : St) : Option (Int32 × St) :=
  K18 (v3 + 6) s
set_option maxRecDepth 100000 in
set_option maxHeartbeats 4000000 in
theorem w_L_law_811 {b N : Nat} {xs : Nat → Int32} {r : Int32 × St} (hr1 : r.1 = 1) {K18 : Int32 → St → Option (Int32 × St)} (hK18 : ∀ (v3 : Int32) (s : St), K18 v3 s = some r → Wp m_L_law 1000 (PL b N xs) 18 [some (.ref 66), some (.ref 0), some (.ref 43), some (.int v3)] [] s) {v3 : Int32}  {s : St} (h : f_L_law_811 N xs K18 v3 s = some r) : Wp m_L_law 1000 (PL b N xs) 811 [some (.ref 66), some (.ref 0), some (.ref 43), some (.int v3)] [] s := by
  unfold f_L_law_811 at h
  refine wp_inc (c := 6) (ls' := [some (.ref 66), some (.ref 0), some (.ref 43), some (.int (v3 + 6))]) dL_law_811 rfl (by decide +kernel) (by decide) rfl rfl ?_
  refine wp_goto (tgt := 18) dL_law_814 (by decide) ?_
  exact wp_sub (ls' := [some (.ref 66), some (.ref 0), some (.ref 43), some (.int (v3 + 6))]) ⟨rfl, rfl, rfl, rfl, trivial⟩ (hK18 _ _ h)
def f_L_law_18 (N : Nat) (xs : Nat → Int32) : Nat → Int32 → St → Option (Int32 × St)
  | 0, _, _ => none
  | n + 1, v3, s =>
    if ((nI N) - (6 : Int32)) < v3 then (
      some ((1 : Int32), s))
    else (
      Option.bind (scA N xs v3) fun x2 =>
      if (x2 &&& (31 : Int32)) = 0 then (
        Option.bind (scA N xs (v3 + (1 : Int32))) fun x4 =>
        Option.bind (scA N xs (v3 + (2 : Int32))) fun x5 =>
        Option.bind (scA N xs (v3 + (3 : Int32))) fun x6 =>
        Option.bind (scA N xs (v3 + (4 : Int32))) fun x7 =>
        Option.bind (scA N xs (v3 + (5 : Int32))) fun x8 =>
        Option.bind (f_X8_feed x4 x5 x6 x7 x8 s) fun r9 =>
        Option.bind (scA N xs (v3 + (1 : Int32))) fun x10 =>
        Option.bind (scA N xs (v3 + (2 : Int32))) fun x11 =>
        Option.bind (scA N xs (v3 + (3 : Int32))) fun x12 =>
        Option.bind (scA N xs (v3 + (4 : Int32))) fun x13 =>
        Option.bind (scA N xs (v3 + (5 : Int32))) fun x14 =>
        Option.bind (f_X9_feed x10 x11 x12 x13 x14 r9.2) fun r15 =>
        if r9.1 = r15.1 then (
          f_L_law_811 N xs (f_L_law_18 N xs n) v3 r15.2)
        else (
          some ((0 : Int32), r15.2)))
      else
      if (x2 &&& (31 : Int32)) = 1 then (
        Option.bind (scA N xs (v3 + (1 : Int32))) fun x18 =>
        Option.bind (f_X8_end x18 s) fun r19 =>
        Option.bind (scA N xs (v3 + (1 : Int32))) fun x20 =>
        Option.bind (f_X9_end x20 r19.2) fun r21 =>
        if r19.1 = r21.1 then (
          f_L_law_811 N xs (f_L_law_18 N xs n) v3 r21.2)
        else (
          some ((0 : Int32), r21.2)))
      else
      if (x2 &&& (31 : Int32)) = 2 then (
        Option.bind (f_X8_load s) fun r24 =>
        Option.bind (f_X9_load r24.2) fun r25 =>
        if r24.1 = r25.1 then (
          f_L_law_811 N xs (f_L_law_18 N xs n) v3 r25.2)
        else (
          some ((0 : Int32), r25.2)))
      else
      if (x2 &&& (31 : Int32)) = 3 then (
        Option.bind (f_X8_fault s) fun r28 =>
        Option.bind (f_X9_fault r28.2) fun r29 =>
        if r28.1 = r29.1 then (
          f_L_law_811 N xs (f_L_law_18 N xs n) v3 r29.2)
        else (
          some ((0 : Int32), r29.2)))
      else
      if (x2 &&& (31 : Int32)) = 4 then (
        Option.bind (scA N xs (v3 + (1 : Int32))) fun x32 =>
        Option.bind (scA N xs (v3 + (2 : Int32))) fun x33 =>
        Option.bind (scA N xs (v3 + (3 : Int32))) fun x34 =>
        Option.bind (f_X8_blank x32 x33 x34 s) fun r35 =>
        Option.bind (scA N xs (v3 + (1 : Int32))) fun x36 =>
        Option.bind (scA N xs (v3 + (2 : Int32))) fun x37 =>
        Option.bind (scA N xs (v3 + (3 : Int32))) fun x38 =>
        Option.bind (f_X9_blank x36 x37 x38 r35.2) fun r39 =>
        if r35.1 = r39.1 then (
          f_L_law_811 N xs (f_L_law_18 N xs n) v3 r39.2)
        else (
          some ((0 : Int32), r39.2)))
      else
      if (x2 &&& (31 : Int32)) = 5 then (
        Option.bind (scA N xs (v3 + (1 : Int32))) fun x42 =>
        Option.bind (f_X8_about x42 s) fun r43 =>
        Option.bind (scA N xs (v3 + (1 : Int32))) fun x44 =>
        Option.bind (f_X9_about x44 r43.2) fun r45 =>
        if r43.1 = r45.1 then (
          f_L_law_811 N xs (f_L_law_18 N xs n) v3 r45.2)
        else (
          some ((0 : Int32), r45.2)))
      else
      if (x2 &&& (31 : Int32)) = 6 then (
        Option.bind (scA N xs (v3 + (1 : Int32))) fun x48 =>
        Option.bind (scA N xs (v3 + (2 : Int32))) fun x49 =>
        Option.bind (scA N xs (v3 + (3 : Int32))) fun x50 =>
        Option.bind (f_X8_run x48 x49 x50 s) fun r51 =>
        Option.bind (scA N xs (v3 + (1 : Int32))) fun x52 =>
        Option.bind (scA N xs (v3 + (2 : Int32))) fun x53 =>
        Option.bind (scA N xs (v3 + (3 : Int32))) fun x54 =>
        Option.bind (f_X9_run x52 x53 x54 r51.2) fun r55 =>
        if r51.1 = r55.1 then (
          f_L_law_811 N xs (f_L_law_18 N xs n) v3 r55.2)
        else (
          some ((0 : Int32), r55.2)))
      else
      if (x2 &&& (31 : Int32)) = 7 then (
        Option.bind (scA N xs (v3 + (1 : Int32))) fun x58 =>
        Option.bind (scA N xs (v3 + (2 : Int32))) fun x59 =>
        Option.bind (scA N xs (v3 + (3 : Int32))) fun x60 =>
        Option.bind (f_X8_give x58 x59 x60 s) fun r61 =>
        Option.bind (scA N xs (v3 + (1 : Int32))) fun x62 =>
        Option.bind (scA N xs (v3 + (2 : Int32))) fun x63 =>
        Option.bind (scA N xs (v3 + (3 : Int32))) fun x64 =>
        Option.bind (f_X9_give x62 x63 x64 r61.2) fun r65 =>
        if r61.1 = r65.1 then (
          f_L_law_811 N xs (f_L_law_18 N xs n) v3 r65.2)
        else (
          some ((0 : Int32), r65.2)))
      else
      if (x2 &&& (31 : Int32)) = 8 then (
        Option.bind (scA N xs (v3 + (1 : Int32))) fun x68 =>
        Option.bind (scA N xs (v3 + (2 : Int32))) fun x69 =>
        Option.bind (f_X8_given x68 x69 s) fun r70 =>
        Option.bind (scA N xs (v3 + (1 : Int32))) fun x71 =>
        Option.bind (scA N xs (v3 + (2 : Int32))) fun x72 =>
        Option.bind (f_X9_given x71 x72 r70.2) fun r73 =>
        if r70.1 = r73.1 then (
          f_L_law_811 N xs (f_L_law_18 N xs n) v3 r73.2)
        else (
          some ((0 : Int32), r73.2)))
      else
      if (x2 &&& (31 : Int32)) = 9 then (
        Option.bind (f_X8_fresh s) fun r76 =>
        Option.bind (f_X9_fresh r76.2) fun r77 =>
        if r76.1 = r77.1 then (
          f_L_law_811 N xs (f_L_law_18 N xs n) v3 r77.2)
        else (
          some ((0 : Int32), r77.2)))
      else
      if (x2 &&& (31 : Int32)) = 10 then (
        Option.bind (scA N xs (v3 + (1 : Int32))) fun x80 =>
        Option.bind (f_X8_rule x80 s) fun r81 =>
        Option.bind (scA N xs (v3 + (1 : Int32))) fun x82 =>
        Option.bind (f_X9_rule x82 r81.2) fun r83 =>
        if r81.1 = r83.1 then (
          f_L_law_811 N xs (f_L_law_18 N xs n) v3 r83.2)
        else (
          some ((0 : Int32), r83.2)))
      else
      if (x2 &&& (31 : Int32)) = 11 then (
        Option.bind (scA N xs (v3 + (1 : Int32))) fun x86 =>
        Option.bind (f_X8_ways x86 s) fun r87 =>
        Option.bind (scA N xs (v3 + (1 : Int32))) fun x88 =>
        Option.bind (f_X9_ways x88 r87.2) fun r89 =>
        if (lg_cmp r87.1 r89.1) = 0 then (
          f_L_law_811 N xs (f_L_law_18 N xs n) v3 r89.2)
        else (
          some ((0 : Int32), r89.2)))
      else
      if (x2 &&& (31 : Int32)) = 12 then (
        Option.bind (f_X8_rest s) fun r92 =>
        Option.bind (f_X9_rest r92.2) fun r93 =>
        if r92.1 = r93.1 then (
          f_L_law_811 N xs (f_L_law_18 N xs n) v3 r93.2)
        else (
          some ((0 : Int32), r93.2)))
      else
      if (x2 &&& (31 : Int32)) = 13 then (
        Option.bind (f_X8_tries s) fun r96 =>
        Option.bind (f_X9_tries r96.2) fun r97 =>
        if r96.1 = r97.1 then (
          f_L_law_811 N xs (f_L_law_18 N xs n) v3 r97.2)
        else (
          some ((0 : Int32), r97.2)))
      else
      if (x2 &&& (31 : Int32)) = 14 then (
        Option.bind (scA N xs (v3 + (1 : Int32))) fun x100 =>
        Option.bind (scA N xs (v3 + (2 : Int32))) fun x101 =>
        Option.bind (f_X8_set x100 x101 s) fun r102 =>
        Option.bind (scA N xs (v3 + (1 : Int32))) fun x103 =>
        Option.bind (scA N xs (v3 + (2 : Int32))) fun x104 =>
        Option.bind (f_X9_set x103 x104 r102.2) fun r105 =>
        if r102.1 = r105.1 then (
          f_L_law_811 N xs (f_L_law_18 N xs n) v3 r105.2)
        else (
          some ((0 : Int32), r105.2)))
      else
      if (x2 &&& (31 : Int32)) = 15 then (
        Option.bind (scA N xs (v3 + (1 : Int32))) fun x108 =>
        Option.bind (scA N xs (v3 + (2 : Int32))) fun x109 =>
        Option.bind (f_X8_search x108 x109 s) fun r110 =>
        Option.bind (scA N xs (v3 + (1 : Int32))) fun x111 =>
        Option.bind (scA N xs (v3 + (2 : Int32))) fun x112 =>
        Option.bind (f_X9_search x111 x112 r110.2) fun r113 =>
        if r110.1 = r113.1 then (
          f_L_law_811 N xs (f_L_law_18 N xs n) v3 r113.2)
        else (
          some ((0 : Int32), r113.2)))
      else
      if (x2 &&& (31 : Int32)) = 16 then (
        Option.bind (f_X8_nodes s) fun r116 =>
        Option.bind (f_X9_nodes r116.2) fun r117 =>
        if r116.1 = r117.1 then (
          f_L_law_811 N xs (f_L_law_18 N xs n) v3 r117.2)
        else (
          some ((0 : Int32), r117.2)))
      else
      if (x2 &&& (31 : Int32)) = 17 then (
        Option.bind (scA N xs (v3 + (1 : Int32))) fun x120 =>
        Option.bind (scA N xs (v3 + (2 : Int32))) fun x121 =>
        Option.bind (scA N xs (v3 + (3 : Int32))) fun x122 =>
        Option.bind (f_X8_solution x120 x121 x122 s) fun r123 =>
        Option.bind (scA N xs (v3 + (1 : Int32))) fun x124 =>
        Option.bind (scA N xs (v3 + (2 : Int32))) fun x125 =>
        Option.bind (scA N xs (v3 + (3 : Int32))) fun x126 =>
        Option.bind (f_X9_solution x124 x125 x126 r123.2) fun r127 =>
        if r123.1 = r127.1 then (
          f_L_law_811 N xs (f_L_law_18 N xs n) v3 r127.2)
        else (
          some ((0 : Int32), r127.2)))
      else
      if (x2 &&& (31 : Int32)) = 18 then (
        Option.bind (f_X8_level s) fun r130 =>
        Option.bind (f_X9_level r130.2) fun r131 =>
        if r130.1 = r131.1 then (
          f_L_law_811 N xs (f_L_law_18 N xs n) v3 r131.2)
        else (
          some ((0 : Int32), r131.2)))
      else
      if (x2 &&& (31 : Int32)) = 19 then (
        Option.bind (scA N xs (v3 + (1 : Int32))) fun x134 =>
        Option.bind (scA N xs (v3 + (2 : Int32))) fun x135 =>
        Option.bind (scA N xs (v3 + (3 : Int32))) fun x136 =>
        Option.bind (f_X8_mark x134 x135 x136 s) fun r137 =>
        Option.bind (scA N xs (v3 + (1 : Int32))) fun x138 =>
        Option.bind (scA N xs (v3 + (2 : Int32))) fun x139 =>
        Option.bind (scA N xs (v3 + (3 : Int32))) fun x140 =>
        Option.bind (f_X9_mark x138 x139 x140 r137.2) fun r141 =>
        if r137.1 = r141.1 then (
          f_L_law_811 N xs (f_L_law_18 N xs n) v3 r141.2)
        else (
          some ((0 : Int32), r141.2)))
      else
      if (x2 &&& (31 : Int32)) = 20 then (
        Option.bind (scA N xs (v3 + (1 : Int32))) fun x144 =>
        Option.bind (scA N xs (v3 + (2 : Int32))) fun x145 =>
        Option.bind (f_X8_marked x144 x145 s) fun r146 =>
        Option.bind (scA N xs (v3 + (1 : Int32))) fun x147 =>
        Option.bind (scA N xs (v3 + (2 : Int32))) fun x148 =>
        Option.bind (f_X9_marked x147 x148 r146.2) fun r149 =>
        if r146.1 = r149.1 then (
          f_L_law_811 N xs (f_L_law_18 N xs n) v3 r149.2)
        else (
          some ((0 : Int32), r149.2)))
      else
      if (x2 &&& (31 : Int32)) = 21 then (
        Option.bind (f_X8_done s) fun r152 =>
        Option.bind (f_X9_done r152.2) fun r153 =>
        if r152.1 = r153.1 then (
          f_L_law_811 N xs (f_L_law_18 N xs n) v3 r153.2)
        else (
          some ((0 : Int32), r153.2)))
      else
      if (x2 &&& (31 : Int32)) = 22 then (
        Option.bind (f_X8_wrong s) fun r156 =>
        Option.bind (f_X9_wrong r156.2) fun r157 =>
        if r156.1 = r157.1 then (
          f_L_law_811 N xs (f_L_law_18 N xs n) v3 r157.2)
        else (
          some ((0 : Int32), r157.2)))
      else
      if (x2 &&& (31 : Int32)) = 23 then (
        Option.bind (f_X8_hint s) fun r160 =>
        Option.bind (f_X9_hint r160.2) fun r161 =>
        if r160.1 = r161.1 then (
          f_L_law_811 N xs (f_L_law_18 N xs n) v3 r161.2)
        else (
          some ((0 : Int32), r161.2)))
      else
      if (x2 &&& (31 : Int32)) = 24 then (
        Option.bind (f_X8_draw s) fun r164 =>
        Option.bind (f_X9_draw r164.2) fun r165 =>
        if r164.1 = r165.1 then (
          f_L_law_811 N xs (f_L_law_18 N xs n) v3 r165.2)
        else (
          some ((0 : Int32), r165.2)))
      else
      if (x2 &&& (31 : Int32)) = 25 then (
        Option.bind (f_X8_mend s) fun r168 =>
        Option.bind (f_X9_mend r168.2) fun r169 =>
        if r168.1 = r169.1 then (
          f_L_law_811 N xs (f_L_law_18 N xs n) v3 r169.2)
        else (
          some ((0 : Int32), r169.2)))
      else (
        f_L_law_811 N xs (f_L_law_18 N xs n) v3 s))
set_option maxRecDepth 100000 in
set_option maxHeartbeats 4000000 in
theorem w_L_law_18 {b N : Nat} {xs : Nat → Int32} {r : Int32 × St} (hr1 : r.1 = 1)   : ∀ (n : Nat) (v3 : Int32) (s : St), f_L_law_18 N xs  n v3 s = some r → Wp m_L_law 1000 (PL b N xs) 18 [some (.ref 66), some (.ref 0), some (.ref 43), some (.int v3)] [] s := by
  intro n
  induction n with
  | zero => intro v3 s h; cases h
  | succ n ih =>
    intro v3 s h
    unfold f_L_law_18 at h
    refine wp_iload_n (i := 3) dL_law_18 rfl rfl ?_
    refine wp_aload_n (i := 0) dL_law_19 rfl rfl ?_
    refine wl_len dL_law_20 ?_
    refine wp_bipush (v := 6) dL_law_21 (by decide +kernel) ?_
    refine wp_isub dL_law_23 ?_
    refine wp_icmp_gt (tgt := 817) dL_law_24 (by decide) (fun c1 => ?_) (fun c1 => ?_)
    · rw [if_pos c1] at h
      refine wp_iconst (v := 1) dL_law_817 (by decide +kernel) ?_
      have h := Option.some.inj h
      exact wl_ret dL_law_818
    · rw [if_neg c1] at h
      refine wp_aload_n (i := 0) dL_law_27 rfl rfl ?_
      refine wp_iload_n (i := 3) dL_law_28 rfl rfl ?_
      obtain ⟨x2, ex2, h⟩ := ob h
      refine wl_sc dL_law_29 ex2 ?_
      refine wp_bipush (v := 31) dL_law_30 (by decide +kernel) ?_
      refine wp_iand dL_law_32 ?_
      by_cases c3 : (x2 &&& (31 : Int32)) = 0
      · rw [if_pos c3] at h
        refine wp_tIn (tgt := 152) (off := 119) dL_law_33 (by rw [c3]; decide +kernel) (by rw [c3]; decide +kernel) (by rw [c3]; decide +kernel) (by decide) ?_
        refine wp_aload_n (i := 1) dL_law_152 rfl rfl ?_
        refine wp_aload_n (i := 0) dL_law_153 rfl rfl ?_
        refine wp_iload_n (i := 3) dL_law_154 rfl rfl ?_
        refine wp_iconst (v := 1) dL_law_155 (by decide +kernel) ?_
        refine wp_iadd dL_law_156 ?_
        obtain ⟨x4, ex4, h⟩ := ob h
        refine wl_sc dL_law_157 ex4 ?_
        refine wp_aload_n (i := 0) dL_law_158 rfl rfl ?_
        refine wp_iload_n (i := 3) dL_law_159 rfl rfl ?_
        refine wp_iconst (v := 2) dL_law_160 (by decide +kernel) ?_
        refine wp_iadd dL_law_161 ?_
        obtain ⟨x5, ex5, h⟩ := ob h
        refine wl_sc dL_law_162 ex5 ?_
        refine wp_aload_n (i := 0) dL_law_163 rfl rfl ?_
        refine wp_iload_n (i := 3) dL_law_164 rfl rfl ?_
        refine wp_iconst (v := 3) dL_law_165 (by decide +kernel) ?_
        refine wp_iadd dL_law_166 ?_
        obtain ⟨x6, ex6, h⟩ := ob h
        refine wl_sc dL_law_167 ex6 ?_
        refine wp_aload_n (i := 0) dL_law_168 rfl rfl ?_
        refine wp_iload_n (i := 3) dL_law_169 rfl rfl ?_
        refine wp_iconst (v := 4) dL_law_170 (by decide +kernel) ?_
        refine wp_iadd dL_law_171 ?_
        obtain ⟨x7, ex7, h⟩ := ob h
        refine wl_sc dL_law_172 ex7 ?_
        refine wp_aload_n (i := 0) dL_law_173 rfl rfl ?_
        refine wp_iload_n (i := 3) dL_law_174 rfl rfl ?_
        refine wp_iconst (v := 5) dL_law_175 (by decide +kernel) ?_
        refine wp_iadd dL_law_176 ?_
        obtain ⟨x8, ex8, h⟩ := ob h
        refine wl_sc dL_law_177 ex8 ?_
        obtain ⟨r9, er9, h⟩ := ob h
        refine wp_cVi (N := m_X8_feed) (As := [.int x4, .int x5, .int x6, .int x7, .int x8]) (rest := []) dL_law_178 ml_L_13 mo_X8_feed vo_X8_feed rfl rfl (ok_X8_feed er9) (by decide) (Nat.le_of_ble_eq_true rfl) ?_
        refine wp_aload_n (i := 2) dL_law_181 rfl rfl ?_
        refine wp_aload_n (i := 0) dL_law_182 rfl rfl ?_
        refine wp_iload_n (i := 3) dL_law_183 rfl rfl ?_
        refine wp_iconst (v := 1) dL_law_184 (by decide +kernel) ?_
        refine wp_iadd dL_law_185 ?_
        obtain ⟨x10, ex10, h⟩ := ob h
        refine wl_sc dL_law_186 ex10 ?_
        refine wp_aload_n (i := 0) dL_law_187 rfl rfl ?_
        refine wp_iload_n (i := 3) dL_law_188 rfl rfl ?_
        refine wp_iconst (v := 2) dL_law_189 (by decide +kernel) ?_
        refine wp_iadd dL_law_190 ?_
        obtain ⟨x11, ex11, h⟩ := ob h
        refine wl_sc dL_law_191 ex11 ?_
        refine wp_aload_n (i := 0) dL_law_192 rfl rfl ?_
        refine wp_iload_n (i := 3) dL_law_193 rfl rfl ?_
        refine wp_iconst (v := 3) dL_law_194 (by decide +kernel) ?_
        refine wp_iadd dL_law_195 ?_
        obtain ⟨x12, ex12, h⟩ := ob h
        refine wl_sc dL_law_196 ex12 ?_
        refine wp_aload_n (i := 0) dL_law_197 rfl rfl ?_
        refine wp_iload_n (i := 3) dL_law_198 rfl rfl ?_
        refine wp_iconst (v := 4) dL_law_199 (by decide +kernel) ?_
        refine wp_iadd dL_law_200 ?_
        obtain ⟨x13, ex13, h⟩ := ob h
        refine wl_sc dL_law_201 ex13 ?_
        refine wp_aload_n (i := 0) dL_law_202 rfl rfl ?_
        refine wp_iload_n (i := 3) dL_law_203 rfl rfl ?_
        refine wp_iconst (v := 5) dL_law_204 (by decide +kernel) ?_
        refine wp_iadd dL_law_205 ?_
        obtain ⟨x14, ex14, h⟩ := ob h
        refine wl_sc dL_law_206 ex14 ?_
        obtain ⟨r15, er15, h⟩ := ob h
        refine wp_cVi (N := m_X9_feed) (As := [.int x10, .int x11, .int x12, .int x13, .int x14]) (rest := [.int r9.1]) dL_law_207 ml_L_17 mo_X9_feed vo_X9_feed rfl rfl (ok_X9_feed er15) (by decide) (Nat.le_of_ble_eq_true rfl) ?_
        refine wp_icmp_eq (tgt := 811) dL_law_210 (by decide) (fun c16 => ?_) (fun c16 => ?_)
        · rw [if_pos c16] at h
          exact wp_sub (ls' := [some (.ref 66), some (.ref 0), some (.ref 43), some (.int v3)]) ⟨rfl, rfl, rfl, rfl, trivial⟩ (w_L_law_811 hr1 ih h)
        · rw [if_neg c16] at h
          refine wp_iconst (v := 0) dL_law_213 (by decide +kernel) ?_
          have h := Option.some.inj h
          rw [← h] at hr1
          exact absurd (show (0 : Int32) = 1 from hr1) (by decide +kernel)
      rw [if_neg c3] at h
      by_cases c17 : (x2 &&& (31 : Int32)) = 1
      · rw [if_pos c17] at h
        refine wp_tIn (tgt := 215) (off := 182) dL_law_33 (by rw [c17]; decide +kernel) (by rw [c17]; decide +kernel) (by rw [c17]; decide +kernel) (by decide) ?_
        refine wp_aload_n (i := 1) dL_law_215 rfl rfl ?_
        refine wp_aload_n (i := 0) dL_law_216 rfl rfl ?_
        refine wp_iload_n (i := 3) dL_law_217 rfl rfl ?_
        refine wp_iconst (v := 1) dL_law_218 (by decide +kernel) ?_
        refine wp_iadd dL_law_219 ?_
        obtain ⟨x18, ex18, h⟩ := ob h
        refine wl_sc dL_law_220 ex18 ?_
        obtain ⟨r19, er19, h⟩ := ob h
        refine wp_cVi (N := m_X8_end) (As := [.int x18]) (rest := []) dL_law_221 ml_L_18 mo_X8_end vo_X8_end rfl rfl (ok_X8_end er19) (by decide) (Nat.le_of_ble_eq_true rfl) ?_
        refine wp_aload_n (i := 2) dL_law_224 rfl rfl ?_
        refine wp_aload_n (i := 0) dL_law_225 rfl rfl ?_
        refine wp_iload_n (i := 3) dL_law_226 rfl rfl ?_
        refine wp_iconst (v := 1) dL_law_227 (by decide +kernel) ?_
        refine wp_iadd dL_law_228 ?_
        obtain ⟨x20, ex20, h⟩ := ob h
        refine wl_sc dL_law_229 ex20 ?_
        obtain ⟨r21, er21, h⟩ := ob h
        refine wp_cVi (N := m_X9_end) (As := [.int x20]) (rest := [.int r19.1]) dL_law_230 ml_L_22 mo_X9_end vo_X9_end rfl rfl (ok_X9_end er21) (by decide) (Nat.le_of_ble_eq_true rfl) ?_
        refine wp_icmp_eq (tgt := 811) dL_law_233 (by decide) (fun c22 => ?_) (fun c22 => ?_)
        · rw [if_pos c22] at h
          exact wp_sub (ls' := [some (.ref 66), some (.ref 0), some (.ref 43), some (.int v3)]) ⟨rfl, rfl, rfl, rfl, trivial⟩ (w_L_law_811 hr1 ih h)
        · rw [if_neg c22] at h
          refine wp_iconst (v := 0) dL_law_236 (by decide +kernel) ?_
          have h := Option.some.inj h
          rw [← h] at hr1
          exact absurd (show (0 : Int32) = 1 from hr1) (by decide +kernel)
      rw [if_neg c17] at h
      by_cases c23 : (x2 &&& (31 : Int32)) = 2
      · rw [if_pos c23] at h
        refine wp_tIn (tgt := 238) (off := 205) dL_law_33 (by rw [c23]; decide +kernel) (by rw [c23]; decide +kernel) (by rw [c23]; decide +kernel) (by decide) ?_
        refine wp_aload_n (i := 1) dL_law_238 rfl rfl ?_
        obtain ⟨r24, er24, h⟩ := ob h
        refine wp_cVi (N := m_X8_load) (As := []) (rest := []) dL_law_239 ml_L_23 mo_X8_load vo_X8_load rfl rfl (ok_X8_load er24) (by decide) (Nat.le_of_ble_eq_true rfl) ?_
        refine wp_aload_n (i := 2) dL_law_242 rfl rfl ?_
        obtain ⟨r25, er25, h⟩ := ob h
        refine wp_cVi (N := m_X9_load) (As := []) (rest := [.int r24.1]) dL_law_243 ml_L_27 mo_X9_load vo_X9_load rfl rfl (ok_X9_load er25) (by decide) (Nat.le_of_ble_eq_true rfl) ?_
        refine wp_icmp_eq (tgt := 811) dL_law_246 (by decide) (fun c26 => ?_) (fun c26 => ?_)
        · rw [if_pos c26] at h
          exact wp_sub (ls' := [some (.ref 66), some (.ref 0), some (.ref 43), some (.int v3)]) ⟨rfl, rfl, rfl, rfl, trivial⟩ (w_L_law_811 hr1 ih h)
        · rw [if_neg c26] at h
          refine wp_iconst (v := 0) dL_law_249 (by decide +kernel) ?_
          have h := Option.some.inj h
          rw [← h] at hr1
          exact absurd (show (0 : Int32) = 1 from hr1) (by decide +kernel)
      rw [if_neg c23] at h
      by_cases c27 : (x2 &&& (31 : Int32)) = 3
      · rw [if_pos c27] at h
        refine wp_tIn (tgt := 251) (off := 218) dL_law_33 (by rw [c27]; decide +kernel) (by rw [c27]; decide +kernel) (by rw [c27]; decide +kernel) (by decide) ?_
        refine wp_aload_n (i := 1) dL_law_251 rfl rfl ?_
        obtain ⟨r28, er28, h⟩ := ob h
        refine wp_cVi (N := m_X8_fault) (As := []) (rest := []) dL_law_252 ml_L_28 mo_X8_fault vo_X8_fault rfl rfl (ok_X8_fault er28) (by decide) (Nat.le_of_ble_eq_true rfl) ?_
        refine wp_aload_n (i := 2) dL_law_255 rfl rfl ?_
        obtain ⟨r29, er29, h⟩ := ob h
        refine wp_cVi (N := m_X9_fault) (As := []) (rest := [.int r28.1]) dL_law_256 ml_L_31 mo_X9_fault vo_X9_fault rfl rfl (ok_X9_fault er29) (by decide) (Nat.le_of_ble_eq_true rfl) ?_
        refine wp_icmp_eq (tgt := 811) dL_law_259 (by decide) (fun c30 => ?_) (fun c30 => ?_)
        · rw [if_pos c30] at h
          exact wp_sub (ls' := [some (.ref 66), some (.ref 0), some (.ref 43), some (.int v3)]) ⟨rfl, rfl, rfl, rfl, trivial⟩ (w_L_law_811 hr1 ih h)
        · rw [if_neg c30] at h
          refine wp_iconst (v := 0) dL_law_262 (by decide +kernel) ?_
          have h := Option.some.inj h
          rw [← h] at hr1
          exact absurd (show (0 : Int32) = 1 from hr1) (by decide +kernel)
      rw [if_neg c27] at h
      by_cases c31 : (x2 &&& (31 : Int32)) = 4
      · rw [if_pos c31] at h
        refine wp_tIn (tgt := 264) (off := 231) dL_law_33 (by rw [c31]; decide +kernel) (by rw [c31]; decide +kernel) (by rw [c31]; decide +kernel) (by decide) ?_
        refine wp_aload_n (i := 1) dL_law_264 rfl rfl ?_
        refine wp_aload_n (i := 0) dL_law_265 rfl rfl ?_
        refine wp_iload_n (i := 3) dL_law_266 rfl rfl ?_
        refine wp_iconst (v := 1) dL_law_267 (by decide +kernel) ?_
        refine wp_iadd dL_law_268 ?_
        obtain ⟨x32, ex32, h⟩ := ob h
        refine wl_sc dL_law_269 ex32 ?_
        refine wp_aload_n (i := 0) dL_law_270 rfl rfl ?_
        refine wp_iload_n (i := 3) dL_law_271 rfl rfl ?_
        refine wp_iconst (v := 2) dL_law_272 (by decide +kernel) ?_
        refine wp_iadd dL_law_273 ?_
        obtain ⟨x33, ex33, h⟩ := ob h
        refine wl_sc dL_law_274 ex33 ?_
        refine wp_aload_n (i := 0) dL_law_275 rfl rfl ?_
        refine wp_iload_n (i := 3) dL_law_276 rfl rfl ?_
        refine wp_iconst (v := 3) dL_law_277 (by decide +kernel) ?_
        refine wp_iadd dL_law_278 ?_
        obtain ⟨x34, ex34, h⟩ := ob h
        refine wl_sc dL_law_279 ex34 ?_
        obtain ⟨r35, er35, h⟩ := ob h
        refine wp_cVi (N := m_X8_blank) (As := [.int x32, .int x33, .int x34]) (rest := []) dL_law_280 ml_L_32 mo_X8_blank vo_X8_blank rfl rfl (ok_X8_blank er35) (by decide) (Nat.le_of_ble_eq_true rfl) ?_
        refine wp_aload_n (i := 2) dL_law_283 rfl rfl ?_
        refine wp_aload_n (i := 0) dL_law_284 rfl rfl ?_
        refine wp_iload_n (i := 3) dL_law_285 rfl rfl ?_
        refine wp_iconst (v := 1) dL_law_286 (by decide +kernel) ?_
        refine wp_iadd dL_law_287 ?_
        obtain ⟨x36, ex36, h⟩ := ob h
        refine wl_sc dL_law_288 ex36 ?_
        refine wp_aload_n (i := 0) dL_law_289 rfl rfl ?_
        refine wp_iload_n (i := 3) dL_law_290 rfl rfl ?_
        refine wp_iconst (v := 2) dL_law_291 (by decide +kernel) ?_
        refine wp_iadd dL_law_292 ?_
        obtain ⟨x37, ex37, h⟩ := ob h
        refine wl_sc dL_law_293 ex37 ?_
        refine wp_aload_n (i := 0) dL_law_294 rfl rfl ?_
        refine wp_iload_n (i := 3) dL_law_295 rfl rfl ?_
        refine wp_iconst (v := 3) dL_law_296 (by decide +kernel) ?_
        refine wp_iadd dL_law_297 ?_
        obtain ⟨x38, ex38, h⟩ := ob h
        refine wl_sc dL_law_298 ex38 ?_
        obtain ⟨r39, er39, h⟩ := ob h
        refine wp_cVi (N := m_X9_blank) (As := [.int x36, .int x37, .int x38]) (rest := [.int r35.1]) dL_law_299 ml_L_36 mo_X9_blank vo_X9_blank rfl rfl (ok_X9_blank er39) (by decide) (Nat.le_of_ble_eq_true rfl) ?_
        refine wp_icmp_eq (tgt := 811) dL_law_302 (by decide) (fun c40 => ?_) (fun c40 => ?_)
        · rw [if_pos c40] at h
          exact wp_sub (ls' := [some (.ref 66), some (.ref 0), some (.ref 43), some (.int v3)]) ⟨rfl, rfl, rfl, rfl, trivial⟩ (w_L_law_811 hr1 ih h)
        · rw [if_neg c40] at h
          refine wp_iconst (v := 0) dL_law_305 (by decide +kernel) ?_
          have h := Option.some.inj h
          rw [← h] at hr1
          exact absurd (show (0 : Int32) = 1 from hr1) (by decide +kernel)
      rw [if_neg c31] at h
      by_cases c41 : (x2 &&& (31 : Int32)) = 5
      · rw [if_pos c41] at h
        refine wp_tIn (tgt := 307) (off := 274) dL_law_33 (by rw [c41]; decide +kernel) (by rw [c41]; decide +kernel) (by rw [c41]; decide +kernel) (by decide) ?_
        refine wp_aload_n (i := 1) dL_law_307 rfl rfl ?_
        refine wp_aload_n (i := 0) dL_law_308 rfl rfl ?_
        refine wp_iload_n (i := 3) dL_law_309 rfl rfl ?_
        refine wp_iconst (v := 1) dL_law_310 (by decide +kernel) ?_
        refine wp_iadd dL_law_311 ?_
        obtain ⟨x42, ex42, h⟩ := ob h
        refine wl_sc dL_law_312 ex42 ?_
        obtain ⟨r43, er43, h⟩ := ob h
        refine wp_cVi (N := m_X8_about) (As := [.int x42]) (rest := []) dL_law_313 ml_L_37 mo_X8_about vo_X8_about rfl rfl (ok_X8_about er43) (by decide) (Nat.le_of_ble_eq_true rfl) ?_
        refine wp_aload_n (i := 2) dL_law_316 rfl rfl ?_
        refine wp_aload_n (i := 0) dL_law_317 rfl rfl ?_
        refine wp_iload_n (i := 3) dL_law_318 rfl rfl ?_
        refine wp_iconst (v := 1) dL_law_319 (by decide +kernel) ?_
        refine wp_iadd dL_law_320 ?_
        obtain ⟨x44, ex44, h⟩ := ob h
        refine wl_sc dL_law_321 ex44 ?_
        obtain ⟨r45, er45, h⟩ := ob h
        refine wp_cVi (N := m_X9_about) (As := [.int x44]) (rest := [.int r43.1]) dL_law_322 ml_L_40 mo_X9_about vo_X9_about rfl rfl (ok_X9_about er45) (by decide) (Nat.le_of_ble_eq_true rfl) ?_
        refine wp_icmp_eq (tgt := 811) dL_law_325 (by decide) (fun c46 => ?_) (fun c46 => ?_)
        · rw [if_pos c46] at h
          exact wp_sub (ls' := [some (.ref 66), some (.ref 0), some (.ref 43), some (.int v3)]) ⟨rfl, rfl, rfl, rfl, trivial⟩ (w_L_law_811 hr1 ih h)
        · rw [if_neg c46] at h
          refine wp_iconst (v := 0) dL_law_328 (by decide +kernel) ?_
          have h := Option.some.inj h
          rw [← h] at hr1
          exact absurd (show (0 : Int32) = 1 from hr1) (by decide +kernel)
      rw [if_neg c41] at h
      by_cases c47 : (x2 &&& (31 : Int32)) = 6
      · rw [if_pos c47] at h
        refine wp_tIn (tgt := 330) (off := 297) dL_law_33 (by rw [c47]; decide +kernel) (by rw [c47]; decide +kernel) (by rw [c47]; decide +kernel) (by decide) ?_
        refine wp_aload_n (i := 1) dL_law_330 rfl rfl ?_
        refine wp_aload_n (i := 0) dL_law_331 rfl rfl ?_
        refine wp_iload_n (i := 3) dL_law_332 rfl rfl ?_
        refine wp_iconst (v := 1) dL_law_333 (by decide +kernel) ?_
        refine wp_iadd dL_law_334 ?_
        obtain ⟨x48, ex48, h⟩ := ob h
        refine wl_sc dL_law_335 ex48 ?_
        refine wp_aload_n (i := 0) dL_law_336 rfl rfl ?_
        refine wp_iload_n (i := 3) dL_law_337 rfl rfl ?_
        refine wp_iconst (v := 2) dL_law_338 (by decide +kernel) ?_
        refine wp_iadd dL_law_339 ?_
        obtain ⟨x49, ex49, h⟩ := ob h
        refine wl_sc dL_law_340 ex49 ?_
        refine wp_aload_n (i := 0) dL_law_341 rfl rfl ?_
        refine wp_iload_n (i := 3) dL_law_342 rfl rfl ?_
        refine wp_iconst (v := 3) dL_law_343 (by decide +kernel) ?_
        refine wp_iadd dL_law_344 ?_
        obtain ⟨x50, ex50, h⟩ := ob h
        refine wl_sc dL_law_345 ex50 ?_
        obtain ⟨r51, er51, h⟩ := ob h
        refine wp_cVi (N := m_X8_run) (As := [.int x48, .int x49, .int x50]) (rest := []) dL_law_346 ml_L_41 mo_X8_run vo_X8_run rfl rfl (ok_X8_run er51) (by decide) (Nat.le_of_ble_eq_true rfl) ?_
        refine wp_aload_n (i := 2) dL_law_349 rfl rfl ?_
        refine wp_aload_n (i := 0) dL_law_350 rfl rfl ?_
        refine wp_iload_n (i := 3) dL_law_351 rfl rfl ?_
        refine wp_iconst (v := 1) dL_law_352 (by decide +kernel) ?_
        refine wp_iadd dL_law_353 ?_
        obtain ⟨x52, ex52, h⟩ := ob h
        refine wl_sc dL_law_354 ex52 ?_
        refine wp_aload_n (i := 0) dL_law_355 rfl rfl ?_
        refine wp_iload_n (i := 3) dL_law_356 rfl rfl ?_
        refine wp_iconst (v := 2) dL_law_357 (by decide +kernel) ?_
        refine wp_iadd dL_law_358 ?_
        obtain ⟨x53, ex53, h⟩ := ob h
        refine wl_sc dL_law_359 ex53 ?_
        refine wp_aload_n (i := 0) dL_law_360 rfl rfl ?_
        refine wp_iload_n (i := 3) dL_law_361 rfl rfl ?_
        refine wp_iconst (v := 3) dL_law_362 (by decide +kernel) ?_
        refine wp_iadd dL_law_363 ?_
        obtain ⟨x54, ex54, h⟩ := ob h
        refine wl_sc dL_law_364 ex54 ?_
        obtain ⟨r55, er55, h⟩ := ob h
        refine wp_cVi (N := m_X9_run) (As := [.int x52, .int x53, .int x54]) (rest := [.int r51.1]) dL_law_365 ml_L_45 mo_X9_run vo_X9_run rfl rfl (ok_X9_run er55) (by decide) (Nat.le_of_ble_eq_true rfl) ?_
        refine wp_icmp_eq (tgt := 811) dL_law_368 (by decide) (fun c56 => ?_) (fun c56 => ?_)
        · rw [if_pos c56] at h
          exact wp_sub (ls' := [some (.ref 66), some (.ref 0), some (.ref 43), some (.int v3)]) ⟨rfl, rfl, rfl, rfl, trivial⟩ (w_L_law_811 hr1 ih h)
        · rw [if_neg c56] at h
          refine wp_iconst (v := 0) dL_law_371 (by decide +kernel) ?_
          have h := Option.some.inj h
          rw [← h] at hr1
          exact absurd (show (0 : Int32) = 1 from hr1) (by decide +kernel)
      rw [if_neg c47] at h
      by_cases c57 : (x2 &&& (31 : Int32)) = 7
      · rw [if_pos c57] at h
        refine wp_tIn (tgt := 373) (off := 340) dL_law_33 (by rw [c57]; decide +kernel) (by rw [c57]; decide +kernel) (by rw [c57]; decide +kernel) (by decide) ?_
        refine wp_aload_n (i := 1) dL_law_373 rfl rfl ?_
        refine wp_aload_n (i := 0) dL_law_374 rfl rfl ?_
        refine wp_iload_n (i := 3) dL_law_375 rfl rfl ?_
        refine wp_iconst (v := 1) dL_law_376 (by decide +kernel) ?_
        refine wp_iadd dL_law_377 ?_
        obtain ⟨x58, ex58, h⟩ := ob h
        refine wl_sc dL_law_378 ex58 ?_
        refine wp_aload_n (i := 0) dL_law_379 rfl rfl ?_
        refine wp_iload_n (i := 3) dL_law_380 rfl rfl ?_
        refine wp_iconst (v := 2) dL_law_381 (by decide +kernel) ?_
        refine wp_iadd dL_law_382 ?_
        obtain ⟨x59, ex59, h⟩ := ob h
        refine wl_sc dL_law_383 ex59 ?_
        refine wp_aload_n (i := 0) dL_law_384 rfl rfl ?_
        refine wp_iload_n (i := 3) dL_law_385 rfl rfl ?_
        refine wp_iconst (v := 3) dL_law_386 (by decide +kernel) ?_
        refine wp_iadd dL_law_387 ?_
        obtain ⟨x60, ex60, h⟩ := ob h
        refine wl_sc dL_law_388 ex60 ?_
        obtain ⟨r61, er61, h⟩ := ob h
        refine wp_cVi (N := m_X8_give) (As := [.int x58, .int x59, .int x60]) (rest := []) dL_law_389 ml_L_46 mo_X8_give vo_X8_give rfl rfl (ok_X8_give er61) (by decide) (Nat.le_of_ble_eq_true rfl) ?_
        refine wp_aload_n (i := 2) dL_law_392 rfl rfl ?_
        refine wp_aload_n (i := 0) dL_law_393 rfl rfl ?_
        refine wp_iload_n (i := 3) dL_law_394 rfl rfl ?_
        refine wp_iconst (v := 1) dL_law_395 (by decide +kernel) ?_
        refine wp_iadd dL_law_396 ?_
        obtain ⟨x62, ex62, h⟩ := ob h
        refine wl_sc dL_law_397 ex62 ?_
        refine wp_aload_n (i := 0) dL_law_398 rfl rfl ?_
        refine wp_iload_n (i := 3) dL_law_399 rfl rfl ?_
        refine wp_iconst (v := 2) dL_law_400 (by decide +kernel) ?_
        refine wp_iadd dL_law_401 ?_
        obtain ⟨x63, ex63, h⟩ := ob h
        refine wl_sc dL_law_402 ex63 ?_
        refine wp_aload_n (i := 0) dL_law_403 rfl rfl ?_
        refine wp_iload_n (i := 3) dL_law_404 rfl rfl ?_
        refine wp_iconst (v := 3) dL_law_405 (by decide +kernel) ?_
        refine wp_iadd dL_law_406 ?_
        obtain ⟨x64, ex64, h⟩ := ob h
        refine wl_sc dL_law_407 ex64 ?_
        obtain ⟨r65, er65, h⟩ := ob h
        refine wp_cVi (N := m_X9_give) (As := [.int x62, .int x63, .int x64]) (rest := [.int r61.1]) dL_law_408 ml_L_49 mo_X9_give vo_X9_give rfl rfl (ok_X9_give er65) (by decide) (Nat.le_of_ble_eq_true rfl) ?_
        refine wp_icmp_eq (tgt := 811) dL_law_411 (by decide) (fun c66 => ?_) (fun c66 => ?_)
        · rw [if_pos c66] at h
          exact wp_sub (ls' := [some (.ref 66), some (.ref 0), some (.ref 43), some (.int v3)]) ⟨rfl, rfl, rfl, rfl, trivial⟩ (w_L_law_811 hr1 ih h)
        · rw [if_neg c66] at h
          refine wp_iconst (v := 0) dL_law_414 (by decide +kernel) ?_
          have h := Option.some.inj h
          rw [← h] at hr1
          exact absurd (show (0 : Int32) = 1 from hr1) (by decide +kernel)
      rw [if_neg c57] at h
      by_cases c67 : (x2 &&& (31 : Int32)) = 8
      · rw [if_pos c67] at h
        refine wp_tIn (tgt := 416) (off := 383) dL_law_33 (by rw [c67]; decide +kernel) (by rw [c67]; decide +kernel) (by rw [c67]; decide +kernel) (by decide) ?_
        refine wp_aload_n (i := 1) dL_law_416 rfl rfl ?_
        refine wp_aload_n (i := 0) dL_law_417 rfl rfl ?_
        refine wp_iload_n (i := 3) dL_law_418 rfl rfl ?_
        refine wp_iconst (v := 1) dL_law_419 (by decide +kernel) ?_
        refine wp_iadd dL_law_420 ?_
        obtain ⟨x68, ex68, h⟩ := ob h
        refine wl_sc dL_law_421 ex68 ?_
        refine wp_aload_n (i := 0) dL_law_422 rfl rfl ?_
        refine wp_iload_n (i := 3) dL_law_423 rfl rfl ?_
        refine wp_iconst (v := 2) dL_law_424 (by decide +kernel) ?_
        refine wp_iadd dL_law_425 ?_
        obtain ⟨x69, ex69, h⟩ := ob h
        refine wl_sc dL_law_426 ex69 ?_
        obtain ⟨r70, er70, h⟩ := ob h
        refine wp_cVi (N := m_X8_given) (As := [.int x68, .int x69]) (rest := []) dL_law_427 ml_L_50 mo_X8_given vo_X8_given rfl rfl (ok_X8_given er70) (by decide) (Nat.le_of_ble_eq_true rfl) ?_
        refine wp_aload_n (i := 2) dL_law_430 rfl rfl ?_
        refine wp_aload_n (i := 0) dL_law_431 rfl rfl ?_
        refine wp_iload_n (i := 3) dL_law_432 rfl rfl ?_
        refine wp_iconst (v := 1) dL_law_433 (by decide +kernel) ?_
        refine wp_iadd dL_law_434 ?_
        obtain ⟨x71, ex71, h⟩ := ob h
        refine wl_sc dL_law_435 ex71 ?_
        refine wp_aload_n (i := 0) dL_law_436 rfl rfl ?_
        refine wp_iload_n (i := 3) dL_law_437 rfl rfl ?_
        refine wp_iconst (v := 2) dL_law_438 (by decide +kernel) ?_
        refine wp_iadd dL_law_439 ?_
        obtain ⟨x72, ex72, h⟩ := ob h
        refine wl_sc dL_law_440 ex72 ?_
        obtain ⟨r73, er73, h⟩ := ob h
        refine wp_cVi (N := m_X9_given) (As := [.int x71, .int x72]) (rest := [.int r70.1]) dL_law_441 ml_L_54 mo_X9_given vo_X9_given rfl rfl (ok_X9_given er73) (by decide) (Nat.le_of_ble_eq_true rfl) ?_
        refine wp_icmp_eq (tgt := 811) dL_law_444 (by decide) (fun c74 => ?_) (fun c74 => ?_)
        · rw [if_pos c74] at h
          exact wp_sub (ls' := [some (.ref 66), some (.ref 0), some (.ref 43), some (.int v3)]) ⟨rfl, rfl, rfl, rfl, trivial⟩ (w_L_law_811 hr1 ih h)
        · rw [if_neg c74] at h
          refine wp_iconst (v := 0) dL_law_447 (by decide +kernel) ?_
          have h := Option.some.inj h
          rw [← h] at hr1
          exact absurd (show (0 : Int32) = 1 from hr1) (by decide +kernel)
      rw [if_neg c67] at h
      by_cases c75 : (x2 &&& (31 : Int32)) = 9
      · rw [if_pos c75] at h
        refine wp_tIn (tgt := 449) (off := 416) dL_law_33 (by rw [c75]; decide +kernel) (by rw [c75]; decide +kernel) (by rw [c75]; decide +kernel) (by decide) ?_
        refine wp_aload_n (i := 1) dL_law_449 rfl rfl ?_
        obtain ⟨r76, er76, h⟩ := ob h
        refine wp_cVi (N := m_X8_fresh) (As := []) (rest := []) dL_law_450 ml_L_55 mo_X8_fresh vo_X8_fresh rfl rfl (ok_X8_fresh er76) (by decide) (Nat.le_of_ble_eq_true rfl) ?_
        refine wp_aload_n (i := 2) dL_law_453 rfl rfl ?_
        obtain ⟨r77, er77, h⟩ := ob h
        refine wp_cVi (N := m_X9_fresh) (As := []) (rest := [.int r76.1]) dL_law_454 ml_L_59 mo_X9_fresh vo_X9_fresh rfl rfl (ok_X9_fresh er77) (by decide) (Nat.le_of_ble_eq_true rfl) ?_
        refine wp_icmp_eq (tgt := 811) dL_law_457 (by decide) (fun c78 => ?_) (fun c78 => ?_)
        · rw [if_pos c78] at h
          exact wp_sub (ls' := [some (.ref 66), some (.ref 0), some (.ref 43), some (.int v3)]) ⟨rfl, rfl, rfl, rfl, trivial⟩ (w_L_law_811 hr1 ih h)
        · rw [if_neg c78] at h
          refine wp_iconst (v := 0) dL_law_460 (by decide +kernel) ?_
          have h := Option.some.inj h
          rw [← h] at hr1
          exact absurd (show (0 : Int32) = 1 from hr1) (by decide +kernel)
      rw [if_neg c75] at h
      by_cases c79 : (x2 &&& (31 : Int32)) = 10
      · rw [if_pos c79] at h
        refine wp_tIn (tgt := 462) (off := 429) dL_law_33 (by rw [c79]; decide +kernel) (by rw [c79]; decide +kernel) (by rw [c79]; decide +kernel) (by decide) ?_
        refine wp_aload_n (i := 1) dL_law_462 rfl rfl ?_
        refine wp_aload_n (i := 0) dL_law_463 rfl rfl ?_
        refine wp_iload_n (i := 3) dL_law_464 rfl rfl ?_
        refine wp_iconst (v := 1) dL_law_465 (by decide +kernel) ?_
        refine wp_iadd dL_law_466 ?_
        obtain ⟨x80, ex80, h⟩ := ob h
        refine wl_sc dL_law_467 ex80 ?_
        obtain ⟨r81, er81, h⟩ := ob h
        refine wp_cVi (N := m_X8_rule) (As := [.int x80]) (rest := []) dL_law_468 ml_L_60 mo_X8_rule vo_X8_rule rfl rfl (ok_X8_rule er81) (by decide) (Nat.le_of_ble_eq_true rfl) ?_
        refine wp_aload_n (i := 2) dL_law_471 rfl rfl ?_
        refine wp_aload_n (i := 0) dL_law_472 rfl rfl ?_
        refine wp_iload_n (i := 3) dL_law_473 rfl rfl ?_
        refine wp_iconst (v := 1) dL_law_474 (by decide +kernel) ?_
        refine wp_iadd dL_law_475 ?_
        obtain ⟨x82, ex82, h⟩ := ob h
        refine wl_sc dL_law_476 ex82 ?_
        obtain ⟨r83, er83, h⟩ := ob h
        refine wp_cVi (N := m_X9_rule) (As := [.int x82]) (rest := [.int r81.1]) dL_law_477 ml_L_63 mo_X9_rule vo_X9_rule rfl rfl (ok_X9_rule er83) (by decide) (Nat.le_of_ble_eq_true rfl) ?_
        refine wp_icmp_eq (tgt := 811) dL_law_480 (by decide) (fun c84 => ?_) (fun c84 => ?_)
        · rw [if_pos c84] at h
          exact wp_sub (ls' := [some (.ref 66), some (.ref 0), some (.ref 43), some (.int v3)]) ⟨rfl, rfl, rfl, rfl, trivial⟩ (w_L_law_811 hr1 ih h)
        · rw [if_neg c84] at h
          refine wp_iconst (v := 0) dL_law_483 (by decide +kernel) ?_
          have h := Option.some.inj h
          rw [← h] at hr1
          exact absurd (show (0 : Int32) = 1 from hr1) (by decide +kernel)
      rw [if_neg c79] at h
      by_cases c85 : (x2 &&& (31 : Int32)) = 11
      · rw [if_pos c85] at h
        refine wp_tIn (tgt := 485) (off := 452) dL_law_33 (by rw [c85]; decide +kernel) (by rw [c85]; decide +kernel) (by rw [c85]; decide +kernel) (by decide) ?_
        refine wp_aload_n (i := 1) dL_law_485 rfl rfl ?_
        refine wp_aload_n (i := 0) dL_law_486 rfl rfl ?_
        refine wp_iload_n (i := 3) dL_law_487 rfl rfl ?_
        refine wp_iconst (v := 1) dL_law_488 (by decide +kernel) ?_
        refine wp_iadd dL_law_489 ?_
        obtain ⟨x86, ex86, h⟩ := ob h
        refine wl_sc dL_law_490 ex86 ?_
        obtain ⟨r87, er87, h⟩ := ob h
        refine wp_cVl (N := m_X8_ways) (As := [.int x86]) (rest := []) dL_law_491 ml_L_64 mo_X8_ways vo_X8_ways rfl rfl (ok_X8_ways er87) (by decide) (Nat.le_of_ble_eq_true rfl) ?_
        refine wp_aload_n (i := 2) dL_law_494 rfl rfl ?_
        refine wp_aload_n (i := 0) dL_law_495 rfl rfl ?_
        refine wp_iload_n (i := 3) dL_law_496 rfl rfl ?_
        refine wp_iconst (v := 1) dL_law_497 (by decide +kernel) ?_
        refine wp_iadd dL_law_498 ?_
        obtain ⟨x88, ex88, h⟩ := ob h
        refine wl_sc dL_law_499 ex88 ?_
        obtain ⟨r89, er89, h⟩ := ob h
        refine wp_cVl (N := m_X9_ways) (As := [.int x88]) (rest := [.long r87.1]) dL_law_500 ml_L_68 mo_X9_ways vo_X9_ways rfl rfl (ok_X9_ways er89) (by decide) (Nat.le_of_ble_eq_true rfl) ?_
        refine wp_lcmp dL_law_503 ?_
        refine wp_if_eq (tgt := 811) dL_law_504 (by decide) (fun c90 => ?_) (fun c90 => ?_)
        · rw [if_pos c90] at h
          exact wp_sub (ls' := [some (.ref 66), some (.ref 0), some (.ref 43), some (.int v3)]) ⟨rfl, rfl, rfl, rfl, trivial⟩ (w_L_law_811 hr1 ih h)
        · rw [if_neg c90] at h
          refine wp_iconst (v := 0) dL_law_507 (by decide +kernel) ?_
          have h := Option.some.inj h
          rw [← h] at hr1
          exact absurd (show (0 : Int32) = 1 from hr1) (by decide +kernel)
      rw [if_neg c85] at h
      by_cases c91 : (x2 &&& (31 : Int32)) = 12
      · rw [if_pos c91] at h
        refine wp_tIn (tgt := 509) (off := 476) dL_law_33 (by rw [c91]; decide +kernel) (by rw [c91]; decide +kernel) (by rw [c91]; decide +kernel) (by decide) ?_
        refine wp_aload_n (i := 1) dL_law_509 rfl rfl ?_
        obtain ⟨r92, er92, h⟩ := ob h
        refine wp_cVi (N := m_X8_rest) (As := []) (rest := []) dL_law_510 ml_L_69 mo_X8_rest vo_X8_rest rfl rfl (ok_X8_rest er92) (by decide) (Nat.le_of_ble_eq_true rfl) ?_
        refine wp_aload_n (i := 2) dL_law_513 rfl rfl ?_
        obtain ⟨r93, er93, h⟩ := ob h
        refine wp_cVi (N := m_X9_rest) (As := []) (rest := [.int r92.1]) dL_law_514 ml_L_72 mo_X9_rest vo_X9_rest rfl rfl (ok_X9_rest er93) (by decide) (Nat.le_of_ble_eq_true rfl) ?_
        refine wp_icmp_eq (tgt := 811) dL_law_517 (by decide) (fun c94 => ?_) (fun c94 => ?_)
        · rw [if_pos c94] at h
          exact wp_sub (ls' := [some (.ref 66), some (.ref 0), some (.ref 43), some (.int v3)]) ⟨rfl, rfl, rfl, rfl, trivial⟩ (w_L_law_811 hr1 ih h)
        · rw [if_neg c94] at h
          refine wp_iconst (v := 0) dL_law_520 (by decide +kernel) ?_
          have h := Option.some.inj h
          rw [← h] at hr1
          exact absurd (show (0 : Int32) = 1 from hr1) (by decide +kernel)
      rw [if_neg c91] at h
      by_cases c95 : (x2 &&& (31 : Int32)) = 13
      · rw [if_pos c95] at h
        refine wp_tIn (tgt := 522) (off := 489) dL_law_33 (by rw [c95]; decide +kernel) (by rw [c95]; decide +kernel) (by rw [c95]; decide +kernel) (by decide) ?_
        refine wp_aload_n (i := 1) dL_law_522 rfl rfl ?_
        obtain ⟨r96, er96, h⟩ := ob h
        refine wp_cVi (N := m_X8_tries) (As := []) (rest := []) dL_law_523 ml_L_73 mo_X8_tries vo_X8_tries rfl rfl (ok_X8_tries er96) (by decide) (Nat.le_of_ble_eq_true rfl) ?_
        refine wp_aload_n (i := 2) dL_law_526 rfl rfl ?_
        obtain ⟨r97, er97, h⟩ := ob h
        refine wp_cVi (N := m_X9_tries) (As := []) (rest := [.int r96.1]) dL_law_527 ml_L_76 mo_X9_tries vo_X9_tries rfl rfl (ok_X9_tries er97) (by decide) (Nat.le_of_ble_eq_true rfl) ?_
        refine wp_icmp_eq (tgt := 811) dL_law_530 (by decide) (fun c98 => ?_) (fun c98 => ?_)
        · rw [if_pos c98] at h
          exact wp_sub (ls' := [some (.ref 66), some (.ref 0), some (.ref 43), some (.int v3)]) ⟨rfl, rfl, rfl, rfl, trivial⟩ (w_L_law_811 hr1 ih h)
        · rw [if_neg c98] at h
          refine wp_iconst (v := 0) dL_law_533 (by decide +kernel) ?_
          have h := Option.some.inj h
          rw [← h] at hr1
          exact absurd (show (0 : Int32) = 1 from hr1) (by decide +kernel)
      rw [if_neg c95] at h
      by_cases c99 : (x2 &&& (31 : Int32)) = 14
      · rw [if_pos c99] at h
        refine wp_tIn (tgt := 535) (off := 502) dL_law_33 (by rw [c99]; decide +kernel) (by rw [c99]; decide +kernel) (by rw [c99]; decide +kernel) (by decide) ?_
        refine wp_aload_n (i := 1) dL_law_535 rfl rfl ?_
        refine wp_aload_n (i := 0) dL_law_536 rfl rfl ?_
        refine wp_iload_n (i := 3) dL_law_537 rfl rfl ?_
        refine wp_iconst (v := 1) dL_law_538 (by decide +kernel) ?_
        refine wp_iadd dL_law_539 ?_
        obtain ⟨x100, ex100, h⟩ := ob h
        refine wl_sc dL_law_540 ex100 ?_
        refine wp_aload_n (i := 0) dL_law_541 rfl rfl ?_
        refine wp_iload_n (i := 3) dL_law_542 rfl rfl ?_
        refine wp_iconst (v := 2) dL_law_543 (by decide +kernel) ?_
        refine wp_iadd dL_law_544 ?_
        obtain ⟨x101, ex101, h⟩ := ob h
        refine wl_sc dL_law_545 ex101 ?_
        obtain ⟨r102, er102, h⟩ := ob h
        refine wp_cVi (N := m_X8_set) (As := [.int x100, .int x101]) (rest := []) dL_law_546 ml_L_77 mo_X8_set vo_X8_set rfl rfl (ok_X8_set er102) (by decide) (Nat.le_of_ble_eq_true rfl) ?_
        refine wp_aload_n (i := 2) dL_law_549 rfl rfl ?_
        refine wp_aload_n (i := 0) dL_law_550 rfl rfl ?_
        refine wp_iload_n (i := 3) dL_law_551 rfl rfl ?_
        refine wp_iconst (v := 1) dL_law_552 (by decide +kernel) ?_
        refine wp_iadd dL_law_553 ?_
        obtain ⟨x103, ex103, h⟩ := ob h
        refine wl_sc dL_law_554 ex103 ?_
        refine wp_aload_n (i := 0) dL_law_555 rfl rfl ?_
        refine wp_iload_n (i := 3) dL_law_556 rfl rfl ?_
        refine wp_iconst (v := 2) dL_law_557 (by decide +kernel) ?_
        refine wp_iadd dL_law_558 ?_
        obtain ⟨x104, ex104, h⟩ := ob h
        refine wl_sc dL_law_559 ex104 ?_
        obtain ⟨r105, er105, h⟩ := ob h
        refine wp_cVi (N := m_X9_set) (As := [.int x103, .int x104]) (rest := [.int r102.1]) dL_law_560 ml_L_80 mo_X9_set vo_X9_set rfl rfl (ok_X9_set er105) (by decide) (Nat.le_of_ble_eq_true rfl) ?_
        refine wp_icmp_eq (tgt := 811) dL_law_563 (by decide) (fun c106 => ?_) (fun c106 => ?_)
        · rw [if_pos c106] at h
          exact wp_sub (ls' := [some (.ref 66), some (.ref 0), some (.ref 43), some (.int v3)]) ⟨rfl, rfl, rfl, rfl, trivial⟩ (w_L_law_811 hr1 ih h)
        · rw [if_neg c106] at h
          refine wp_iconst (v := 0) dL_law_566 (by decide +kernel) ?_
          have h := Option.some.inj h
          rw [← h] at hr1
          exact absurd (show (0 : Int32) = 1 from hr1) (by decide +kernel)
      rw [if_neg c99] at h
      by_cases c107 : (x2 &&& (31 : Int32)) = 15
      · rw [if_pos c107] at h
        refine wp_tIn (tgt := 568) (off := 535) dL_law_33 (by rw [c107]; decide +kernel) (by rw [c107]; decide +kernel) (by rw [c107]; decide +kernel) (by decide) ?_
        refine wp_aload_n (i := 1) dL_law_568 rfl rfl ?_
        refine wp_aload_n (i := 0) dL_law_569 rfl rfl ?_
        refine wp_iload_n (i := 3) dL_law_570 rfl rfl ?_
        refine wp_iconst (v := 1) dL_law_571 (by decide +kernel) ?_
        refine wp_iadd dL_law_572 ?_
        obtain ⟨x108, ex108, h⟩ := ob h
        refine wl_sc dL_law_573 ex108 ?_
        refine wp_aload_n (i := 0) dL_law_574 rfl rfl ?_
        refine wp_iload_n (i := 3) dL_law_575 rfl rfl ?_
        refine wp_iconst (v := 2) dL_law_576 (by decide +kernel) ?_
        refine wp_iadd dL_law_577 ?_
        obtain ⟨x109, ex109, h⟩ := ob h
        refine wl_sc dL_law_578 ex109 ?_
        obtain ⟨r110, er110, h⟩ := ob h
        refine wp_cVi (N := m_X8_search) (As := [.int x108, .int x109]) (rest := []) dL_law_579 ml_L_81 mo_X8_search vo_X8_search rfl rfl (ok_X8_search er110) (by decide) (Nat.le_of_ble_eq_true rfl) ?_
        refine wp_aload_n (i := 2) dL_law_582 rfl rfl ?_
        refine wp_aload_n (i := 0) dL_law_583 rfl rfl ?_
        refine wp_iload_n (i := 3) dL_law_584 rfl rfl ?_
        refine wp_iconst (v := 1) dL_law_585 (by decide +kernel) ?_
        refine wp_iadd dL_law_586 ?_
        obtain ⟨x111, ex111, h⟩ := ob h
        refine wl_sc dL_law_587 ex111 ?_
        refine wp_aload_n (i := 0) dL_law_588 rfl rfl ?_
        refine wp_iload_n (i := 3) dL_law_589 rfl rfl ?_
        refine wp_iconst (v := 2) dL_law_590 (by decide +kernel) ?_
        refine wp_iadd dL_law_591 ?_
        obtain ⟨x112, ex112, h⟩ := ob h
        refine wl_sc dL_law_592 ex112 ?_
        obtain ⟨r113, er113, h⟩ := ob h
        refine wp_cVi (N := m_X9_search) (As := [.int x111, .int x112]) (rest := [.int r110.1]) dL_law_593 ml_L_84 mo_X9_search vo_X9_search rfl rfl (ok_X9_search er113) (by decide) (Nat.le_of_ble_eq_true rfl) ?_
        refine wp_icmp_eq (tgt := 811) dL_law_596 (by decide) (fun c114 => ?_) (fun c114 => ?_)
        · rw [if_pos c114] at h
          exact wp_sub (ls' := [some (.ref 66), some (.ref 0), some (.ref 43), some (.int v3)]) ⟨rfl, rfl, rfl, rfl, trivial⟩ (w_L_law_811 hr1 ih h)
        · rw [if_neg c114] at h
          refine wp_iconst (v := 0) dL_law_599 (by decide +kernel) ?_
          have h := Option.some.inj h
          rw [← h] at hr1
          exact absurd (show (0 : Int32) = 1 from hr1) (by decide +kernel)
      rw [if_neg c107] at h
      by_cases c115 : (x2 &&& (31 : Int32)) = 16
      · rw [if_pos c115] at h
        refine wp_tIn (tgt := 601) (off := 568) dL_law_33 (by rw [c115]; decide +kernel) (by rw [c115]; decide +kernel) (by rw [c115]; decide +kernel) (by decide) ?_
        refine wp_aload_n (i := 1) dL_law_601 rfl rfl ?_
        obtain ⟨r116, er116, h⟩ := ob h
        refine wp_cVi (N := m_X8_nodes) (As := []) (rest := []) dL_law_602 ml_L_85 mo_X8_nodes vo_X8_nodes rfl rfl (ok_X8_nodes er116) (by decide) (Nat.le_of_ble_eq_true rfl) ?_
        refine wp_aload_n (i := 2) dL_law_605 rfl rfl ?_
        obtain ⟨r117, er117, h⟩ := ob h
        refine wp_cVi (N := m_X9_nodes) (As := []) (rest := [.int r116.1]) dL_law_606 ml_L_88 mo_X9_nodes vo_X9_nodes rfl rfl (ok_X9_nodes er117) (by decide) (Nat.le_of_ble_eq_true rfl) ?_
        refine wp_icmp_eq (tgt := 811) dL_law_609 (by decide) (fun c118 => ?_) (fun c118 => ?_)
        · rw [if_pos c118] at h
          exact wp_sub (ls' := [some (.ref 66), some (.ref 0), some (.ref 43), some (.int v3)]) ⟨rfl, rfl, rfl, rfl, trivial⟩ (w_L_law_811 hr1 ih h)
        · rw [if_neg c118] at h
          refine wp_iconst (v := 0) dL_law_612 (by decide +kernel) ?_
          have h := Option.some.inj h
          rw [← h] at hr1
          exact absurd (show (0 : Int32) = 1 from hr1) (by decide +kernel)
      rw [if_neg c115] at h
      by_cases c119 : (x2 &&& (31 : Int32)) = 17
      · rw [if_pos c119] at h
        refine wp_tIn (tgt := 614) (off := 581) dL_law_33 (by rw [c119]; decide +kernel) (by rw [c119]; decide +kernel) (by rw [c119]; decide +kernel) (by decide) ?_
        refine wp_aload_n (i := 1) dL_law_614 rfl rfl ?_
        refine wp_aload_n (i := 0) dL_law_615 rfl rfl ?_
        refine wp_iload_n (i := 3) dL_law_616 rfl rfl ?_
        refine wp_iconst (v := 1) dL_law_617 (by decide +kernel) ?_
        refine wp_iadd dL_law_618 ?_
        obtain ⟨x120, ex120, h⟩ := ob h
        refine wl_sc dL_law_619 ex120 ?_
        refine wp_aload_n (i := 0) dL_law_620 rfl rfl ?_
        refine wp_iload_n (i := 3) dL_law_621 rfl rfl ?_
        refine wp_iconst (v := 2) dL_law_622 (by decide +kernel) ?_
        refine wp_iadd dL_law_623 ?_
        obtain ⟨x121, ex121, h⟩ := ob h
        refine wl_sc dL_law_624 ex121 ?_
        refine wp_aload_n (i := 0) dL_law_625 rfl rfl ?_
        refine wp_iload_n (i := 3) dL_law_626 rfl rfl ?_
        refine wp_iconst (v := 3) dL_law_627 (by decide +kernel) ?_
        refine wp_iadd dL_law_628 ?_
        obtain ⟨x122, ex122, h⟩ := ob h
        refine wl_sc dL_law_629 ex122 ?_
        obtain ⟨r123, er123, h⟩ := ob h
        refine wp_cVi (N := m_X8_solution) (As := [.int x120, .int x121, .int x122]) (rest := []) dL_law_630 ml_L_89 mo_X8_solution vo_X8_solution rfl rfl (ok_X8_solution er123) (by decide) (Nat.le_of_ble_eq_true rfl) ?_
        refine wp_aload_n (i := 2) dL_law_633 rfl rfl ?_
        refine wp_aload_n (i := 0) dL_law_634 rfl rfl ?_
        refine wp_iload_n (i := 3) dL_law_635 rfl rfl ?_
        refine wp_iconst (v := 1) dL_law_636 (by decide +kernel) ?_
        refine wp_iadd dL_law_637 ?_
        obtain ⟨x124, ex124, h⟩ := ob h
        refine wl_sc dL_law_638 ex124 ?_
        refine wp_aload_n (i := 0) dL_law_639 rfl rfl ?_
        refine wp_iload_n (i := 3) dL_law_640 rfl rfl ?_
        refine wp_iconst (v := 2) dL_law_641 (by decide +kernel) ?_
        refine wp_iadd dL_law_642 ?_
        obtain ⟨x125, ex125, h⟩ := ob h
        refine wl_sc dL_law_643 ex125 ?_
        refine wp_aload_n (i := 0) dL_law_644 rfl rfl ?_
        refine wp_iload_n (i := 3) dL_law_645 rfl rfl ?_
        refine wp_iconst (v := 3) dL_law_646 (by decide +kernel) ?_
        refine wp_iadd dL_law_647 ?_
        obtain ⟨x126, ex126, h⟩ := ob h
        refine wl_sc dL_law_648 ex126 ?_
        obtain ⟨r127, er127, h⟩ := ob h
        refine wp_cVi (N := m_X9_solution) (As := [.int x124, .int x125, .int x126]) (rest := [.int r123.1]) dL_law_649 ml_L_92 mo_X9_solution vo_X9_solution rfl rfl (ok_X9_solution er127) (by decide) (Nat.le_of_ble_eq_true rfl) ?_
        refine wp_icmp_eq (tgt := 811) dL_law_652 (by decide) (fun c128 => ?_) (fun c128 => ?_)
        · rw [if_pos c128] at h
          exact wp_sub (ls' := [some (.ref 66), some (.ref 0), some (.ref 43), some (.int v3)]) ⟨rfl, rfl, rfl, rfl, trivial⟩ (w_L_law_811 hr1 ih h)
        · rw [if_neg c128] at h
          refine wp_iconst (v := 0) dL_law_655 (by decide +kernel) ?_
          have h := Option.some.inj h
          rw [← h] at hr1
          exact absurd (show (0 : Int32) = 1 from hr1) (by decide +kernel)
      rw [if_neg c119] at h
      by_cases c129 : (x2 &&& (31 : Int32)) = 18
      · rw [if_pos c129] at h
        refine wp_tIn (tgt := 657) (off := 624) dL_law_33 (by rw [c129]; decide +kernel) (by rw [c129]; decide +kernel) (by rw [c129]; decide +kernel) (by decide) ?_
        refine wp_aload_n (i := 1) dL_law_657 rfl rfl ?_
        obtain ⟨r130, er130, h⟩ := ob h
        refine wp_cVi (N := m_X8_level) (As := []) (rest := []) dL_law_658 ml_L_93 mo_X8_level vo_X8_level rfl rfl (ok_X8_level er130) (by decide) (Nat.le_of_ble_eq_true rfl) ?_
        refine wp_aload_n (i := 2) dL_law_661 rfl rfl ?_
        obtain ⟨r131, er131, h⟩ := ob h
        refine wp_cVi (N := m_X9_level) (As := []) (rest := [.int r130.1]) dL_law_662 ml_L_96 mo_X9_level vo_X9_level rfl rfl (ok_X9_level er131) (by decide) (Nat.le_of_ble_eq_true rfl) ?_
        refine wp_icmp_eq (tgt := 811) dL_law_665 (by decide) (fun c132 => ?_) (fun c132 => ?_)
        · rw [if_pos c132] at h
          exact wp_sub (ls' := [some (.ref 66), some (.ref 0), some (.ref 43), some (.int v3)]) ⟨rfl, rfl, rfl, rfl, trivial⟩ (w_L_law_811 hr1 ih h)
        · rw [if_neg c132] at h
          refine wp_iconst (v := 0) dL_law_668 (by decide +kernel) ?_
          have h := Option.some.inj h
          rw [← h] at hr1
          exact absurd (show (0 : Int32) = 1 from hr1) (by decide +kernel)
      rw [if_neg c129] at h
      by_cases c133 : (x2 &&& (31 : Int32)) = 19
      · rw [if_pos c133] at h
        refine wp_tIn (tgt := 670) (off := 637) dL_law_33 (by rw [c133]; decide +kernel) (by rw [c133]; decide +kernel) (by rw [c133]; decide +kernel) (by decide) ?_
        refine wp_aload_n (i := 1) dL_law_670 rfl rfl ?_
        refine wp_aload_n (i := 0) dL_law_671 rfl rfl ?_
        refine wp_iload_n (i := 3) dL_law_672 rfl rfl ?_
        refine wp_iconst (v := 1) dL_law_673 (by decide +kernel) ?_
        refine wp_iadd dL_law_674 ?_
        obtain ⟨x134, ex134, h⟩ := ob h
        refine wl_sc dL_law_675 ex134 ?_
        refine wp_aload_n (i := 0) dL_law_676 rfl rfl ?_
        refine wp_iload_n (i := 3) dL_law_677 rfl rfl ?_
        refine wp_iconst (v := 2) dL_law_678 (by decide +kernel) ?_
        refine wp_iadd dL_law_679 ?_
        obtain ⟨x135, ex135, h⟩ := ob h
        refine wl_sc dL_law_680 ex135 ?_
        refine wp_aload_n (i := 0) dL_law_681 rfl rfl ?_
        refine wp_iload_n (i := 3) dL_law_682 rfl rfl ?_
        refine wp_iconst (v := 3) dL_law_683 (by decide +kernel) ?_
        refine wp_iadd dL_law_684 ?_
        obtain ⟨x136, ex136, h⟩ := ob h
        refine wl_sc dL_law_685 ex136 ?_
        obtain ⟨r137, er137, h⟩ := ob h
        refine wp_cVi (N := m_X8_mark) (As := [.int x134, .int x135, .int x136]) (rest := []) dL_law_686 ml_L_97 mo_X8_mark vo_X8_mark rfl rfl (ok_X8_mark er137) (by decide) (Nat.le_of_ble_eq_true rfl) ?_
        refine wp_aload_n (i := 2) dL_law_689 rfl rfl ?_
        refine wp_aload_n (i := 0) dL_law_690 rfl rfl ?_
        refine wp_iload_n (i := 3) dL_law_691 rfl rfl ?_
        refine wp_iconst (v := 1) dL_law_692 (by decide +kernel) ?_
        refine wp_iadd dL_law_693 ?_
        obtain ⟨x138, ex138, h⟩ := ob h
        refine wl_sc dL_law_694 ex138 ?_
        refine wp_aload_n (i := 0) dL_law_695 rfl rfl ?_
        refine wp_iload_n (i := 3) dL_law_696 rfl rfl ?_
        refine wp_iconst (v := 2) dL_law_697 (by decide +kernel) ?_
        refine wp_iadd dL_law_698 ?_
        obtain ⟨x139, ex139, h⟩ := ob h
        refine wl_sc dL_law_699 ex139 ?_
        refine wp_aload_n (i := 0) dL_law_700 rfl rfl ?_
        refine wp_iload_n (i := 3) dL_law_701 rfl rfl ?_
        refine wp_iconst (v := 3) dL_law_702 (by decide +kernel) ?_
        refine wp_iadd dL_law_703 ?_
        obtain ⟨x140, ex140, h⟩ := ob h
        refine wl_sc dL_law_704 ex140 ?_
        obtain ⟨r141, er141, h⟩ := ob h
        refine wp_cVi (N := m_X9_mark) (As := [.int x138, .int x139, .int x140]) (rest := [.int r137.1]) dL_law_705 ml_L_100 mo_X9_mark vo_X9_mark rfl rfl (ok_X9_mark er141) (by decide) (Nat.le_of_ble_eq_true rfl) ?_
        refine wp_icmp_eq (tgt := 811) dL_law_708 (by decide) (fun c142 => ?_) (fun c142 => ?_)
        · rw [if_pos c142] at h
          exact wp_sub (ls' := [some (.ref 66), some (.ref 0), some (.ref 43), some (.int v3)]) ⟨rfl, rfl, rfl, rfl, trivial⟩ (w_L_law_811 hr1 ih h)
        · rw [if_neg c142] at h
          refine wp_iconst (v := 0) dL_law_711 (by decide +kernel) ?_
          have h := Option.some.inj h
          rw [← h] at hr1
          exact absurd (show (0 : Int32) = 1 from hr1) (by decide +kernel)
      rw [if_neg c133] at h
      by_cases c143 : (x2 &&& (31 : Int32)) = 20
      · rw [if_pos c143] at h
        refine wp_tIn (tgt := 713) (off := 680) dL_law_33 (by rw [c143]; decide +kernel) (by rw [c143]; decide +kernel) (by rw [c143]; decide +kernel) (by decide) ?_
        refine wp_aload_n (i := 1) dL_law_713 rfl rfl ?_
        refine wp_aload_n (i := 0) dL_law_714 rfl rfl ?_
        refine wp_iload_n (i := 3) dL_law_715 rfl rfl ?_
        refine wp_iconst (v := 1) dL_law_716 (by decide +kernel) ?_
        refine wp_iadd dL_law_717 ?_
        obtain ⟨x144, ex144, h⟩ := ob h
        refine wl_sc dL_law_718 ex144 ?_
        refine wp_aload_n (i := 0) dL_law_719 rfl rfl ?_
        refine wp_iload_n (i := 3) dL_law_720 rfl rfl ?_
        refine wp_iconst (v := 2) dL_law_721 (by decide +kernel) ?_
        refine wp_iadd dL_law_722 ?_
        obtain ⟨x145, ex145, h⟩ := ob h
        refine wl_sc dL_law_723 ex145 ?_
        obtain ⟨r146, er146, h⟩ := ob h
        refine wp_cVi (N := m_X8_marked) (As := [.int x144, .int x145]) (rest := []) dL_law_724 ml_L_101 mo_X8_marked vo_X8_marked rfl rfl (ok_X8_marked er146) (by decide) (Nat.le_of_ble_eq_true rfl) ?_
        refine wp_aload_n (i := 2) dL_law_727 rfl rfl ?_
        refine wp_aload_n (i := 0) dL_law_728 rfl rfl ?_
        refine wp_iload_n (i := 3) dL_law_729 rfl rfl ?_
        refine wp_iconst (v := 1) dL_law_730 (by decide +kernel) ?_
        refine wp_iadd dL_law_731 ?_
        obtain ⟨x147, ex147, h⟩ := ob h
        refine wl_sc dL_law_732 ex147 ?_
        refine wp_aload_n (i := 0) dL_law_733 rfl rfl ?_
        refine wp_iload_n (i := 3) dL_law_734 rfl rfl ?_
        refine wp_iconst (v := 2) dL_law_735 (by decide +kernel) ?_
        refine wp_iadd dL_law_736 ?_
        obtain ⟨x148, ex148, h⟩ := ob h
        refine wl_sc dL_law_737 ex148 ?_
        obtain ⟨r149, er149, h⟩ := ob h
        refine wp_cVi (N := m_X9_marked) (As := [.int x147, .int x148]) (rest := [.int r146.1]) dL_law_738 ml_L_104 mo_X9_marked vo_X9_marked rfl rfl (ok_X9_marked er149) (by decide) (Nat.le_of_ble_eq_true rfl) ?_
        refine wp_icmp_eq (tgt := 811) dL_law_741 (by decide) (fun c150 => ?_) (fun c150 => ?_)
        · rw [if_pos c150] at h
          exact wp_sub (ls' := [some (.ref 66), some (.ref 0), some (.ref 43), some (.int v3)]) ⟨rfl, rfl, rfl, rfl, trivial⟩ (w_L_law_811 hr1 ih h)
        · rw [if_neg c150] at h
          refine wp_iconst (v := 0) dL_law_744 (by decide +kernel) ?_
          have h := Option.some.inj h
          rw [← h] at hr1
          exact absurd (show (0 : Int32) = 1 from hr1) (by decide +kernel)
      rw [if_neg c143] at h
      by_cases c151 : (x2 &&& (31 : Int32)) = 21
      · rw [if_pos c151] at h
        refine wp_tIn (tgt := 746) (off := 713) dL_law_33 (by rw [c151]; decide +kernel) (by rw [c151]; decide +kernel) (by rw [c151]; decide +kernel) (by decide) ?_
        refine wp_aload_n (i := 1) dL_law_746 rfl rfl ?_
        obtain ⟨r152, er152, h⟩ := ob h
        refine wp_cVi (N := m_X8_done) (As := []) (rest := []) dL_law_747 ml_L_105 mo_X8_done vo_X8_done rfl rfl (ok_X8_done er152) (by decide) (Nat.le_of_ble_eq_true rfl) ?_
        refine wp_aload_n (i := 2) dL_law_750 rfl rfl ?_
        obtain ⟨r153, er153, h⟩ := ob h
        refine wp_cVi (N := m_X9_done) (As := []) (rest := [.int r152.1]) dL_law_751 ml_L_108 mo_X9_done vo_X9_done rfl rfl (ok_X9_done er153) (by decide) (Nat.le_of_ble_eq_true rfl) ?_
        refine wp_icmp_eq (tgt := 811) dL_law_754 (by decide) (fun c154 => ?_) (fun c154 => ?_)
        · rw [if_pos c154] at h
          exact wp_sub (ls' := [some (.ref 66), some (.ref 0), some (.ref 43), some (.int v3)]) ⟨rfl, rfl, rfl, rfl, trivial⟩ (w_L_law_811 hr1 ih h)
        · rw [if_neg c154] at h
          refine wp_iconst (v := 0) dL_law_757 (by decide +kernel) ?_
          have h := Option.some.inj h
          rw [← h] at hr1
          exact absurd (show (0 : Int32) = 1 from hr1) (by decide +kernel)
      rw [if_neg c151] at h
      by_cases c155 : (x2 &&& (31 : Int32)) = 22
      · rw [if_pos c155] at h
        refine wp_tIn (tgt := 759) (off := 726) dL_law_33 (by rw [c155]; decide +kernel) (by rw [c155]; decide +kernel) (by rw [c155]; decide +kernel) (by decide) ?_
        refine wp_aload_n (i := 1) dL_law_759 rfl rfl ?_
        obtain ⟨r156, er156, h⟩ := ob h
        refine wp_cVi (N := m_X8_wrong) (As := []) (rest := []) dL_law_760 ml_L_109 mo_X8_wrong vo_X8_wrong rfl rfl (ok_X8_wrong er156) (by decide) (Nat.le_of_ble_eq_true rfl) ?_
        refine wp_aload_n (i := 2) dL_law_763 rfl rfl ?_
        obtain ⟨r157, er157, h⟩ := ob h
        refine wp_cVi (N := m_X9_wrong) (As := []) (rest := [.int r156.1]) dL_law_764 ml_L_112 mo_X9_wrong vo_X9_wrong rfl rfl (ok_X9_wrong er157) (by decide) (Nat.le_of_ble_eq_true rfl) ?_
        refine wp_icmp_eq (tgt := 811) dL_law_767 (by decide) (fun c158 => ?_) (fun c158 => ?_)
        · rw [if_pos c158] at h
          exact wp_sub (ls' := [some (.ref 66), some (.ref 0), some (.ref 43), some (.int v3)]) ⟨rfl, rfl, rfl, rfl, trivial⟩ (w_L_law_811 hr1 ih h)
        · rw [if_neg c158] at h
          refine wp_iconst (v := 0) dL_law_770 (by decide +kernel) ?_
          have h := Option.some.inj h
          rw [← h] at hr1
          exact absurd (show (0 : Int32) = 1 from hr1) (by decide +kernel)
      rw [if_neg c155] at h
      by_cases c159 : (x2 &&& (31 : Int32)) = 23
      · rw [if_pos c159] at h
        refine wp_tIn (tgt := 772) (off := 739) dL_law_33 (by rw [c159]; decide +kernel) (by rw [c159]; decide +kernel) (by rw [c159]; decide +kernel) (by decide) ?_
        refine wp_aload_n (i := 1) dL_law_772 rfl rfl ?_
        obtain ⟨r160, er160, h⟩ := ob h
        refine wp_cVi (N := m_X8_hint) (As := []) (rest := []) dL_law_773 ml_L_113 mo_X8_hint vo_X8_hint rfl rfl (ok_X8_hint er160) (by decide) (Nat.le_of_ble_eq_true rfl) ?_
        refine wp_aload_n (i := 2) dL_law_776 rfl rfl ?_
        obtain ⟨r161, er161, h⟩ := ob h
        refine wp_cVi (N := m_X9_hint) (As := []) (rest := [.int r160.1]) dL_law_777 ml_L_116 mo_X9_hint vo_X9_hint rfl rfl (ok_X9_hint er161) (by decide) (Nat.le_of_ble_eq_true rfl) ?_
        refine wp_icmp_eq (tgt := 811) dL_law_780 (by decide) (fun c162 => ?_) (fun c162 => ?_)
        · rw [if_pos c162] at h
          exact wp_sub (ls' := [some (.ref 66), some (.ref 0), some (.ref 43), some (.int v3)]) ⟨rfl, rfl, rfl, rfl, trivial⟩ (w_L_law_811 hr1 ih h)
        · rw [if_neg c162] at h
          refine wp_iconst (v := 0) dL_law_783 (by decide +kernel) ?_
          have h := Option.some.inj h
          rw [← h] at hr1
          exact absurd (show (0 : Int32) = 1 from hr1) (by decide +kernel)
      rw [if_neg c159] at h
      by_cases c163 : (x2 &&& (31 : Int32)) = 24
      · rw [if_pos c163] at h
        refine wp_tIn (tgt := 785) (off := 752) dL_law_33 (by rw [c163]; decide +kernel) (by rw [c163]; decide +kernel) (by rw [c163]; decide +kernel) (by decide) ?_
        refine wp_aload_n (i := 1) dL_law_785 rfl rfl ?_
        obtain ⟨r164, er164, h⟩ := ob h
        refine wp_cVi (N := m_X8_draw) (As := []) (rest := []) dL_law_786 ml_L_117 mo_X8_draw vo_X8_draw rfl rfl (ok_X8_draw er164) (by decide) (Nat.le_of_ble_eq_true rfl) ?_
        refine wp_aload_n (i := 2) dL_law_789 rfl rfl ?_
        obtain ⟨r165, er165, h⟩ := ob h
        refine wp_cVi (N := m_X9_draw) (As := []) (rest := [.int r164.1]) dL_law_790 ml_L_120 mo_X9_draw vo_X9_draw rfl rfl (ok_X9_draw er165) (by decide) (Nat.le_of_ble_eq_true rfl) ?_
        refine wp_icmp_eq (tgt := 811) dL_law_793 (by decide) (fun c166 => ?_) (fun c166 => ?_)
        · rw [if_pos c166] at h
          exact wp_sub (ls' := [some (.ref 66), some (.ref 0), some (.ref 43), some (.int v3)]) ⟨rfl, rfl, rfl, rfl, trivial⟩ (w_L_law_811 hr1 ih h)
        · rw [if_neg c166] at h
          refine wp_iconst (v := 0) dL_law_796 (by decide +kernel) ?_
          have h := Option.some.inj h
          rw [← h] at hr1
          exact absurd (show (0 : Int32) = 1 from hr1) (by decide +kernel)
      rw [if_neg c163] at h
      by_cases c167 : (x2 &&& (31 : Int32)) = 25
      · rw [if_pos c167] at h
        refine wp_tIn (tgt := 798) (off := 765) dL_law_33 (by rw [c167]; decide +kernel) (by rw [c167]; decide +kernel) (by rw [c167]; decide +kernel) (by decide) ?_
        refine wp_aload_n (i := 1) dL_law_798 rfl rfl ?_
        obtain ⟨r168, er168, h⟩ := ob h
        refine wp_cVi (N := m_X8_mend) (As := []) (rest := []) dL_law_799 ml_L_121 mo_X8_mend vo_X8_mend rfl rfl (ok_X8_mend er168) (by decide) (Nat.le_of_ble_eq_true rfl) ?_
        refine wp_aload_n (i := 2) dL_law_802 rfl rfl ?_
        obtain ⟨r169, er169, h⟩ := ob h
        refine wp_cVi (N := m_X9_mend) (As := []) (rest := [.int r168.1]) dL_law_803 ml_L_124 mo_X9_mend vo_X9_mend rfl rfl (ok_X9_mend er169) (by decide) (Nat.le_of_ble_eq_true rfl) ?_
        refine wp_icmp_eq (tgt := 811) dL_law_806 (by decide) (fun c170 => ?_) (fun c170 => ?_)
        · rw [if_pos c170] at h
          exact wp_sub (ls' := [some (.ref 66), some (.ref 0), some (.ref 43), some (.int v3)]) ⟨rfl, rfl, rfl, rfl, trivial⟩ (w_L_law_811 hr1 ih h)
        · rw [if_neg c170] at h
          refine wp_iconst (v := 0) dL_law_809 (by decide +kernel) ?_
          have h := Option.some.inj h
          rw [← h] at hr1
          exact absurd (show (0 : Int32) = 1 from hr1) (by decide +kernel)
      rw [if_neg c167] at h
      refine wp_tOut (tgt := 811) dL_law_33 (tsw_out 26 (by decide) (by decide) (fun i hi => by match i, hi with | 0, _ => exact c3 | 1, _ => exact c17 | 2, _ => exact c23 | 3, _ => exact c27 | 4, _ => exact c31 | 5, _ => exact c41 | 6, _ => exact c47 | 7, _ => exact c57 | 8, _ => exact c67 | 9, _ => exact c75 | 10, _ => exact c79 | 11, _ => exact c85 | 12, _ => exact c91 | 13, _ => exact c95 | 14, _ => exact c99 | 15, _ => exact c107 | 16, _ => exact c115 | 17, _ => exact c119 | 18, _ => exact c129 | 19, _ => exact c133 | 20, _ => exact c143 | 21, _ => exact c151 | 22, _ => exact c155 | 23, _ => exact c159 | 24, _ => exact c163 | 25, _ => exact c167 | i + 26, hi => exact absurd hi (by omega))) (by decide) ?_
      exact wp_sub (ls' := [some (.ref 66), some (.ref 0), some (.ref 43), some (.int v3)]) ⟨rfl, rfl, rfl, rfl, trivial⟩ (w_L_law_811 hr1 ih h)
