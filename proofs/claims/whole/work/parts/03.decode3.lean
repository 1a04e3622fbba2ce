theorem dX9_findOrder_126 : decode cX9_findOrder 126 = .ok (.getfield 56, 3) := by decide +kernel
theorem dX9_findOrder_129 : decode cX9_findOrder 129 = .ok (.bipush 120, 2) := by decide +kernel
theorem dX9_findOrder_131 : decode cX9_findOrder 131 = .ok (.iload_n 1, 1) := by decide +kernel
theorem dX9_findOrder_132 : decode cX9_findOrder 132 = .ok (.iconst 1, 1) := by decide +kernel
theorem dX9_findOrder_133 : decode cX9_findOrder 133 = .ok (.iadd, 1) := by decide +kernel
theorem dX9_findOrder_134 : decode cX9_findOrder 134 = .ok (.imul, 1) := by decide +kernel
theorem dX9_findOrder_135 : decode cX9_findOrder 135 = .ok (.iload 5, 2) := by decide +kernel
theorem dX9_findOrder_137 : decode cX9_findOrder 137 = .ok (.iadd, 1) := by decide +kernel
theorem dX9_findOrder_138 : decode cX9_findOrder 138 = .ok (.iaload, 1) := by decide +kernel
theorem dX9_findOrder_139 : decode cX9_findOrder 139 = .ok (.iadd, 1) := by decide +kernel
theorem dX9_findOrder_140 : decode cX9_findOrder 140 = .ok (.istore 6, 2) := by decide +kernel
theorem dX9_findOrder_142 : decode cX9_findOrder 142 = .ok (.iload 6, 2) := by decide +kernel
theorem dX9_findOrder_144 : decode cX9_findOrder 144 = .ok (.iload_n 3, 1) := by decide +kernel
theorem dX9_findOrder_145 : decode cX9_findOrder 145 = .ok (.if_icmp .ge 9, 3) := by decide +kernel
theorem dX9_findOrder_148 : decode cX9_findOrder 148 = .ok (.iload 6, 2) := by decide +kernel
theorem dX9_findOrder_150 : decode cX9_findOrder 150 = .ok (.istore_n 3, 1) := by decide +kernel
theorem dX9_findOrder_151 : decode cX9_findOrder 151 = .ok (.iconst 0, 1) := by decide +kernel
theorem dX9_findOrder_152 : decode cX9_findOrder 152 = .ok (.istore 4, 2) := by decide +kernel
theorem dX9_findOrder_154 : decode cX9_findOrder 154 = .ok (.iload 6, 2) := by decide +kernel
theorem dX9_findOrder_156 : decode cX9_findOrder 156 = .ok (.iload_n 3, 1) := by decide +kernel
theorem dX9_findOrder_157 : decode cX9_findOrder 157 = .ok (.if_icmp .ne 22, 3) := by decide +kernel
theorem dX9_findOrder_160 : decode cX9_findOrder 160 = .ok (.iload 4, 2) := by decide +kernel
theorem dX9_findOrder_162 : decode cX9_findOrder 162 = .ok (.aload_n 0, 1) := by decide +kernel
theorem dX9_findOrder_163 : decode cX9_findOrder 163 = .ok (.getfield 59, 3) := by decide +kernel
theorem dX9_findOrder_166 : decode cX9_findOrder 166 = .ok (.bipush 120, 2) := by decide +kernel
theorem dX9_findOrder_168 : decode cX9_findOrder 168 = .ok (.iload_n 1, 1) := by decide +kernel
theorem dX9_findOrder_169 : decode cX9_findOrder 169 = .ok (.iconst 1, 1) := by decide +kernel
theorem dX9_findOrder_170 : decode cX9_findOrder 170 = .ok (.iadd, 1) := by decide +kernel
theorem dX9_findOrder_171 : decode cX9_findOrder 171 = .ok (.imul, 1) := by decide +kernel
theorem dX9_findOrder_172 : decode cX9_findOrder 172 = .ok (.iload 5, 2) := by decide +kernel
theorem dX9_findOrder_174 : decode cX9_findOrder 174 = .ok (.iadd, 1) := by decide +kernel
theorem dX9_findOrder_175 : decode cX9_findOrder 175 = .ok (.iaload, 1) := by decide +kernel
theorem dX9_findOrder_176 : decode cX9_findOrder 176 = .ok (.iadd, 1) := by decide +kernel
theorem dX9_findOrder_177 : decode cX9_findOrder 177 = .ok (.istore 4, 2) := by decide +kernel
theorem dX9_findOrder_179 : decode cX9_findOrder 179 = .ok (.iinc 5 1, 3) := by decide +kernel
theorem dX9_findOrder_182 : decode cX9_findOrder 182 = .ok (.goto (-92), 3) := by decide +kernel
theorem dX9_findOrder_185 : decode cX9_findOrder 185 = .ok (.aload_n 0, 1) := by decide +kernel
theorem dX9_findOrder_186 : decode cX9_findOrder 186 = .ok (.getfield 56, 3) := by decide +kernel
theorem dX9_findOrder_189 : decode cX9_findOrder 189 = .ok (.bipush 120, 2) := by decide +kernel
theorem dX9_findOrder_191 : decode cX9_findOrder 191 = .ok (.iload_n 1, 1) := by decide +kernel
theorem dX9_findOrder_192 : decode cX9_findOrder 192 = .ok (.imul, 1) := by decide +kernel
theorem dX9_findOrder_193 : decode cX9_findOrder 193 = .ok (.iload_n 2, 1) := by decide +kernel
theorem dX9_findOrder_194 : decode cX9_findOrder 194 = .ok (.iadd, 1) := by decide +kernel
theorem dX9_findOrder_195 : decode cX9_findOrder 195 = .ok (.iload_n 3, 1) := by decide +kernel
theorem dX9_findOrder_196 : decode cX9_findOrder 196 = .ok (.aload_n 0, 1) := by decide +kernel
theorem dX9_findOrder_197 : decode cX9_findOrder 197 = .ok (.getfield 76, 3) := by decide +kernel
theorem dX9_findOrder_200 : decode cX9_findOrder 200 = .ok (.aload_n 0, 1) := by decide +kernel
theorem dX9_findOrder_201 : decode cX9_findOrder 201 = .ok (.iload_n 1, 1) := by decide +kernel
theorem dX9_findOrder_202 : decode cX9_findOrder 202 = .ok (.iload_n 2, 1) := by decide +kernel
theorem dX9_findOrder_203 : decode cX9_findOrder 203 = .ok (.invokevirtual 149, 3) := by decide +kernel
theorem dX9_findOrder_206 : decode cX9_findOrder 206 = .ok (.imul, 1) := by decide +kernel
theorem dX9_findOrder_207 : decode cX9_findOrder 207 = .ok (.iadd, 1) := by decide +kernel
theorem dX9_findOrder_208 : decode cX9_findOrder 208 = .ok (.iastore, 1) := by decide +kernel
theorem dX9_findOrder_209 : decode cX9_findOrder 209 = .ok (.aload_n 0, 1) := by decide +kernel
theorem dX9_findOrder_210 : decode cX9_findOrder 210 = .ok (.getfield 59, 3) := by decide +kernel
theorem dX9_findOrder_213 : decode cX9_findOrder 213 = .ok (.bipush 120, 2) := by decide +kernel
theorem dX9_findOrder_215 : decode cX9_findOrder 215 = .ok (.iload_n 1, 1) := by decide +kernel
theorem dX9_findOrder_216 : decode cX9_findOrder 216 = .ok (.imul, 1) := by decide +kernel
theorem dX9_findOrder_217 : decode cX9_findOrder 217 = .ok (.iload_n 2, 1) := by decide +kernel
theorem dX9_findOrder_218 : decode cX9_findOrder 218 = .ok (.iadd, 1) := by decide +kernel
theorem dX9_findOrder_219 : decode cX9_findOrder 219 = .ok (.iload 4, 2) := by decide +kernel
theorem dX9_findOrder_221 : decode cX9_findOrder 221 = .ok (.iastore, 1) := by decide +kernel
theorem dX9_findOrder_222 : decode cX9_findOrder 222 = .ok (.iinc 2 1, 3) := by decide +kernel
theorem dX9_findOrder_225 : decode cX9_findOrder 225 = .ok (.goto (-186), 3) := by decide +kernel
theorem dX9_findOrder_228 : decode cX9_findOrder 228 = .ok (.iinc 1 (-1), 3) := by decide +kernel
theorem dX9_findOrder_231 : decode cX9_findOrder 231 = .ok (.goto (-198), 3) := by decide +kernel
theorem dX9_findOrder_234 : decode cX9_findOrder 234 = .ok (.aload_n 0, 1) := by decide +kernel
theorem dX9_findOrder_235 : decode cX9_findOrder 235 = .ok (.getfield 90, 3) := by decide +kernel
theorem dX9_findOrder_238 : decode cX9_findOrder 238 = .ok (.ifCond .ne 4, 3) := by decide +kernel
theorem dX9_findOrder_241 : decode cX9_findOrder 241 = .ok (.return_, 1) := by decide +kernel
theorem dX9_findOrder_242 : decode cX9_findOrder 242 = .ok (.aload_n 0, 1) := by decide +kernel
theorem dX9_findOrder_243 : decode cX9_findOrder 243 = .ok (.ldc 82, 2) := by decide +kernel
theorem dX9_findOrder_245 : decode cX9_findOrder 245 = .ok (.putfield 140, 3) := by decide +kernel
theorem dX9_findOrder_248 : decode cX9_findOrder 248 = .ok (.iconst 0, 1) := by decide +kernel
theorem dX9_findOrder_249 : decode cX9_findOrder 249 = .ok (.istore_n 1, 1) := by decide +kernel
theorem dX9_findOrder_250 : decode cX9_findOrder 250 = .ok (.iload_n 1, 1) := by decide +kernel
theorem dX9_findOrder_251 : decode cX9_findOrder 251 = .ok (.aload_n 0, 1) := by decide +kernel
theorem dX9_findOrder_252 : decode cX9_findOrder 252 = .ok (.aload_n 0, 1) := by decide +kernel
theorem dX9_findOrder_253 : decode cX9_findOrder 253 = .ok (.getfield 35, 3) := by decide +kernel
theorem dX9_findOrder_256 : decode cX9_findOrder 256 = .ok (.iconst 0, 1) := by decide +kernel
theorem dX9_findOrder_257 : decode cX9_findOrder 257 = .ok (.iaload, 1) := by decide +kernel
theorem dX9_findOrder_258 : decode cX9_findOrder 258 = .ok (.invokevirtual 124, 3) := by decide +kernel
theorem dX9_findOrder_261 : decode cX9_findOrder 261 = .ok (.if_icmp .ge 65, 3) := by decide +kernel
theorem dX9_findOrder_264 : decode cX9_findOrder 264 = .ok (.aload_n 0, 1) := by decide +kernel
theorem dX9_findOrder_265 : decode cX9_findOrder 265 = .ok (.getfield 56, 3) := by decide +kernel
theorem dX9_findOrder_268 : decode cX9_findOrder 268 = .ok (.iload_n 1, 1) := by decide +kernel
theorem dX9_findOrder_269 : decode cX9_findOrder 269 = .ok (.iaload, 1) := by decide +kernel
theorem dX9_findOrder_270 : decode cX9_findOrder 270 = .ok (.aload_n 0, 1) := by decide +kernel
theorem dX9_findOrder_271 : decode cX9_findOrder 271 = .ok (.getfield 140, 3) := by decide +kernel
theorem dX9_findOrder_274 : decode cX9_findOrder 274 = .ok (.if_icmp .ge 18, 3) := by decide +kernel
theorem dX9_findOrder_277 : decode cX9_findOrder 277 = .ok (.aload_n 0, 1) := by decide +kernel
theorem dX9_findOrder_278 : decode cX9_findOrder 278 = .ok (.aload_n 0, 1) := by decide +kernel
theorem dX9_findOrder_279 : decode cX9_findOrder 279 = .ok (.getfield 56, 3) := by decide +kernel
theorem dX9_findOrder_282 : decode cX9_findOrder 282 = .ok (.iload_n 1, 1) := by decide +kernel
theorem dX9_findOrder_283 : decode cX9_findOrder 283 = .ok (.iaload, 1) := by decide +kernel
theorem dX9_findOrder_284 : decode cX9_findOrder 284 = .ok (.putfield 140, 3) := by decide +kernel
theorem dX9_findOrder_287 : decode cX9_findOrder 287 = .ok (.aload_n 0, 1) := by decide +kernel
theorem dX9_findOrder_288 : decode cX9_findOrder 288 = .ok (.iconst 0, 1) := by decide +kernel
theorem dX9_findOrder_289 : decode cX9_findOrder 289 = .ok (.putfield 143, 3) := by decide +kernel
theorem dX9_findOrder_292 : decode cX9_findOrder 292 = .ok (.aload_n 0, 1) := by decide +kernel
theorem dX9_findOrder_293 : decode cX9_findOrder 293 = .ok (.getfield 56, 3) := by decide +kernel
theorem dX9_findOrder_296 : decode cX9_findOrder 296 = .ok (.iload_n 1, 1) := by decide +kernel
theorem dX9_findOrder_297 : decode cX9_findOrder 297 = .ok (.iaload, 1) := by decide +kernel
theorem dX9_findOrder_298 : decode cX9_findOrder 298 = .ok (.aload_n 0, 1) := by decide +kernel
theorem dX9_findOrder_299 : decode cX9_findOrder 299 = .ok (.getfield 140, 3) := by decide +kernel
theorem dX9_findOrder_302 : decode cX9_findOrder 302 = .ok (.if_icmp .ne 18, 3) := by decide +kernel
theorem dX9_findOrder_305 : decode cX9_findOrder 305 = .ok (.aload_n 0, 1) := by decide +kernel
theorem dX9_findOrder_306 : decode cX9_findOrder 306 = .ok (.aload_n 0, 1) := by decide +kernel
theorem dX9_findOrder_307 : decode cX9_findOrder 307 = .ok (.getfield 143, 3) := by decide +kernel
theorem dX9_findOrder_310 : decode cX9_findOrder 310 = .ok (.aload_n 0, 1) := by decide +kernel
theorem dX9_findOrder_311 : decode cX9_findOrder 311 = .ok (.getfield 59, 3) := by decide +kernel
theorem dX9_findOrder_314 : decode cX9_findOrder 314 = .ok (.iload_n 1, 1) := by decide +kernel
theorem dX9_findOrder_315 : decode cX9_findOrder 315 = .ok (.iaload, 1) := by decide +kernel
theorem dX9_findOrder_316 : decode cX9_findOrder 316 = .ok (.iadd, 1) := by decide +kernel
theorem dX9_findOrder_317 : decode cX9_findOrder 317 = .ok (.putfield 143, 3) := by decide +kernel
theorem dX9_findOrder_320 : decode cX9_findOrder 320 = .ok (.iinc 1 1, 3) := by decide +kernel
theorem dX9_findOrder_323 : decode cX9_findOrder 323 = .ok (.goto (-73), 3) := by decide +kernel
theorem dX9_findOrder_326 : decode cX9_findOrder 326 = .ok (.aload_n 0, 1) := by decide +kernel
theorem dX9_findOrder_327 : decode cX9_findOrder 327 = .ok (.getfield 140, 3) := by decide +kernel
theorem dX9_findOrder_330 : decode cX9_findOrder 330 = .ok (.istore_n 1, 1) := by decide +kernel
theorem dX9_findOrder_331 : decode cX9_findOrder 331 = .ok (.iconst 0, 1) := by decide +kernel
theorem dX9_findOrder_332 : decode cX9_findOrder 332 = .ok (.istore_n 2, 1) := by decide +kernel
theorem dX9_findOrder_333 : decode cX9_findOrder 333 = .ok (.iload_n 2, 1) := by decide +kernel
theorem dX9_findOrder_334 : decode cX9_findOrder 334 = .ok (.aload_n 0, 1) := by decide +kernel
theorem dX9_findOrder_335 : decode cX9_findOrder 335 = .ok (.getfield 90, 3) := by decide +kernel
theorem dX9_findOrder_338 : decode cX9_findOrder 338 = .ok (.if_icmp .ge 89, 3) := by decide +kernel
theorem dX9_findOrder_341 : decode cX9_findOrder 341 = .ok (.iconst 0, 1) := by decide +kernel
theorem dX9_findOrder_342 : decode cX9_findOrder 342 = .ok (.istore_n 3, 1) := by decide +kernel
theorem dX9_findOrder_343 : decode cX9_findOrder 343 = .ok (.iload_n 2, 1) := by decide +kernel
theorem dX9_findOrder_344 : decode cX9_findOrder 344 = .ok (.ifCond .ne 7, 3) := by decide +kernel
theorem dX9_findOrder_347 : decode cX9_findOrder 347 = .ok (.iconst 0, 1) := by decide +kernel
theorem dX9_findOrder_348 : decode cX9_findOrder 348 = .ok (.goto 19, 3) := by decide +kernel
theorem dX9_findOrder_351 : decode cX9_findOrder 351 = .ok (.aload_n 0, 1) := by decide +kernel
theorem dX9_findOrder_352 : decode cX9_findOrder 352 = .ok (.iload_n 2, 1) := by decide +kernel
theorem dX9_findOrder_353 : decode cX9_findOrder 353 = .ok (.iconst 1, 1) := by decide +kernel
theorem dX9_findOrder_354 : decode cX9_findOrder 354 = .ok (.isub, 1) := by decide +kernel
theorem dX9_findOrder_355 : decode cX9_findOrder 355 = .ok (.aload_n 0, 1) := by decide +kernel
theorem dX9_findOrder_356 : decode cX9_findOrder 356 = .ok (.getfield 62, 3) := by decide +kernel
theorem dX9_findOrder_359 : decode cX9_findOrder 359 = .ok (.iload_n 2, 1) := by decide +kernel
theorem dX9_findOrder_360 : decode cX9_findOrder 360 = .ok (.iconst 1, 1) := by decide +kernel
theorem dX9_findOrder_361 : decode cX9_findOrder 361 = .ok (.isub, 1) := by decide +kernel
theorem dX9_findOrder_362 : decode cX9_findOrder 362 = .ok (.iaload, 1) := by decide +kernel
theorem dX9_findOrder_363 : decode cX9_findOrder 363 = .ok (.iload_n 3, 1) := by decide +kernel
theorem dX9_findOrder_364 : decode cX9_findOrder 364 = .ok (.invokevirtual 146, 3) := by decide +kernel
theorem dX9_findOrder_367 : decode cX9_findOrder 367 = .ok (.aload_n 0, 1) := by decide +kernel
theorem dX9_findOrder_368 : decode cX9_findOrder 368 = .ok (.getfield 56, 3) := by decide +kernel
theorem dX9_findOrder_371 : decode cX9_findOrder 371 = .ok (.bipush 120, 2) := by decide +kernel
theorem dX9_findOrder_373 : decode cX9_findOrder 373 = .ok (.iload_n 2, 1) := by decide +kernel
theorem dX9_findOrder_374 : decode cX9_findOrder 374 = .ok (.imul, 1) := by decide +kernel
theorem dX9_findOrder_375 : decode cX9_findOrder 375 = .ok (.iload_n 3, 1) := by decide +kernel
theorem dX9_findOrder_376 : decode cX9_findOrder 376 = .ok (.iadd, 1) := by decide +kernel
theorem dX9_findOrder_377 : decode cX9_findOrder 377 = .ok (.iaload, 1) := by decide +kernel
theorem dX9_findOrder_378 : decode cX9_findOrder 378 = .ok (.iadd, 1) := by decide +kernel
theorem dX9_findOrder_379 : decode cX9_findOrder 379 = .ok (.iload_n 1, 1) := by decide +kernel
theorem dX9_findOrder_380 : decode cX9_findOrder 380 = .ok (.if_icmp .eq 10, 3) := by decide +kernel
theorem dX9_findOrder_383 : decode cX9_findOrder 383 = .ok (.iload_n 3, 1) := by decide +kernel
theorem dX9_findOrder_384 : decode cX9_findOrder 384 = .ok (.iconst 1, 1) := by decide +kernel
theorem dX9_findOrder_385 : decode cX9_findOrder 385 = .ok (.iadd, 1) := by decide +kernel
theorem dX9_findOrder_386 : decode cX9_findOrder 386 = .ok (.istore_n 3, 1) := by decide +kernel
theorem dX9_findOrder_387 : decode cX9_findOrder 387 = .ok (.goto (-44), 3) := by decide +kernel
theorem dX9_findOrder_390 : decode cX9_findOrder 390 = .ok (.aload_n 0, 1) := by decide +kernel
theorem dX9_findOrder_391 : decode cX9_findOrder 391 = .ok (.getfield 62, 3) := by decide +kernel
theorem dX9_findOrder_394 : decode cX9_findOrder 394 = .ok (.iload_n 2, 1) := by decide +kernel
theorem dX9_findOrder_395 : decode cX9_findOrder 395 = .ok (.iload_n 3, 1) := by decide +kernel
theorem dX9_findOrder_396 : decode cX9_findOrder 396 = .ok (.iastore, 1) := by decide +kernel
theorem dX9_findOrder_397 : decode cX9_findOrder 397 = .ok (.aload_n 0, 1) := by decide +kernel
theorem dX9_findOrder_398 : decode cX9_findOrder 398 = .ok (.getfield 56, 3) := by decide +kernel
theorem dX9_findOrder_401 : decode cX9_findOrder 401 = .ok (.bipush 120, 2) := by decide +kernel
theorem dX9_findOrder_403 : decode cX9_findOrder 403 = .ok (.iload_n 2, 1) := by decide +kernel
theorem dX9_findOrder_404 : decode cX9_findOrder 404 = .ok (.imul, 1) := by decide +kernel
theorem dX9_findOrder_405 : decode cX9_findOrder 405 = .ok (.iload_n 3, 1) := by decide +kernel
theorem dX9_findOrder_406 : decode cX9_findOrder 406 = .ok (.iadd, 1) := by decide +kernel
theorem dX9_findOrder_407 : decode cX9_findOrder 407 = .ok (.iaload, 1) := by decide +kernel
theorem dX9_findOrder_408 : decode cX9_findOrder 408 = .ok (.aload_n 0, 1) := by decide +kernel
theorem dX9_findOrder_409 : decode cX9_findOrder 409 = .ok (.getfield 76, 3) := by decide +kernel
theorem dX9_findOrder_412 : decode cX9_findOrder 412 = .ok (.aload_n 0, 1) := by decide +kernel
theorem dX9_findOrder_413 : decode cX9_findOrder 413 = .ok (.iload_n 2, 1) := by decide +kernel
theorem dX9_findOrder_414 : decode cX9_findOrder 414 = .ok (.iload_n 3, 1) := by decide +kernel
theorem dX9_findOrder_415 : decode cX9_findOrder 415 = .ok (.invokevirtual 149, 3) := by decide +kernel
theorem dX9_findOrder_418 : decode cX9_findOrder 418 = .ok (.imul, 1) := by decide +kernel
theorem dX9_findOrder_419 : decode cX9_findOrder 419 = .ok (.isub, 1) := by decide +kernel
theorem dX9_findOrder_420 : decode cX9_findOrder 420 = .ok (.istore_n 1, 1) := by decide +kernel
theorem dX9_findOrder_421 : decode cX9_findOrder 421 = .ok (.iinc 2 1, 3) := by decide +kernel
theorem dX9_findOrder_424 : decode cX9_findOrder 424 = .ok (.goto (-91), 3) := by decide +kernel
theorem dX9_findOrder_427 : decode cX9_findOrder 427 = .ok (.return_, 1) := by decide +kernel
theorem dX9_about_0 : decode cX9_about 0 = .ok (.aload_n 0, 1) := by decide +kernel
theorem dX9_about_1 : decode cX9_about 1 = .ok (.iconst 0, 1) := by decide +kernel
theorem dX9_about_2 : decode cX9_about 2 = .ok (.putfield 65, 3) := by decide +kernel
theorem dX9_about_5 : decode cX9_about 5 = .ok (.aload_n 0, 1) := by decide +kernel
theorem dX9_about_6 : decode cX9_about 6 = .ok (.invokevirtual 97, 3) := by decide +kernel
theorem dX9_about_9 : decode cX9_about 9 = .ok (.iconst 0, 1) := by decide +kernel
theorem dX9_about_10 : decode cX9_about 10 = .ok (.istore_n 2, 1) := by decide +kernel
theorem dX9_about_11 : decode cX9_about 11 = .ok (.iconst 0, 1) := by decide +kernel
theorem dX9_about_12 : decode cX9_about 12 = .ok (.istore_n 3, 1) := by decide +kernel
theorem dX9_about_13 : decode cX9_about 13 = .ok (.iconst 0, 1) := by decide +kernel
theorem dX9_about_14 : decode cX9_about 14 = .ok (.istore 4, 2) := by decide +kernel
theorem dX9_about_16 : decode cX9_about 16 = .ok (.iconst 0, 1) := by decide +kernel
theorem dX9_about_17 : decode cX9_about 17 = .ok (.istore 5, 2) := by decide +kernel
theorem dX9_about_19 : decode cX9_about 19 = .ok (.iconst 0, 1) := by decide +kernel
theorem dX9_about_20 : decode cX9_about 20 = .ok (.istore 6, 2) := by decide +kernel
theorem dX9_about_22 : decode cX9_about 22 = .ok (.iload 6, 2) := by decide +kernel
theorem dX9_about_24 : decode cX9_about 24 = .ok (.bipush 10, 2) := by decide +kernel
theorem dX9_about_26 : decode cX9_about 26 = .ok (.if_icmp .ge 84, 3) := by decide +kernel
theorem dX9_about_29 : decode cX9_about 29 = .ok (.iconst 0, 1) := by decide +kernel
theorem dX9_about_30 : decode cX9_about 30 = .ok (.istore 7, 2) := by decide +kernel
theorem dX9_about_32 : decode cX9_about 32 = .ok (.iload 7, 2) := by decide +kernel
theorem dX9_about_34 : decode cX9_about 34 = .ok (.bipush 10, 2) := by decide +kernel
theorem dX9_about_36 : decode cX9_about 36 = .ok (.if_icmp .ge 68, 3) := by decide +kernel
theorem dX9_about_39 : decode cX9_about 39 = .ok (.aload_n 0, 1) := by decide +kernel
theorem dX9_about_40 : decode cX9_about 40 = .ok (.getfield 7, 3) := by decide +kernel
theorem dX9_about_43 : decode cX9_about 43 = .ok (.bipush 10, 2) := by decide +kernel
theorem dX9_about_45 : decode cX9_about 45 = .ok (.iload 6, 2) := by decide +kernel
theorem dX9_about_47 : decode cX9_about 47 = .ok (.imul, 1) := by decide +kernel
theorem dX9_about_48 : decode cX9_about 48 = .ok (.iload 7, 2) := by decide +kernel
theorem dX9_about_50 : decode cX9_about 50 = .ok (.iadd, 1) := by decide +kernel
theorem dX9_about_51 : decode cX9_about 51 = .ok (.iaload, 1) := by decide +kernel
theorem dX9_about_52 : decode cX9_about 52 = .ok (.istore 8, 2) := by decide +kernel
theorem dX9_about_54 : decode cX9_about 54 = .ok (.iload 8, 2) := by decide +kernel
theorem dX9_about_56 : decode cX9_about 56 = .ok (.ifCond .ne 6, 3) := by decide +kernel
theorem dX9_about_59 : decode cX9_about 59 = .ok (.goto 39, 3) := by decide +kernel
theorem dX9_about_62 : decode cX9_about 62 = .ok (.iload_n 2, 1) := by decide +kernel
theorem dX9_about_63 : decode cX9_about 63 = .ok (.iconst 1, 1) := by decide +kernel
theorem dX9_about_64 : decode cX9_about 64 = .ok (.iadd, 1) := by decide +kernel
theorem dX9_about_65 : decode cX9_about 65 = .ok (.istore_n 2, 1) := by decide +kernel
theorem dX9_about_66 : decode cX9_about 66 = .ok (.iload_n 3, 1) := by decide +kernel
theorem dX9_about_67 : decode cX9_about 67 = .ok (.iload 8, 2) := by decide +kernel
theorem dX9_about_69 : decode cX9_about 69 = .ok (.iadd, 1) := by decide +kernel
theorem dX9_about_70 : decode cX9_about 70 = .ok (.istore_n 3, 1) := by decide +kernel
theorem dX9_about_71 : decode cX9_about 71 = .ok (.aload_n 0, 1) := by decide +kernel
theorem dX9_about_72 : decode cX9_about 72 = .ok (.iload 6, 2) := by decide +kernel
theorem dX9_about_74 : decode cX9_about 74 = .ok (.iload 7, 2) := by decide +kernel
theorem dX9_about_76 : decode cX9_about 76 = .ok (.invokevirtual 93, 3) := by decide +kernel
theorem dX9_about_79 : decode cX9_about 79 = .ok (.ifCond .ne 6, 3) := by decide +kernel
theorem dX9_about_82 : decode cX9_about 82 = .ok (.goto 16, 3) := by decide +kernel
theorem dX9_about_85 : decode cX9_about 85 = .ok (.iload 4, 2) := by decide +kernel
theorem dX9_about_87 : decode cX9_about 87 = .ok (.iconst 1, 1) := by decide +kernel
theorem dX9_about_88 : decode cX9_about 88 = .ok (.iadd, 1) := by decide +kernel
theorem dX9_about_89 : decode cX9_about 89 = .ok (.istore 4, 2) := by decide +kernel
theorem dX9_about_91 : decode cX9_about 91 = .ok (.iload 5, 2) := by decide +kernel
theorem dX9_about_93 : decode cX9_about 93 = .ok (.iload 8, 2) := by decide +kernel
theorem dX9_about_95 : decode cX9_about 95 = .ok (.iadd, 1) := by decide +kernel
theorem dX9_about_96 : decode cX9_about 96 = .ok (.istore 5, 2) := by decide +kernel
theorem dX9_about_98 : decode cX9_about 98 = .ok (.iinc 7 1, 3) := by decide +kernel
theorem dX9_about_101 : decode cX9_about 101 = .ok (.goto (-69), 3) := by decide +kernel
theorem dX9_about_104 : decode cX9_about 104 = .ok (.iinc 6 1, 3) := by decide +kernel
theorem dX9_about_107 : decode cX9_about 107 = .ok (.goto (-85), 3) := by decide +kernel
theorem dX9_about_110 : decode cX9_about 110 = .ok (.iload_n 1, 1) := by decide +kernel
theorem dX9_about_111 : decode cX9_about 111 = .ok (.ifCond .ne 5, 3) := by decide +kernel
theorem dX9_about_114 : decode cX9_about 114 = .ok (.iload_n 2, 1) := by decide +kernel
theorem dX9_about_115 : decode cX9_about 115 = .ok (.ireturn, 1) := by decide +kernel
theorem dX9_about_116 : decode cX9_about 116 = .ok (.iload_n 1, 1) := by decide +kernel
theorem dX9_about_117 : decode cX9_about 117 = .ok (.iconst 1, 1) := by decide +kernel
theorem dX9_about_118 : decode cX9_about 118 = .ok (.if_icmp .ne 5, 3) := by decide +kernel
theorem dX9_about_121 : decode cX9_about 121 = .ok (.iload_n 3, 1) := by decide +kernel
theorem dX9_about_122 : decode cX9_about 122 = .ok (.ireturn, 1) := by decide +kernel
theorem dX9_about_123 : decode cX9_about 123 = .ok (.iload_n 1, 1) := by decide +kernel
theorem dX9_about_124 : decode cX9_about 124 = .ok (.iconst 2, 1) := by decide +kernel
theorem dX9_about_125 : decode cX9_about 125 = .ok (.if_icmp .ne 6, 3) := by decide +kernel
theorem dX9_about_128 : decode cX9_about 128 = .ok (.iload 4, 2) := by decide +kernel
theorem dX9_about_130 : decode cX9_about 130 = .ok (.ireturn, 1) := by decide +kernel
theorem dX9_about_131 : decode cX9_about 131 = .ok (.iload_n 1, 1) := by decide +kernel
theorem dX9_about_132 : decode cX9_about 132 = .ok (.iconst 3, 1) := by decide +kernel
theorem dX9_about_133 : decode cX9_about 133 = .ok (.if_icmp .ne 6, 3) := by decide +kernel
theorem dX9_about_136 : decode cX9_about 136 = .ok (.iload 5, 2) := by decide +kernel
theorem dX9_about_138 : decode cX9_about 138 = .ok (.ireturn, 1) := by decide +kernel
theorem dX9_about_139 : decode cX9_about 139 = .ok (.iload_n 1, 1) := by decide +kernel
theorem dX9_about_140 : decode cX9_about 140 = .ok (.iconst 4, 1) := by decide +kernel
theorem dX9_about_141 : decode cX9_about 141 = .ok (.if_icmp .ne 8, 3) := by decide +kernel
theorem dX9_about_144 : decode cX9_about 144 = .ok (.aload_n 0, 1) := by decide +kernel
theorem dX9_about_145 : decode cX9_about 145 = .ok (.getfield 90, 3) := by decide +kernel
theorem dX9_about_148 : decode cX9_about 148 = .ok (.ireturn, 1) := by decide +kernel
theorem dX9_about_149 : decode cX9_about 149 = .ok (.iload_n 1, 1) := by decide +kernel
theorem dX9_about_150 : decode cX9_about 150 = .ok (.iconst 5, 1) := by decide +kernel
theorem dX9_about_151 : decode cX9_about 151 = .ok (.if_icmp .ne 8, 3) := by decide +kernel
theorem dX9_about_154 : decode cX9_about 154 = .ok (.aload_n 0, 1) := by decide +kernel
theorem dX9_about_155 : decode cX9_about 155 = .ok (.getfield 13, 3) := by decide +kernel
theorem dX9_about_158 : decode cX9_about 158 = .ok (.ireturn, 1) := by decide +kernel
theorem dX9_about_159 : decode cX9_about 159 = .ok (.iload_n 1, 1) := by decide +kernel
theorem dX9_about_160 : decode cX9_about 160 = .ok (.bipush 6, 2) := by decide +kernel
theorem dX9_about_162 : decode cX9_about 162 = .ok (.if_icmp .ne 8, 3) := by decide +kernel
theorem dX9_about_165 : decode cX9_about 165 = .ok (.aload_n 0, 1) := by decide +kernel
theorem dX9_about_166 : decode cX9_about 166 = .ok (.getfield 76, 3) := by decide +kernel
theorem dX9_about_169 : decode cX9_about 169 = .ok (.ireturn, 1) := by decide +kernel
theorem dX9_about_170 : decode cX9_about 170 = .ok (.iload_n 1, 1) := by decide +kernel
theorem dX9_about_171 : decode cX9_about 171 = .ok (.bipush 7, 2) := by decide +kernel
theorem dX9_about_173 : decode cX9_about 173 = .ok (.if_icmp .ne 18, 3) := by decide +kernel
theorem dX9_about_176 : decode cX9_about 176 = .ok (.aload_n 0, 1) := by decide +kernel
theorem dX9_about_177 : decode cX9_about 177 = .ok (.getfield 152, 3) := by decide +kernel
theorem dX9_about_180 : decode cX9_about 180 = .ok (.ifCond .eq 7, 3) := by decide +kernel
theorem dX9_about_183 : decode cX9_about 183 = .ok (.iconst 1, 1) := by decide +kernel
theorem dX9_about_184 : decode cX9_about 184 = .ok (.goto 8, 3) := by decide +kernel
theorem dX9_about_187 : decode cX9_about 187 = .ok (.iconst 0, 1) := by decide +kernel
theorem dX9_about_188 : decode cX9_about 188 = .ok (.goto 4, 3) := by decide +kernel
theorem dX9_about_191 : decode cX9_about 191 = .ok (.iconst (-1), 1) := by decide +kernel
theorem dX9_about_192 : decode cX9_about 192 = .ok (.ireturn, 1) := by decide +kernel
theorem dX9_isFlow_0 : decode cX9_isFlow 0 = .ok (.aload_n 0, 1) := by decide +kernel
theorem dX9_isFlow_1 : decode cX9_isFlow 1 = .ok (.iload_n 1, 1) := by decide +kernel
theorem dX9_isFlow_2 : decode cX9_isFlow 2 = .ok (.invokevirtual 68, 3) := by decide +kernel
theorem dX9_isFlow_5 : decode cX9_isFlow 5 = .ok (.ifCond .eq 29, 3) := by decide +kernel
theorem dX9_isFlow_8 : decode cX9_isFlow 8 = .ok (.aload_n 0, 1) := by decide +kernel
theorem dX9_isFlow_9 : decode cX9_isFlow 9 = .ok (.iload_n 2, 1) := by decide +kernel
theorem dX9_isFlow_10 : decode cX9_isFlow 10 = .ok (.invokevirtual 68, 3) := by decide +kernel
theorem dX9_isFlow_13 : decode cX9_isFlow 13 = .ok (.ifCond .eq 21, 3) := by decide +kernel
theorem dX9_isFlow_16 : decode cX9_isFlow 16 = .ok (.aload_n 0, 1) := by decide +kernel
theorem dX9_isFlow_17 : decode cX9_isFlow 17 = .ok (.getfield 7, 3) := by decide +kernel
theorem dX9_isFlow_20 : decode cX9_isFlow 20 = .ok (.bipush 10, 2) := by decide +kernel
theorem dX9_isFlow_22 : decode cX9_isFlow 22 = .ok (.iload_n 1, 1) := by decide +kernel
theorem dX9_isFlow_23 : decode cX9_isFlow 23 = .ok (.imul, 1) := by decide +kernel
theorem dX9_isFlow_24 : decode cX9_isFlow 24 = .ok (.iload_n 2, 1) := by decide +kernel
theorem dX9_isFlow_25 : decode cX9_isFlow 25 = .ok (.iadd, 1) := by decide +kernel
theorem dX9_isFlow_26 : decode cX9_isFlow 26 = .ok (.iaload, 1) := by decide +kernel
theorem dX9_isFlow_27 : decode cX9_isFlow 27 = .ok (.ifCond .le 7, 3) := by decide +kernel
theorem dX9_isFlow_30 : decode cX9_isFlow 30 = .ok (.iconst 1, 1) := by decide +kernel
theorem dX9_isFlow_31 : decode cX9_isFlow 31 = .ok (.goto 4, 3) := by decide +kernel
theorem dX9_isFlow_34 : decode cX9_isFlow 34 = .ok (.iconst 0, 1) := by decide +kernel
theorem dX9_isFlow_35 : decode cX9_isFlow 35 = .ok (.ireturn, 1) := by decide +kernel
theorem dX9_turned_0 : decode cX9_turned 0 = .ok (.aload_n 0, 1) := by decide +kernel
theorem dX9_turned_1 : decode cX9_turned 1 = .ok (.iconst 0, 1) := by decide +kernel
theorem dX9_turned_2 : decode cX9_turned 2 = .ok (.putfield 65, 3) := by decide +kernel
theorem dX9_turned_5 : decode cX9_turned 5 = .ok (.aload_n 0, 1) := by decide +kernel
theorem dX9_turned_6 : decode cX9_turned 6 = .ok (.invokevirtual 97, 3) := by decide +kernel
theorem dX9_turned_9 : decode cX9_turned 9 = .ok (.aload_n 0, 1) := by decide +kernel
theorem dX9_turned_10 : decode cX9_turned 10 = .ok (.iload_n 1, 1) := by decide +kernel
theorem dX9_turned_11 : decode cX9_turned 11 = .ok (.iload_n 2, 1) := by decide +kernel
theorem dX9_turned_12 : decode cX9_turned 12 = .ok (.invokevirtual 155, 3) := by decide +kernel
theorem dX9_turned_15 : decode cX9_turned 15 = .ok (.ifCond .ne 7, 3) := by decide +kernel
theorem dX9_turned_18 : decode cX9_turned 18 = .ok (.iconst (-1), 1) := by decide +kernel
theorem dX9_turned_19 : decode cX9_turned 19 = .ok (.goto 17, 3) := by decide +kernel
theorem dX9_turned_22 : decode cX9_turned 22 = .ok (.aload_n 0, 1) := by decide +kernel
theorem dX9_turned_23 : decode cX9_turned 23 = .ok (.iload_n 1, 1) := by decide +kernel
theorem dX9_turned_24 : decode cX9_turned 24 = .ok (.iload_n 2, 1) := by decide +kernel
theorem dX9_turned_25 : decode cX9_turned 25 = .ok (.invokevirtual 93, 3) := by decide +kernel
theorem dX9_turned_28 : decode cX9_turned 28 = .ok (.ifCond .eq 7, 3) := by decide +kernel
theorem dX9_turned_31 : decode cX9_turned 31 = .ok (.iconst 1, 1) := by decide +kernel
theorem dX9_turned_32 : decode cX9_turned 32 = .ok (.goto 4, 3) := by decide +kernel
theorem dX9_turned_35 : decode cX9_turned 35 = .ok (.iconst 0, 1) := by decide +kernel
theorem dX9_turned_36 : decode cX9_turned 36 = .ok (.ireturn, 1) := by decide +kernel
theorem dX9_row_0 : decode cX9_row 0 = .ok (.aload_n 0, 1) := by decide +kernel
theorem dX9_row_1 : decode cX9_row 1 = .ok (.iconst 0, 1) := by decide +kernel
theorem dX9_row_2 : decode cX9_row 2 = .ok (.putfield 65, 3) := by decide +kernel
theorem dX9_row_5 : decode cX9_row 5 = .ok (.aload_n 0, 1) := by decide +kernel
theorem dX9_row_6 : decode cX9_row 6 = .ok (.invokevirtual 97, 3) := by decide +kernel
theorem dX9_row_9 : decode cX9_row 9 = .ok (.iload_n 1, 1) := by decide +kernel
theorem dX9_row_10 : decode cX9_row 10 = .ok (.ifCond .lt 20, 3) := by decide +kernel
theorem dX9_row_13 : decode cX9_row 13 = .ok (.iload_n 1, 1) := by decide +kernel
theorem dX9_row_14 : decode cX9_row 14 = .ok (.aload_n 0, 1) := by decide +kernel
theorem dX9_row_15 : decode cX9_row 15 = .ok (.getfield 87, 3) := by decide +kernel
theorem dX9_row_18 : decode cX9_row 18 = .ok (.if_icmp .ge 12, 3) := by decide +kernel
theorem dX9_row_21 : decode cX9_row 21 = .ok (.aload_n 0, 1) := by decide +kernel
theorem dX9_row_22 : decode cX9_row 22 = .ok (.getfield 23, 3) := by decide +kernel
theorem dX9_row_25 : decode cX9_row 25 = .ok (.iload_n 1, 1) := by decide +kernel
theorem dX9_row_26 : decode cX9_row 26 = .ok (.iaload, 1) := by decide +kernel
theorem dX9_row_27 : decode cX9_row 27 = .ok (.goto 4, 3) := by decide +kernel
theorem dX9_row_30 : decode cX9_row 30 = .ok (.iconst (-1), 1) := by decide +kernel
theorem dX9_row_31 : decode cX9_row 31 = .ok (.ireturn, 1) := by decide +kernel
theorem dX9_layer_0 : decode cX9_layer 0 = .ok (.aload_n 0, 1) := by decide +kernel
theorem dX9_layer_1 : decode cX9_layer 1 = .ok (.iconst 0, 1) := by decide +kernel
theorem dX9_layer_2 : decode cX9_layer 2 = .ok (.putfield 65, 3) := by decide +kernel
theorem dX9_layer_5 : decode cX9_layer 5 = .ok (.aload_n 0, 1) := by decide +kernel
theorem dX9_layer_6 : decode cX9_layer 6 = .ok (.invokevirtual 97, 3) := by decide +kernel
theorem dX9_layer_9 : decode cX9_layer 9 = .ok (.aload_n 0, 1) := by decide +kernel
theorem dX9_layer_10 : decode cX9_layer 10 = .ok (.iload_n 1, 1) := by decide +kernel
theorem dX9_layer_11 : decode cX9_layer 11 = .ok (.invokevirtual 68, 3) := by decide +kernel
theorem dX9_layer_14 : decode cX9_layer 14 = .ok (.ifCond .eq 20, 3) := by decide +kernel
theorem dX9_layer_17 : decode cX9_layer 17 = .ok (.aload_n 0, 1) := by decide +kernel
theorem dX9_layer_18 : decode cX9_layer 18 = .ok (.iload_n 1, 1) := by decide +kernel
theorem dX9_layer_19 : decode cX9_layer 19 = .ok (.invokevirtual 100, 3) := by decide +kernel
theorem dX9_layer_22 : decode cX9_layer 22 = .ok (.ifCond .eq 12, 3) := by decide +kernel
theorem dX9_layer_25 : decode cX9_layer 25 = .ok (.aload_n 0, 1) := by decide +kernel
theorem dX9_layer_26 : decode cX9_layer 26 = .ok (.getfield 29, 3) := by decide +kernel
theorem dX9_layer_29 : decode cX9_layer 29 = .ok (.iload_n 1, 1) := by decide +kernel
theorem dX9_layer_30 : decode cX9_layer 30 = .ok (.iaload, 1) := by decide +kernel
theorem dX9_layer_31 : decode cX9_layer 31 = .ok (.goto 4, 3) := by decide +kernel
theorem dX9_layer_34 : decode cX9_layer 34 = .ok (.iconst (-1), 1) := by decide +kernel
theorem dX9_layer_35 : decode cX9_layer 35 = .ok (.ireturn, 1) := by decide +kernel
theorem dX9_rest_0 : decode cX9_rest 0 = .ok (.aload_n 0, 1) := by decide +kernel
theorem dX9_rest_1 : decode cX9_rest 1 = .ok (.iconst 0, 1) := by decide +kernel
theorem dX9_rest_2 : decode cX9_rest 2 = .ok (.putfield 65, 3) := by decide +kernel
theorem dX9_rest_5 : decode cX9_rest 5 = .ok (.aload_n 0, 1) := by decide +kernel
theorem dX9_rest_6 : decode cX9_rest 6 = .ok (.iload_n 1, 1) := by decide +kernel
theorem dX9_rest_7 : decode cX9_rest 7 = .ok (.invokevirtual 68, 3) := by decide +kernel
theorem dX9_rest_10 : decode cX9_rest 10 = .ok (.ifCond .ne 7, 3) := by decide +kernel
theorem dX9_rest_13 : decode cX9_rest 13 = .ok (.sipush (-10000), 3) := by decide +kernel
theorem dX9_rest_16 : decode cX9_rest 16 = .ok (.ireturn, 1) := by decide +kernel
theorem dX9_rest_17 : decode cX9_rest 17 = .ok (.iconst 0, 1) := by decide +kernel
theorem dX9_rest_18 : decode cX9_rest 18 = .ok (.istore_n 2, 1) := by decide +kernel
theorem dX9_rest_19 : decode cX9_rest 19 = .ok (.iconst 0, 1) := by decide +kernel
theorem dX9_rest_20 : decode cX9_rest 20 = .ok (.istore_n 3, 1) := by decide +kernel
theorem dX9_rest_21 : decode cX9_rest 21 = .ok (.iload_n 3, 1) := by decide +kernel
theorem dX9_rest_22 : decode cX9_rest 22 = .ok (.bipush 10, 2) := by decide +kernel
theorem dX9_rest_24 : decode cX9_rest 24 = .ok (.if_icmp .ge 35, 3) := by decide +kernel
theorem dX9_rest_27 : decode cX9_rest 27 = .ok (.iload_n 2, 1) := by decide +kernel
theorem dX9_rest_28 : decode cX9_rest 28 = .ok (.aload_n 0, 1) := by decide +kernel
theorem dX9_rest_29 : decode cX9_rest 29 = .ok (.getfield 7, 3) := by decide +kernel
theorem dX9_rest_32 : decode cX9_rest 32 = .ok (.bipush 10, 2) := by decide +kernel
theorem dX9_rest_34 : decode cX9_rest 34 = .ok (.iload_n 3, 1) := by decide +kernel
theorem dX9_rest_35 : decode cX9_rest 35 = .ok (.imul, 1) := by decide +kernel
theorem dX9_rest_36 : decode cX9_rest 36 = .ok (.iload_n 1, 1) := by decide +kernel
theorem dX9_rest_37 : decode cX9_rest 37 = .ok (.iadd, 1) := by decide +kernel
theorem dX9_rest_38 : decode cX9_rest 38 = .ok (.iaload, 1) := by decide +kernel
theorem dX9_rest_39 : decode cX9_rest 39 = .ok (.iadd, 1) := by decide +kernel
theorem dX9_rest_40 : decode cX9_rest 40 = .ok (.aload_n 0, 1) := by decide +kernel
theorem dX9_rest_41 : decode cX9_rest 41 = .ok (.getfield 7, 3) := by decide +kernel
theorem dX9_rest_44 : decode cX9_rest 44 = .ok (.bipush 10, 2) := by decide +kernel
theorem dX9_rest_46 : decode cX9_rest 46 = .ok (.iload_n 1, 1) := by decide +kernel
theorem dX9_rest_47 : decode cX9_rest 47 = .ok (.imul, 1) := by decide +kernel
theorem dX9_rest_48 : decode cX9_rest 48 = .ok (.iload_n 3, 1) := by decide +kernel
theorem dX9_rest_49 : decode cX9_rest 49 = .ok (.iadd, 1) := by decide +kernel
theorem dX9_rest_50 : decode cX9_rest 50 = .ok (.iaload, 1) := by decide +kernel
theorem dX9_rest_51 : decode cX9_rest 51 = .ok (.isub, 1) := by decide +kernel
theorem dX9_rest_52 : decode cX9_rest 52 = .ok (.istore_n 2, 1) := by decide +kernel
theorem dX9_rest_53 : decode cX9_rest 53 = .ok (.iinc 3 1, 3) := by decide +kernel
theorem dX9_rest_56 : decode cX9_rest 56 = .ok (.goto (-35), 3) := by decide +kernel
theorem dX9_rest_59 : decode cX9_rest 59 = .ok (.iload_n 2, 1) := by decide +kernel
theorem dX9_rest_60 : decode cX9_rest 60 = .ok (.ireturn, 1) := by decide +kernel
theorem dX9_cost_0 : decode cX9_cost 0 = .ok (.aload_n 0, 1) := by decide +kernel
theorem dX9_cost_1 : decode cX9_cost 1 = .ok (.iconst 0, 1) := by decide +kernel
theorem dX9_cost_2 : decode cX9_cost 2 = .ok (.putfield 65, 3) := by decide +kernel
theorem dX9_cost_5 : decode cX9_cost 5 = .ok (.aload_n 0, 1) := by decide +kernel
theorem dX9_cost_6 : decode cX9_cost 6 = .ok (.invokevirtual 158, 3) := by decide +kernel
theorem dX9_cost_9 : decode cX9_cost 9 = .ok (.aload_n 0, 1) := by decide +kernel
theorem dX9_cost_10 : decode cX9_cost 10 = .ok (.getfield 110, 3) := by decide +kernel
theorem dX9_cost_13 : decode cX9_cost 13 = .ok (.ifCond .eq 10, 3) := by decide +kernel
theorem dX9_cost_16 : decode cX9_cost 16 = .ok (.aload_n 0, 1) := by decide +kernel
theorem dX9_cost_17 : decode cX9_cost 17 = .ok (.getfield 140, 3) := by decide +kernel
theorem dX9_cost_20 : decode cX9_cost 20 = .ok (.goto 4, 3) := by decide +kernel
theorem dX9_cost_23 : decode cX9_cost 23 = .ok (.iconst (-1), 1) := by decide +kernel
theorem dX9_cost_24 : decode cX9_cost 24 = .ok (.ireturn, 1) := by decide +kernel
theorem dX9_part_0 : decode cX9_part 0 = .ok (.aload_n 0, 1) := by decide +kernel
theorem dX9_part_1 : decode cX9_part 1 = .ok (.iconst 0, 1) := by decide +kernel
theorem dX9_part_2 : decode cX9_part 2 = .ok (.putfield 65, 3) := by decide +kernel
theorem dX9_part_5 : decode cX9_part 5 = .ok (.aload_n 0, 1) := by decide +kernel
theorem dX9_part_6 : decode cX9_part 6 = .ok (.invokevirtual 158, 3) := by decide +kernel
theorem dX9_part_9 : decode cX9_part 9 = .ok (.aload_n 0, 1) := by decide +kernel
theorem dX9_part_10 : decode cX9_part 10 = .ok (.getfield 110, 3) := by decide +kernel
theorem dX9_part_13 : decode cX9_part 13 = .ok (.ifCond .eq 12, 3) := by decide +kernel
theorem dX9_part_16 : decode cX9_part 16 = .ok (.iload_n 1, 1) := by decide +kernel
theorem dX9_part_17 : decode cX9_part 17 = .ok (.ifCond .lt 8, 3) := by decide +kernel
theorem dX9_part_20 : decode cX9_part 20 = .ok (.iload_n 1, 1) := by decide +kernel
theorem dX9_part_21 : decode cX9_part 21 = .ok (.iconst 2, 1) := by decide +kernel
theorem dX9_part_22 : decode cX9_part 22 = .ok (.if_icmp .le 5, 3) := by decide +kernel
theorem dX9_part_25 : decode cX9_part 25 = .ok (.iconst (-1), 1) := by decide +kernel
theorem dX9_part_26 : decode cX9_part 26 = .ok (.ireturn, 1) := by decide +kernel
theorem dX9_part_27 : decode cX9_part 27 = .ok (.iconst 0, 1) := by decide +kernel
theorem dX9_part_28 : decode cX9_part 28 = .ok (.istore_n 2, 1) := by decide +kernel
theorem dX9_part_29 : decode cX9_part 29 = .ok (.iconst 0, 1) := by decide +kernel
theorem dX9_part_30 : decode cX9_part 30 = .ok (.istore_n 3, 1) := by decide +kernel
theorem dX9_part_31 : decode cX9_part 31 = .ok (.iconst 0, 1) := by decide +kernel
theorem dX9_part_32 : decode cX9_part 32 = .ok (.istore 4, 2) := by decide +kernel
theorem dX9_part_34 : decode cX9_part 34 = .ok (.iconst 0, 1) := by decide +kernel
theorem dX9_part_35 : decode cX9_part 35 = .ok (.istore 5, 2) := by decide +kernel
theorem dX9_part_37 : decode cX9_part 37 = .ok (.iload 5, 2) := by decide +kernel
theorem dX9_part_39 : decode cX9_part 39 = .ok (.aload_n 0, 1) := by decide +kernel
theorem dX9_part_40 : decode cX9_part 40 = .ok (.getfield 90, 3) := by decide +kernel
theorem dX9_part_43 : decode cX9_part 43 = .ok (.if_icmp .ge 73, 3) := by decide +kernel
theorem dX9_part_46 : decode cX9_part 46 = .ok (.iload 4, 2) := by decide +kernel
theorem dX9_part_48 : decode cX9_part 48 = .ok (.aload_n 0, 1) := by decide +kernel
theorem dX9_part_49 : decode cX9_part 49 = .ok (.iload 5, 2) := by decide +kernel
theorem dX9_part_51 : decode cX9_part 51 = .ok (.aload_n 0, 1) := by decide +kernel
theorem dX9_part_52 : decode cX9_part 52 = .ok (.getfield 62, 3) := by decide +kernel
theorem dX9_part_55 : decode cX9_part 55 = .ok (.iload 5, 2) := by decide +kernel
theorem dX9_part_57 : decode cX9_part 57 = .ok (.iaload, 1) := by decide +kernel
theorem dX9_part_58 : decode cX9_part 58 = .ok (.invokevirtual 149, 3) := by decide +kernel
theorem dX9_part_61 : decode cX9_part 61 = .ok (.iadd, 1) := by decide +kernel
theorem dX9_part_62 : decode cX9_part 62 = .ok (.istore 4, 2) := by decide +kernel
theorem dX9_part_64 : decode cX9_part 64 = .ok (.iload 5, 2) := by decide +kernel
theorem dX9_part_66 : decode cX9_part 66 = .ok (.iconst 1, 1) := by decide +kernel
theorem dX9_part_67 : decode cX9_part 67 = .ok (.iadd, 1) := by decide +kernel
theorem dX9_part_68 : decode cX9_part 68 = .ok (.aload_n 0, 1) := by decide +kernel
theorem dX9_part_69 : decode cX9_part 69 = .ok (.getfield 90, 3) := by decide +kernel
theorem dX9_part_72 : decode cX9_part 72 = .ok (.if_icmp .ne 6, 3) := by decide +kernel
theorem dX9_part_75 : decode cX9_part 75 = .ok (.goto 35, 3) := by decide +kernel
theorem dX9_part_78 : decode cX9_part 78 = .ok (.iload_n 2, 1) := by decide +kernel
theorem dX9_part_79 : decode cX9_part 79 = .ok (.aload_n 0, 1) := by decide +kernel
theorem dX9_part_80 : decode cX9_part 80 = .ok (.iload 5, 2) := by decide +kernel
theorem dX9_part_82 : decode cX9_part 82 = .ok (.aload_n 0, 1) := by decide +kernel
theorem dX9_part_83 : decode cX9_part 83 = .ok (.getfield 62, 3) := by decide +kernel
theorem dX9_part_86 : decode cX9_part 86 = .ok (.iload 5, 2) := by decide +kernel
theorem dX9_part_88 : decode cX9_part 88 = .ok (.iaload, 1) := by decide +kernel
theorem dX9_part_89 : decode cX9_part 89 = .ok (.aload_n 0, 1) := by decide +kernel
theorem dX9_part_90 : decode cX9_part 90 = .ok (.getfield 62, 3) := by decide +kernel
theorem dX9_part_93 : decode cX9_part 93 = .ok (.iload 5, 2) := by decide +kernel
theorem dX9_part_95 : decode cX9_part 95 = .ok (.iconst 1, 1) := by decide +kernel
theorem dX9_part_96 : decode cX9_part 96 = .ok (.iadd, 1) := by decide +kernel
theorem dX9_part_97 : decode cX9_part 97 = .ok (.iaload, 1) := by decide +kernel
theorem dX9_part_98 : decode cX9_part 98 = .ok (.invokevirtual 146, 3) := by decide +kernel
theorem dX9_part_101 : decode cX9_part 101 = .ok (.iadd, 1) := by decide +kernel
theorem dX9_part_102 : decode cX9_part 102 = .ok (.istore_n 2, 1) := by decide +kernel
theorem dX9_part_103 : decode cX9_part 103 = .ok (.iload_n 3, 1) := by decide +kernel
theorem dX9_part_104 : decode cX9_part 104 = .ok (.aload_n 0, 1) := by decide +kernel
theorem dX9_part_105 : decode cX9_part 105 = .ok (.getfield 128, 3) := by decide +kernel
theorem dX9_part_108 : decode cX9_part 108 = .ok (.iadd, 1) := by decide +kernel
theorem dX9_part_109 : decode cX9_part 109 = .ok (.istore_n 3, 1) := by decide +kernel
theorem dX9_part_110 : decode cX9_part 110 = .ok (.iinc 5 1, 3) := by decide +kernel
theorem dX9_part_113 : decode cX9_part 113 = .ok (.goto (-76), 3) := by decide +kernel
theorem dX9_part_116 : decode cX9_part 116 = .ok (.iload_n 1, 1) := by decide +kernel
theorem dX9_part_117 : decode cX9_part 117 = .ok (.ifCond .ne 7, 3) := by decide +kernel
theorem dX9_part_120 : decode cX9_part 120 = .ok (.iload_n 2, 1) := by decide +kernel
theorem dX9_part_121 : decode cX9_part 121 = .ok (.goto 14, 3) := by decide +kernel
theorem dX9_part_124 : decode cX9_part 124 = .ok (.iload_n 1, 1) := by decide +kernel
theorem dX9_part_125 : decode cX9_part 125 = .ok (.iconst 1, 1) := by decide +kernel
theorem dX9_part_126 : decode cX9_part 126 = .ok (.if_icmp .ne 7, 3) := by decide +kernel
theorem dX9_part_129 : decode cX9_part 129 = .ok (.iload_n 3, 1) := by decide +kernel
theorem dX9_part_130 : decode cX9_part 130 = .ok (.goto 5, 3) := by decide +kernel
theorem dX9_part_133 : decode cX9_part 133 = .ok (.iload 4, 2) := by decide +kernel
theorem dX9_part_135 : decode cX9_part 135 = .ok (.ireturn, 1) := by decide +kernel
theorem dX9_items_0 : decode cX9_items 0 = .ok (.aload_n 0, 1) := by decide +kernel
theorem dX9_items_1 : decode cX9_items 1 = .ok (.iconst 0, 1) := by decide +kernel
theorem dX9_items_2 : decode cX9_items 2 = .ok (.putfield 65, 3) := by decide +kernel
theorem dX9_items_5 : decode cX9_items 5 = .ok (.aload_n 0, 1) := by decide +kernel
theorem dX9_items_6 : decode cX9_items 6 = .ok (.invokevirtual 134, 3) := by decide +kernel
theorem dX9_items_9 : decode cX9_items 9 = .ok (.iload_n 1, 1) := by decide +kernel
theorem dX9_items_10 : decode cX9_items 10 = .ok (.ifCond .lt 20, 3) := by decide +kernel
theorem dX9_items_13 : decode cX9_items 13 = .ok (.iload_n 1, 1) := by decide +kernel
theorem dX9_items_14 : decode cX9_items 14 = .ok (.aload_n 0, 1) := by decide +kernel
theorem dX9_items_15 : decode cX9_items 15 = .ok (.getfield 90, 3) := by decide +kernel
theorem dX9_items_18 : decode cX9_items 18 = .ok (.if_icmp .ge 12, 3) := by decide +kernel
theorem dX9_items_21 : decode cX9_items 21 = .ok (.aload_n 0, 1) := by decide +kernel
theorem dX9_items_22 : decode cX9_items 22 = .ok (.getfield 35, 3) := by decide +kernel
theorem dX9_items_25 : decode cX9_items 25 = .ok (.iload_n 1, 1) := by decide +kernel
theorem dX9_items_26 : decode cX9_items 26 = .ok (.iaload, 1) := by decide +kernel
theorem dX9_items_27 : decode cX9_items 27 = .ok (.goto 4, 3) := by decide +kernel
theorem dX9_items_30 : decode cX9_items 30 = .ok (.iconst (-1), 1) := by decide +kernel
theorem dX9_items_31 : decode cX9_items 31 = .ok (.ireturn, 1) := by decide +kernel
theorem dX9_itemAt_0 : decode cX9_itemAt 0 = .ok (.iconst 0, 1) := by decide +kernel
theorem dX9_itemAt_1 : decode cX9_itemAt 1 = .ok (.istore_n 3, 1) := by decide +kernel
theorem dX9_itemAt_2 : decode cX9_itemAt 2 = .ok (.aload_n 0, 1) := by decide +kernel
theorem dX9_itemAt_3 : decode cX9_itemAt 3 = .ok (.iload_n 1, 1) := by decide +kernel
theorem dX9_itemAt_4 : decode cX9_itemAt 4 = .ok (.aload_n 0, 1) := by decide +kernel
theorem dX9_itemAt_5 : decode cX9_itemAt 5 = .ok (.getfield 62, 3) := by decide +kernel
theorem dX9_itemAt_8 : decode cX9_itemAt 8 = .ok (.iload_n 1, 1) := by decide +kernel
theorem dX9_itemAt_9 : decode cX9_itemAt 9 = .ok (.iaload, 1) := by decide +kernel
theorem dX9_itemAt_10 : decode cX9_itemAt 10 = .ok (.iload_n 3, 1) := by decide +kernel
theorem dX9_itemAt_11 : decode cX9_itemAt 11 = .ok (.invokevirtual 131, 3) := by decide +kernel
theorem dX9_itemAt_14 : decode cX9_itemAt 14 = .ok (.iload_n 2, 1) := by decide +kernel
theorem dX9_itemAt_15 : decode cX9_itemAt 15 = .ok (.if_icmp .eq 10, 3) := by decide +kernel
theorem dX9_itemAt_18 : decode cX9_itemAt 18 = .ok (.iload_n 3, 1) := by decide +kernel
theorem dX9_itemAt_19 : decode cX9_itemAt 19 = .ok (.iconst 1, 1) := by decide +kernel
theorem dX9_itemAt_20 : decode cX9_itemAt 20 = .ok (.iadd, 1) := by decide +kernel
theorem dX9_itemAt_21 : decode cX9_itemAt 21 = .ok (.istore_n 3, 1) := by decide +kernel
theorem dX9_itemAt_22 : decode cX9_itemAt 22 = .ok (.goto (-20), 3) := by decide +kernel
theorem dX9_itemAt_25 : decode cX9_itemAt 25 = .ok (.iload_n 3, 1) := by decide +kernel
theorem dX9_itemAt_26 : decode cX9_itemAt 26 = .ok (.ireturn, 1) := by decide +kernel
theorem dX9_item_0 : decode cX9_item 0 = .ok (.aload_n 0, 1) := by decide +kernel
theorem dX9_item_1 : decode cX9_item 1 = .ok (.iconst 0, 1) := by decide +kernel
theorem dX9_item_2 : decode cX9_item 2 = .ok (.putfield 65, 3) := by decide +kernel
theorem dX9_item_5 : decode cX9_item 5 = .ok (.aload_n 0, 1) := by decide +kernel
theorem dX9_item_6 : decode cX9_item 6 = .ok (.invokevirtual 158, 3) := by decide +kernel
theorem dX9_item_9 : decode cX9_item 9 = .ok (.aload_n 0, 1) := by decide +kernel
theorem dX9_item_10 : decode cX9_item 10 = .ok (.getfield 110, 3) := by decide +kernel
theorem dX9_item_13 : decode cX9_item 13 = .ok (.ifCond .eq 29, 3) := by decide +kernel
theorem dX9_item_16 : decode cX9_item 16 = .ok (.iload_n 1, 1) := by decide +kernel
theorem dX9_item_17 : decode cX9_item 17 = .ok (.ifCond .lt 25, 3) := by decide +kernel
theorem dX9_item_20 : decode cX9_item 20 = .ok (.iload_n 1, 1) := by decide +kernel
theorem dX9_item_21 : decode cX9_item 21 = .ok (.aload_n 0, 1) := by decide +kernel
theorem dX9_item_22 : decode cX9_item 22 = .ok (.getfield 90, 3) := by decide +kernel
theorem dX9_item_25 : decode cX9_item 25 = .ok (.if_icmp .ge 17, 3) := by decide +kernel
theorem dX9_item_28 : decode cX9_item 28 = .ok (.iload_n 2, 1) := by decide +kernel
theorem dX9_item_29 : decode cX9_item 29 = .ok (.ifCond .lt 13, 3) := by decide +kernel
theorem dX9_item_32 : decode cX9_item 32 = .ok (.iload_n 2, 1) := by decide +kernel
theorem dX9_item_33 : decode cX9_item 33 = .ok (.aload_n 0, 1) := by decide +kernel
theorem dX9_item_34 : decode cX9_item 34 = .ok (.getfield 35, 3) := by decide +kernel
theorem dX9_item_37 : decode cX9_item 37 = .ok (.iload_n 1, 1) := by decide +kernel
theorem dX9_item_38 : decode cX9_item 38 = .ok (.iaload, 1) := by decide +kernel
theorem dX9_item_39 : decode cX9_item 39 = .ok (.if_icmp .lt 7, 3) := by decide +kernel
theorem dX9_item_42 : decode cX9_item 42 = .ok (.iconst (-1), 1) := by decide +kernel
theorem dX9_item_43 : decode cX9_item 43 = .ok (.goto 19, 3) := by decide +kernel
theorem dX9_item_46 : decode cX9_item 46 = .ok (.aload_n 0, 1) := by decide +kernel
theorem dX9_item_47 : decode cX9_item 47 = .ok (.getfield 38, 3) := by decide +kernel
theorem dX9_item_50 : decode cX9_item 50 = .ok (.bipush 30, 2) := by decide +kernel
theorem dX9_item_52 : decode cX9_item 52 = .ok (.iload_n 1, 1) := by decide +kernel
theorem dX9_item_53 : decode cX9_item 53 = .ok (.imul, 1) := by decide +kernel
theorem dX9_item_54 : decode cX9_item 54 = .ok (.aload_n 0, 1) := by decide +kernel
theorem dX9_item_55 : decode cX9_item 55 = .ok (.iload_n 1, 1) := by decide +kernel
theorem dX9_item_56 : decode cX9_item 56 = .ok (.iload_n 2, 1) := by decide +kernel
theorem dX9_item_57 : decode cX9_item 57 = .ok (.invokevirtual 161, 3) := by decide +kernel
theorem dX9_item_60 : decode cX9_item 60 = .ok (.iadd, 1) := by decide +kernel
theorem dX9_item_61 : decode cX9_item 61 = .ok (.iaload, 1) := by decide +kernel
theorem dX9_item_62 : decode cX9_item 62 = .ok (.ireturn, 1) := by decide +kernel
theorem dX9_sizeOf_0 : decode cX9_sizeOf 0 = .ok (.iload_n 1, 1) := by decide +kernel
theorem dX9_sizeOf_1 : decode cX9_sizeOf 1 = .ok (.bipush 100, 2) := by decide +kernel
theorem dX9_sizeOf_3 : decode cX9_sizeOf 3 = .ok (.if_icmp .lt 13, 3) := by decide +kernel
theorem dX9_sizeOf_6 : decode cX9_sizeOf 6 = .ok (.aload_n 0, 1) := by decide +kernel
theorem dX9_sizeOf_7 : decode cX9_sizeOf 7 = .ok (.getfield 7, 3) := by decide +kernel
theorem dX9_sizeOf_10 : decode cX9_sizeOf 10 = .ok (.iload_n 1, 1) := by decide +kernel
theorem dX9_sizeOf_11 : decode cX9_sizeOf 11 = .ok (.bipush 100, 2) := by decide +kernel
theorem dX9_sizeOf_13 : decode cX9_sizeOf 13 = .ok (.isub, 1) := by decide +kernel
theorem dX9_sizeOf_14 : decode cX9_sizeOf 14 = .ok (.iaload, 1) := by decide +kernel
theorem dX9_sizeOf_15 : decode cX9_sizeOf 15 = .ok (.ireturn, 1) := by decide +kernel
theorem dX9_sizeOf_16 : decode cX9_sizeOf 16 = .ok (.iconst 0, 1) := by decide +kernel
theorem dX9_sizeOf_17 : decode cX9_sizeOf 17 = .ok (.istore_n 2, 1) := by decide +kernel
theorem dX9_sizeOf_18 : decode cX9_sizeOf 18 = .ok (.iconst 0, 1) := by decide +kernel
theorem dX9_sizeOf_19 : decode cX9_sizeOf 19 = .ok (.istore_n 3, 1) := by decide +kernel
theorem dX9_sizeOf_20 : decode cX9_sizeOf 20 = .ok (.iconst 0, 1) := by decide +kernel
theorem dX9_sizeOf_21 : decode cX9_sizeOf 21 = .ok (.istore 4, 2) := by decide +kernel
theorem dX9_sizeOf_23 : decode cX9_sizeOf 23 = .ok (.iload 4, 2) := by decide +kernel
theorem dX9_sizeOf_25 : decode cX9_sizeOf 25 = .ok (.bipush 10, 2) := by decide +kernel
theorem dX9_sizeOf_27 : decode cX9_sizeOf 27 = .ok (.if_icmp .ge 59, 3) := by decide +kernel
theorem dX9_sizeOf_30 : decode cX9_sizeOf 30 = .ok (.aload_n 0, 1) := by decide +kernel
theorem dX9_sizeOf_31 : decode cX9_sizeOf 31 = .ok (.iload 4, 2) := by decide +kernel
theorem dX9_sizeOf_33 : decode cX9_sizeOf 33 = .ok (.iload_n 1, 1) := by decide +kernel
theorem dX9_sizeOf_34 : decode cX9_sizeOf 34 = .ok (.invokevirtual 107, 3) := by decide +kernel
theorem dX9_sizeOf_37 : decode cX9_sizeOf 37 = .ok (.ifCond .eq 18, 3) := by decide +kernel
theorem dX9_sizeOf_40 : decode cX9_sizeOf 40 = .ok (.iload_n 2, 1) := by decide +kernel
theorem dX9_sizeOf_41 : decode cX9_sizeOf 41 = .ok (.aload_n 0, 1) := by decide +kernel
theorem dX9_sizeOf_42 : decode cX9_sizeOf 42 = .ok (.getfield 7, 3) := by decide +kernel
theorem dX9_sizeOf_45 : decode cX9_sizeOf 45 = .ok (.bipush 10, 2) := by decide +kernel
theorem dX9_sizeOf_47 : decode cX9_sizeOf 47 = .ok (.iload 4, 2) := by decide +kernel
theorem dX9_sizeOf_49 : decode cX9_sizeOf 49 = .ok (.imul, 1) := by decide +kernel
theorem dX9_sizeOf_50 : decode cX9_sizeOf 50 = .ok (.iload_n 1, 1) := by decide +kernel
theorem dX9_sizeOf_51 : decode cX9_sizeOf 51 = .ok (.iadd, 1) := by decide +kernel
theorem dX9_sizeOf_52 : decode cX9_sizeOf 52 = .ok (.iaload, 1) := by decide +kernel
theorem dX9_sizeOf_53 : decode cX9_sizeOf 53 = .ok (.iadd, 1) := by decide +kernel
theorem dX9_sizeOf_54 : decode cX9_sizeOf 54 = .ok (.istore_n 2, 1) := by decide +kernel
theorem dX9_sizeOf_55 : decode cX9_sizeOf 55 = .ok (.aload_n 0, 1) := by decide +kernel
theorem dX9_sizeOf_56 : decode cX9_sizeOf 56 = .ok (.iload_n 1, 1) := by decide +kernel
theorem dX9_sizeOf_57 : decode cX9_sizeOf 57 = .ok (.iload 4, 2) := by decide +kernel
theorem dX9_sizeOf_59 : decode cX9_sizeOf 59 = .ok (.invokevirtual 107, 3) := by decide +kernel
theorem dX9_sizeOf_62 : decode cX9_sizeOf 62 = .ok (.ifCond .eq 18, 3) := by decide +kernel
theorem dX9_sizeOf_65 : decode cX9_sizeOf 65 = .ok (.iload_n 3, 1) := by decide +kernel
theorem dX9_sizeOf_66 : decode cX9_sizeOf 66 = .ok (.aload_n 0, 1) := by decide +kernel
theorem dX9_sizeOf_67 : decode cX9_sizeOf 67 = .ok (.getfield 7, 3) := by decide +kernel
theorem dX9_sizeOf_70 : decode cX9_sizeOf 70 = .ok (.bipush 10, 2) := by decide +kernel
theorem dX9_sizeOf_72 : decode cX9_sizeOf 72 = .ok (.iload_n 1, 1) := by decide +kernel
theorem dX9_sizeOf_73 : decode cX9_sizeOf 73 = .ok (.imul, 1) := by decide +kernel
theorem dX9_sizeOf_74 : decode cX9_sizeOf 74 = .ok (.iload 4, 2) := by decide +kernel
theorem dX9_sizeOf_76 : decode cX9_sizeOf 76 = .ok (.iadd, 1) := by decide +kernel
theorem dX9_sizeOf_77 : decode cX9_sizeOf 77 = .ok (.iaload, 1) := by decide +kernel
theorem dX9_sizeOf_78 : decode cX9_sizeOf 78 = .ok (.iadd, 1) := by decide +kernel
theorem dX9_sizeOf_79 : decode cX9_sizeOf 79 = .ok (.istore_n 3, 1) := by decide +kernel
theorem dX9_sizeOf_80 : decode cX9_sizeOf 80 = .ok (.iinc 4 1, 3) := by decide +kernel
theorem dX9_sizeOf_83 : decode cX9_sizeOf 83 = .ok (.goto (-60), 3) := by decide +kernel
theorem dX9_sizeOf_86 : decode cX9_sizeOf 86 = .ok (.iload_n 2, 1) := by decide +kernel
theorem dX9_sizeOf_87 : decode cX9_sizeOf 87 = .ok (.iload_n 3, 1) := by decide +kernel
theorem dX9_sizeOf_88 : decode cX9_sizeOf 88 = .ok (.if_icmp .le 7, 3) := by decide +kernel
theorem dX9_sizeOf_91 : decode cX9_sizeOf 91 = .ok (.iload_n 2, 1) := by decide +kernel
theorem dX9_sizeOf_92 : decode cX9_sizeOf 92 = .ok (.goto 4, 3) := by decide +kernel
theorem dX9_sizeOf_95 : decode cX9_sizeOf 95 = .ok (.iload_n 3, 1) := by decide +kernel
theorem dX9_sizeOf_96 : decode cX9_sizeOf 96 = .ok (.istore 4, 2) := by decide +kernel
theorem dX9_sizeOf_98 : decode cX9_sizeOf 98 = .ok (.iload 4, 2) := by decide +kernel
theorem dX9_sizeOf_100 : decode cX9_sizeOf 100 = .ok (.ifCond .ne 7, 3) := by decide +kernel
theorem dX9_sizeOf_103 : decode cX9_sizeOf 103 = .ok (.iconst 1, 1) := by decide +kernel
theorem dX9_sizeOf_104 : decode cX9_sizeOf 104 = .ok (.goto 5, 3) := by decide +kernel
theorem dX9_sizeOf_107 : decode cX9_sizeOf 107 = .ok (.iload 4, 2) := by decide +kernel
theorem dX9_sizeOf_109 : decode cX9_sizeOf 109 = .ok (.ireturn, 1) := by decide +kernel
theorem dX9_topOf_0 : decode cX9_topOf 0 = .ok (.iconst 0, 1) := by decide +kernel
theorem dX9_topOf_1 : decode cX9_topOf 1 = .ok (.istore_n 3, 1) := by decide +kernel
theorem dX9_topOf_2 : decode cX9_topOf 2 = .ok (.iconst 0, 1) := by decide +kernel
theorem dX9_topOf_3 : decode cX9_topOf 3 = .ok (.istore 4, 2) := by decide +kernel
theorem dX9_topOf_5 : decode cX9_topOf 5 = .ok (.iload 4, 2) := by decide +kernel
theorem dX9_topOf_7 : decode cX9_topOf 7 = .ok (.aload_n 0, 1) := by decide +kernel
theorem dX9_topOf_8 : decode cX9_topOf 8 = .ok (.iload_n 1, 1) := by decide +kernel
theorem dX9_topOf_9 : decode cX9_topOf 9 = .ok (.aload_n 0, 1) := by decide +kernel
theorem dX9_topOf_10 : decode cX9_topOf 10 = .ok (.getfield 62, 3) := by decide +kernel
theorem dX9_topOf_13 : decode cX9_topOf 13 = .ok (.iload_n 1, 1) := by decide +kernel
theorem dX9_topOf_14 : decode cX9_topOf 14 = .ok (.iaload, 1) := by decide +kernel
theorem dX9_topOf_15 : decode cX9_topOf 15 = .ok (.iload_n 2, 1) := by decide +kernel
theorem dX9_topOf_16 : decode cX9_topOf 16 = .ok (.invokevirtual 131, 3) := by decide +kernel
theorem dX9_topOf_19 : decode cX9_topOf 19 = .ok (.if_icmp .ge 38, 3) := by decide +kernel
theorem dX9_topOf_22 : decode cX9_topOf 22 = .ok (.iload_n 3, 1) := by decide +kernel
theorem dX9_topOf_23 : decode cX9_topOf 23 = .ok (.aload_n 0, 1) := by decide +kernel
theorem dX9_topOf_24 : decode cX9_topOf 24 = .ok (.aload_n 0, 1) := by decide +kernel
theorem dX9_topOf_25 : decode cX9_topOf 25 = .ok (.getfield 38, 3) := by decide +kernel
theorem dX9_topOf_28 : decode cX9_topOf 28 = .ok (.bipush 30, 2) := by decide +kernel
theorem dX9_topOf_30 : decode cX9_topOf 30 = .ok (.iload_n 1, 1) := by decide +kernel
theorem dX9_topOf_31 : decode cX9_topOf 31 = .ok (.imul, 1) := by decide +kernel
theorem dX9_topOf_32 : decode cX9_topOf 32 = .ok (.aload_n 0, 1) := by decide +kernel
theorem dX9_topOf_33 : decode cX9_topOf 33 = .ok (.iload_n 1, 1) := by decide +kernel
theorem dX9_topOf_34 : decode cX9_topOf 34 = .ok (.iload 4, 2) := by decide +kernel
theorem dX9_topOf_36 : decode cX9_topOf 36 = .ok (.invokevirtual 161, 3) := by decide +kernel
theorem dX9_topOf_39 : decode cX9_topOf 39 = .ok (.iadd, 1) := by decide +kernel
theorem dX9_topOf_40 : decode cX9_topOf 40 = .ok (.iaload, 1) := by decide +kernel
theorem dX9_topOf_41 : decode cX9_topOf 41 = .ok (.invokevirtual 164, 3) := by decide +kernel
theorem dX9_topOf_44 : decode cX9_topOf 44 = .ok (.iadd, 1) := by decide +kernel
theorem dX9_topOf_45 : decode cX9_topOf 45 = .ok (.aload_n 0, 1) := by decide +kernel
theorem dX9_topOf_46 : decode cX9_topOf 46 = .ok (.getfield 13, 3) := by decide +kernel
theorem dX9_topOf_49 : decode cX9_topOf 49 = .ok (.iadd, 1) := by decide +kernel
theorem dX9_topOf_50 : decode cX9_topOf 50 = .ok (.istore_n 3, 1) := by decide +kernel
theorem dX9_topOf_51 : decode cX9_topOf 51 = .ok (.iinc 4 1, 3) := by decide +kernel
theorem dX9_topOf_54 : decode cX9_topOf 54 = .ok (.goto (-49), 3) := by decide +kernel
theorem dX9_topOf_57 : decode cX9_topOf 57 = .ok (.iload_n 3, 1) := by decide +kernel
theorem dX9_topOf_58 : decode cX9_topOf 58 = .ok (.ireturn, 1) := by decide +kernel
theorem dX9_place_0 : decode cX9_place 0 = .ok (.aload_n 0, 1) := by decide +kernel
theorem dX9_place_1 : decode cX9_place 1 = .ok (.iconst 0, 1) := by decide +kernel
theorem dX9_place_2 : decode cX9_place 2 = .ok (.putfield 65, 3) := by decide +kernel
theorem dX9_place_5 : decode cX9_place 5 = .ok (.aload_n 0, 1) := by decide +kernel
theorem dX9_place_6 : decode cX9_place 6 = .ok (.invokevirtual 158, 3) := by decide +kernel
theorem dX9_place_9 : decode cX9_place 9 = .ok (.aload_n 0, 1) := by decide +kernel
theorem dX9_place_10 : decode cX9_place 10 = .ok (.getfield 110, 3) := by decide +kernel
theorem dX9_place_13 : decode cX9_place 13 = .ok (.ifCond .eq 28, 3) := by decide +kernel
theorem dX9_place_16 : decode cX9_place 16 = .ok (.aload_n 0, 1) := by decide +kernel
theorem dX9_place_17 : decode cX9_place 17 = .ok (.iload_n 1, 1) := by decide +kernel
theorem dX9_place_18 : decode cX9_place 18 = .ok (.invokevirtual 68, 3) := by decide +kernel
theorem dX9_place_21 : decode cX9_place 21 = .ok (.ifCond .eq 20, 3) := by decide +kernel
theorem dX9_place_24 : decode cX9_place 24 = .ok (.aload_n 0, 1) := by decide +kernel
theorem dX9_place_25 : decode cX9_place 25 = .ok (.iload_n 1, 1) := by decide +kernel
theorem dX9_place_26 : decode cX9_place 26 = .ok (.invokevirtual 100, 3) := by decide +kernel
theorem dX9_place_29 : decode cX9_place 29 = .ok (.ifCond .eq 12, 3) := by decide +kernel
theorem dX9_place_32 : decode cX9_place 32 = .ok (.iload_n 2, 1) := by decide +kernel
theorem dX9_place_33 : decode cX9_place 33 = .ok (.ifCond .lt 8, 3) := by decide +kernel
theorem dX9_place_36 : decode cX9_place 36 = .ok (.iload_n 2, 1) := by decide +kernel
theorem dX9_place_37 : decode cX9_place 37 = .ok (.iconst 1, 1) := by decide +kernel
theorem dX9_place_38 : decode cX9_place 38 = .ok (.if_icmp .le 5, 3) := by decide +kernel
theorem dX9_place_41 : decode cX9_place 41 = .ok (.iconst (-1), 1) := by decide +kernel
theorem dX9_place_42 : decode cX9_place 42 = .ok (.ireturn, 1) := by decide +kernel
theorem dX9_place_43 : decode cX9_place 43 = .ok (.aload_n 0, 1) := by decide +kernel
theorem dX9_place_44 : decode cX9_place 44 = .ok (.aload_n 0, 1) := by decide +kernel
theorem dX9_place_45 : decode cX9_place 45 = .ok (.getfield 29, 3) := by decide +kernel
theorem dX9_place_48 : decode cX9_place 48 = .ok (.iload_n 1, 1) := by decide +kernel
theorem dX9_place_49 : decode cX9_place 49 = .ok (.iaload, 1) := by decide +kernel
theorem dX9_place_50 : decode cX9_place 50 = .ok (.aload_n 0, 1) := by decide +kernel
theorem dX9_place_51 : decode cX9_place 51 = .ok (.aload_n 0, 1) := by decide +kernel
theorem dX9_place_52 : decode cX9_place 52 = .ok (.getfield 29, 3) := by decide +kernel
theorem dX9_place_55 : decode cX9_place 55 = .ok (.iload_n 1, 1) := by decide +kernel
theorem dX9_place_56 : decode cX9_place 56 = .ok (.iaload, 1) := by decide +kernel
theorem dX9_place_57 : decode cX9_place 57 = .ok (.iload_n 1, 1) := by decide +kernel
theorem dX9_place_58 : decode cX9_place 58 = .ok (.invokevirtual 118, 3) := by decide +kernel
theorem dX9_place_61 : decode cX9_place 61 = .ok (.invokevirtual 167, 3) := by decide +kernel
theorem dX9_place_64 : decode cX9_place 64 = .ok (.istore_n 3, 1) := by decide +kernel
theorem dX9_place_65 : decode cX9_place 65 = .ok (.iload_n 2, 1) := by decide +kernel
theorem dX9_place_66 : decode cX9_place 66 = .ok (.ifCond .ne 7, 3) := by decide +kernel
theorem dX9_place_69 : decode cX9_place 69 = .ok (.iload_n 3, 1) := by decide +kernel
theorem dX9_place_70 : decode cX9_place 70 = .ok (.goto 10, 3) := by decide +kernel
theorem dX9_place_73 : decode cX9_place 73 = .ok (.iload_n 3, 1) := by decide +kernel
theorem dX9_place_74 : decode cX9_place 74 = .ok (.aload_n 0, 1) := by decide +kernel
theorem dX9_place_75 : decode cX9_place 75 = .ok (.iload_n 1, 1) := by decide +kernel
theorem dX9_place_76 : decode cX9_place 76 = .ok (.invokevirtual 164, 3) := by decide +kernel
theorem dX9_place_79 : decode cX9_place 79 = .ok (.iadd, 1) := by decide +kernel
theorem dX9_place_80 : decode cX9_place 80 = .ok (.ireturn, 1) := by decide +kernel
theorem dX9_point_0 : decode cX9_point 0 = .ok (.aload_n 0, 1) := by decide +kernel
theorem dX9_point_1 : decode cX9_point 1 = .ok (.iconst 0, 1) := by decide +kernel
theorem dX9_point_2 : decode cX9_point 2 = .ok (.putfield 65, 3) := by decide +kernel
theorem dX9_point_5 : decode cX9_point 5 = .ok (.aload_n 0, 1) := by decide +kernel
theorem dX9_point_6 : decode cX9_point 6 = .ok (.invokevirtual 158, 3) := by decide +kernel
theorem dX9_point_9 : decode cX9_point 9 = .ok (.aload_n 0, 1) := by decide +kernel
theorem dX9_point_10 : decode cX9_point 10 = .ok (.getfield 110, 3) := by decide +kernel
theorem dX9_point_13 : decode cX9_point 13 = .ok (.ifCond .eq 52, 3) := by decide +kernel
theorem dX9_point_16 : decode cX9_point 16 = .ok (.aload_n 0, 1) := by decide +kernel
theorem dX9_point_17 : decode cX9_point 17 = .ok (.iload_n 1, 1) := by decide +kernel
theorem dX9_point_18 : decode cX9_point 18 = .ok (.iload_n 2, 1) := by decide +kernel
theorem dX9_point_19 : decode cX9_point 19 = .ok (.invokevirtual 155, 3) := by decide +kernel
theorem dX9_point_22 : decode cX9_point 22 = .ok (.ifCond .eq 43, 3) := by decide +kernel
theorem dX9_point_25 : decode cX9_point 25 = .ok (.aload_n 0, 1) := by decide +kernel
theorem dX9_point_26 : decode cX9_point 26 = .ok (.iload_n 1, 1) := by decide +kernel
theorem dX9_point_27 : decode cX9_point 27 = .ok (.iload_n 2, 1) := by decide +kernel
theorem dX9_point_28 : decode cX9_point 28 = .ok (.invokevirtual 93, 3) := by decide +kernel
theorem dX9_point_31 : decode cX9_point 31 = .ok (.ifCond .ne 34, 3) := by decide +kernel
theorem dX9_point_34 : decode cX9_point 34 = .ok (.iload_n 3, 1) := by decide +kernel
theorem dX9_point_35 : decode cX9_point 35 = .ok (.aload_n 0, 1) := by decide +kernel
theorem dX9_point_36 : decode cX9_point 36 = .ok (.getfield 29, 3) := by decide +kernel
theorem dX9_point_39 : decode cX9_point 39 = .ok (.iload_n 1, 1) := by decide +kernel
theorem dX9_point_40 : decode cX9_point 40 = .ok (.iaload, 1) := by decide +kernel
theorem dX9_point_41 : decode cX9_point 41 = .ok (.if_icmp .lt 24, 3) := by decide +kernel
theorem dX9_point_44 : decode cX9_point 44 = .ok (.iload_n 3, 1) := by decide +kernel
theorem dX9_point_45 : decode cX9_point 45 = .ok (.aload_n 0, 1) := by decide +kernel
theorem dX9_point_46 : decode cX9_point 46 = .ok (.getfield 29, 3) := by decide +kernel
theorem dX9_point_49 : decode cX9_point 49 = .ok (.iload_n 2, 1) := by decide +kernel
theorem dX9_point_50 : decode cX9_point 50 = .ok (.iaload, 1) := by decide +kernel
theorem dX9_point_51 : decode cX9_point 51 = .ok (.if_icmp .gt 14, 3) := by decide +kernel
theorem dX9_point_54 : decode cX9_point 54 = .ok (.iload 4, 2) := by decide +kernel
theorem dX9_point_56 : decode cX9_point 56 = .ok (.ifCond .lt 9, 3) := by decide +kernel
theorem dX9_point_59 : decode cX9_point 59 = .ok (.iload 4, 2) := by decide +kernel
theorem dX9_point_61 : decode cX9_point 61 = .ok (.iconst 1, 1) := by decide +kernel
theorem dX9_point_62 : decode cX9_point 62 = .ok (.if_icmp .le 5, 3) := by decide +kernel
theorem dX9_point_65 : decode cX9_point 65 = .ok (.iconst (-1), 1) := by decide +kernel
theorem dX9_point_66 : decode cX9_point 66 = .ok (.ireturn, 1) := by decide +kernel
theorem dX9_point_67 : decode cX9_point 67 = .ok (.iload 4, 2) := by decide +kernel
theorem dX9_point_69 : decode cX9_point 69 = .ok (.ifCond .ne 13, 3) := by decide +kernel
theorem dX9_point_72 : decode cX9_point 72 = .ok (.iload_n 3, 1) := by decide +kernel
theorem dX9_point_73 : decode cX9_point 73 = .ok (.aload_n 0, 1) := by decide +kernel
theorem dX9_point_74 : decode cX9_point 74 = .ok (.getfield 29, 3) := by decide +kernel
theorem dX9_point_77 : decode cX9_point 77 = .ok (.iload_n 1, 1) := by decide +kernel
theorem dX9_point_78 : decode cX9_point 78 = .ok (.iaload, 1) := by decide +kernel
theorem dX9_point_79 : decode cX9_point 79 = .ok (.if_icmp .eq 19, 3) := by decide +kernel
theorem dX9_point_82 : decode cX9_point 82 = .ok (.iload 4, 2) := by decide +kernel
theorem dX9_point_84 : decode cX9_point 84 = .ok (.iconst 1, 1) := by decide +kernel
theorem dX9_point_85 : decode cX9_point 85 = .ok (.if_icmp .ne 15, 3) := by decide +kernel
theorem dX9_point_88 : decode cX9_point 88 = .ok (.iload_n 3, 1) := by decide +kernel
theorem dX9_point_89 : decode cX9_point 89 = .ok (.aload_n 0, 1) := by decide +kernel
theorem dX9_point_90 : decode cX9_point 90 = .ok (.getfield 29, 3) := by decide +kernel
theorem dX9_point_93 : decode cX9_point 93 = .ok (.iload_n 2, 1) := by decide +kernel
theorem dX9_point_94 : decode cX9_point 94 = .ok (.iaload, 1) := by decide +kernel
theorem dX9_point_95 : decode cX9_point 95 = .ok (.if_icmp .ne 5, 3) := by decide +kernel
theorem dX9_point_98 : decode cX9_point 98 = .ok (.iconst (-1), 1) := by decide +kernel
theorem dX9_point_99 : decode cX9_point 99 = .ok (.ireturn, 1) := by decide +kernel
theorem dX9_point_100 : decode cX9_point 100 = .ok (.aload_n 0, 1) := by decide +kernel
theorem dX9_point_101 : decode cX9_point 101 = .ok (.iload_n 3, 1) := by decide +kernel
theorem dX9_point_102 : decode cX9_point 102 = .ok (.aload_n 0, 1) := by decide +kernel
theorem dX9_point_103 : decode cX9_point 103 = .ok (.iload_n 1, 1) := by decide +kernel
theorem dX9_point_104 : decode cX9_point 104 = .ok (.iload_n 2, 1) := by decide +kernel
theorem dX9_point_105 : decode cX9_point 105 = .ok (.iload_n 3, 1) := by decide +kernel
theorem dX9_point_106 : decode cX9_point 106 = .ok (.invokevirtual 114, 3) := by decide +kernel
theorem dX9_point_109 : decode cX9_point 109 = .ok (.invokevirtual 118, 3) := by decide +kernel
theorem dX9_point_112 : decode cX9_point 112 = .ok (.istore 5, 2) := by decide +kernel
theorem dX9_point_114 : decode cX9_point 114 = .ok (.aload_n 0, 1) := by decide +kernel
theorem dX9_point_115 : decode cX9_point 115 = .ok (.iload_n 3, 1) := by decide +kernel
theorem dX9_point_116 : decode cX9_point 116 = .ok (.iload 5, 2) := by decide +kernel
theorem dX9_point_118 : decode cX9_point 118 = .ok (.invokevirtual 167, 3) := by decide +kernel
theorem dX9_point_121 : decode cX9_point 121 = .ok (.istore 6, 2) := by decide +kernel
theorem dX9_point_123 : decode cX9_point 123 = .ok (.iload 4, 2) := by decide +kernel
theorem dX9_point_125 : decode cX9_point 125 = .ok (.ifCond .ne 9, 3) := by decide +kernel
theorem dX9_point_128 : decode cX9_point 128 = .ok (.iload_n 3, 1) := by decide +kernel
theorem dX9_point_129 : decode cX9_point 129 = .ok (.iconst 1, 1) := by decide +kernel
theorem dX9_point_130 : decode cX9_point 130 = .ok (.isub, 1) := by decide +kernel
theorem dX9_point_131 : decode cX9_point 131 = .ok (.goto 6, 3) := by decide +kernel
theorem dX9_point_134 : decode cX9_point 134 = .ok (.iload_n 3, 1) := by decide +kernel
theorem dX9_point_135 : decode cX9_point 135 = .ok (.iconst 1, 1) := by decide +kernel
theorem dX9_point_136 : decode cX9_point 136 = .ok (.iadd, 1) := by decide +kernel
theorem dX9_point_137 : decode cX9_point 137 = .ok (.istore 7, 2) := by decide +kernel
theorem dX9_point_139 : decode cX9_point 139 = .ok (.aload_n 0, 1) := by decide +kernel
theorem dX9_point_140 : decode cX9_point 140 = .ok (.iload 7, 2) := by decide +kernel
theorem dX9_point_142 : decode cX9_point 142 = .ok (.aload_n 0, 1) := by decide +kernel
theorem dX9_point_143 : decode cX9_point 143 = .ok (.iload_n 1, 1) := by decide +kernel
theorem dX9_point_144 : decode cX9_point 144 = .ok (.iload_n 2, 1) := by decide +kernel
theorem dX9_point_145 : decode cX9_point 145 = .ok (.iload 7, 2) := by decide +kernel
theorem dX9_point_147 : decode cX9_point 147 = .ok (.invokevirtual 114, 3) := by decide +kernel
theorem dX9_point_150 : decode cX9_point 150 = .ok (.invokevirtual 118, 3) := by decide +kernel
theorem dX9_point_153 : decode cX9_point 153 = .ok (.istore 8, 2) := by decide +kernel
theorem dX9_point_155 : decode cX9_point 155 = .ok (.iload 4, 2) := by decide +kernel
theorem dX9_point_157 : decode cX9_point 157 = .ok (.ifCond .ne 9, 3) := by decide +kernel
theorem dX9_point_160 : decode cX9_point 160 = .ok (.iload_n 3, 1) := by decide +kernel
theorem dX9_point_161 : decode cX9_point 161 = .ok (.iconst 1, 1) := by decide +kernel
theorem dX9_point_162 : decode cX9_point 162 = .ok (.isub, 1) := by decide +kernel
theorem dX9_point_163 : decode cX9_point 163 = .ok (.goto 4, 3) := by decide +kernel
theorem dX9_point_166 : decode cX9_point 166 = .ok (.iload_n 3, 1) := by decide +kernel
theorem dX9_point_167 : decode cX9_point 167 = .ok (.istore 9, 2) := by decide +kernel
theorem dX9_point_169 : decode cX9_point 169 = .ok (.bipush 16, 2) := by decide +kernel
theorem dX9_point_171 : decode cX9_point 171 = .ok (.iload 9, 2) := by decide +kernel
theorem dX9_point_173 : decode cX9_point 173 = .ok (.imul, 1) := by decide +kernel
theorem dX9_point_174 : decode cX9_point 174 = .ok (.istore 10, 2) := by decide +kernel
theorem dX9_point_176 : decode cX9_point 176 = .ok (.iload 10, 2) := by decide +kernel
theorem dX9_point_178 : decode cX9_point 178 = .ok (.bipush 16, 2) := by decide +kernel
theorem dX9_point_180 : decode cX9_point 180 = .ok (.iload 9, 2) := by decide +kernel
theorem dX9_point_182 : decode cX9_point 182 = .ok (.imul, 1) := by decide +kernel
theorem dX9_point_183 : decode cX9_point 183 = .ok (.aload_n 0, 1) := by decide +kernel
theorem dX9_point_184 : decode cX9_point 184 = .ok (.getfield 41, 3) := by decide +kernel
theorem dX9_point_187 : decode cX9_point 187 = .ok (.iload 9, 2) := by decide +kernel
theorem dX9_point_189 : decode cX9_point 189 = .ok (.iaload, 1) := by decide +kernel
theorem dX9_point_190 : decode cX9_point 190 = .ok (.iadd, 1) := by decide +kernel
theorem dX9_point_191 : decode cX9_point 191 = .ok (.if_icmp .ge 109, 3) := by decide +kernel
theorem dX9_point_194 : decode cX9_point 194 = .ok (.iload 4, 2) := by decide +kernel
theorem dX9_point_196 : decode cX9_point 196 = .ok (.ifCond .ne 13, 3) := by decide +kernel
theorem dX9_point_199 : decode cX9_point 199 = .ok (.aload_n 0, 1) := by decide +kernel
theorem dX9_point_200 : decode cX9_point 200 = .ok (.getfield 47, 3) := by decide +kernel
theorem dX9_point_203 : decode cX9_point 203 = .ok (.iload 10, 2) := by decide +kernel
theorem dX9_point_205 : decode cX9_point 205 = .ok (.iaload, 1) := by decide +kernel
theorem dX9_point_206 : decode cX9_point 206 = .ok (.goto 10, 3) := by decide +kernel
theorem dX9_point_209 : decode cX9_point 209 = .ok (.aload_n 0, 1) := by decide +kernel
theorem dX9_point_210 : decode cX9_point 210 = .ok (.getfield 44, 3) := by decide +kernel
theorem dX9_point_213 : decode cX9_point 213 = .ok (.iload 10, 2) := by decide +kernel
theorem dX9_point_215 : decode cX9_point 215 = .ok (.iaload, 1) := by decide +kernel
theorem dX9_point_216 : decode cX9_point 216 = .ok (.istore 11, 2) := by decide +kernel
theorem dX9_point_218 : decode cX9_point 218 = .ok (.iload 4, 2) := by decide +kernel
theorem dX9_point_220 : decode cX9_point 220 = .ok (.ifCond .ne 13, 3) := by decide +kernel
theorem dX9_point_223 : decode cX9_point 223 = .ok (.aload_n 0, 1) := by decide +kernel
theorem dX9_point_224 : decode cX9_point 224 = .ok (.getfield 44, 3) := by decide +kernel
theorem dX9_point_227 : decode cX9_point 227 = .ok (.iload 10, 2) := by decide +kernel
theorem dX9_point_229 : decode cX9_point 229 = .ok (.iaload, 1) := by decide +kernel
theorem dX9_point_230 : decode cX9_point 230 = .ok (.goto 10, 3) := by decide +kernel
theorem dX9_point_233 : decode cX9_point 233 = .ok (.aload_n 0, 1) := by decide +kernel
theorem dX9_point_234 : decode cX9_point 234 = .ok (.getfield 47, 3) := by decide +kernel
theorem dX9_point_237 : decode cX9_point 237 = .ok (.iload 10, 2) := by decide +kernel
theorem dX9_point_239 : decode cX9_point 239 = .ok (.iaload, 1) := by decide +kernel
theorem dX9_point_240 : decode cX9_point 240 = .ok (.istore 12, 2) := by decide +kernel
theorem dX9_point_242 : decode cX9_point 242 = .ok (.iload 11, 2) := by decide +kernel
theorem dX9_point_244 : decode cX9_point 244 = .ok (.iload 5, 2) := by decide +kernel
theorem dX9_point_246 : decode cX9_point 246 = .ok (.if_icmp .ne 48, 3) := by decide +kernel
theorem dX9_point_249 : decode cX9_point 249 = .ok (.aload_n 0, 1) := by decide +kernel
theorem dX9_point_250 : decode cX9_point 250 = .ok (.iload 7, 2) := by decide +kernel
theorem dX9_point_252 : decode cX9_point 252 = .ok (.aload_n 0, 1) := by decide +kernel
theorem dX9_point_253 : decode cX9_point 253 = .ok (.getfield 62, 3) := by decide +kernel
theorem dX9_point_256 : decode cX9_point 256 = .ok (.iload 7, 2) := by decide +kernel
theorem dX9_point_258 : decode cX9_point 258 = .ok (.iaload, 1) := by decide +kernel
theorem dX9_point_259 : decode cX9_point 259 = .ok (.iload 12, 2) := by decide +kernel
theorem dX9_point_261 : decode cX9_point 261 = .ok (.invokevirtual 131, 3) := by decide +kernel
theorem dX9_point_264 : decode cX9_point 264 = .ok (.aload_n 0, 1) := by decide +kernel
theorem dX9_point_265 : decode cX9_point 265 = .ok (.iload 7, 2) := by decide +kernel
theorem dX9_point_267 : decode cX9_point 267 = .ok (.aload_n 0, 1) := by decide +kernel
theorem dX9_point_268 : decode cX9_point 268 = .ok (.getfield 62, 3) := by decide +kernel
theorem dX9_point_271 : decode cX9_point 271 = .ok (.iload 7, 2) := by decide +kernel
theorem dX9_point_273 : decode cX9_point 273 = .ok (.iaload, 1) := by decide +kernel
theorem dX9_point_274 : decode cX9_point 274 = .ok (.iload 8, 2) := by decide +kernel
theorem dX9_point_276 : decode cX9_point 276 = .ok (.invokevirtual 131, 3) := by decide +kernel
theorem dX9_point_279 : decode cX9_point 279 = .ok (.if_icmp .ge 15, 3) := by decide +kernel
theorem dX9_point_282 : decode cX9_point 282 = .ok (.iload 6, 2) := by decide +kernel
theorem dX9_point_284 : decode cX9_point 284 = .ok (.aload_n 0, 1) := by decide +kernel
theorem dX9_point_285 : decode cX9_point 285 = .ok (.getfield 50, 3) := by decide +kernel
theorem dX9_point_288 : decode cX9_point 288 = .ok (.iload 10, 2) := by decide +kernel
theorem dX9_point_290 : decode cX9_point 290 = .ok (.iaload, 1) := by decide +kernel
theorem dX9_point_291 : decode cX9_point 291 = .ok (.iadd, 1) := by decide +kernel
theorem dX9_point_292 : decode cX9_point 292 = .ok (.istore 6, 2) := by decide +kernel
theorem dX9_point_294 : decode cX9_point 294 = .ok (.iinc 10 1, 3) := by decide +kernel
theorem dX9_point_297 : decode cX9_point 297 = .ok (.goto (-121), 3) := by decide +kernel
theorem dX9_point_300 : decode cX9_point 300 = .ok (.iload 6, 2) := by decide +kernel
theorem dX9_point_302 : decode cX9_point 302 = .ok (.ireturn, 1) := by decide +kernel
theorem dX9_keep_0 : decode cX9_keep 0 = .ok (.aload_n 0, 1) := by decide +kernel
theorem dX9_keep_1 : decode cX9_keep 1 = .ok (.iconst 0, 1) := by decide +kernel
theorem dX9_keep_2 : decode cX9_keep 2 = .ok (.putfield 65, 3) := by decide +kernel
theorem dX9_keep_5 : decode cX9_keep 5 = .ok (.aload_n 0, 1) := by decide +kernel
theorem dX9_keep_6 : decode cX9_keep 6 = .ok (.invokevirtual 158, 3) := by decide +kernel
theorem dX9_keep_9 : decode cX9_keep 9 = .ok (.aload_n 0, 1) := by decide +kernel
theorem dX9_keep_10 : decode cX9_keep 10 = .ok (.getfield 110, 3) := by decide +kernel
theorem dX9_keep_13 : decode cX9_keep 13 = .ok (.ifCond .ne 5, 3) := by decide +kernel
theorem dX9_keep_16 : decode cX9_keep 16 = .ok (.iconst 0, 1) := by decide +kernel
theorem dX9_keep_17 : decode cX9_keep 17 = .ok (.ireturn, 1) := by decide +kernel
theorem dX9_keep_18 : decode cX9_keep 18 = .ok (.aload_n 0, 1) := by decide +kernel
theorem dX9_keep_19 : decode cX9_keep 19 = .ok (.iconst 1, 1) := by decide +kernel
theorem dX9_keep_20 : decode cX9_keep 20 = .ok (.putfield 152, 3) := by decide +kernel
theorem dX9_keep_23 : decode cX9_keep 23 = .ok (.iconst 0, 1) := by decide +kernel
theorem dX9_keep_24 : decode cX9_keep 24 = .ok (.istore_n 1, 1) := by decide +kernel
theorem dX9_keep_25 : decode cX9_keep 25 = .ok (.iload_n 1, 1) := by decide +kernel
theorem dX9_keep_26 : decode cX9_keep 26 = .ok (.bipush 10, 2) := by decide +kernel
theorem dX9_keep_28 : decode cX9_keep 28 = .ok (.if_icmp .ge 79, 3) := by decide +kernel
theorem dX9_keep_31 : decode cX9_keep 31 = .ok (.aload_n 0, 1) := by decide +kernel
theorem dX9_keep_32 : decode cX9_keep 32 = .ok (.getfield 17, 3) := by decide +kernel
theorem dX9_keep_35 : decode cX9_keep 35 = .ok (.iload_n 1, 1) := by decide +kernel
theorem dX9_keep_36 : decode cX9_keep 36 = .ok (.aload_n 0, 1) := by decide +kernel
theorem dX9_keep_37 : decode cX9_keep 37 = .ok (.iload_n 1, 1) := by decide +kernel
theorem dX9_keep_38 : decode cX9_keep 38 = .ok (.invokevirtual 100, 3) := by decide +kernel
theorem dX9_keep_41 : decode cX9_keep 41 = .ok (.ifCond .eq 12, 3) := by decide +kernel
theorem dX9_keep_44 : decode cX9_keep 44 = .ok (.aload_n 0, 1) := by decide +kernel
theorem dX9_keep_45 : decode cX9_keep 45 = .ok (.getfield 29, 3) := by decide +kernel
theorem dX9_keep_48 : decode cX9_keep 48 = .ok (.iload_n 1, 1) := by decide +kernel
theorem dX9_keep_49 : decode cX9_keep 49 = .ok (.iaload, 1) := by decide +kernel
theorem dX9_keep_50 : decode cX9_keep 50 = .ok (.goto 4, 3) := by decide +kernel
theorem dX9_keep_53 : decode cX9_keep 53 = .ok (.iconst (-1), 1) := by decide +kernel
theorem dX9_keep_54 : decode cX9_keep 54 = .ok (.iastore, 1) := by decide +kernel
theorem dX9_keep_55 : decode cX9_keep 55 = .ok (.aload_n 0, 1) := by decide +kernel
theorem dX9_keep_56 : decode cX9_keep 56 = .ok (.iload_n 1, 1) := by decide +kernel
theorem dX9_keep_57 : decode cX9_keep 57 = .ok (.invokevirtual 100, 3) := by decide +kernel
theorem dX9_keep_60 : decode cX9_keep 60 = .ok (.ifCond .eq 41, 3) := by decide +kernel
theorem dX9_keep_63 : decode cX9_keep 63 = .ok (.aload_n 0, 1) := by decide +kernel
theorem dX9_keep_64 : decode cX9_keep 64 = .ok (.getfield 20, 3) := by decide +kernel
theorem dX9_keep_67 : decode cX9_keep 67 = .ok (.iload_n 1, 1) := by decide +kernel
theorem dX9_keep_68 : decode cX9_keep 68 = .ok (.aload_n 0, 1) := by decide +kernel
theorem dX9_keep_69 : decode cX9_keep 69 = .ok (.aload_n 0, 1) := by decide +kernel
theorem dX9_keep_70 : decode cX9_keep 70 = .ok (.getfield 29, 3) := by decide +kernel
theorem dX9_keep_73 : decode cX9_keep 73 = .ok (.iload_n 1, 1) := by decide +kernel
theorem dX9_keep_74 : decode cX9_keep 74 = .ok (.iaload, 1) := by decide +kernel
theorem dX9_keep_75 : decode cX9_keep 75 = .ok (.aload_n 0, 1) := by decide +kernel
theorem dX9_keep_76 : decode cX9_keep 76 = .ok (.getfield 62, 3) := by decide +kernel
theorem dX9_keep_79 : decode cX9_keep 79 = .ok (.aload_n 0, 1) := by decide +kernel
theorem dX9_keep_80 : decode cX9_keep 80 = .ok (.getfield 29, 3) := by decide +kernel
theorem dX9_keep_83 : decode cX9_keep 83 = .ok (.iload_n 1, 1) := by decide +kernel
theorem dX9_keep_84 : decode cX9_keep 84 = .ok (.iaload, 1) := by decide +kernel
theorem dX9_keep_85 : decode cX9_keep 85 = .ok (.iaload, 1) := by decide +kernel
theorem dX9_keep_86 : decode cX9_keep 86 = .ok (.aload_n 0, 1) := by decide +kernel
theorem dX9_keep_87 : decode cX9_keep 87 = .ok (.aload_n 0, 1) := by decide +kernel
theorem dX9_keep_88 : decode cX9_keep 88 = .ok (.getfield 29, 3) := by decide +kernel
theorem dX9_keep_91 : decode cX9_keep 91 = .ok (.iload_n 1, 1) := by decide +kernel
theorem dX9_keep_92 : decode cX9_keep 92 = .ok (.iaload, 1) := by decide +kernel
theorem dX9_keep_93 : decode cX9_keep 93 = .ok (.iload_n 1, 1) := by decide +kernel
theorem dX9_keep_94 : decode cX9_keep 94 = .ok (.invokevirtual 118, 3) := by decide +kernel
theorem dX9_keep_97 : decode cX9_keep 97 = .ok (.invokevirtual 131, 3) := by decide +kernel
theorem dX9_keep_100 : decode cX9_keep 100 = .ok (.iastore, 1) := by decide +kernel
theorem dX9_keep_101 : decode cX9_keep 101 = .ok (.iinc 1 1, 3) := by decide +kernel
theorem dX9_keep_104 : decode cX9_keep 104 = .ok (.goto (-79), 3) := by decide +kernel
theorem dX9_keep_107 : decode cX9_keep 107 = .ok (.iconst 1, 1) := by decide +kernel
theorem dX9_keep_108 : decode cX9_keep 108 = .ok (.ireturn, 1) := by decide +kernel
theorem dX9_forget_0 : decode cX9_forget 0 = .ok (.aload_n 0, 1) := by decide +kernel
theorem dX9_forget_1 : decode cX9_forget 1 = .ok (.iconst 0, 1) := by decide +kernel
theorem dX9_forget_2 : decode cX9_forget 2 = .ok (.putfield 65, 3) := by decide +kernel
theorem dX9_forget_5 : decode cX9_forget 5 = .ok (.aload_n 0, 1) := by decide +kernel
theorem dX9_forget_6 : decode cX9_forget 6 = .ok (.iconst 0, 1) := by decide +kernel
theorem dX9_forget_7 : decode cX9_forget 7 = .ok (.putfield 152, 3) := by decide +kernel
theorem dX9_forget_10 : decode cX9_forget 10 = .ok (.iconst 0, 1) := by decide +kernel
theorem dX9_forget_11 : decode cX9_forget 11 = .ok (.istore_n 1, 1) := by decide +kernel
theorem dX9_forget_12 : decode cX9_forget 12 = .ok (.iload_n 1, 1) := by decide +kernel
theorem dX9_forget_13 : decode cX9_forget 13 = .ok (.bipush 10, 2) := by decide +kernel
theorem dX9_forget_15 : decode cX9_forget 15 = .ok (.if_icmp .ge 16, 3) := by decide +kernel
theorem dX9_forget_18 : decode cX9_forget 18 = .ok (.aload_n 0, 1) := by decide +kernel
theorem dX9_forget_19 : decode cX9_forget 19 = .ok (.getfield 17, 3) := by decide +kernel
theorem dX9_forget_22 : decode cX9_forget 22 = .ok (.iload_n 1, 1) := by decide +kernel
theorem dX9_forget_23 : decode cX9_forget 23 = .ok (.iconst (-1), 1) := by decide +kernel
theorem dX9_forget_24 : decode cX9_forget 24 = .ok (.iastore, 1) := by decide +kernel
theorem dX9_forget_25 : decode cX9_forget 25 = .ok (.iinc 1 1, 3) := by decide +kernel
theorem dX9_forget_28 : decode cX9_forget 28 = .ok (.goto (-16), 3) := by decide +kernel
theorem dX9_forget_31 : decode cX9_forget 31 = .ok (.return_, 1) := by decide +kernel
theorem dX9_orders_0 : decode cX9_orders 0 = .ok (.aload_n 0, 1) := by decide +kernel
theorem dX9_orders_1 : decode cX9_orders 1 = .ok (.iconst 0, 1) := by decide +kernel
theorem dX9_orders_2 : decode cX9_orders 2 = .ok (.putfield 65, 3) := by decide +kernel
theorem dX9_orders_5 : decode cX9_orders 5 = .ok (.aload_n 0, 1) := by decide +kernel
theorem dX9_orders_6 : decode cX9_orders 6 = .ok (.invokevirtual 158, 3) := by decide +kernel
theorem dX9_orders_9 : decode cX9_orders 9 = .ok (.aload_n 0, 1) := by decide +kernel
theorem dX9_orders_10 : decode cX9_orders 10 = .ok (.getfield 110, 3) := by decide +kernel
theorem dX9_orders_13 : decode cX9_orders 13 = .ok (.ifCond .eq 10, 3) := by decide +kernel
theorem dX9_orders_16 : decode cX9_orders 16 = .ok (.aload_n 0, 1) := by decide +kernel
theorem dX9_orders_17 : decode cX9_orders 17 = .ok (.getfield 143, 3) := by decide +kernel
theorem dX9_orders_20 : decode cX9_orders 20 = .ok (.goto 4, 3) := by decide +kernel
theorem dX9_orders_23 : decode cX9_orders 23 = .ok (.iconst (-1), 1) := by decide +kernel
theorem dX9_orders_24 : decode cX9_orders 24 = .ok (.ireturn, 1) := by decide +kernel
theorem dJ9_max_7cf53_0 : decode cJ9_max_7cf53 0 = .ok (.iload_n 0, 1) := by decide +kernel
theorem dJ9_max_7cf53_1 : decode cJ9_max_7cf53 1 = .ok (.iload_n 1, 1) := by decide +kernel
theorem dJ9_max_7cf53_2 : decode cJ9_max_7cf53 2 = .ok (.if_icmp .lt 7, 3) := by decide +kernel
theorem dJ9_max_7cf53_5 : decode cJ9_max_7cf53 5 = .ok (.iload_n 0, 1) := by decide +kernel
theorem dJ9_max_7cf53_6 : decode cJ9_max_7cf53 6 = .ok (.goto 4, 3) := by decide +kernel
theorem dJ9_max_7cf53_9 : decode cJ9_max_7cf53 9 = .ok (.iload_n 1, 1) := by decide +kernel
theorem dJ9_max_7cf53_10 : decode cJ9_max_7cf53 10 = .ok (.ireturn, 1) := by decide +kernel
theorem dJ9_min_7cf53_0 : decode cJ9_min_7cf53 0 = .ok (.iload_n 0, 1) := by decide +kernel
theorem dJ9_min_7cf53_1 : decode cJ9_min_7cf53 1 = .ok (.iload_n 1, 1) := by decide +kernel
theorem dJ9_min_7cf53_2 : decode cJ9_min_7cf53 2 = .ok (.if_icmp .gt 7, 3) := by decide +kernel
theorem dJ9_min_7cf53_5 : decode cJ9_min_7cf53 5 = .ok (.iload_n 0, 1) := by decide +kernel
theorem dJ9_min_7cf53_6 : decode cJ9_min_7cf53 6 = .ok (.goto 4, 3) := by decide +kernel
theorem dJ9_min_7cf53_9 : decode cJ9_min_7cf53 9 = .ok (.iload_n 1, 1) := by decide +kernel
theorem dJ9_min_7cf53_10 : decode cJ9_min_7cf53 10 = .ok (.ireturn, 1) := by decide +kernel
theorem dJ7_fill_53178_0 : decode cJ7_fill_53178 0 = .ok (.iconst 0, 1) := by decide +kernel
theorem dJ7_fill_53178_1 : decode cJ7_fill_53178 1 = .ok (.istore_n 2, 1) := by decide +kernel
theorem dJ7_fill_53178_2 : decode cJ7_fill_53178 2 = .ok (.aload_n 0, 1) := by decide +kernel
theorem dJ7_fill_53178_3 : decode cJ7_fill_53178 3 = .ok (.arraylength, 1) := by decide +kernel
theorem dJ7_fill_53178_4 : decode cJ7_fill_53178 4 = .ok (.istore_n 3, 1) := by decide +kernel
theorem dJ7_fill_53178_5 : decode cJ7_fill_53178 5 = .ok (.iload_n 2, 1) := by decide +kernel
theorem dJ7_fill_53178_6 : decode cJ7_fill_53178 6 = .ok (.iload_n 3, 1) := by decide +kernel
theorem dJ7_fill_53178_7 : decode cJ7_fill_53178 7 = .ok (.if_icmp .ge 13, 3) := by decide +kernel
theorem dJ7_fill_53178_10 : decode cJ7_fill_53178 10 = .ok (.aload_n 0, 1) := by decide +kernel
theorem dJ7_fill_53178_11 : decode cJ7_fill_53178 11 = .ok (.iload_n 2, 1) := by decide +kernel
theorem dJ7_fill_53178_12 : decode cJ7_fill_53178 12 = .ok (.iload_n 1, 1) := by decide +kernel
theorem dJ7_fill_53178_13 : decode cJ7_fill_53178 13 = .ok (.iastore, 1) := by decide +kernel
theorem dJ7_fill_53178_14 : decode cJ7_fill_53178 14 = .ok (.iinc 2 1, 3) := by decide +kernel
theorem dJ7_fill_53178_17 : decode cJ7_fill_53178 17 = .ok (.goto (-12), 3) := by decide +kernel
theorem dJ7_fill_53178_20 : decode cJ7_fill_53178 20 = .ok (.return_, 1) := by decide +kernel
theorem dL_law_0 : decode cL_law 0 = .ok (.new 7, 3) := by decide +kernel
theorem dL_law_3 : decode cL_law 3 = .ok (.dup, 1) := by decide +kernel
theorem dL_law_4 : decode cL_law 4 = .ok (.invokespecial 9, 3) := by decide +kernel
theorem dL_law_7 : decode cL_law 7 = .ok (.astore_n 1, 1) := by decide +kernel
theorem dL_law_8 : decode cL_law 8 = .ok (.new 10, 3) := by decide +kernel
theorem dL_law_11 : decode cL_law 11 = .ok (.dup, 1) := by decide +kernel
theorem dL_law_12 : decode cL_law 12 = .ok (.invokespecial 12, 3) := by decide +kernel
theorem dL_law_15 : decode cL_law 15 = .ok (.astore_n 2, 1) := by decide +kernel
theorem dL_law_16 : decode cL_law 16 = .ok (.iconst 0, 1) := by decide +kernel
theorem dL_law_17 : decode cL_law 17 = .ok (.istore_n 3, 1) := by decide +kernel
theorem dL_law_18 : decode cL_law 18 = .ok (.iload_n 3, 1) := by decide +kernel
theorem dL_law_19 : decode cL_law 19 = .ok (.aload_n 0, 1) := by decide +kernel
theorem dL_law_20 : decode cL_law 20 = .ok (.arraylength, 1) := by decide +kernel
theorem dL_law_21 : decode cL_law 21 = .ok (.iconst 5, 1) := by decide +kernel
theorem dL_law_22 : decode cL_law 22 = .ok (.isub, 1) := by decide +kernel
theorem dL_law_23 : decode cL_law 23 = .ok (.if_icmp .gt 563, 3) := by decide +kernel
theorem dL_law_26 : decode cL_law 26 = .ok (.aload_n 0, 1) := by decide +kernel
theorem dL_law_27 : decode cL_law 27 = .ok (.iload_n 3, 1) := by decide +kernel
theorem dL_law_28 : decode cL_law 28 = .ok (.iaload, 1) := by decide +kernel
theorem dL_law_29 : decode cL_law 29 = .ok (.bipush 31, 2) := by decide +kernel
theorem dL_law_31 : decode cL_law 31 = .ok (.iand, 1) := by decide +kernel
theorem dL_law_32 : decode cL_law 32 = .ok (.tableswitch 548 0 17 #[88, 131, 142, 175, 198, 231, 264, 287, 310, 333, 346, 369, 392, 425, 458, 511, 524, 535], 88) := by decide +kernel
theorem dL_law_120 : decode cL_law 120 = .ok (.aload_n 1, 1) := by decide +kernel
theorem dL_law_121 : decode cL_law 121 = .ok (.aload_n 0, 1) := by decide +kernel
theorem dL_law_122 : decode cL_law 122 = .ok (.iload_n 3, 1) := by decide +kernel
theorem dL_law_123 : decode cL_law 123 = .ok (.iconst 1, 1) := by decide +kernel
theorem dL_law_124 : decode cL_law 124 = .ok (.iadd, 1) := by decide +kernel
theorem dL_law_125 : decode cL_law 125 = .ok (.iaload, 1) := by decide +kernel
theorem dL_law_126 : decode cL_law 126 = .ok (.aload_n 0, 1) := by decide +kernel
theorem dL_law_127 : decode cL_law 127 = .ok (.iload_n 3, 1) := by decide +kernel
theorem dL_law_128 : decode cL_law 128 = .ok (.iconst 2, 1) := by decide +kernel
theorem dL_law_129 : decode cL_law 129 = .ok (.iadd, 1) := by decide +kernel
theorem dL_law_130 : decode cL_law 130 = .ok (.iaload, 1) := by decide +kernel
theorem dL_law_131 : decode cL_law 131 = .ok (.aload_n 0, 1) := by decide +kernel
theorem dL_law_132 : decode cL_law 132 = .ok (.iload_n 3, 1) := by decide +kernel
theorem dL_law_133 : decode cL_law 133 = .ok (.iconst 3, 1) := by decide +kernel
theorem dL_law_134 : decode cL_law 134 = .ok (.iadd, 1) := by decide +kernel
theorem dL_law_135 : decode cL_law 135 = .ok (.iaload, 1) := by decide +kernel
theorem dL_law_136 : decode cL_law 136 = .ok (.invokevirtual 13, 3) := by decide +kernel
theorem dL_law_139 : decode cL_law 139 = .ok (.aload_n 2, 1) := by decide +kernel
theorem dL_law_140 : decode cL_law 140 = .ok (.aload_n 0, 1) := by decide +kernel
theorem dL_law_141 : decode cL_law 141 = .ok (.iload_n 3, 1) := by decide +kernel
theorem dL_law_142 : decode cL_law 142 = .ok (.iconst 1, 1) := by decide +kernel
theorem dL_law_143 : decode cL_law 143 = .ok (.iadd, 1) := by decide +kernel
theorem dL_law_144 : decode cL_law 144 = .ok (.iaload, 1) := by decide +kernel
theorem dL_law_145 : decode cL_law 145 = .ok (.aload_n 0, 1) := by decide +kernel
theorem dL_law_146 : decode cL_law 146 = .ok (.iload_n 3, 1) := by decide +kernel
theorem dL_law_147 : decode cL_law 147 = .ok (.iconst 2, 1) := by decide +kernel
theorem dL_law_148 : decode cL_law 148 = .ok (.iadd, 1) := by decide +kernel
theorem dL_law_149 : decode cL_law 149 = .ok (.iaload, 1) := by decide +kernel
theorem dL_law_150 : decode cL_law 150 = .ok (.aload_n 0, 1) := by decide +kernel
theorem dL_law_151 : decode cL_law 151 = .ok (.iload_n 3, 1) := by decide +kernel
theorem dL_law_152 : decode cL_law 152 = .ok (.iconst 3, 1) := by decide +kernel
theorem dL_law_153 : decode cL_law 153 = .ok (.iadd, 1) := by decide +kernel
theorem dL_law_154 : decode cL_law 154 = .ok (.iaload, 1) := by decide +kernel
theorem dL_law_155 : decode cL_law 155 = .ok (.invokevirtual 17, 3) := by decide +kernel
theorem dL_law_158 : decode cL_law 158 = .ok (.if_icmp .eq 422, 3) := by decide +kernel
theorem dL_law_161 : decode cL_law 161 = .ok (.iconst 0, 1) := by decide +kernel
theorem dL_law_162 : decode cL_law 162 = .ok (.ireturn, 1) := by decide +kernel
theorem dL_law_163 : decode cL_law 163 = .ok (.aload_n 1, 1) := by decide +kernel
theorem dL_law_164 : decode cL_law 164 = .ok (.invokevirtual 18, 3) := by decide +kernel
theorem dL_law_167 : decode cL_law 167 = .ok (.aload_n 2, 1) := by decide +kernel
theorem dL_law_168 : decode cL_law 168 = .ok (.invokevirtual 21, 3) := by decide +kernel
theorem dL_law_171 : decode cL_law 171 = .ok (.goto 409, 3) := by decide +kernel
theorem dL_law_174 : decode cL_law 174 = .ok (.aload_n 1, 1) := by decide +kernel
theorem dL_law_175 : decode cL_law 175 = .ok (.aload_n 0, 1) := by decide +kernel
theorem dL_law_176 : decode cL_law 176 = .ok (.iload_n 3, 1) := by decide +kernel
theorem dL_law_177 : decode cL_law 177 = .ok (.iconst 1, 1) := by decide +kernel
theorem dL_law_178 : decode cL_law 178 = .ok (.iadd, 1) := by decide +kernel
theorem dL_law_179 : decode cL_law 179 = .ok (.iaload, 1) := by decide +kernel
theorem dL_law_180 : decode cL_law 180 = .ok (.aload_n 0, 1) := by decide +kernel
theorem dL_law_181 : decode cL_law 181 = .ok (.iload_n 3, 1) := by decide +kernel
theorem dL_law_182 : decode cL_law 182 = .ok (.iconst 2, 1) := by decide +kernel
theorem dL_law_183 : decode cL_law 183 = .ok (.iadd, 1) := by decide +kernel
theorem dL_law_184 : decode cL_law 184 = .ok (.iaload, 1) := by decide +kernel
theorem dL_law_185 : decode cL_law 185 = .ok (.invokevirtual 22, 3) := by decide +kernel
theorem dL_law_188 : decode cL_law 188 = .ok (.aload_n 2, 1) := by decide +kernel
theorem dL_law_189 : decode cL_law 189 = .ok (.aload_n 0, 1) := by decide +kernel
theorem dL_law_190 : decode cL_law 190 = .ok (.iload_n 3, 1) := by decide +kernel
theorem dL_law_191 : decode cL_law 191 = .ok (.iconst 1, 1) := by decide +kernel
theorem dL_law_192 : decode cL_law 192 = .ok (.iadd, 1) := by decide +kernel
theorem dL_law_193 : decode cL_law 193 = .ok (.iaload, 1) := by decide +kernel
theorem dL_law_194 : decode cL_law 194 = .ok (.aload_n 0, 1) := by decide +kernel
theorem dL_law_195 : decode cL_law 195 = .ok (.iload_n 3, 1) := by decide +kernel
theorem dL_law_196 : decode cL_law 196 = .ok (.iconst 2, 1) := by decide +kernel
theorem dL_law_197 : decode cL_law 197 = .ok (.iadd, 1) := by decide +kernel
theorem dL_law_198 : decode cL_law 198 = .ok (.iaload, 1) := by decide +kernel
theorem dL_law_199 : decode cL_law 199 = .ok (.invokevirtual 26, 3) := by decide +kernel
theorem dL_law_202 : decode cL_law 202 = .ok (.if_icmp .eq 378, 3) := by decide +kernel
theorem dL_law_205 : decode cL_law 205 = .ok (.iconst 0, 1) := by decide +kernel
theorem dL_law_206 : decode cL_law 206 = .ok (.ireturn, 1) := by decide +kernel
theorem dL_law_207 : decode cL_law 207 = .ok (.aload_n 1, 1) := by decide +kernel
theorem dL_law_208 : decode cL_law 208 = .ok (.aload_n 0, 1) := by decide +kernel
theorem dL_law_209 : decode cL_law 209 = .ok (.iload_n 3, 1) := by decide +kernel
theorem dL_law_210 : decode cL_law 210 = .ok (.iconst 1, 1) := by decide +kernel
theorem dL_law_211 : decode cL_law 211 = .ok (.iadd, 1) := by decide +kernel
theorem dL_law_212 : decode cL_law 212 = .ok (.iaload, 1) := by decide +kernel
theorem dL_law_213 : decode cL_law 213 = .ok (.invokevirtual 27, 3) := by decide +kernel
theorem dL_law_216 : decode cL_law 216 = .ok (.aload_n 2, 1) := by decide +kernel
theorem dL_law_217 : decode cL_law 217 = .ok (.aload_n 0, 1) := by decide +kernel
theorem dL_law_218 : decode cL_law 218 = .ok (.iload_n 3, 1) := by decide +kernel
theorem dL_law_219 : decode cL_law 219 = .ok (.iconst 1, 1) := by decide +kernel
theorem dL_law_220 : decode cL_law 220 = .ok (.iadd, 1) := by decide +kernel
theorem dL_law_221 : decode cL_law 221 = .ok (.iaload, 1) := by decide +kernel
theorem dL_law_222 : decode cL_law 222 = .ok (.invokevirtual 31, 3) := by decide +kernel
theorem dL_law_225 : decode cL_law 225 = .ok (.if_icmp .eq 355, 3) := by decide +kernel
theorem dL_law_228 : decode cL_law 228 = .ok (.iconst 0, 1) := by decide +kernel
theorem dL_law_229 : decode cL_law 229 = .ok (.ireturn, 1) := by decide +kernel
theorem dL_law_230 : decode cL_law 230 = .ok (.aload_n 1, 1) := by decide +kernel
theorem dL_law_231 : decode cL_law 231 = .ok (.aload_n 0, 1) := by decide +kernel
theorem dL_law_232 : decode cL_law 232 = .ok (.iload_n 3, 1) := by decide +kernel
theorem dL_law_233 : decode cL_law 233 = .ok (.iconst 1, 1) := by decide +kernel
theorem dL_law_234 : decode cL_law 234 = .ok (.iadd, 1) := by decide +kernel
theorem dL_law_235 : decode cL_law 235 = .ok (.iaload, 1) := by decide +kernel
theorem dL_law_236 : decode cL_law 236 = .ok (.aload_n 0, 1) := by decide +kernel
theorem dL_law_237 : decode cL_law 237 = .ok (.iload_n 3, 1) := by decide +kernel
theorem dL_law_238 : decode cL_law 238 = .ok (.iconst 2, 1) := by decide +kernel
theorem dL_law_239 : decode cL_law 239 = .ok (.iadd, 1) := by decide +kernel
theorem dL_law_240 : decode cL_law 240 = .ok (.iaload, 1) := by decide +kernel
theorem dL_law_241 : decode cL_law 241 = .ok (.invokevirtual 32, 3) := by decide +kernel
theorem dL_law_244 : decode cL_law 244 = .ok (.aload_n 2, 1) := by decide +kernel
theorem dL_law_245 : decode cL_law 245 = .ok (.aload_n 0, 1) := by decide +kernel
theorem dL_law_246 : decode cL_law 246 = .ok (.iload_n 3, 1) := by decide +kernel
theorem dL_law_247 : decode cL_law 247 = .ok (.iconst 1, 1) := by decide +kernel
theorem dL_law_248 : decode cL_law 248 = .ok (.iadd, 1) := by decide +kernel
theorem dL_law_249 : decode cL_law 249 = .ok (.iaload, 1) := by decide +kernel
theorem dL_law_250 : decode cL_law 250 = .ok (.aload_n 0, 1) := by decide +kernel
theorem dL_law_251 : decode cL_law 251 = .ok (.iload_n 3, 1) := by decide +kernel
theorem dL_law_252 : decode cL_law 252 = .ok (.iconst 2, 1) := by decide +kernel
theorem dL_law_253 : decode cL_law 253 = .ok (.iadd, 1) := by decide +kernel
theorem dL_law_254 : decode cL_law 254 = .ok (.iaload, 1) := by decide +kernel
theorem dL_law_255 : decode cL_law 255 = .ok (.invokevirtual 36, 3) := by decide +kernel
theorem dL_law_258 : decode cL_law 258 = .ok (.if_icmp .eq 322, 3) := by decide +kernel
theorem dL_law_261 : decode cL_law 261 = .ok (.iconst 0, 1) := by decide +kernel
theorem dL_law_262 : decode cL_law 262 = .ok (.ireturn, 1) := by decide +kernel
theorem dL_law_263 : decode cL_law 263 = .ok (.aload_n 1, 1) := by decide +kernel
theorem dL_law_264 : decode cL_law 264 = .ok (.aload_n 0, 1) := by decide +kernel
theorem dL_law_265 : decode cL_law 265 = .ok (.iload_n 3, 1) := by decide +kernel
theorem dL_law_266 : decode cL_law 266 = .ok (.iconst 1, 1) := by decide +kernel
theorem dL_law_267 : decode cL_law 267 = .ok (.iadd, 1) := by decide +kernel
theorem dL_law_268 : decode cL_law 268 = .ok (.iaload, 1) := by decide +kernel
theorem dL_law_269 : decode cL_law 269 = .ok (.aload_n 0, 1) := by decide +kernel
theorem dL_law_270 : decode cL_law 270 = .ok (.iload_n 3, 1) := by decide +kernel
theorem dL_law_271 : decode cL_law 271 = .ok (.iconst 2, 1) := by decide +kernel
theorem dL_law_272 : decode cL_law 272 = .ok (.iadd, 1) := by decide +kernel
theorem dL_law_273 : decode cL_law 273 = .ok (.iaload, 1) := by decide +kernel
theorem dL_law_274 : decode cL_law 274 = .ok (.invokevirtual 37, 3) := by decide +kernel
theorem dL_law_277 : decode cL_law 277 = .ok (.aload_n 2, 1) := by decide +kernel
theorem dL_law_278 : decode cL_law 278 = .ok (.aload_n 0, 1) := by decide +kernel
theorem dL_law_279 : decode cL_law 279 = .ok (.iload_n 3, 1) := by decide +kernel
theorem dL_law_280 : decode cL_law 280 = .ok (.iconst 1, 1) := by decide +kernel
theorem dL_law_281 : decode cL_law 281 = .ok (.iadd, 1) := by decide +kernel
theorem dL_law_282 : decode cL_law 282 = .ok (.iaload, 1) := by decide +kernel
theorem dL_law_283 : decode cL_law 283 = .ok (.aload_n 0, 1) := by decide +kernel
theorem dL_law_284 : decode cL_law 284 = .ok (.iload_n 3, 1) := by decide +kernel
theorem dL_law_285 : decode cL_law 285 = .ok (.iconst 2, 1) := by decide +kernel
theorem dL_law_286 : decode cL_law 286 = .ok (.iadd, 1) := by decide +kernel
theorem dL_law_287 : decode cL_law 287 = .ok (.iaload, 1) := by decide +kernel
theorem dL_law_288 : decode cL_law 288 = .ok (.invokevirtual 40, 3) := by decide +kernel
theorem dL_law_291 : decode cL_law 291 = .ok (.if_icmp .eq 289, 3) := by decide +kernel
theorem dL_law_294 : decode cL_law 294 = .ok (.iconst 0, 1) := by decide +kernel
theorem dL_law_295 : decode cL_law 295 = .ok (.ireturn, 1) := by decide +kernel
theorem dL_law_296 : decode cL_law 296 = .ok (.aload_n 1, 1) := by decide +kernel
theorem dL_law_297 : decode cL_law 297 = .ok (.aload_n 0, 1) := by decide +kernel
theorem dL_law_298 : decode cL_law 298 = .ok (.iload_n 3, 1) := by decide +kernel
theorem dL_law_299 : decode cL_law 299 = .ok (.iconst 1, 1) := by decide +kernel
theorem dL_law_300 : decode cL_law 300 = .ok (.iadd, 1) := by decide +kernel
theorem dL_law_301 : decode cL_law 301 = .ok (.iaload, 1) := by decide +kernel
theorem dL_law_302 : decode cL_law 302 = .ok (.invokevirtual 41, 3) := by decide +kernel
theorem dL_law_305 : decode cL_law 305 = .ok (.aload_n 2, 1) := by decide +kernel
theorem dL_law_306 : decode cL_law 306 = .ok (.aload_n 0, 1) := by decide +kernel
theorem dL_law_307 : decode cL_law 307 = .ok (.iload_n 3, 1) := by decide +kernel
theorem dL_law_308 : decode cL_law 308 = .ok (.iconst 1, 1) := by decide +kernel
theorem dL_law_309 : decode cL_law 309 = .ok (.iadd, 1) := by decide +kernel
theorem dL_law_310 : decode cL_law 310 = .ok (.iaload, 1) := by decide +kernel
theorem dL_law_311 : decode cL_law 311 = .ok (.invokevirtual 44, 3) := by decide +kernel
theorem dL_law_314 : decode cL_law 314 = .ok (.if_icmp .eq 266, 3) := by decide +kernel
theorem dL_law_317 : decode cL_law 317 = .ok (.iconst 0, 1) := by decide +kernel
theorem dL_law_318 : decode cL_law 318 = .ok (.ireturn, 1) := by decide +kernel
theorem dL_law_319 : decode cL_law 319 = .ok (.aload_n 1, 1) := by decide +kernel
theorem dL_law_320 : decode cL_law 320 = .ok (.aload_n 0, 1) := by decide +kernel
theorem dL_law_321 : decode cL_law 321 = .ok (.iload_n 3, 1) := by decide +kernel
theorem dL_law_322 : decode cL_law 322 = .ok (.iconst 1, 1) := by decide +kernel
theorem dL_law_323 : decode cL_law 323 = .ok (.iadd, 1) := by decide +kernel
theorem dL_law_324 : decode cL_law 324 = .ok (.iaload, 1) := by decide +kernel
theorem dL_law_325 : decode cL_law 325 = .ok (.invokevirtual 45, 3) := by decide +kernel
theorem dL_law_328 : decode cL_law 328 = .ok (.aload_n 2, 1) := by decide +kernel
theorem dL_law_329 : decode cL_law 329 = .ok (.aload_n 0, 1) := by decide +kernel
theorem dL_law_330 : decode cL_law 330 = .ok (.iload_n 3, 1) := by decide +kernel
theorem dL_law_331 : decode cL_law 331 = .ok (.iconst 1, 1) := by decide +kernel
theorem dL_law_332 : decode cL_law 332 = .ok (.iadd, 1) := by decide +kernel
theorem dL_law_333 : decode cL_law 333 = .ok (.iaload, 1) := by decide +kernel
theorem dL_law_334 : decode cL_law 334 = .ok (.invokevirtual 48, 3) := by decide +kernel
theorem dL_law_337 : decode cL_law 337 = .ok (.if_icmp .eq 243, 3) := by decide +kernel
theorem dL_law_340 : decode cL_law 340 = .ok (.iconst 0, 1) := by decide +kernel
theorem dL_law_341 : decode cL_law 341 = .ok (.ireturn, 1) := by decide +kernel
theorem dL_law_342 : decode cL_law 342 = .ok (.aload_n 1, 1) := by decide +kernel
theorem dL_law_343 : decode cL_law 343 = .ok (.aload_n 0, 1) := by decide +kernel
theorem dL_law_344 : decode cL_law 344 = .ok (.iload_n 3, 1) := by decide +kernel
theorem dL_law_345 : decode cL_law 345 = .ok (.iconst 1, 1) := by decide +kernel
theorem dL_law_346 : decode cL_law 346 = .ok (.iadd, 1) := by decide +kernel
theorem dL_law_347 : decode cL_law 347 = .ok (.iaload, 1) := by decide +kernel
theorem dL_law_348 : decode cL_law 348 = .ok (.invokevirtual 49, 3) := by decide +kernel
theorem dL_law_351 : decode cL_law 351 = .ok (.aload_n 2, 1) := by decide +kernel
theorem dL_law_352 : decode cL_law 352 = .ok (.aload_n 0, 1) := by decide +kernel
theorem dL_law_353 : decode cL_law 353 = .ok (.iload_n 3, 1) := by decide +kernel
theorem dL_law_354 : decode cL_law 354 = .ok (.iconst 1, 1) := by decide +kernel
theorem dL_law_355 : decode cL_law 355 = .ok (.iadd, 1) := by decide +kernel
theorem dL_law_356 : decode cL_law 356 = .ok (.iaload, 1) := by decide +kernel
theorem dL_law_357 : decode cL_law 357 = .ok (.invokevirtual 52, 3) := by decide +kernel
theorem dL_law_360 : decode cL_law 360 = .ok (.if_icmp .eq 220, 3) := by decide +kernel
theorem dL_law_363 : decode cL_law 363 = .ok (.iconst 0, 1) := by decide +kernel
theorem dL_law_364 : decode cL_law 364 = .ok (.ireturn, 1) := by decide +kernel
theorem dL_law_365 : decode cL_law 365 = .ok (.aload_n 1, 1) := by decide +kernel
theorem dL_law_366 : decode cL_law 366 = .ok (.invokevirtual 53, 3) := by decide +kernel
theorem dL_law_369 : decode cL_law 369 = .ok (.aload_n 2, 1) := by decide +kernel
theorem dL_law_370 : decode cL_law 370 = .ok (.invokevirtual 57, 3) := by decide +kernel
theorem dL_law_373 : decode cL_law 373 = .ok (.if_icmp .eq 207, 3) := by decide +kernel
theorem dL_law_376 : decode cL_law 376 = .ok (.iconst 0, 1) := by decide +kernel
theorem dL_law_377 : decode cL_law 377 = .ok (.ireturn, 1) := by decide +kernel
theorem dL_law_378 : decode cL_law 378 = .ok (.aload_n 1, 1) := by decide +kernel
theorem dL_law_379 : decode cL_law 379 = .ok (.aload_n 0, 1) := by decide +kernel
theorem dL_law_380 : decode cL_law 380 = .ok (.iload_n 3, 1) := by decide +kernel
theorem dL_law_381 : decode cL_law 381 = .ok (.iconst 1, 1) := by decide +kernel
theorem dL_law_382 : decode cL_law 382 = .ok (.iadd, 1) := by decide +kernel
theorem dL_law_383 : decode cL_law 383 = .ok (.iaload, 1) := by decide +kernel
theorem dL_law_384 : decode cL_law 384 = .ok (.invokevirtual 58, 3) := by decide +kernel
theorem dL_law_387 : decode cL_law 387 = .ok (.aload_n 2, 1) := by decide +kernel
theorem dL_law_388 : decode cL_law 388 = .ok (.aload_n 0, 1) := by decide +kernel
theorem dL_law_389 : decode cL_law 389 = .ok (.iload_n 3, 1) := by decide +kernel
theorem dL_law_390 : decode cL_law 390 = .ok (.iconst 1, 1) := by decide +kernel
theorem dL_law_391 : decode cL_law 391 = .ok (.iadd, 1) := by decide +kernel
theorem dL_law_392 : decode cL_law 392 = .ok (.iaload, 1) := by decide +kernel
theorem dL_law_393 : decode cL_law 393 = .ok (.invokevirtual 61, 3) := by decide +kernel
theorem dL_law_396 : decode cL_law 396 = .ok (.if_icmp .eq 184, 3) := by decide +kernel
theorem dL_law_399 : decode cL_law 399 = .ok (.iconst 0, 1) := by decide +kernel
theorem dL_law_400 : decode cL_law 400 = .ok (.ireturn, 1) := by decide +kernel
theorem dL_law_401 : decode cL_law 401 = .ok (.aload_n 1, 1) := by decide +kernel
theorem dL_law_402 : decode cL_law 402 = .ok (.aload_n 0, 1) := by decide +kernel
theorem dL_law_403 : decode cL_law 403 = .ok (.iload_n 3, 1) := by decide +kernel
theorem dL_law_404 : decode cL_law 404 = .ok (.iconst 1, 1) := by decide +kernel
theorem dL_law_405 : decode cL_law 405 = .ok (.iadd, 1) := by decide +kernel
theorem dL_law_406 : decode cL_law 406 = .ok (.iaload, 1) := by decide +kernel
theorem dL_law_407 : decode cL_law 407 = .ok (.invokevirtual 62, 3) := by decide +kernel
theorem dL_law_410 : decode cL_law 410 = .ok (.aload_n 2, 1) := by decide +kernel
theorem dL_law_411 : decode cL_law 411 = .ok (.aload_n 0, 1) := by decide +kernel
theorem dL_law_412 : decode cL_law 412 = .ok (.iload_n 3, 1) := by decide +kernel
theorem dL_law_413 : decode cL_law 413 = .ok (.iconst 1, 1) := by decide +kernel
theorem dL_law_414 : decode cL_law 414 = .ok (.iadd, 1) := by decide +kernel
theorem dL_law_415 : decode cL_law 415 = .ok (.iaload, 1) := by decide +kernel
theorem dL_law_416 : decode cL_law 416 = .ok (.invokevirtual 65, 3) := by decide +kernel
theorem dL_law_419 : decode cL_law 419 = .ok (.if_icmp .eq 161, 3) := by decide +kernel
theorem dL_law_422 : decode cL_law 422 = .ok (.iconst 0, 1) := by decide +kernel
theorem dL_law_423 : decode cL_law 423 = .ok (.ireturn, 1) := by decide +kernel
theorem dL_law_424 : decode cL_law 424 = .ok (.aload_n 1, 1) := by decide +kernel
theorem dL_law_425 : decode cL_law 425 = .ok (.aload_n 0, 1) := by decide +kernel
theorem dL_law_426 : decode cL_law 426 = .ok (.iload_n 3, 1) := by decide +kernel
theorem dL_law_427 : decode cL_law 427 = .ok (.iconst 1, 1) := by decide +kernel
theorem dL_law_428 : decode cL_law 428 = .ok (.iadd, 1) := by decide +kernel
theorem dL_law_429 : decode cL_law 429 = .ok (.iaload, 1) := by decide +kernel
theorem dL_law_430 : decode cL_law 430 = .ok (.aload_n 0, 1) := by decide +kernel
theorem dL_law_431 : decode cL_law 431 = .ok (.iload_n 3, 1) := by decide +kernel
theorem dL_law_432 : decode cL_law 432 = .ok (.iconst 2, 1) := by decide +kernel
theorem dL_law_433 : decode cL_law 433 = .ok (.iadd, 1) := by decide +kernel
theorem dL_law_434 : decode cL_law 434 = .ok (.iaload, 1) := by decide +kernel
theorem dL_law_435 : decode cL_law 435 = .ok (.invokevirtual 66, 3) := by decide +kernel
theorem dL_law_438 : decode cL_law 438 = .ok (.aload_n 2, 1) := by decide +kernel
theorem dL_law_439 : decode cL_law 439 = .ok (.aload_n 0, 1) := by decide +kernel
theorem dL_law_440 : decode cL_law 440 = .ok (.iload_n 3, 1) := by decide +kernel
theorem dL_law_441 : decode cL_law 441 = .ok (.iconst 1, 1) := by decide +kernel
theorem dL_law_442 : decode cL_law 442 = .ok (.iadd, 1) := by decide +kernel
theorem dL_law_443 : decode cL_law 443 = .ok (.iaload, 1) := by decide +kernel
theorem dL_law_444 : decode cL_law 444 = .ok (.aload_n 0, 1) := by decide +kernel
theorem dL_law_445 : decode cL_law 445 = .ok (.iload_n 3, 1) := by decide +kernel
theorem dL_law_446 : decode cL_law 446 = .ok (.iconst 2, 1) := by decide +kernel
theorem dL_law_447 : decode cL_law 447 = .ok (.iadd, 1) := by decide +kernel
theorem dL_law_448 : decode cL_law 448 = .ok (.iaload, 1) := by decide +kernel
theorem dL_law_449 : decode cL_law 449 = .ok (.invokevirtual 69, 3) := by decide +kernel
theorem dL_law_452 : decode cL_law 452 = .ok (.if_icmp .eq 128, 3) := by decide +kernel
theorem dL_law_455 : decode cL_law 455 = .ok (.iconst 0, 1) := by decide +kernel
theorem dL_law_456 : decode cL_law 456 = .ok (.ireturn, 1) := by decide +kernel
theorem dL_law_457 : decode cL_law 457 = .ok (.aload_n 1, 1) := by decide +kernel
theorem dL_law_458 : decode cL_law 458 = .ok (.aload_n 0, 1) := by decide +kernel
theorem dL_law_459 : decode cL_law 459 = .ok (.iload_n 3, 1) := by decide +kernel
theorem dL_law_460 : decode cL_law 460 = .ok (.iconst 1, 1) := by decide +kernel
theorem dL_law_461 : decode cL_law 461 = .ok (.iadd, 1) := by decide +kernel
theorem dL_law_462 : decode cL_law 462 = .ok (.iaload, 1) := by decide +kernel
theorem dL_law_463 : decode cL_law 463 = .ok (.aload_n 0, 1) := by decide +kernel
theorem dL_law_464 : decode cL_law 464 = .ok (.iload_n 3, 1) := by decide +kernel
theorem dL_law_465 : decode cL_law 465 = .ok (.iconst 2, 1) := by decide +kernel
theorem dL_law_466 : decode cL_law 466 = .ok (.iadd, 1) := by decide +kernel
theorem dL_law_467 : decode cL_law 467 = .ok (.iaload, 1) := by decide +kernel
theorem dL_law_468 : decode cL_law 468 = .ok (.invokevirtual 70, 3) := by decide +kernel
theorem dL_law_471 : decode cL_law 471 = .ok (.aload_n 2, 1) := by decide +kernel
theorem dL_law_472 : decode cL_law 472 = .ok (.aload_n 0, 1) := by decide +kernel
theorem dL_law_473 : decode cL_law 473 = .ok (.iload_n 3, 1) := by decide +kernel
theorem dL_law_474 : decode cL_law 474 = .ok (.iconst 1, 1) := by decide +kernel
theorem dL_law_475 : decode cL_law 475 = .ok (.iadd, 1) := by decide +kernel
theorem dL_law_476 : decode cL_law 476 = .ok (.iaload, 1) := by decide +kernel
theorem dL_law_477 : decode cL_law 477 = .ok (.aload_n 0, 1) := by decide +kernel
theorem dL_law_478 : decode cL_law 478 = .ok (.iload_n 3, 1) := by decide +kernel
theorem dL_law_479 : decode cL_law 479 = .ok (.iconst 2, 1) := by decide +kernel
theorem dL_law_480 : decode cL_law 480 = .ok (.iadd, 1) := by decide +kernel
theorem dL_law_481 : decode cL_law 481 = .ok (.iaload, 1) := by decide +kernel
theorem dL_law_482 : decode cL_law 482 = .ok (.invokevirtual 73, 3) := by decide +kernel
theorem dL_law_485 : decode cL_law 485 = .ok (.if_icmp .eq 95, 3) := by decide +kernel
theorem dL_law_488 : decode cL_law 488 = .ok (.iconst 0, 1) := by decide +kernel
theorem dL_law_489 : decode cL_law 489 = .ok (.ireturn, 1) := by decide +kernel
theorem dL_law_490 : decode cL_law 490 = .ok (.aload_n 1, 1) := by decide +kernel
theorem dL_law_491 : decode cL_law 491 = .ok (.aload_n 0, 1) := by decide +kernel
theorem dL_law_492 : decode cL_law 492 = .ok (.iload_n 3, 1) := by decide +kernel
theorem dL_law_493 : decode cL_law 493 = .ok (.iconst 1, 1) := by decide +kernel
theorem dL_law_494 : decode cL_law 494 = .ok (.iadd, 1) := by decide +kernel
theorem dL_law_495 : decode cL_law 495 = .ok (.iaload, 1) := by decide +kernel
theorem dL_law_496 : decode cL_law 496 = .ok (.aload_n 0, 1) := by decide +kernel
theorem dL_law_497 : decode cL_law 497 = .ok (.iload_n 3, 1) := by decide +kernel
theorem dL_law_498 : decode cL_law 498 = .ok (.iconst 2, 1) := by decide +kernel
theorem dL_law_499 : decode cL_law 499 = .ok (.iadd, 1) := by decide +kernel
theorem dL_law_500 : decode cL_law 500 = .ok (.iaload, 1) := by decide +kernel
theorem dL_law_501 : decode cL_law 501 = .ok (.aload_n 0, 1) := by decide +kernel
theorem dL_law_502 : decode cL_law 502 = .ok (.iload_n 3, 1) := by decide +kernel
theorem dL_law_503 : decode cL_law 503 = .ok (.iconst 3, 1) := by decide +kernel
theorem dL_law_504 : decode cL_law 504 = .ok (.iadd, 1) := by decide +kernel
theorem dL_law_505 : decode cL_law 505 = .ok (.iaload, 1) := by decide +kernel
theorem dL_law_506 : decode cL_law 506 = .ok (.aload_n 0, 1) := by decide +kernel
theorem dL_law_507 : decode cL_law 507 = .ok (.iload_n 3, 1) := by decide +kernel
theorem dL_law_508 : decode cL_law 508 = .ok (.iconst 4, 1) := by decide +kernel
theorem dL_law_509 : decode cL_law 509 = .ok (.iadd, 1) := by decide +kernel
theorem dL_law_510 : decode cL_law 510 = .ok (.iaload, 1) := by decide +kernel
theorem dL_law_511 : decode cL_law 511 = .ok (.invokevirtual 74, 3) := by decide +kernel
theorem dL_law_514 : decode cL_law 514 = .ok (.aload_n 2, 1) := by decide +kernel
theorem dL_law_515 : decode cL_law 515 = .ok (.aload_n 0, 1) := by decide +kernel
theorem dL_law_516 : decode cL_law 516 = .ok (.iload_n 3, 1) := by decide +kernel
theorem dL_law_517 : decode cL_law 517 = .ok (.iconst 1, 1) := by decide +kernel
theorem dL_law_518 : decode cL_law 518 = .ok (.iadd, 1) := by decide +kernel
theorem dL_law_519 : decode cL_law 519 = .ok (.iaload, 1) := by decide +kernel
theorem dL_law_520 : decode cL_law 520 = .ok (.aload_n 0, 1) := by decide +kernel
theorem dL_law_521 : decode cL_law 521 = .ok (.iload_n 3, 1) := by decide +kernel
theorem dL_law_522 : decode cL_law 522 = .ok (.iconst 2, 1) := by decide +kernel
theorem dL_law_523 : decode cL_law 523 = .ok (.iadd, 1) := by decide +kernel
theorem dL_law_524 : decode cL_law 524 = .ok (.iaload, 1) := by decide +kernel
theorem dL_law_525 : decode cL_law 525 = .ok (.aload_n 0, 1) := by decide +kernel
theorem dL_law_526 : decode cL_law 526 = .ok (.iload_n 3, 1) := by decide +kernel
theorem dL_law_527 : decode cL_law 527 = .ok (.iconst 3, 1) := by decide +kernel
theorem dL_law_528 : decode cL_law 528 = .ok (.iadd, 1) := by decide +kernel
theorem dL_law_529 : decode cL_law 529 = .ok (.iaload, 1) := by decide +kernel
theorem dL_law_530 : decode cL_law 530 = .ok (.aload_n 0, 1) := by decide +kernel
theorem dL_law_531 : decode cL_law 531 = .ok (.iload_n 3, 1) := by decide +kernel
theorem dL_law_532 : decode cL_law 532 = .ok (.iconst 4, 1) := by decide +kernel
theorem dL_law_533 : decode cL_law 533 = .ok (.iadd, 1) := by decide +kernel
theorem dL_law_534 : decode cL_law 534 = .ok (.iaload, 1) := by decide +kernel
theorem dL_law_535 : decode cL_law 535 = .ok (.invokevirtual 78, 3) := by decide +kernel
theorem dL_law_538 : decode cL_law 538 = .ok (.if_icmp .eq 42, 3) := by decide +kernel
theorem dL_law_541 : decode cL_law 541 = .ok (.iconst 0, 1) := by decide +kernel
theorem dL_law_542 : decode cL_law 542 = .ok (.ireturn, 1) := by decide +kernel
theorem dL_law_543 : decode cL_law 543 = .ok (.aload_n 1, 1) := by decide +kernel
theorem dL_law_544 : decode cL_law 544 = .ok (.invokevirtual 79, 3) := by decide +kernel
theorem dL_law_547 : decode cL_law 547 = .ok (.aload_n 2, 1) := by decide +kernel
theorem dL_law_548 : decode cL_law 548 = .ok (.invokevirtual 83, 3) := by decide +kernel
theorem dL_law_551 : decode cL_law 551 = .ok (.if_icmp .eq 29, 3) := by decide +kernel
theorem dL_law_554 : decode cL_law 554 = .ok (.iconst 0, 1) := by decide +kernel
theorem dL_law_555 : decode cL_law 555 = .ok (.ireturn, 1) := by decide +kernel
theorem dL_law_556 : decode cL_law 556 = .ok (.aload_n 1, 1) := by decide +kernel
theorem dL_law_557 : decode cL_law 557 = .ok (.invokevirtual 84, 3) := by decide +kernel
theorem dL_law_560 : decode cL_law 560 = .ok (.aload_n 2, 1) := by decide +kernel
theorem dL_law_561 : decode cL_law 561 = .ok (.invokevirtual 87, 3) := by decide +kernel
theorem dL_law_564 : decode cL_law 564 = .ok (.goto 16, 3) := by decide +kernel
theorem dL_law_567 : decode cL_law 567 = .ok (.aload_n 1, 1) := by decide +kernel
theorem dL_law_568 : decode cL_law 568 = .ok (.invokevirtual 88, 3) := by decide +kernel
theorem dL_law_571 : decode cL_law 571 = .ok (.aload_n 2, 1) := by decide +kernel
theorem dL_law_572 : decode cL_law 572 = .ok (.invokevirtual 91, 3) := by decide +kernel
theorem dL_law_575 : decode cL_law 575 = .ok (.if_icmp .eq 5, 3) := by decide +kernel
theorem dL_law_578 : decode cL_law 578 = .ok (.iconst 0, 1) := by decide +kernel
theorem dL_law_579 : decode cL_law 579 = .ok (.ireturn, 1) := by decide +kernel
theorem dL_law_580 : decode cL_law 580 = .ok (.iinc 3 5, 3) := by decide +kernel
theorem dL_law_583 : decode cL_law 583 = .ok (.goto (-565), 3) := by decide +kernel
theorem dL_law_586 : decode cL_law 586 = .ok (.iconst 1, 1) := by decide +kernel
theorem dL_law_587 : decode cL_law 587 = .ok (.ireturn, 1) := by decide +kernel
