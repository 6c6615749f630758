theorem d_Law_law_0 : decode code 0 = .ok (.new 7, 3) := by decide +kernel
theorem d_Law_law_3 : decode code 3 = .ok (.dup, 1) := by decide +kernel
theorem d_Law_law_4 : decode code 4 = .ok (.invokespecial 9, 3) := by decide +kernel
theorem d_Law_law_7 : decode code 7 = .ok (.astore_n 1, 1) := by decide +kernel
theorem d_Law_law_8 : decode code 8 = .ok (.new 10, 3) := by decide +kernel
theorem d_Law_law_11 : decode code 11 = .ok (.dup, 1) := by decide +kernel
theorem d_Law_law_12 : decode code 12 = .ok (.invokespecial 12, 3) := by decide +kernel
theorem d_Law_law_15 : decode code 15 = .ok (.astore_n 2, 1) := by decide +kernel
theorem d_Law_law_16 : decode code 16 = .ok (.iconst 0, 1) := by decide +kernel
theorem d_Law_law_17 : decode code 17 = .ok (.istore_n 3, 1) := by decide +kernel
theorem d_Law_law_18 : decode code 18 = .ok (.iload_n 3, 1) := by decide +kernel
theorem d_Law_law_19 : decode code 19 = .ok (.aload_n 0, 1) := by decide +kernel
theorem d_Law_law_20 : decode code 20 = .ok (.arraylength, 1) := by decide +kernel
theorem d_Law_law_21 : decode code 21 = .ok (.bipush 7, 2) := by decide +kernel
theorem d_Law_law_23 : decode code 23 = .ok (.isub, 1) := by decide +kernel
theorem d_Law_law_24 : decode code 24 = .ok (.if_icmp .gt 995, 3) := by decide +kernel
theorem d_Law_law_27 : decode code 27 = .ok (.aload_n 0, 1) := by decide +kernel
theorem d_Law_law_28 : decode code 28 = .ok (.iload_n 3, 1) := by decide +kernel
theorem d_Law_law_29 : decode code 29 = .ok (.iaload, 1) := by decide +kernel
theorem d_Law_law_30 : decode code 30 = .ok (.bipush 31, 2) := by decide +kernel
theorem d_Law_law_32 : decode code 32 = .ok (.iand, 1) := by decide +kernel
theorem d_Law_law_33 : decode code 33 = .ok (.tableswitch 980 0 25 #[119, 182, 205, 248, 281, 314, 337, 360, 435, 468, 511, 554, 577, 600, 633, 666, 699, 733, 766, 789, 842, 865, 888, 921, 944, 957], 119) := by decide +kernel
theorem d_Law_law_152 : decode code 152 = .ok (.aload_n 1, 1) := by decide +kernel
theorem d_Law_law_153 : decode code 153 = .ok (.aload_n 0, 1) := by decide +kernel
theorem d_Law_law_154 : decode code 154 = .ok (.iload_n 3, 1) := by decide +kernel
theorem d_Law_law_155 : decode code 155 = .ok (.iconst 1, 1) := by decide +kernel
theorem d_Law_law_156 : decode code 156 = .ok (.iadd, 1) := by decide +kernel
theorem d_Law_law_157 : decode code 157 = .ok (.iaload, 1) := by decide +kernel
theorem d_Law_law_158 : decode code 158 = .ok (.aload_n 0, 1) := by decide +kernel
theorem d_Law_law_159 : decode code 159 = .ok (.iload_n 3, 1) := by decide +kernel
theorem d_Law_law_160 : decode code 160 = .ok (.iconst 2, 1) := by decide +kernel
theorem d_Law_law_161 : decode code 161 = .ok (.iadd, 1) := by decide +kernel
theorem d_Law_law_162 : decode code 162 = .ok (.iaload, 1) := by decide +kernel
theorem d_Law_law_163 : decode code 163 = .ok (.aload_n 0, 1) := by decide +kernel
theorem d_Law_law_164 : decode code 164 = .ok (.iload_n 3, 1) := by decide +kernel
theorem d_Law_law_165 : decode code 165 = .ok (.iconst 3, 1) := by decide +kernel
theorem d_Law_law_166 : decode code 166 = .ok (.iadd, 1) := by decide +kernel
theorem d_Law_law_167 : decode code 167 = .ok (.iaload, 1) := by decide +kernel
theorem d_Law_law_168 : decode code 168 = .ok (.aload_n 0, 1) := by decide +kernel
theorem d_Law_law_169 : decode code 169 = .ok (.iload_n 3, 1) := by decide +kernel
theorem d_Law_law_170 : decode code 170 = .ok (.iconst 4, 1) := by decide +kernel
theorem d_Law_law_171 : decode code 171 = .ok (.iadd, 1) := by decide +kernel
theorem d_Law_law_172 : decode code 172 = .ok (.iaload, 1) := by decide +kernel
theorem d_Law_law_173 : decode code 173 = .ok (.aload_n 0, 1) := by decide +kernel
theorem d_Law_law_174 : decode code 174 = .ok (.iload_n 3, 1) := by decide +kernel
theorem d_Law_law_175 : decode code 175 = .ok (.iconst 5, 1) := by decide +kernel
theorem d_Law_law_176 : decode code 176 = .ok (.iadd, 1) := by decide +kernel
theorem d_Law_law_177 : decode code 177 = .ok (.iaload, 1) := by decide +kernel
theorem d_Law_law_178 : decode code 178 = .ok (.invokevirtual 13, 3) := by decide +kernel
theorem d_Law_law_181 : decode code 181 = .ok (.aload_n 2, 1) := by decide +kernel
theorem d_Law_law_182 : decode code 182 = .ok (.aload_n 0, 1) := by decide +kernel
theorem d_Law_law_183 : decode code 183 = .ok (.iload_n 3, 1) := by decide +kernel
theorem d_Law_law_184 : decode code 184 = .ok (.iconst 1, 1) := by decide +kernel
theorem d_Law_law_185 : decode code 185 = .ok (.iadd, 1) := by decide +kernel
theorem d_Law_law_186 : decode code 186 = .ok (.iaload, 1) := by decide +kernel
theorem d_Law_law_187 : decode code 187 = .ok (.aload_n 0, 1) := by decide +kernel
theorem d_Law_law_188 : decode code 188 = .ok (.iload_n 3, 1) := by decide +kernel
theorem d_Law_law_189 : decode code 189 = .ok (.iconst 2, 1) := by decide +kernel
theorem d_Law_law_190 : decode code 190 = .ok (.iadd, 1) := by decide +kernel
theorem d_Law_law_191 : decode code 191 = .ok (.iaload, 1) := by decide +kernel
theorem d_Law_law_192 : decode code 192 = .ok (.aload_n 0, 1) := by decide +kernel
theorem d_Law_law_193 : decode code 193 = .ok (.iload_n 3, 1) := by decide +kernel
theorem d_Law_law_194 : decode code 194 = .ok (.iconst 3, 1) := by decide +kernel
theorem d_Law_law_195 : decode code 195 = .ok (.iadd, 1) := by decide +kernel
theorem d_Law_law_196 : decode code 196 = .ok (.iaload, 1) := by decide +kernel
theorem d_Law_law_197 : decode code 197 = .ok (.aload_n 0, 1) := by decide +kernel
theorem d_Law_law_198 : decode code 198 = .ok (.iload_n 3, 1) := by decide +kernel
theorem d_Law_law_199 : decode code 199 = .ok (.iconst 4, 1) := by decide +kernel
theorem d_Law_law_200 : decode code 200 = .ok (.iadd, 1) := by decide +kernel
theorem d_Law_law_201 : decode code 201 = .ok (.iaload, 1) := by decide +kernel
theorem d_Law_law_202 : decode code 202 = .ok (.aload_n 0, 1) := by decide +kernel
theorem d_Law_law_203 : decode code 203 = .ok (.iload_n 3, 1) := by decide +kernel
theorem d_Law_law_204 : decode code 204 = .ok (.iconst 5, 1) := by decide +kernel
theorem d_Law_law_205 : decode code 205 = .ok (.iadd, 1) := by decide +kernel
theorem d_Law_law_206 : decode code 206 = .ok (.iaload, 1) := by decide +kernel
theorem d_Law_law_207 : decode code 207 = .ok (.invokevirtual 17, 3) := by decide +kernel
theorem d_Law_law_210 : decode code 210 = .ok (.if_icmp .eq 803, 3) := by decide +kernel
theorem d_Law_law_213 : decode code 213 = .ok (.iconst 0, 1) := by decide +kernel
theorem d_Law_law_214 : decode code 214 = .ok (.ireturn, 1) := by decide +kernel
theorem d_Law_law_215 : decode code 215 = .ok (.aload_n 1, 1) := by decide +kernel
theorem d_Law_law_216 : decode code 216 = .ok (.aload_n 0, 1) := by decide +kernel
theorem d_Law_law_217 : decode code 217 = .ok (.iload_n 3, 1) := by decide +kernel
theorem d_Law_law_218 : decode code 218 = .ok (.iconst 1, 1) := by decide +kernel
theorem d_Law_law_219 : decode code 219 = .ok (.iadd, 1) := by decide +kernel
theorem d_Law_law_220 : decode code 220 = .ok (.iaload, 1) := by decide +kernel
theorem d_Law_law_221 : decode code 221 = .ok (.invokevirtual 18, 3) := by decide +kernel
theorem d_Law_law_224 : decode code 224 = .ok (.aload_n 2, 1) := by decide +kernel
theorem d_Law_law_225 : decode code 225 = .ok (.aload_n 0, 1) := by decide +kernel
theorem d_Law_law_226 : decode code 226 = .ok (.iload_n 3, 1) := by decide +kernel
theorem d_Law_law_227 : decode code 227 = .ok (.iconst 1, 1) := by decide +kernel
theorem d_Law_law_228 : decode code 228 = .ok (.iadd, 1) := by decide +kernel
theorem d_Law_law_229 : decode code 229 = .ok (.iaload, 1) := by decide +kernel
theorem d_Law_law_230 : decode code 230 = .ok (.invokevirtual 22, 3) := by decide +kernel
theorem d_Law_law_233 : decode code 233 = .ok (.if_icmp .eq 780, 3) := by decide +kernel
theorem d_Law_law_236 : decode code 236 = .ok (.iconst 0, 1) := by decide +kernel
theorem d_Law_law_237 : decode code 237 = .ok (.ireturn, 1) := by decide +kernel
theorem d_Law_law_238 : decode code 238 = .ok (.aload_n 1, 1) := by decide +kernel
theorem d_Law_law_239 : decode code 239 = .ok (.aload_n 0, 1) := by decide +kernel
theorem d_Law_law_240 : decode code 240 = .ok (.iload_n 3, 1) := by decide +kernel
theorem d_Law_law_241 : decode code 241 = .ok (.iconst 1, 1) := by decide +kernel
theorem d_Law_law_242 : decode code 242 = .ok (.iadd, 1) := by decide +kernel
theorem d_Law_law_243 : decode code 243 = .ok (.iaload, 1) := by decide +kernel
theorem d_Law_law_244 : decode code 244 = .ok (.aload_n 0, 1) := by decide +kernel
theorem d_Law_law_245 : decode code 245 = .ok (.iload_n 3, 1) := by decide +kernel
theorem d_Law_law_246 : decode code 246 = .ok (.iconst 2, 1) := by decide +kernel
theorem d_Law_law_247 : decode code 247 = .ok (.iadd, 1) := by decide +kernel
theorem d_Law_law_248 : decode code 248 = .ok (.iaload, 1) := by decide +kernel
theorem d_Law_law_249 : decode code 249 = .ok (.aload_n 0, 1) := by decide +kernel
theorem d_Law_law_250 : decode code 250 = .ok (.iload_n 3, 1) := by decide +kernel
theorem d_Law_law_251 : decode code 251 = .ok (.iconst 3, 1) := by decide +kernel
theorem d_Law_law_252 : decode code 252 = .ok (.iadd, 1) := by decide +kernel
theorem d_Law_law_253 : decode code 253 = .ok (.iaload, 1) := by decide +kernel
theorem d_Law_law_254 : decode code 254 = .ok (.invokevirtual 23, 3) := by decide +kernel
theorem d_Law_law_257 : decode code 257 = .ok (.aload_n 2, 1) := by decide +kernel
theorem d_Law_law_258 : decode code 258 = .ok (.aload_n 0, 1) := by decide +kernel
theorem d_Law_law_259 : decode code 259 = .ok (.iload_n 3, 1) := by decide +kernel
theorem d_Law_law_260 : decode code 260 = .ok (.iconst 1, 1) := by decide +kernel
theorem d_Law_law_261 : decode code 261 = .ok (.iadd, 1) := by decide +kernel
theorem d_Law_law_262 : decode code 262 = .ok (.iaload, 1) := by decide +kernel
theorem d_Law_law_263 : decode code 263 = .ok (.aload_n 0, 1) := by decide +kernel
theorem d_Law_law_264 : decode code 264 = .ok (.iload_n 3, 1) := by decide +kernel
theorem d_Law_law_265 : decode code 265 = .ok (.iconst 2, 1) := by decide +kernel
theorem d_Law_law_266 : decode code 266 = .ok (.iadd, 1) := by decide +kernel
theorem d_Law_law_267 : decode code 267 = .ok (.iaload, 1) := by decide +kernel
theorem d_Law_law_268 : decode code 268 = .ok (.aload_n 0, 1) := by decide +kernel
theorem d_Law_law_269 : decode code 269 = .ok (.iload_n 3, 1) := by decide +kernel
theorem d_Law_law_270 : decode code 270 = .ok (.iconst 3, 1) := by decide +kernel
theorem d_Law_law_271 : decode code 271 = .ok (.iadd, 1) := by decide +kernel
theorem d_Law_law_272 : decode code 272 = .ok (.iaload, 1) := by decide +kernel
theorem d_Law_law_273 : decode code 273 = .ok (.invokevirtual 27, 3) := by decide +kernel
theorem d_Law_law_276 : decode code 276 = .ok (.if_icmp .eq 737, 3) := by decide +kernel
theorem d_Law_law_279 : decode code 279 = .ok (.iconst 0, 1) := by decide +kernel
theorem d_Law_law_280 : decode code 280 = .ok (.ireturn, 1) := by decide +kernel
theorem d_Law_law_281 : decode code 281 = .ok (.aload_n 1, 1) := by decide +kernel
theorem d_Law_law_282 : decode code 282 = .ok (.aload_n 0, 1) := by decide +kernel
theorem d_Law_law_283 : decode code 283 = .ok (.iload_n 3, 1) := by decide +kernel
theorem d_Law_law_284 : decode code 284 = .ok (.iconst 1, 1) := by decide +kernel
theorem d_Law_law_285 : decode code 285 = .ok (.iadd, 1) := by decide +kernel
theorem d_Law_law_286 : decode code 286 = .ok (.iaload, 1) := by decide +kernel
theorem d_Law_law_287 : decode code 287 = .ok (.aload_n 0, 1) := by decide +kernel
theorem d_Law_law_288 : decode code 288 = .ok (.iload_n 3, 1) := by decide +kernel
theorem d_Law_law_289 : decode code 289 = .ok (.iconst 2, 1) := by decide +kernel
theorem d_Law_law_290 : decode code 290 = .ok (.iadd, 1) := by decide +kernel
theorem d_Law_law_291 : decode code 291 = .ok (.iaload, 1) := by decide +kernel
theorem d_Law_law_292 : decode code 292 = .ok (.invokevirtual 28, 3) := by decide +kernel
theorem d_Law_law_295 : decode code 295 = .ok (.aload_n 2, 1) := by decide +kernel
theorem d_Law_law_296 : decode code 296 = .ok (.aload_n 0, 1) := by decide +kernel
theorem d_Law_law_297 : decode code 297 = .ok (.iload_n 3, 1) := by decide +kernel
theorem d_Law_law_298 : decode code 298 = .ok (.iconst 1, 1) := by decide +kernel
theorem d_Law_law_299 : decode code 299 = .ok (.iadd, 1) := by decide +kernel
theorem d_Law_law_300 : decode code 300 = .ok (.iaload, 1) := by decide +kernel
theorem d_Law_law_301 : decode code 301 = .ok (.aload_n 0, 1) := by decide +kernel
theorem d_Law_law_302 : decode code 302 = .ok (.iload_n 3, 1) := by decide +kernel
theorem d_Law_law_303 : decode code 303 = .ok (.iconst 2, 1) := by decide +kernel
theorem d_Law_law_304 : decode code 304 = .ok (.iadd, 1) := by decide +kernel
theorem d_Law_law_305 : decode code 305 = .ok (.iaload, 1) := by decide +kernel
theorem d_Law_law_306 : decode code 306 = .ok (.invokevirtual 32, 3) := by decide +kernel
theorem d_Law_law_309 : decode code 309 = .ok (.if_icmp .eq 704, 3) := by decide +kernel
theorem d_Law_law_312 : decode code 312 = .ok (.iconst 0, 1) := by decide +kernel
theorem d_Law_law_313 : decode code 313 = .ok (.ireturn, 1) := by decide +kernel
theorem d_Law_law_314 : decode code 314 = .ok (.aload_n 1, 1) := by decide +kernel
theorem d_Law_law_315 : decode code 315 = .ok (.aload_n 0, 1) := by decide +kernel
theorem d_Law_law_316 : decode code 316 = .ok (.iload_n 3, 1) := by decide +kernel
theorem d_Law_law_317 : decode code 317 = .ok (.iconst 1, 1) := by decide +kernel
theorem d_Law_law_318 : decode code 318 = .ok (.iadd, 1) := by decide +kernel
theorem d_Law_law_319 : decode code 319 = .ok (.iaload, 1) := by decide +kernel
theorem d_Law_law_320 : decode code 320 = .ok (.aload_n 0, 1) := by decide +kernel
theorem d_Law_law_321 : decode code 321 = .ok (.iload_n 3, 1) := by decide +kernel
theorem d_Law_law_322 : decode code 322 = .ok (.iconst 2, 1) := by decide +kernel
theorem d_Law_law_323 : decode code 323 = .ok (.iadd, 1) := by decide +kernel
theorem d_Law_law_324 : decode code 324 = .ok (.iaload, 1) := by decide +kernel
theorem d_Law_law_325 : decode code 325 = .ok (.invokevirtual 33, 3) := by decide +kernel
theorem d_Law_law_328 : decode code 328 = .ok (.aload_n 2, 1) := by decide +kernel
theorem d_Law_law_329 : decode code 329 = .ok (.aload_n 0, 1) := by decide +kernel
theorem d_Law_law_330 : decode code 330 = .ok (.iload_n 3, 1) := by decide +kernel
theorem d_Law_law_331 : decode code 331 = .ok (.iconst 1, 1) := by decide +kernel
theorem d_Law_law_332 : decode code 332 = .ok (.iadd, 1) := by decide +kernel
theorem d_Law_law_333 : decode code 333 = .ok (.iaload, 1) := by decide +kernel
theorem d_Law_law_334 : decode code 334 = .ok (.aload_n 0, 1) := by decide +kernel
theorem d_Law_law_335 : decode code 335 = .ok (.iload_n 3, 1) := by decide +kernel
theorem d_Law_law_336 : decode code 336 = .ok (.iconst 2, 1) := by decide +kernel
theorem d_Law_law_337 : decode code 337 = .ok (.iadd, 1) := by decide +kernel
theorem d_Law_law_338 : decode code 338 = .ok (.iaload, 1) := by decide +kernel
theorem d_Law_law_339 : decode code 339 = .ok (.invokevirtual 37, 3) := by decide +kernel
theorem d_Law_law_342 : decode code 342 = .ok (.if_icmp .eq 671, 3) := by decide +kernel
theorem d_Law_law_345 : decode code 345 = .ok (.iconst 0, 1) := by decide +kernel
theorem d_Law_law_346 : decode code 346 = .ok (.ireturn, 1) := by decide +kernel
theorem d_Law_law_347 : decode code 347 = .ok (.aload_n 1, 1) := by decide +kernel
theorem d_Law_law_348 : decode code 348 = .ok (.aload_n 0, 1) := by decide +kernel
theorem d_Law_law_349 : decode code 349 = .ok (.iload_n 3, 1) := by decide +kernel
theorem d_Law_law_350 : decode code 350 = .ok (.iconst 1, 1) := by decide +kernel
theorem d_Law_law_351 : decode code 351 = .ok (.iadd, 1) := by decide +kernel
theorem d_Law_law_352 : decode code 352 = .ok (.iaload, 1) := by decide +kernel
theorem d_Law_law_353 : decode code 353 = .ok (.invokevirtual 38, 3) := by decide +kernel
theorem d_Law_law_356 : decode code 356 = .ok (.aload_n 2, 1) := by decide +kernel
theorem d_Law_law_357 : decode code 357 = .ok (.aload_n 0, 1) := by decide +kernel
theorem d_Law_law_358 : decode code 358 = .ok (.iload_n 3, 1) := by decide +kernel
theorem d_Law_law_359 : decode code 359 = .ok (.iconst 1, 1) := by decide +kernel
theorem d_Law_law_360 : decode code 360 = .ok (.iadd, 1) := by decide +kernel
theorem d_Law_law_361 : decode code 361 = .ok (.iaload, 1) := by decide +kernel
theorem d_Law_law_362 : decode code 362 = .ok (.invokevirtual 42, 3) := by decide +kernel
theorem d_Law_law_365 : decode code 365 = .ok (.if_icmp .eq 648, 3) := by decide +kernel
theorem d_Law_law_368 : decode code 368 = .ok (.iconst 0, 1) := by decide +kernel
theorem d_Law_law_369 : decode code 369 = .ok (.ireturn, 1) := by decide +kernel
theorem d_Law_law_370 : decode code 370 = .ok (.aload_n 1, 1) := by decide +kernel
theorem d_Law_law_371 : decode code 371 = .ok (.aload_n 0, 1) := by decide +kernel
theorem d_Law_law_372 : decode code 372 = .ok (.iload_n 3, 1) := by decide +kernel
theorem d_Law_law_373 : decode code 373 = .ok (.iconst 1, 1) := by decide +kernel
theorem d_Law_law_374 : decode code 374 = .ok (.iadd, 1) := by decide +kernel
theorem d_Law_law_375 : decode code 375 = .ok (.iaload, 1) := by decide +kernel
theorem d_Law_law_376 : decode code 376 = .ok (.invokevirtual 43, 3) := by decide +kernel
theorem d_Law_law_379 : decode code 379 = .ok (.aload_n 2, 1) := by decide +kernel
theorem d_Law_law_380 : decode code 380 = .ok (.aload_n 0, 1) := by decide +kernel
theorem d_Law_law_381 : decode code 381 = .ok (.iload_n 3, 1) := by decide +kernel
theorem d_Law_law_382 : decode code 382 = .ok (.iconst 1, 1) := by decide +kernel
theorem d_Law_law_383 : decode code 383 = .ok (.iadd, 1) := by decide +kernel
theorem d_Law_law_384 : decode code 384 = .ok (.iaload, 1) := by decide +kernel
theorem d_Law_law_385 : decode code 385 = .ok (.invokevirtual 46, 3) := by decide +kernel
theorem d_Law_law_388 : decode code 388 = .ok (.if_icmp .eq 625, 3) := by decide +kernel
theorem d_Law_law_391 : decode code 391 = .ok (.iconst 0, 1) := by decide +kernel
theorem d_Law_law_392 : decode code 392 = .ok (.ireturn, 1) := by decide +kernel
theorem d_Law_law_393 : decode code 393 = .ok (.aload_n 1, 1) := by decide +kernel
theorem d_Law_law_394 : decode code 394 = .ok (.aload_n 0, 1) := by decide +kernel
theorem d_Law_law_395 : decode code 395 = .ok (.iload_n 3, 1) := by decide +kernel
theorem d_Law_law_396 : decode code 396 = .ok (.iconst 1, 1) := by decide +kernel
theorem d_Law_law_397 : decode code 397 = .ok (.iadd, 1) := by decide +kernel
theorem d_Law_law_398 : decode code 398 = .ok (.iaload, 1) := by decide +kernel
theorem d_Law_law_399 : decode code 399 = .ok (.aload_n 0, 1) := by decide +kernel
theorem d_Law_law_400 : decode code 400 = .ok (.iload_n 3, 1) := by decide +kernel
theorem d_Law_law_401 : decode code 401 = .ok (.iconst 2, 1) := by decide +kernel
theorem d_Law_law_402 : decode code 402 = .ok (.iadd, 1) := by decide +kernel
theorem d_Law_law_403 : decode code 403 = .ok (.iaload, 1) := by decide +kernel
theorem d_Law_law_404 : decode code 404 = .ok (.aload_n 0, 1) := by decide +kernel
theorem d_Law_law_405 : decode code 405 = .ok (.iload_n 3, 1) := by decide +kernel
theorem d_Law_law_406 : decode code 406 = .ok (.iconst 3, 1) := by decide +kernel
theorem d_Law_law_407 : decode code 407 = .ok (.iadd, 1) := by decide +kernel
theorem d_Law_law_408 : decode code 408 = .ok (.iaload, 1) := by decide +kernel
theorem d_Law_law_409 : decode code 409 = .ok (.aload_n 0, 1) := by decide +kernel
theorem d_Law_law_410 : decode code 410 = .ok (.iload_n 3, 1) := by decide +kernel
theorem d_Law_law_411 : decode code 411 = .ok (.iconst 4, 1) := by decide +kernel
theorem d_Law_law_412 : decode code 412 = .ok (.iadd, 1) := by decide +kernel
theorem d_Law_law_413 : decode code 413 = .ok (.iaload, 1) := by decide +kernel
theorem d_Law_law_414 : decode code 414 = .ok (.aload_n 0, 1) := by decide +kernel
theorem d_Law_law_415 : decode code 415 = .ok (.iload_n 3, 1) := by decide +kernel
theorem d_Law_law_416 : decode code 416 = .ok (.iconst 5, 1) := by decide +kernel
theorem d_Law_law_417 : decode code 417 = .ok (.iadd, 1) := by decide +kernel
theorem d_Law_law_418 : decode code 418 = .ok (.iaload, 1) := by decide +kernel
theorem d_Law_law_419 : decode code 419 = .ok (.aload_n 0, 1) := by decide +kernel
theorem d_Law_law_420 : decode code 420 = .ok (.iload_n 3, 1) := by decide +kernel
theorem d_Law_law_421 : decode code 421 = .ok (.bipush 6, 2) := by decide +kernel
theorem d_Law_law_423 : decode code 423 = .ok (.iadd, 1) := by decide +kernel
theorem d_Law_law_424 : decode code 424 = .ok (.iaload, 1) := by decide +kernel
theorem d_Law_law_425 : decode code 425 = .ok (.invokevirtual 47, 3) := by decide +kernel
theorem d_Law_law_428 : decode code 428 = .ok (.aload_n 2, 1) := by decide +kernel
theorem d_Law_law_429 : decode code 429 = .ok (.aload_n 0, 1) := by decide +kernel
theorem d_Law_law_430 : decode code 430 = .ok (.iload_n 3, 1) := by decide +kernel
theorem d_Law_law_431 : decode code 431 = .ok (.iconst 1, 1) := by decide +kernel
theorem d_Law_law_432 : decode code 432 = .ok (.iadd, 1) := by decide +kernel
theorem d_Law_law_433 : decode code 433 = .ok (.iaload, 1) := by decide +kernel
theorem d_Law_law_434 : decode code 434 = .ok (.aload_n 0, 1) := by decide +kernel
theorem d_Law_law_435 : decode code 435 = .ok (.iload_n 3, 1) := by decide +kernel
theorem d_Law_law_436 : decode code 436 = .ok (.iconst 2, 1) := by decide +kernel
theorem d_Law_law_437 : decode code 437 = .ok (.iadd, 1) := by decide +kernel
theorem d_Law_law_438 : decode code 438 = .ok (.iaload, 1) := by decide +kernel
theorem d_Law_law_439 : decode code 439 = .ok (.aload_n 0, 1) := by decide +kernel
theorem d_Law_law_440 : decode code 440 = .ok (.iload_n 3, 1) := by decide +kernel
theorem d_Law_law_441 : decode code 441 = .ok (.iconst 3, 1) := by decide +kernel
theorem d_Law_law_442 : decode code 442 = .ok (.iadd, 1) := by decide +kernel
theorem d_Law_law_443 : decode code 443 = .ok (.iaload, 1) := by decide +kernel
theorem d_Law_law_444 : decode code 444 = .ok (.aload_n 0, 1) := by decide +kernel
theorem d_Law_law_445 : decode code 445 = .ok (.iload_n 3, 1) := by decide +kernel
theorem d_Law_law_446 : decode code 446 = .ok (.iconst 4, 1) := by decide +kernel
theorem d_Law_law_447 : decode code 447 = .ok (.iadd, 1) := by decide +kernel
theorem d_Law_law_448 : decode code 448 = .ok (.iaload, 1) := by decide +kernel
theorem d_Law_law_449 : decode code 449 = .ok (.aload_n 0, 1) := by decide +kernel
theorem d_Law_law_450 : decode code 450 = .ok (.iload_n 3, 1) := by decide +kernel
theorem d_Law_law_451 : decode code 451 = .ok (.iconst 5, 1) := by decide +kernel
theorem d_Law_law_452 : decode code 452 = .ok (.iadd, 1) := by decide +kernel
theorem d_Law_law_453 : decode code 453 = .ok (.iaload, 1) := by decide +kernel
theorem d_Law_law_454 : decode code 454 = .ok (.aload_n 0, 1) := by decide +kernel
theorem d_Law_law_455 : decode code 455 = .ok (.iload_n 3, 1) := by decide +kernel
theorem d_Law_law_456 : decode code 456 = .ok (.bipush 6, 2) := by decide +kernel
theorem d_Law_law_458 : decode code 458 = .ok (.iadd, 1) := by decide +kernel
theorem d_Law_law_459 : decode code 459 = .ok (.iaload, 1) := by decide +kernel
theorem d_Law_law_460 : decode code 460 = .ok (.invokevirtual 51, 3) := by decide +kernel
theorem d_Law_law_463 : decode code 463 = .ok (.if_icmp .eq 550, 3) := by decide +kernel
theorem d_Law_law_466 : decode code 466 = .ok (.iconst 0, 1) := by decide +kernel
theorem d_Law_law_467 : decode code 467 = .ok (.ireturn, 1) := by decide +kernel
theorem d_Law_law_468 : decode code 468 = .ok (.aload_n 1, 1) := by decide +kernel
theorem d_Law_law_469 : decode code 469 = .ok (.aload_n 0, 1) := by decide +kernel
theorem d_Law_law_470 : decode code 470 = .ok (.iload_n 3, 1) := by decide +kernel
theorem d_Law_law_471 : decode code 471 = .ok (.iconst 1, 1) := by decide +kernel
theorem d_Law_law_472 : decode code 472 = .ok (.iadd, 1) := by decide +kernel
theorem d_Law_law_473 : decode code 473 = .ok (.iaload, 1) := by decide +kernel
theorem d_Law_law_474 : decode code 474 = .ok (.aload_n 0, 1) := by decide +kernel
theorem d_Law_law_475 : decode code 475 = .ok (.iload_n 3, 1) := by decide +kernel
theorem d_Law_law_476 : decode code 476 = .ok (.iconst 2, 1) := by decide +kernel
theorem d_Law_law_477 : decode code 477 = .ok (.iadd, 1) := by decide +kernel
theorem d_Law_law_478 : decode code 478 = .ok (.iaload, 1) := by decide +kernel
theorem d_Law_law_479 : decode code 479 = .ok (.invokevirtual 52, 3) := by decide +kernel
theorem d_Law_law_482 : decode code 482 = .ok (.aload_n 2, 1) := by decide +kernel
theorem d_Law_law_483 : decode code 483 = .ok (.aload_n 0, 1) := by decide +kernel
theorem d_Law_law_484 : decode code 484 = .ok (.iload_n 3, 1) := by decide +kernel
theorem d_Law_law_485 : decode code 485 = .ok (.iconst 1, 1) := by decide +kernel
theorem d_Law_law_486 : decode code 486 = .ok (.iadd, 1) := by decide +kernel
theorem d_Law_law_487 : decode code 487 = .ok (.iaload, 1) := by decide +kernel
theorem d_Law_law_488 : decode code 488 = .ok (.aload_n 0, 1) := by decide +kernel
theorem d_Law_law_489 : decode code 489 = .ok (.iload_n 3, 1) := by decide +kernel
theorem d_Law_law_490 : decode code 490 = .ok (.iconst 2, 1) := by decide +kernel
theorem d_Law_law_491 : decode code 491 = .ok (.iadd, 1) := by decide +kernel
theorem d_Law_law_492 : decode code 492 = .ok (.iaload, 1) := by decide +kernel
theorem d_Law_law_493 : decode code 493 = .ok (.invokevirtual 55, 3) := by decide +kernel
theorem d_Law_law_496 : decode code 496 = .ok (.if_icmp .eq 517, 3) := by decide +kernel
theorem d_Law_law_499 : decode code 499 = .ok (.iconst 0, 1) := by decide +kernel
theorem d_Law_law_500 : decode code 500 = .ok (.ireturn, 1) := by decide +kernel
theorem d_Law_law_501 : decode code 501 = .ok (.aload_n 1, 1) := by decide +kernel
theorem d_Law_law_502 : decode code 502 = .ok (.aload_n 0, 1) := by decide +kernel
theorem d_Law_law_503 : decode code 503 = .ok (.iload_n 3, 1) := by decide +kernel
theorem d_Law_law_504 : decode code 504 = .ok (.iconst 1, 1) := by decide +kernel
theorem d_Law_law_505 : decode code 505 = .ok (.iadd, 1) := by decide +kernel
theorem d_Law_law_506 : decode code 506 = .ok (.iaload, 1) := by decide +kernel
theorem d_Law_law_507 : decode code 507 = .ok (.aload_n 0, 1) := by decide +kernel
theorem d_Law_law_508 : decode code 508 = .ok (.iload_n 3, 1) := by decide +kernel
theorem d_Law_law_509 : decode code 509 = .ok (.iconst 2, 1) := by decide +kernel
theorem d_Law_law_510 : decode code 510 = .ok (.iadd, 1) := by decide +kernel
theorem d_Law_law_511 : decode code 511 = .ok (.iaload, 1) := by decide +kernel
theorem d_Law_law_512 : decode code 512 = .ok (.aload_n 0, 1) := by decide +kernel
theorem d_Law_law_513 : decode code 513 = .ok (.iload_n 3, 1) := by decide +kernel
theorem d_Law_law_514 : decode code 514 = .ok (.iconst 3, 1) := by decide +kernel
theorem d_Law_law_515 : decode code 515 = .ok (.iadd, 1) := by decide +kernel
theorem d_Law_law_516 : decode code 516 = .ok (.iaload, 1) := by decide +kernel
theorem d_Law_law_517 : decode code 517 = .ok (.invokevirtual 56, 3) := by decide +kernel
theorem d_Law_law_520 : decode code 520 = .ok (.aload_n 2, 1) := by decide +kernel
theorem d_Law_law_521 : decode code 521 = .ok (.aload_n 0, 1) := by decide +kernel
theorem d_Law_law_522 : decode code 522 = .ok (.iload_n 3, 1) := by decide +kernel
theorem d_Law_law_523 : decode code 523 = .ok (.iconst 1, 1) := by decide +kernel
theorem d_Law_law_524 : decode code 524 = .ok (.iadd, 1) := by decide +kernel
theorem d_Law_law_525 : decode code 525 = .ok (.iaload, 1) := by decide +kernel
theorem d_Law_law_526 : decode code 526 = .ok (.aload_n 0, 1) := by decide +kernel
theorem d_Law_law_527 : decode code 527 = .ok (.iload_n 3, 1) := by decide +kernel
theorem d_Law_law_528 : decode code 528 = .ok (.iconst 2, 1) := by decide +kernel
theorem d_Law_law_529 : decode code 529 = .ok (.iadd, 1) := by decide +kernel
theorem d_Law_law_530 : decode code 530 = .ok (.iaload, 1) := by decide +kernel
theorem d_Law_law_531 : decode code 531 = .ok (.aload_n 0, 1) := by decide +kernel
theorem d_Law_law_532 : decode code 532 = .ok (.iload_n 3, 1) := by decide +kernel
theorem d_Law_law_533 : decode code 533 = .ok (.iconst 3, 1) := by decide +kernel
theorem d_Law_law_534 : decode code 534 = .ok (.iadd, 1) := by decide +kernel
theorem d_Law_law_535 : decode code 535 = .ok (.iaload, 1) := by decide +kernel
theorem d_Law_law_536 : decode code 536 = .ok (.invokevirtual 59, 3) := by decide +kernel
theorem d_Law_law_539 : decode code 539 = .ok (.if_icmp .eq 474, 3) := by decide +kernel
theorem d_Law_law_542 : decode code 542 = .ok (.iconst 0, 1) := by decide +kernel
theorem d_Law_law_543 : decode code 543 = .ok (.ireturn, 1) := by decide +kernel
theorem d_Law_law_544 : decode code 544 = .ok (.aload_n 1, 1) := by decide +kernel
theorem d_Law_law_545 : decode code 545 = .ok (.aload_n 0, 1) := by decide +kernel
theorem d_Law_law_546 : decode code 546 = .ok (.iload_n 3, 1) := by decide +kernel
theorem d_Law_law_547 : decode code 547 = .ok (.iconst 1, 1) := by decide +kernel
theorem d_Law_law_548 : decode code 548 = .ok (.iadd, 1) := by decide +kernel
theorem d_Law_law_549 : decode code 549 = .ok (.iaload, 1) := by decide +kernel
theorem d_Law_law_550 : decode code 550 = .ok (.aload_n 0, 1) := by decide +kernel
theorem d_Law_law_551 : decode code 551 = .ok (.iload_n 3, 1) := by decide +kernel
theorem d_Law_law_552 : decode code 552 = .ok (.iconst 2, 1) := by decide +kernel
theorem d_Law_law_553 : decode code 553 = .ok (.iadd, 1) := by decide +kernel
theorem d_Law_law_554 : decode code 554 = .ok (.iaload, 1) := by decide +kernel
theorem d_Law_law_555 : decode code 555 = .ok (.aload_n 0, 1) := by decide +kernel
theorem d_Law_law_556 : decode code 556 = .ok (.iload_n 3, 1) := by decide +kernel
theorem d_Law_law_557 : decode code 557 = .ok (.iconst 3, 1) := by decide +kernel
theorem d_Law_law_558 : decode code 558 = .ok (.iadd, 1) := by decide +kernel
theorem d_Law_law_559 : decode code 559 = .ok (.iaload, 1) := by decide +kernel
theorem d_Law_law_560 : decode code 560 = .ok (.invokevirtual 60, 3) := by decide +kernel
theorem d_Law_law_563 : decode code 563 = .ok (.aload_n 2, 1) := by decide +kernel
theorem d_Law_law_564 : decode code 564 = .ok (.aload_n 0, 1) := by decide +kernel
theorem d_Law_law_565 : decode code 565 = .ok (.iload_n 3, 1) := by decide +kernel
theorem d_Law_law_566 : decode code 566 = .ok (.iconst 1, 1) := by decide +kernel
theorem d_Law_law_567 : decode code 567 = .ok (.iadd, 1) := by decide +kernel
theorem d_Law_law_568 : decode code 568 = .ok (.iaload, 1) := by decide +kernel
theorem d_Law_law_569 : decode code 569 = .ok (.aload_n 0, 1) := by decide +kernel
theorem d_Law_law_570 : decode code 570 = .ok (.iload_n 3, 1) := by decide +kernel
theorem d_Law_law_571 : decode code 571 = .ok (.iconst 2, 1) := by decide +kernel
theorem d_Law_law_572 : decode code 572 = .ok (.iadd, 1) := by decide +kernel
theorem d_Law_law_573 : decode code 573 = .ok (.iaload, 1) := by decide +kernel
theorem d_Law_law_574 : decode code 574 = .ok (.aload_n 0, 1) := by decide +kernel
theorem d_Law_law_575 : decode code 575 = .ok (.iload_n 3, 1) := by decide +kernel
theorem d_Law_law_576 : decode code 576 = .ok (.iconst 3, 1) := by decide +kernel
theorem d_Law_law_577 : decode code 577 = .ok (.iadd, 1) := by decide +kernel
theorem d_Law_law_578 : decode code 578 = .ok (.iaload, 1) := by decide +kernel
theorem d_Law_law_579 : decode code 579 = .ok (.invokevirtual 63, 3) := by decide +kernel
theorem d_Law_law_582 : decode code 582 = .ok (.if_icmp .eq 431, 3) := by decide +kernel
theorem d_Law_law_585 : decode code 585 = .ok (.iconst 0, 1) := by decide +kernel
theorem d_Law_law_586 : decode code 586 = .ok (.ireturn, 1) := by decide +kernel
theorem d_Law_law_587 : decode code 587 = .ok (.aload_n 1, 1) := by decide +kernel
theorem d_Law_law_588 : decode code 588 = .ok (.aload_n 0, 1) := by decide +kernel
theorem d_Law_law_589 : decode code 589 = .ok (.iload_n 3, 1) := by decide +kernel
theorem d_Law_law_590 : decode code 590 = .ok (.iconst 1, 1) := by decide +kernel
theorem d_Law_law_591 : decode code 591 = .ok (.iadd, 1) := by decide +kernel
theorem d_Law_law_592 : decode code 592 = .ok (.iaload, 1) := by decide +kernel
theorem d_Law_law_593 : decode code 593 = .ok (.invokevirtual 64, 3) := by decide +kernel
theorem d_Law_law_596 : decode code 596 = .ok (.aload_n 2, 1) := by decide +kernel
theorem d_Law_law_597 : decode code 597 = .ok (.aload_n 0, 1) := by decide +kernel
theorem d_Law_law_598 : decode code 598 = .ok (.iload_n 3, 1) := by decide +kernel
theorem d_Law_law_599 : decode code 599 = .ok (.iconst 1, 1) := by decide +kernel
theorem d_Law_law_600 : decode code 600 = .ok (.iadd, 1) := by decide +kernel
theorem d_Law_law_601 : decode code 601 = .ok (.iaload, 1) := by decide +kernel
theorem d_Law_law_602 : decode code 602 = .ok (.invokevirtual 67, 3) := by decide +kernel
theorem d_Law_law_605 : decode code 605 = .ok (.if_icmp .eq 408, 3) := by decide +kernel
theorem d_Law_law_608 : decode code 608 = .ok (.iconst 0, 1) := by decide +kernel
theorem d_Law_law_609 : decode code 609 = .ok (.ireturn, 1) := by decide +kernel
theorem d_Law_law_610 : decode code 610 = .ok (.aload_n 1, 1) := by decide +kernel
theorem d_Law_law_611 : decode code 611 = .ok (.aload_n 0, 1) := by decide +kernel
theorem d_Law_law_612 : decode code 612 = .ok (.iload_n 3, 1) := by decide +kernel
theorem d_Law_law_613 : decode code 613 = .ok (.iconst 1, 1) := by decide +kernel
theorem d_Law_law_614 : decode code 614 = .ok (.iadd, 1) := by decide +kernel
theorem d_Law_law_615 : decode code 615 = .ok (.iaload, 1) := by decide +kernel
theorem d_Law_law_616 : decode code 616 = .ok (.invokevirtual 68, 3) := by decide +kernel
theorem d_Law_law_619 : decode code 619 = .ok (.aload_n 2, 1) := by decide +kernel
theorem d_Law_law_620 : decode code 620 = .ok (.aload_n 0, 1) := by decide +kernel
theorem d_Law_law_621 : decode code 621 = .ok (.iload_n 3, 1) := by decide +kernel
theorem d_Law_law_622 : decode code 622 = .ok (.iconst 1, 1) := by decide +kernel
theorem d_Law_law_623 : decode code 623 = .ok (.iadd, 1) := by decide +kernel
theorem d_Law_law_624 : decode code 624 = .ok (.iaload, 1) := by decide +kernel
theorem d_Law_law_625 : decode code 625 = .ok (.invokevirtual 71, 3) := by decide +kernel
theorem d_Law_law_628 : decode code 628 = .ok (.if_icmp .eq 385, 3) := by decide +kernel
theorem d_Law_law_631 : decode code 631 = .ok (.iconst 0, 1) := by decide +kernel
theorem d_Law_law_632 : decode code 632 = .ok (.ireturn, 1) := by decide +kernel
theorem d_Law_law_633 : decode code 633 = .ok (.aload_n 1, 1) := by decide +kernel
theorem d_Law_law_634 : decode code 634 = .ok (.aload_n 0, 1) := by decide +kernel
theorem d_Law_law_635 : decode code 635 = .ok (.iload_n 3, 1) := by decide +kernel
theorem d_Law_law_636 : decode code 636 = .ok (.iconst 1, 1) := by decide +kernel
theorem d_Law_law_637 : decode code 637 = .ok (.iadd, 1) := by decide +kernel
theorem d_Law_law_638 : decode code 638 = .ok (.iaload, 1) := by decide +kernel
theorem d_Law_law_639 : decode code 639 = .ok (.aload_n 0, 1) := by decide +kernel
theorem d_Law_law_640 : decode code 640 = .ok (.iload_n 3, 1) := by decide +kernel
theorem d_Law_law_641 : decode code 641 = .ok (.iconst 2, 1) := by decide +kernel
theorem d_Law_law_642 : decode code 642 = .ok (.iadd, 1) := by decide +kernel
theorem d_Law_law_643 : decode code 643 = .ok (.iaload, 1) := by decide +kernel
theorem d_Law_law_644 : decode code 644 = .ok (.invokevirtual 72, 3) := by decide +kernel
theorem d_Law_law_647 : decode code 647 = .ok (.aload_n 2, 1) := by decide +kernel
theorem d_Law_law_648 : decode code 648 = .ok (.aload_n 0, 1) := by decide +kernel
theorem d_Law_law_649 : decode code 649 = .ok (.iload_n 3, 1) := by decide +kernel
theorem d_Law_law_650 : decode code 650 = .ok (.iconst 1, 1) := by decide +kernel
theorem d_Law_law_651 : decode code 651 = .ok (.iadd, 1) := by decide +kernel
theorem d_Law_law_652 : decode code 652 = .ok (.iaload, 1) := by decide +kernel
theorem d_Law_law_653 : decode code 653 = .ok (.aload_n 0, 1) := by decide +kernel
theorem d_Law_law_654 : decode code 654 = .ok (.iload_n 3, 1) := by decide +kernel
theorem d_Law_law_655 : decode code 655 = .ok (.iconst 2, 1) := by decide +kernel
theorem d_Law_law_656 : decode code 656 = .ok (.iadd, 1) := by decide +kernel
theorem d_Law_law_657 : decode code 657 = .ok (.iaload, 1) := by decide +kernel
theorem d_Law_law_658 : decode code 658 = .ok (.invokevirtual 75, 3) := by decide +kernel
theorem d_Law_law_661 : decode code 661 = .ok (.if_icmp .eq 352, 3) := by decide +kernel
theorem d_Law_law_664 : decode code 664 = .ok (.iconst 0, 1) := by decide +kernel
theorem d_Law_law_665 : decode code 665 = .ok (.ireturn, 1) := by decide +kernel
theorem d_Law_law_666 : decode code 666 = .ok (.aload_n 1, 1) := by decide +kernel
theorem d_Law_law_667 : decode code 667 = .ok (.aload_n 0, 1) := by decide +kernel
theorem d_Law_law_668 : decode code 668 = .ok (.iload_n 3, 1) := by decide +kernel
theorem d_Law_law_669 : decode code 669 = .ok (.iconst 1, 1) := by decide +kernel
theorem d_Law_law_670 : decode code 670 = .ok (.iadd, 1) := by decide +kernel
theorem d_Law_law_671 : decode code 671 = .ok (.iaload, 1) := by decide +kernel
theorem d_Law_law_672 : decode code 672 = .ok (.aload_n 0, 1) := by decide +kernel
theorem d_Law_law_673 : decode code 673 = .ok (.iload_n 3, 1) := by decide +kernel
theorem d_Law_law_674 : decode code 674 = .ok (.iconst 2, 1) := by decide +kernel
theorem d_Law_law_675 : decode code 675 = .ok (.iadd, 1) := by decide +kernel
theorem d_Law_law_676 : decode code 676 = .ok (.iaload, 1) := by decide +kernel
theorem d_Law_law_677 : decode code 677 = .ok (.invokevirtual 76, 3) := by decide +kernel
theorem d_Law_law_680 : decode code 680 = .ok (.aload_n 2, 1) := by decide +kernel
theorem d_Law_law_681 : decode code 681 = .ok (.aload_n 0, 1) := by decide +kernel
theorem d_Law_law_682 : decode code 682 = .ok (.iload_n 3, 1) := by decide +kernel
theorem d_Law_law_683 : decode code 683 = .ok (.iconst 1, 1) := by decide +kernel
theorem d_Law_law_684 : decode code 684 = .ok (.iadd, 1) := by decide +kernel
theorem d_Law_law_685 : decode code 685 = .ok (.iaload, 1) := by decide +kernel
theorem d_Law_law_686 : decode code 686 = .ok (.aload_n 0, 1) := by decide +kernel
theorem d_Law_law_687 : decode code 687 = .ok (.iload_n 3, 1) := by decide +kernel
theorem d_Law_law_688 : decode code 688 = .ok (.iconst 2, 1) := by decide +kernel
theorem d_Law_law_689 : decode code 689 = .ok (.iadd, 1) := by decide +kernel
theorem d_Law_law_690 : decode code 690 = .ok (.iaload, 1) := by decide +kernel
theorem d_Law_law_691 : decode code 691 = .ok (.invokevirtual 79, 3) := by decide +kernel
theorem d_Law_law_694 : decode code 694 = .ok (.if_icmp .eq 319, 3) := by decide +kernel
theorem d_Law_law_697 : decode code 697 = .ok (.iconst 0, 1) := by decide +kernel
theorem d_Law_law_698 : decode code 698 = .ok (.ireturn, 1) := by decide +kernel
theorem d_Law_law_699 : decode code 699 = .ok (.aload_n 1, 1) := by decide +kernel
theorem d_Law_law_700 : decode code 700 = .ok (.aload_n 0, 1) := by decide +kernel
theorem d_Law_law_701 : decode code 701 = .ok (.iload_n 3, 1) := by decide +kernel
theorem d_Law_law_702 : decode code 702 = .ok (.iconst 1, 1) := by decide +kernel
theorem d_Law_law_703 : decode code 703 = .ok (.iadd, 1) := by decide +kernel
theorem d_Law_law_704 : decode code 704 = .ok (.iaload, 1) := by decide +kernel
theorem d_Law_law_705 : decode code 705 = .ok (.aload_n 0, 1) := by decide +kernel
theorem d_Law_law_706 : decode code 706 = .ok (.iload_n 3, 1) := by decide +kernel
theorem d_Law_law_707 : decode code 707 = .ok (.iconst 2, 1) := by decide +kernel
theorem d_Law_law_708 : decode code 708 = .ok (.iadd, 1) := by decide +kernel
theorem d_Law_law_709 : decode code 709 = .ok (.iaload, 1) := by decide +kernel
theorem d_Law_law_710 : decode code 710 = .ok (.invokevirtual 80, 3) := by decide +kernel
theorem d_Law_law_713 : decode code 713 = .ok (.aload_n 2, 1) := by decide +kernel
theorem d_Law_law_714 : decode code 714 = .ok (.aload_n 0, 1) := by decide +kernel
theorem d_Law_law_715 : decode code 715 = .ok (.iload_n 3, 1) := by decide +kernel
theorem d_Law_law_716 : decode code 716 = .ok (.iconst 1, 1) := by decide +kernel
theorem d_Law_law_717 : decode code 717 = .ok (.iadd, 1) := by decide +kernel
theorem d_Law_law_718 : decode code 718 = .ok (.iaload, 1) := by decide +kernel
theorem d_Law_law_719 : decode code 719 = .ok (.aload_n 0, 1) := by decide +kernel
theorem d_Law_law_720 : decode code 720 = .ok (.iload_n 3, 1) := by decide +kernel
theorem d_Law_law_721 : decode code 721 = .ok (.iconst 2, 1) := by decide +kernel
theorem d_Law_law_722 : decode code 722 = .ok (.iadd, 1) := by decide +kernel
theorem d_Law_law_723 : decode code 723 = .ok (.iaload, 1) := by decide +kernel
theorem d_Law_law_724 : decode code 724 = .ok (.invokevirtual 83, 3) := by decide +kernel
theorem d_Law_law_727 : decode code 727 = .ok (.if_icmp .eq 286, 3) := by decide +kernel
theorem d_Law_law_730 : decode code 730 = .ok (.iconst 0, 1) := by decide +kernel
theorem d_Law_law_731 : decode code 731 = .ok (.ireturn, 1) := by decide +kernel
theorem d_Law_law_732 : decode code 732 = .ok (.aload_n 1, 1) := by decide +kernel
theorem d_Law_law_733 : decode code 733 = .ok (.aload_n 0, 1) := by decide +kernel
theorem d_Law_law_734 : decode code 734 = .ok (.iload_n 3, 1) := by decide +kernel
theorem d_Law_law_735 : decode code 735 = .ok (.iconst 1, 1) := by decide +kernel
theorem d_Law_law_736 : decode code 736 = .ok (.iadd, 1) := by decide +kernel
theorem d_Law_law_737 : decode code 737 = .ok (.iaload, 1) := by decide +kernel
theorem d_Law_law_738 : decode code 738 = .ok (.aload_n 0, 1) := by decide +kernel
theorem d_Law_law_739 : decode code 739 = .ok (.iload_n 3, 1) := by decide +kernel
theorem d_Law_law_740 : decode code 740 = .ok (.iconst 2, 1) := by decide +kernel
theorem d_Law_law_741 : decode code 741 = .ok (.iadd, 1) := by decide +kernel
theorem d_Law_law_742 : decode code 742 = .ok (.iaload, 1) := by decide +kernel
theorem d_Law_law_743 : decode code 743 = .ok (.invokevirtual 84, 3) := by decide +kernel
theorem d_Law_law_746 : decode code 746 = .ok (.aload_n 2, 1) := by decide +kernel
theorem d_Law_law_747 : decode code 747 = .ok (.aload_n 0, 1) := by decide +kernel
theorem d_Law_law_748 : decode code 748 = .ok (.iload_n 3, 1) := by decide +kernel
theorem d_Law_law_749 : decode code 749 = .ok (.iconst 1, 1) := by decide +kernel
theorem d_Law_law_750 : decode code 750 = .ok (.iadd, 1) := by decide +kernel
theorem d_Law_law_751 : decode code 751 = .ok (.iaload, 1) := by decide +kernel
theorem d_Law_law_752 : decode code 752 = .ok (.aload_n 0, 1) := by decide +kernel
theorem d_Law_law_753 : decode code 753 = .ok (.iload_n 3, 1) := by decide +kernel
theorem d_Law_law_754 : decode code 754 = .ok (.iconst 2, 1) := by decide +kernel
theorem d_Law_law_755 : decode code 755 = .ok (.iadd, 1) := by decide +kernel
theorem d_Law_law_756 : decode code 756 = .ok (.iaload, 1) := by decide +kernel
theorem d_Law_law_757 : decode code 757 = .ok (.invokevirtual 88, 3) := by decide +kernel
theorem d_Law_law_760 : decode code 760 = .ok (.lcmp, 1) := by decide +kernel
theorem d_Law_law_761 : decode code 761 = .ok (.ifCond .eq 252, 3) := by decide +kernel
theorem d_Law_law_764 : decode code 764 = .ok (.iconst 0, 1) := by decide +kernel
theorem d_Law_law_765 : decode code 765 = .ok (.ireturn, 1) := by decide +kernel
theorem d_Law_law_766 : decode code 766 = .ok (.aload_n 1, 1) := by decide +kernel
theorem d_Law_law_767 : decode code 767 = .ok (.aload_n 0, 1) := by decide +kernel
theorem d_Law_law_768 : decode code 768 = .ok (.iload_n 3, 1) := by decide +kernel
theorem d_Law_law_769 : decode code 769 = .ok (.iconst 1, 1) := by decide +kernel
theorem d_Law_law_770 : decode code 770 = .ok (.iadd, 1) := by decide +kernel
theorem d_Law_law_771 : decode code 771 = .ok (.iaload, 1) := by decide +kernel
theorem d_Law_law_772 : decode code 772 = .ok (.aload_n 0, 1) := by decide +kernel
theorem d_Law_law_773 : decode code 773 = .ok (.iload_n 3, 1) := by decide +kernel
theorem d_Law_law_774 : decode code 774 = .ok (.iconst 2, 1) := by decide +kernel
theorem d_Law_law_775 : decode code 775 = .ok (.iadd, 1) := by decide +kernel
theorem d_Law_law_776 : decode code 776 = .ok (.iaload, 1) := by decide +kernel
theorem d_Law_law_777 : decode code 777 = .ok (.invokevirtual 89, 3) := by decide +kernel
theorem d_Law_law_780 : decode code 780 = .ok (.aload_n 2, 1) := by decide +kernel
theorem d_Law_law_781 : decode code 781 = .ok (.aload_n 0, 1) := by decide +kernel
theorem d_Law_law_782 : decode code 782 = .ok (.iload_n 3, 1) := by decide +kernel
theorem d_Law_law_783 : decode code 783 = .ok (.iconst 1, 1) := by decide +kernel
theorem d_Law_law_784 : decode code 784 = .ok (.iadd, 1) := by decide +kernel
theorem d_Law_law_785 : decode code 785 = .ok (.iaload, 1) := by decide +kernel
theorem d_Law_law_786 : decode code 786 = .ok (.aload_n 0, 1) := by decide +kernel
theorem d_Law_law_787 : decode code 787 = .ok (.iload_n 3, 1) := by decide +kernel
theorem d_Law_law_788 : decode code 788 = .ok (.iconst 2, 1) := by decide +kernel
theorem d_Law_law_789 : decode code 789 = .ok (.iadd, 1) := by decide +kernel
theorem d_Law_law_790 : decode code 790 = .ok (.iaload, 1) := by decide +kernel
theorem d_Law_law_791 : decode code 791 = .ok (.invokevirtual 92, 3) := by decide +kernel
theorem d_Law_law_794 : decode code 794 = .ok (.if_icmp .eq 219, 3) := by decide +kernel
theorem d_Law_law_797 : decode code 797 = .ok (.iconst 0, 1) := by decide +kernel
theorem d_Law_law_798 : decode code 798 = .ok (.ireturn, 1) := by decide +kernel
theorem d_Law_law_799 : decode code 799 = .ok (.aload_n 1, 1) := by decide +kernel
theorem d_Law_law_800 : decode code 800 = .ok (.aload_n 0, 1) := by decide +kernel
theorem d_Law_law_801 : decode code 801 = .ok (.iload_n 3, 1) := by decide +kernel
theorem d_Law_law_802 : decode code 802 = .ok (.iconst 1, 1) := by decide +kernel
theorem d_Law_law_803 : decode code 803 = .ok (.iadd, 1) := by decide +kernel
theorem d_Law_law_804 : decode code 804 = .ok (.iaload, 1) := by decide +kernel
theorem d_Law_law_805 : decode code 805 = .ok (.invokevirtual 93, 3) := by decide +kernel
theorem d_Law_law_808 : decode code 808 = .ok (.aload_n 2, 1) := by decide +kernel
theorem d_Law_law_809 : decode code 809 = .ok (.aload_n 0, 1) := by decide +kernel
theorem d_Law_law_810 : decode code 810 = .ok (.iload_n 3, 1) := by decide +kernel
theorem d_Law_law_811 : decode code 811 = .ok (.iconst 1, 1) := by decide +kernel
theorem d_Law_law_812 : decode code 812 = .ok (.iadd, 1) := by decide +kernel
theorem d_Law_law_813 : decode code 813 = .ok (.iaload, 1) := by decide +kernel
theorem d_Law_law_814 : decode code 814 = .ok (.invokevirtual 96, 3) := by decide +kernel
theorem d_Law_law_817 : decode code 817 = .ok (.if_icmp .eq 196, 3) := by decide +kernel
theorem d_Law_law_820 : decode code 820 = .ok (.iconst 0, 1) := by decide +kernel
theorem d_Law_law_821 : decode code 821 = .ok (.ireturn, 1) := by decide +kernel
theorem d_Law_law_822 : decode code 822 = .ok (.aload_n 1, 1) := by decide +kernel
theorem d_Law_law_823 : decode code 823 = .ok (.aload_n 0, 1) := by decide +kernel
theorem d_Law_law_824 : decode code 824 = .ok (.iload_n 3, 1) := by decide +kernel
theorem d_Law_law_825 : decode code 825 = .ok (.iconst 1, 1) := by decide +kernel
theorem d_Law_law_826 : decode code 826 = .ok (.iadd, 1) := by decide +kernel
theorem d_Law_law_827 : decode code 827 = .ok (.iaload, 1) := by decide +kernel
theorem d_Law_law_828 : decode code 828 = .ok (.aload_n 0, 1) := by decide +kernel
theorem d_Law_law_829 : decode code 829 = .ok (.iload_n 3, 1) := by decide +kernel
theorem d_Law_law_830 : decode code 830 = .ok (.iconst 2, 1) := by decide +kernel
theorem d_Law_law_831 : decode code 831 = .ok (.iadd, 1) := by decide +kernel
theorem d_Law_law_832 : decode code 832 = .ok (.iaload, 1) := by decide +kernel
theorem d_Law_law_833 : decode code 833 = .ok (.aload_n 0, 1) := by decide +kernel
theorem d_Law_law_834 : decode code 834 = .ok (.iload_n 3, 1) := by decide +kernel
theorem d_Law_law_835 : decode code 835 = .ok (.iconst 3, 1) := by decide +kernel
theorem d_Law_law_836 : decode code 836 = .ok (.iadd, 1) := by decide +kernel
theorem d_Law_law_837 : decode code 837 = .ok (.iaload, 1) := by decide +kernel
theorem d_Law_law_838 : decode code 838 = .ok (.aload_n 0, 1) := by decide +kernel
theorem d_Law_law_839 : decode code 839 = .ok (.iload_n 3, 1) := by decide +kernel
theorem d_Law_law_840 : decode code 840 = .ok (.iconst 4, 1) := by decide +kernel
theorem d_Law_law_841 : decode code 841 = .ok (.iadd, 1) := by decide +kernel
theorem d_Law_law_842 : decode code 842 = .ok (.iaload, 1) := by decide +kernel
theorem d_Law_law_843 : decode code 843 = .ok (.invokevirtual 97, 3) := by decide +kernel
theorem d_Law_law_846 : decode code 846 = .ok (.aload_n 2, 1) := by decide +kernel
theorem d_Law_law_847 : decode code 847 = .ok (.aload_n 0, 1) := by decide +kernel
theorem d_Law_law_848 : decode code 848 = .ok (.iload_n 3, 1) := by decide +kernel
theorem d_Law_law_849 : decode code 849 = .ok (.iconst 1, 1) := by decide +kernel
theorem d_Law_law_850 : decode code 850 = .ok (.iadd, 1) := by decide +kernel
theorem d_Law_law_851 : decode code 851 = .ok (.iaload, 1) := by decide +kernel
theorem d_Law_law_852 : decode code 852 = .ok (.aload_n 0, 1) := by decide +kernel
theorem d_Law_law_853 : decode code 853 = .ok (.iload_n 3, 1) := by decide +kernel
theorem d_Law_law_854 : decode code 854 = .ok (.iconst 2, 1) := by decide +kernel
theorem d_Law_law_855 : decode code 855 = .ok (.iadd, 1) := by decide +kernel
theorem d_Law_law_856 : decode code 856 = .ok (.iaload, 1) := by decide +kernel
theorem d_Law_law_857 : decode code 857 = .ok (.aload_n 0, 1) := by decide +kernel
theorem d_Law_law_858 : decode code 858 = .ok (.iload_n 3, 1) := by decide +kernel
theorem d_Law_law_859 : decode code 859 = .ok (.iconst 3, 1) := by decide +kernel
theorem d_Law_law_860 : decode code 860 = .ok (.iadd, 1) := by decide +kernel
theorem d_Law_law_861 : decode code 861 = .ok (.iaload, 1) := by decide +kernel
theorem d_Law_law_862 : decode code 862 = .ok (.aload_n 0, 1) := by decide +kernel
theorem d_Law_law_863 : decode code 863 = .ok (.iload_n 3, 1) := by decide +kernel
theorem d_Law_law_864 : decode code 864 = .ok (.iconst 4, 1) := by decide +kernel
theorem d_Law_law_865 : decode code 865 = .ok (.iadd, 1) := by decide +kernel
theorem d_Law_law_866 : decode code 866 = .ok (.iaload, 1) := by decide +kernel
theorem d_Law_law_867 : decode code 867 = .ok (.invokevirtual 101, 3) := by decide +kernel
theorem d_Law_law_870 : decode code 870 = .ok (.if_icmp .eq 143, 3) := by decide +kernel
theorem d_Law_law_873 : decode code 873 = .ok (.iconst 0, 1) := by decide +kernel
theorem d_Law_law_874 : decode code 874 = .ok (.ireturn, 1) := by decide +kernel
theorem d_Law_law_875 : decode code 875 = .ok (.aload_n 1, 1) := by decide +kernel
theorem d_Law_law_876 : decode code 876 = .ok (.aload_n 0, 1) := by decide +kernel
theorem d_Law_law_877 : decode code 877 = .ok (.iload_n 3, 1) := by decide +kernel
theorem d_Law_law_878 : decode code 878 = .ok (.iconst 1, 1) := by decide +kernel
theorem d_Law_law_879 : decode code 879 = .ok (.iadd, 1) := by decide +kernel
theorem d_Law_law_880 : decode code 880 = .ok (.iaload, 1) := by decide +kernel
theorem d_Law_law_881 : decode code 881 = .ok (.invokevirtual 102, 3) := by decide +kernel
theorem d_Law_law_884 : decode code 884 = .ok (.aload_n 2, 1) := by decide +kernel
theorem d_Law_law_885 : decode code 885 = .ok (.aload_n 0, 1) := by decide +kernel
theorem d_Law_law_886 : decode code 886 = .ok (.iload_n 3, 1) := by decide +kernel
theorem d_Law_law_887 : decode code 887 = .ok (.iconst 1, 1) := by decide +kernel
theorem d_Law_law_888 : decode code 888 = .ok (.iadd, 1) := by decide +kernel
theorem d_Law_law_889 : decode code 889 = .ok (.iaload, 1) := by decide +kernel
theorem d_Law_law_890 : decode code 890 = .ok (.invokevirtual 105, 3) := by decide +kernel
theorem d_Law_law_893 : decode code 893 = .ok (.if_icmp .eq 120, 3) := by decide +kernel
theorem d_Law_law_896 : decode code 896 = .ok (.iconst 0, 1) := by decide +kernel
theorem d_Law_law_897 : decode code 897 = .ok (.ireturn, 1) := by decide +kernel
theorem d_Law_law_898 : decode code 898 = .ok (.aload_n 1, 1) := by decide +kernel
theorem d_Law_law_899 : decode code 899 = .ok (.aload_n 0, 1) := by decide +kernel
theorem d_Law_law_900 : decode code 900 = .ok (.iload_n 3, 1) := by decide +kernel
theorem d_Law_law_901 : decode code 901 = .ok (.iconst 1, 1) := by decide +kernel
theorem d_Law_law_902 : decode code 902 = .ok (.iadd, 1) := by decide +kernel
theorem d_Law_law_903 : decode code 903 = .ok (.iaload, 1) := by decide +kernel
theorem d_Law_law_904 : decode code 904 = .ok (.invokevirtual 106, 3) := by decide +kernel
theorem d_Law_law_907 : decode code 907 = .ok (.aload_n 2, 1) := by decide +kernel
theorem d_Law_law_908 : decode code 908 = .ok (.aload_n 0, 1) := by decide +kernel
theorem d_Law_law_909 : decode code 909 = .ok (.iload_n 3, 1) := by decide +kernel
theorem d_Law_law_910 : decode code 910 = .ok (.iconst 1, 1) := by decide +kernel
theorem d_Law_law_911 : decode code 911 = .ok (.iadd, 1) := by decide +kernel
theorem d_Law_law_912 : decode code 912 = .ok (.iaload, 1) := by decide +kernel
theorem d_Law_law_913 : decode code 913 = .ok (.invokevirtual 109, 3) := by decide +kernel
theorem d_Law_law_916 : decode code 916 = .ok (.if_icmp .eq 97, 3) := by decide +kernel
theorem d_Law_law_919 : decode code 919 = .ok (.iconst 0, 1) := by decide +kernel
theorem d_Law_law_920 : decode code 920 = .ok (.ireturn, 1) := by decide +kernel
theorem d_Law_law_921 : decode code 921 = .ok (.aload_n 1, 1) := by decide +kernel
theorem d_Law_law_922 : decode code 922 = .ok (.aload_n 0, 1) := by decide +kernel
theorem d_Law_law_923 : decode code 923 = .ok (.iload_n 3, 1) := by decide +kernel
theorem d_Law_law_924 : decode code 924 = .ok (.iconst 1, 1) := by decide +kernel
theorem d_Law_law_925 : decode code 925 = .ok (.iadd, 1) := by decide +kernel
theorem d_Law_law_926 : decode code 926 = .ok (.iaload, 1) := by decide +kernel
theorem d_Law_law_927 : decode code 927 = .ok (.aload_n 0, 1) := by decide +kernel
theorem d_Law_law_928 : decode code 928 = .ok (.iload_n 3, 1) := by decide +kernel
theorem d_Law_law_929 : decode code 929 = .ok (.iconst 2, 1) := by decide +kernel
theorem d_Law_law_930 : decode code 930 = .ok (.iadd, 1) := by decide +kernel
theorem d_Law_law_931 : decode code 931 = .ok (.iaload, 1) := by decide +kernel
theorem d_Law_law_932 : decode code 932 = .ok (.invokevirtual 110, 3) := by decide +kernel
theorem d_Law_law_935 : decode code 935 = .ok (.aload_n 2, 1) := by decide +kernel
theorem d_Law_law_936 : decode code 936 = .ok (.aload_n 0, 1) := by decide +kernel
theorem d_Law_law_937 : decode code 937 = .ok (.iload_n 3, 1) := by decide +kernel
theorem d_Law_law_938 : decode code 938 = .ok (.iconst 1, 1) := by decide +kernel
theorem d_Law_law_939 : decode code 939 = .ok (.iadd, 1) := by decide +kernel
theorem d_Law_law_940 : decode code 940 = .ok (.iaload, 1) := by decide +kernel
theorem d_Law_law_941 : decode code 941 = .ok (.aload_n 0, 1) := by decide +kernel
theorem d_Law_law_942 : decode code 942 = .ok (.iload_n 3, 1) := by decide +kernel
theorem d_Law_law_943 : decode code 943 = .ok (.iconst 2, 1) := by decide +kernel
theorem d_Law_law_944 : decode code 944 = .ok (.iadd, 1) := by decide +kernel
theorem d_Law_law_945 : decode code 945 = .ok (.iaload, 1) := by decide +kernel
theorem d_Law_law_946 : decode code 946 = .ok (.invokevirtual 113, 3) := by decide +kernel
theorem d_Law_law_949 : decode code 949 = .ok (.if_icmp .eq 64, 3) := by decide +kernel
theorem d_Law_law_952 : decode code 952 = .ok (.iconst 0, 1) := by decide +kernel
theorem d_Law_law_953 : decode code 953 = .ok (.ireturn, 1) := by decide +kernel
theorem d_Law_law_954 : decode code 954 = .ok (.aload_n 1, 1) := by decide +kernel
theorem d_Law_law_955 : decode code 955 = .ok (.aload_n 0, 1) := by decide +kernel
theorem d_Law_law_956 : decode code 956 = .ok (.iload_n 3, 1) := by decide +kernel
theorem d_Law_law_957 : decode code 957 = .ok (.iconst 1, 1) := by decide +kernel
theorem d_Law_law_958 : decode code 958 = .ok (.iadd, 1) := by decide +kernel
theorem d_Law_law_959 : decode code 959 = .ok (.iaload, 1) := by decide +kernel
theorem d_Law_law_960 : decode code 960 = .ok (.invokevirtual 114, 3) := by decide +kernel
theorem d_Law_law_963 : decode code 963 = .ok (.aload_n 2, 1) := by decide +kernel
theorem d_Law_law_964 : decode code 964 = .ok (.aload_n 0, 1) := by decide +kernel
theorem d_Law_law_965 : decode code 965 = .ok (.iload_n 3, 1) := by decide +kernel
theorem d_Law_law_966 : decode code 966 = .ok (.iconst 1, 1) := by decide +kernel
theorem d_Law_law_967 : decode code 967 = .ok (.iadd, 1) := by decide +kernel
theorem d_Law_law_968 : decode code 968 = .ok (.iaload, 1) := by decide +kernel
theorem d_Law_law_969 : decode code 969 = .ok (.invokevirtual 117, 3) := by decide +kernel
theorem d_Law_law_972 : decode code 972 = .ok (.if_icmp .eq 41, 3) := by decide +kernel
theorem d_Law_law_975 : decode code 975 = .ok (.iconst 0, 1) := by decide +kernel
theorem d_Law_law_976 : decode code 976 = .ok (.ireturn, 1) := by decide +kernel
theorem d_Law_law_977 : decode code 977 = .ok (.aload_n 1, 1) := by decide +kernel
theorem d_Law_law_978 : decode code 978 = .ok (.invokevirtual 118, 3) := by decide +kernel
theorem d_Law_law_981 : decode code 981 = .ok (.aload_n 2, 1) := by decide +kernel
theorem d_Law_law_982 : decode code 982 = .ok (.invokevirtual 122, 3) := by decide +kernel
theorem d_Law_law_985 : decode code 985 = .ok (.if_icmp .eq 28, 3) := by decide +kernel
theorem d_Law_law_988 : decode code 988 = .ok (.iconst 0, 1) := by decide +kernel
theorem d_Law_law_989 : decode code 989 = .ok (.ireturn, 1) := by decide +kernel
theorem d_Law_law_990 : decode code 990 = .ok (.aload_n 1, 1) := by decide +kernel
theorem d_Law_law_991 : decode code 991 = .ok (.aload_n 0, 1) := by decide +kernel
theorem d_Law_law_992 : decode code 992 = .ok (.iload_n 3, 1) := by decide +kernel
theorem d_Law_law_993 : decode code 993 = .ok (.iconst 1, 1) := by decide +kernel
theorem d_Law_law_994 : decode code 994 = .ok (.iadd, 1) := by decide +kernel
theorem d_Law_law_995 : decode code 995 = .ok (.iaload, 1) := by decide +kernel
theorem d_Law_law_996 : decode code 996 = .ok (.invokevirtual 123, 3) := by decide +kernel
theorem d_Law_law_999 : decode code 999 = .ok (.aload_n 2, 1) := by decide +kernel
theorem d_Law_law_1000 : decode code 1000 = .ok (.aload_n 0, 1) := by decide +kernel
theorem d_Law_law_1001 : decode code 1001 = .ok (.iload_n 3, 1) := by decide +kernel
theorem d_Law_law_1002 : decode code 1002 = .ok (.iconst 1, 1) := by decide +kernel
theorem d_Law_law_1003 : decode code 1003 = .ok (.iadd, 1) := by decide +kernel
theorem d_Law_law_1004 : decode code 1004 = .ok (.iaload, 1) := by decide +kernel
theorem d_Law_law_1005 : decode code 1005 = .ok (.invokevirtual 126, 3) := by decide +kernel
theorem d_Law_law_1008 : decode code 1008 = .ok (.if_icmp .eq 5, 3) := by decide +kernel
theorem d_Law_law_1011 : decode code 1011 = .ok (.iconst 0, 1) := by decide +kernel
theorem d_Law_law_1012 : decode code 1012 = .ok (.ireturn, 1) := by decide +kernel
theorem d_Law_law_1013 : decode code 1013 = .ok (.iinc 3 7, 3) := by decide +kernel
theorem d_Law_law_1016 : decode code 1016 = .ok (.goto (-998), 3) := by decide +kernel
theorem d_Law_law_1019 : decode code 1019 = .ok (.iconst 1, 1) := by decide +kernel
theorem d_Law_law_1020 : decode code 1020 = .ok (.ireturn, 1) := by decide +kernel
