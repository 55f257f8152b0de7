theorem d_W_law_0 : decode code 0 = .ok (.new 7, 3) := by decide +kernel
theorem d_W_law_3 : decode code 3 = .ok (.dup, 1) := by decide +kernel
theorem d_W_law_4 : decode code 4 = .ok (.invokespecial 9, 3) := by decide +kernel
theorem d_W_law_7 : decode code 7 = .ok (.astore_n 1, 1) := by decide +kernel
theorem d_W_law_8 : decode code 8 = .ok (.new 10, 3) := by decide +kernel
theorem d_W_law_11 : decode code 11 = .ok (.dup, 1) := by decide +kernel
theorem d_W_law_12 : decode code 12 = .ok (.invokespecial 12, 3) := by decide +kernel
theorem d_W_law_15 : decode code 15 = .ok (.astore_n 2, 1) := by decide +kernel
theorem d_W_law_16 : decode code 16 = .ok (.iconst 0, 1) := by decide +kernel
theorem d_W_law_17 : decode code 17 = .ok (.istore_n 3, 1) := by decide +kernel
theorem d_W_law_18 : decode code 18 = .ok (.iload_n 3, 1) := by decide +kernel
theorem d_W_law_19 : decode code 19 = .ok (.aload_n 0, 1) := by decide +kernel
theorem d_W_law_20 : decode code 20 = .ok (.arraylength, 1) := by decide +kernel
theorem d_W_law_21 : decode code 21 = .ok (.bipush 6, 2) := by decide +kernel
theorem d_W_law_23 : decode code 23 = .ok (.isub, 1) := by decide +kernel
theorem d_W_law_24 : decode code 24 = .ok (.if_icmp .gt 626, 3) := by decide +kernel
theorem d_W_law_27 : decode code 27 = .ok (.aload_n 0, 1) := by decide +kernel
theorem d_W_law_28 : decode code 28 = .ok (.iload_n 3, 1) := by decide +kernel
theorem d_W_law_29 : decode code 29 = .ok (.iaload, 1) := by decide +kernel
theorem d_W_law_30 : decode code 30 = .ok (.bipush 31, 2) := by decide +kernel
theorem d_W_law_32 : decode code 32 = .ok (.iand, 1) := by decide +kernel
theorem d_W_law_33 : decode code 33 = .ok (.tableswitch 611 0 17 #[87, 150, 173, 186, 209, 222, 255, 268, 291, 324, 357, 390, 413, 446, 469, 502, 545, 588], 87) := by decide +kernel
theorem d_W_law_120 : decode code 120 = .ok (.aload_n 1, 1) := by decide +kernel
theorem d_W_law_121 : decode code 121 = .ok (.aload_n 0, 1) := by decide +kernel
theorem d_W_law_122 : decode code 122 = .ok (.iload_n 3, 1) := by decide +kernel
theorem d_W_law_123 : decode code 123 = .ok (.iconst 1, 1) := by decide +kernel
theorem d_W_law_124 : decode code 124 = .ok (.iadd, 1) := by decide +kernel
theorem d_W_law_125 : decode code 125 = .ok (.iaload, 1) := by decide +kernel
theorem d_W_law_126 : decode code 126 = .ok (.aload_n 0, 1) := by decide +kernel
theorem d_W_law_127 : decode code 127 = .ok (.iload_n 3, 1) := by decide +kernel
theorem d_W_law_128 : decode code 128 = .ok (.iconst 2, 1) := by decide +kernel
theorem d_W_law_129 : decode code 129 = .ok (.iadd, 1) := by decide +kernel
theorem d_W_law_130 : decode code 130 = .ok (.iaload, 1) := by decide +kernel
theorem d_W_law_131 : decode code 131 = .ok (.aload_n 0, 1) := by decide +kernel
theorem d_W_law_132 : decode code 132 = .ok (.iload_n 3, 1) := by decide +kernel
theorem d_W_law_133 : decode code 133 = .ok (.iconst 3, 1) := by decide +kernel
theorem d_W_law_134 : decode code 134 = .ok (.iadd, 1) := by decide +kernel
theorem d_W_law_135 : decode code 135 = .ok (.iaload, 1) := by decide +kernel
theorem d_W_law_136 : decode code 136 = .ok (.aload_n 0, 1) := by decide +kernel
theorem d_W_law_137 : decode code 137 = .ok (.iload_n 3, 1) := by decide +kernel
theorem d_W_law_138 : decode code 138 = .ok (.iconst 4, 1) := by decide +kernel
theorem d_W_law_139 : decode code 139 = .ok (.iadd, 1) := by decide +kernel
theorem d_W_law_140 : decode code 140 = .ok (.iaload, 1) := by decide +kernel
theorem d_W_law_141 : decode code 141 = .ok (.aload_n 0, 1) := by decide +kernel
theorem d_W_law_142 : decode code 142 = .ok (.iload_n 3, 1) := by decide +kernel
theorem d_W_law_143 : decode code 143 = .ok (.iconst 5, 1) := by decide +kernel
theorem d_W_law_144 : decode code 144 = .ok (.iadd, 1) := by decide +kernel
theorem d_W_law_145 : decode code 145 = .ok (.iaload, 1) := by decide +kernel
theorem d_W_law_146 : decode code 146 = .ok (.invokevirtual 13, 3) := by decide +kernel
theorem d_W_law_149 : decode code 149 = .ok (.aload_n 2, 1) := by decide +kernel
theorem d_W_law_150 : decode code 150 = .ok (.aload_n 0, 1) := by decide +kernel
theorem d_W_law_151 : decode code 151 = .ok (.iload_n 3, 1) := by decide +kernel
theorem d_W_law_152 : decode code 152 = .ok (.iconst 1, 1) := by decide +kernel
theorem d_W_law_153 : decode code 153 = .ok (.iadd, 1) := by decide +kernel
theorem d_W_law_154 : decode code 154 = .ok (.iaload, 1) := by decide +kernel
theorem d_W_law_155 : decode code 155 = .ok (.aload_n 0, 1) := by decide +kernel
theorem d_W_law_156 : decode code 156 = .ok (.iload_n 3, 1) := by decide +kernel
theorem d_W_law_157 : decode code 157 = .ok (.iconst 2, 1) := by decide +kernel
theorem d_W_law_158 : decode code 158 = .ok (.iadd, 1) := by decide +kernel
theorem d_W_law_159 : decode code 159 = .ok (.iaload, 1) := by decide +kernel
theorem d_W_law_160 : decode code 160 = .ok (.aload_n 0, 1) := by decide +kernel
theorem d_W_law_161 : decode code 161 = .ok (.iload_n 3, 1) := by decide +kernel
theorem d_W_law_162 : decode code 162 = .ok (.iconst 3, 1) := by decide +kernel
theorem d_W_law_163 : decode code 163 = .ok (.iadd, 1) := by decide +kernel
theorem d_W_law_164 : decode code 164 = .ok (.iaload, 1) := by decide +kernel
theorem d_W_law_165 : decode code 165 = .ok (.aload_n 0, 1) := by decide +kernel
theorem d_W_law_166 : decode code 166 = .ok (.iload_n 3, 1) := by decide +kernel
theorem d_W_law_167 : decode code 167 = .ok (.iconst 4, 1) := by decide +kernel
theorem d_W_law_168 : decode code 168 = .ok (.iadd, 1) := by decide +kernel
theorem d_W_law_169 : decode code 169 = .ok (.iaload, 1) := by decide +kernel
theorem d_W_law_170 : decode code 170 = .ok (.aload_n 0, 1) := by decide +kernel
theorem d_W_law_171 : decode code 171 = .ok (.iload_n 3, 1) := by decide +kernel
theorem d_W_law_172 : decode code 172 = .ok (.iconst 5, 1) := by decide +kernel
theorem d_W_law_173 : decode code 173 = .ok (.iadd, 1) := by decide +kernel
theorem d_W_law_174 : decode code 174 = .ok (.iaload, 1) := by decide +kernel
theorem d_W_law_175 : decode code 175 = .ok (.invokevirtual 17, 3) := by decide +kernel
theorem d_W_law_178 : decode code 178 = .ok (.if_icmp .eq 466, 3) := by decide +kernel
theorem d_W_law_181 : decode code 181 = .ok (.iconst 0, 1) := by decide +kernel
theorem d_W_law_182 : decode code 182 = .ok (.ireturn, 1) := by decide +kernel
theorem d_W_law_183 : decode code 183 = .ok (.aload_n 1, 1) := by decide +kernel
theorem d_W_law_184 : decode code 184 = .ok (.aload_n 0, 1) := by decide +kernel
theorem d_W_law_185 : decode code 185 = .ok (.iload_n 3, 1) := by decide +kernel
theorem d_W_law_186 : decode code 186 = .ok (.iconst 1, 1) := by decide +kernel
theorem d_W_law_187 : decode code 187 = .ok (.iadd, 1) := by decide +kernel
theorem d_W_law_188 : decode code 188 = .ok (.iaload, 1) := by decide +kernel
theorem d_W_law_189 : decode code 189 = .ok (.invokevirtual 18, 3) := by decide +kernel
theorem d_W_law_192 : decode code 192 = .ok (.aload_n 2, 1) := by decide +kernel
theorem d_W_law_193 : decode code 193 = .ok (.aload_n 0, 1) := by decide +kernel
theorem d_W_law_194 : decode code 194 = .ok (.iload_n 3, 1) := by decide +kernel
theorem d_W_law_195 : decode code 195 = .ok (.iconst 1, 1) := by decide +kernel
theorem d_W_law_196 : decode code 196 = .ok (.iadd, 1) := by decide +kernel
theorem d_W_law_197 : decode code 197 = .ok (.iaload, 1) := by decide +kernel
theorem d_W_law_198 : decode code 198 = .ok (.invokevirtual 22, 3) := by decide +kernel
theorem d_W_law_201 : decode code 201 = .ok (.if_icmp .eq 443, 3) := by decide +kernel
theorem d_W_law_204 : decode code 204 = .ok (.iconst 0, 1) := by decide +kernel
theorem d_W_law_205 : decode code 205 = .ok (.ireturn, 1) := by decide +kernel
theorem d_W_law_206 : decode code 206 = .ok (.aload_n 1, 1) := by decide +kernel
theorem d_W_law_207 : decode code 207 = .ok (.invokevirtual 23, 3) := by decide +kernel
theorem d_W_law_210 : decode code 210 = .ok (.aload_n 2, 1) := by decide +kernel
theorem d_W_law_211 : decode code 211 = .ok (.invokevirtual 27, 3) := by decide +kernel
theorem d_W_law_214 : decode code 214 = .ok (.if_icmp .eq 430, 3) := by decide +kernel
theorem d_W_law_217 : decode code 217 = .ok (.iconst 0, 1) := by decide +kernel
theorem d_W_law_218 : decode code 218 = .ok (.ireturn, 1) := by decide +kernel
theorem d_W_law_219 : decode code 219 = .ok (.aload_n 1, 1) := by decide +kernel
theorem d_W_law_220 : decode code 220 = .ok (.aload_n 0, 1) := by decide +kernel
theorem d_W_law_221 : decode code 221 = .ok (.iload_n 3, 1) := by decide +kernel
theorem d_W_law_222 : decode code 222 = .ok (.iconst 1, 1) := by decide +kernel
theorem d_W_law_223 : decode code 223 = .ok (.iadd, 1) := by decide +kernel
theorem d_W_law_224 : decode code 224 = .ok (.iaload, 1) := by decide +kernel
theorem d_W_law_225 : decode code 225 = .ok (.invokevirtual 28, 3) := by decide +kernel
theorem d_W_law_228 : decode code 228 = .ok (.aload_n 2, 1) := by decide +kernel
theorem d_W_law_229 : decode code 229 = .ok (.aload_n 0, 1) := by decide +kernel
theorem d_W_law_230 : decode code 230 = .ok (.iload_n 3, 1) := by decide +kernel
theorem d_W_law_231 : decode code 231 = .ok (.iconst 1, 1) := by decide +kernel
theorem d_W_law_232 : decode code 232 = .ok (.iadd, 1) := by decide +kernel
theorem d_W_law_233 : decode code 233 = .ok (.iaload, 1) := by decide +kernel
theorem d_W_law_234 : decode code 234 = .ok (.invokevirtual 31, 3) := by decide +kernel
theorem d_W_law_237 : decode code 237 = .ok (.if_icmp .eq 407, 3) := by decide +kernel
theorem d_W_law_240 : decode code 240 = .ok (.iconst 0, 1) := by decide +kernel
theorem d_W_law_241 : decode code 241 = .ok (.ireturn, 1) := by decide +kernel
theorem d_W_law_242 : decode code 242 = .ok (.aload_n 1, 1) := by decide +kernel
theorem d_W_law_243 : decode code 243 = .ok (.invokevirtual 32, 3) := by decide +kernel
theorem d_W_law_246 : decode code 246 = .ok (.aload_n 2, 1) := by decide +kernel
theorem d_W_law_247 : decode code 247 = .ok (.invokevirtual 35, 3) := by decide +kernel
theorem d_W_law_250 : decode code 250 = .ok (.if_icmp .eq 394, 3) := by decide +kernel
theorem d_W_law_253 : decode code 253 = .ok (.iconst 0, 1) := by decide +kernel
theorem d_W_law_254 : decode code 254 = .ok (.ireturn, 1) := by decide +kernel
theorem d_W_law_255 : decode code 255 = .ok (.aload_n 1, 1) := by decide +kernel
theorem d_W_law_256 : decode code 256 = .ok (.aload_n 0, 1) := by decide +kernel
theorem d_W_law_257 : decode code 257 = .ok (.iload_n 3, 1) := by decide +kernel
theorem d_W_law_258 : decode code 258 = .ok (.iconst 1, 1) := by decide +kernel
theorem d_W_law_259 : decode code 259 = .ok (.iadd, 1) := by decide +kernel
theorem d_W_law_260 : decode code 260 = .ok (.iaload, 1) := by decide +kernel
theorem d_W_law_261 : decode code 261 = .ok (.aload_n 0, 1) := by decide +kernel
theorem d_W_law_262 : decode code 262 = .ok (.iload_n 3, 1) := by decide +kernel
theorem d_W_law_263 : decode code 263 = .ok (.iconst 2, 1) := by decide +kernel
theorem d_W_law_264 : decode code 264 = .ok (.iadd, 1) := by decide +kernel
theorem d_W_law_265 : decode code 265 = .ok (.iaload, 1) := by decide +kernel
theorem d_W_law_266 : decode code 266 = .ok (.invokevirtual 36, 3) := by decide +kernel
theorem d_W_law_269 : decode code 269 = .ok (.aload_n 2, 1) := by decide +kernel
theorem d_W_law_270 : decode code 270 = .ok (.aload_n 0, 1) := by decide +kernel
theorem d_W_law_271 : decode code 271 = .ok (.iload_n 3, 1) := by decide +kernel
theorem d_W_law_272 : decode code 272 = .ok (.iconst 1, 1) := by decide +kernel
theorem d_W_law_273 : decode code 273 = .ok (.iadd, 1) := by decide +kernel
theorem d_W_law_274 : decode code 274 = .ok (.iaload, 1) := by decide +kernel
theorem d_W_law_275 : decode code 275 = .ok (.aload_n 0, 1) := by decide +kernel
theorem d_W_law_276 : decode code 276 = .ok (.iload_n 3, 1) := by decide +kernel
theorem d_W_law_277 : decode code 277 = .ok (.iconst 2, 1) := by decide +kernel
theorem d_W_law_278 : decode code 278 = .ok (.iadd, 1) := by decide +kernel
theorem d_W_law_279 : decode code 279 = .ok (.iaload, 1) := by decide +kernel
theorem d_W_law_280 : decode code 280 = .ok (.invokevirtual 40, 3) := by decide +kernel
theorem d_W_law_283 : decode code 283 = .ok (.if_icmp .eq 361, 3) := by decide +kernel
theorem d_W_law_286 : decode code 286 = .ok (.iconst 0, 1) := by decide +kernel
theorem d_W_law_287 : decode code 287 = .ok (.ireturn, 1) := by decide +kernel
theorem d_W_law_288 : decode code 288 = .ok (.aload_n 1, 1) := by decide +kernel
theorem d_W_law_289 : decode code 289 = .ok (.invokevirtual 41, 3) := by decide +kernel
theorem d_W_law_292 : decode code 292 = .ok (.aload_n 2, 1) := by decide +kernel
theorem d_W_law_293 : decode code 293 = .ok (.invokevirtual 44, 3) := by decide +kernel
theorem d_W_law_296 : decode code 296 = .ok (.if_icmp .eq 348, 3) := by decide +kernel
theorem d_W_law_299 : decode code 299 = .ok (.iconst 0, 1) := by decide +kernel
theorem d_W_law_300 : decode code 300 = .ok (.ireturn, 1) := by decide +kernel
theorem d_W_law_301 : decode code 301 = .ok (.aload_n 1, 1) := by decide +kernel
theorem d_W_law_302 : decode code 302 = .ok (.aload_n 0, 1) := by decide +kernel
theorem d_W_law_303 : decode code 303 = .ok (.iload_n 3, 1) := by decide +kernel
theorem d_W_law_304 : decode code 304 = .ok (.iconst 1, 1) := by decide +kernel
theorem d_W_law_305 : decode code 305 = .ok (.iadd, 1) := by decide +kernel
theorem d_W_law_306 : decode code 306 = .ok (.iaload, 1) := by decide +kernel
theorem d_W_law_307 : decode code 307 = .ok (.invokevirtual 45, 3) := by decide +kernel
theorem d_W_law_310 : decode code 310 = .ok (.aload_n 2, 1) := by decide +kernel
theorem d_W_law_311 : decode code 311 = .ok (.aload_n 0, 1) := by decide +kernel
theorem d_W_law_312 : decode code 312 = .ok (.iload_n 3, 1) := by decide +kernel
theorem d_W_law_313 : decode code 313 = .ok (.iconst 1, 1) := by decide +kernel
theorem d_W_law_314 : decode code 314 = .ok (.iadd, 1) := by decide +kernel
theorem d_W_law_315 : decode code 315 = .ok (.iaload, 1) := by decide +kernel
theorem d_W_law_316 : decode code 316 = .ok (.invokevirtual 48, 3) := by decide +kernel
theorem d_W_law_319 : decode code 319 = .ok (.if_icmp .eq 325, 3) := by decide +kernel
theorem d_W_law_322 : decode code 322 = .ok (.iconst 0, 1) := by decide +kernel
theorem d_W_law_323 : decode code 323 = .ok (.ireturn, 1) := by decide +kernel
theorem d_W_law_324 : decode code 324 = .ok (.aload_n 1, 1) := by decide +kernel
theorem d_W_law_325 : decode code 325 = .ok (.aload_n 0, 1) := by decide +kernel
theorem d_W_law_326 : decode code 326 = .ok (.iload_n 3, 1) := by decide +kernel
theorem d_W_law_327 : decode code 327 = .ok (.iconst 1, 1) := by decide +kernel
theorem d_W_law_328 : decode code 328 = .ok (.iadd, 1) := by decide +kernel
theorem d_W_law_329 : decode code 329 = .ok (.iaload, 1) := by decide +kernel
theorem d_W_law_330 : decode code 330 = .ok (.aload_n 0, 1) := by decide +kernel
theorem d_W_law_331 : decode code 331 = .ok (.iload_n 3, 1) := by decide +kernel
theorem d_W_law_332 : decode code 332 = .ok (.iconst 2, 1) := by decide +kernel
theorem d_W_law_333 : decode code 333 = .ok (.iadd, 1) := by decide +kernel
theorem d_W_law_334 : decode code 334 = .ok (.iaload, 1) := by decide +kernel
theorem d_W_law_335 : decode code 335 = .ok (.invokevirtual 49, 3) := by decide +kernel
theorem d_W_law_338 : decode code 338 = .ok (.aload_n 2, 1) := by decide +kernel
theorem d_W_law_339 : decode code 339 = .ok (.aload_n 0, 1) := by decide +kernel
theorem d_W_law_340 : decode code 340 = .ok (.iload_n 3, 1) := by decide +kernel
theorem d_W_law_341 : decode code 341 = .ok (.iconst 1, 1) := by decide +kernel
theorem d_W_law_342 : decode code 342 = .ok (.iadd, 1) := by decide +kernel
theorem d_W_law_343 : decode code 343 = .ok (.iaload, 1) := by decide +kernel
theorem d_W_law_344 : decode code 344 = .ok (.aload_n 0, 1) := by decide +kernel
theorem d_W_law_345 : decode code 345 = .ok (.iload_n 3, 1) := by decide +kernel
theorem d_W_law_346 : decode code 346 = .ok (.iconst 2, 1) := by decide +kernel
theorem d_W_law_347 : decode code 347 = .ok (.iadd, 1) := by decide +kernel
theorem d_W_law_348 : decode code 348 = .ok (.iaload, 1) := by decide +kernel
theorem d_W_law_349 : decode code 349 = .ok (.invokevirtual 52, 3) := by decide +kernel
theorem d_W_law_352 : decode code 352 = .ok (.if_icmp .eq 292, 3) := by decide +kernel
theorem d_W_law_355 : decode code 355 = .ok (.iconst 0, 1) := by decide +kernel
theorem d_W_law_356 : decode code 356 = .ok (.ireturn, 1) := by decide +kernel
theorem d_W_law_357 : decode code 357 = .ok (.aload_n 1, 1) := by decide +kernel
theorem d_W_law_358 : decode code 358 = .ok (.aload_n 0, 1) := by decide +kernel
theorem d_W_law_359 : decode code 359 = .ok (.iload_n 3, 1) := by decide +kernel
theorem d_W_law_360 : decode code 360 = .ok (.iconst 1, 1) := by decide +kernel
theorem d_W_law_361 : decode code 361 = .ok (.iadd, 1) := by decide +kernel
theorem d_W_law_362 : decode code 362 = .ok (.iaload, 1) := by decide +kernel
theorem d_W_law_363 : decode code 363 = .ok (.aload_n 0, 1) := by decide +kernel
theorem d_W_law_364 : decode code 364 = .ok (.iload_n 3, 1) := by decide +kernel
theorem d_W_law_365 : decode code 365 = .ok (.iconst 2, 1) := by decide +kernel
theorem d_W_law_366 : decode code 366 = .ok (.iadd, 1) := by decide +kernel
theorem d_W_law_367 : decode code 367 = .ok (.iaload, 1) := by decide +kernel
theorem d_W_law_368 : decode code 368 = .ok (.invokevirtual 53, 3) := by decide +kernel
theorem d_W_law_371 : decode code 371 = .ok (.aload_n 2, 1) := by decide +kernel
theorem d_W_law_372 : decode code 372 = .ok (.aload_n 0, 1) := by decide +kernel
theorem d_W_law_373 : decode code 373 = .ok (.iload_n 3, 1) := by decide +kernel
theorem d_W_law_374 : decode code 374 = .ok (.iconst 1, 1) := by decide +kernel
theorem d_W_law_375 : decode code 375 = .ok (.iadd, 1) := by decide +kernel
theorem d_W_law_376 : decode code 376 = .ok (.iaload, 1) := by decide +kernel
theorem d_W_law_377 : decode code 377 = .ok (.aload_n 0, 1) := by decide +kernel
theorem d_W_law_378 : decode code 378 = .ok (.iload_n 3, 1) := by decide +kernel
theorem d_W_law_379 : decode code 379 = .ok (.iconst 2, 1) := by decide +kernel
theorem d_W_law_380 : decode code 380 = .ok (.iadd, 1) := by decide +kernel
theorem d_W_law_381 : decode code 381 = .ok (.iaload, 1) := by decide +kernel
theorem d_W_law_382 : decode code 382 = .ok (.invokevirtual 56, 3) := by decide +kernel
theorem d_W_law_385 : decode code 385 = .ok (.if_icmp .eq 259, 3) := by decide +kernel
theorem d_W_law_388 : decode code 388 = .ok (.iconst 0, 1) := by decide +kernel
theorem d_W_law_389 : decode code 389 = .ok (.ireturn, 1) := by decide +kernel
theorem d_W_law_390 : decode code 390 = .ok (.aload_n 1, 1) := by decide +kernel
theorem d_W_law_391 : decode code 391 = .ok (.aload_n 0, 1) := by decide +kernel
theorem d_W_law_392 : decode code 392 = .ok (.iload_n 3, 1) := by decide +kernel
theorem d_W_law_393 : decode code 393 = .ok (.iconst 1, 1) := by decide +kernel
theorem d_W_law_394 : decode code 394 = .ok (.iadd, 1) := by decide +kernel
theorem d_W_law_395 : decode code 395 = .ok (.iaload, 1) := by decide +kernel
theorem d_W_law_396 : decode code 396 = .ok (.aload_n 0, 1) := by decide +kernel
theorem d_W_law_397 : decode code 397 = .ok (.iload_n 3, 1) := by decide +kernel
theorem d_W_law_398 : decode code 398 = .ok (.iconst 2, 1) := by decide +kernel
theorem d_W_law_399 : decode code 399 = .ok (.iadd, 1) := by decide +kernel
theorem d_W_law_400 : decode code 400 = .ok (.iaload, 1) := by decide +kernel
theorem d_W_law_401 : decode code 401 = .ok (.invokevirtual 57, 3) := by decide +kernel
theorem d_W_law_404 : decode code 404 = .ok (.aload_n 2, 1) := by decide +kernel
theorem d_W_law_405 : decode code 405 = .ok (.aload_n 0, 1) := by decide +kernel
theorem d_W_law_406 : decode code 406 = .ok (.iload_n 3, 1) := by decide +kernel
theorem d_W_law_407 : decode code 407 = .ok (.iconst 1, 1) := by decide +kernel
theorem d_W_law_408 : decode code 408 = .ok (.iadd, 1) := by decide +kernel
theorem d_W_law_409 : decode code 409 = .ok (.iaload, 1) := by decide +kernel
theorem d_W_law_410 : decode code 410 = .ok (.aload_n 0, 1) := by decide +kernel
theorem d_W_law_411 : decode code 411 = .ok (.iload_n 3, 1) := by decide +kernel
theorem d_W_law_412 : decode code 412 = .ok (.iconst 2, 1) := by decide +kernel
theorem d_W_law_413 : decode code 413 = .ok (.iadd, 1) := by decide +kernel
theorem d_W_law_414 : decode code 414 = .ok (.iaload, 1) := by decide +kernel
theorem d_W_law_415 : decode code 415 = .ok (.invokevirtual 60, 3) := by decide +kernel
theorem d_W_law_418 : decode code 418 = .ok (.if_icmp .eq 226, 3) := by decide +kernel
theorem d_W_law_421 : decode code 421 = .ok (.iconst 0, 1) := by decide +kernel
theorem d_W_law_422 : decode code 422 = .ok (.ireturn, 1) := by decide +kernel
theorem d_W_law_423 : decode code 423 = .ok (.aload_n 1, 1) := by decide +kernel
theorem d_W_law_424 : decode code 424 = .ok (.aload_n 0, 1) := by decide +kernel
theorem d_W_law_425 : decode code 425 = .ok (.iload_n 3, 1) := by decide +kernel
theorem d_W_law_426 : decode code 426 = .ok (.iconst 1, 1) := by decide +kernel
theorem d_W_law_427 : decode code 427 = .ok (.iadd, 1) := by decide +kernel
theorem d_W_law_428 : decode code 428 = .ok (.iaload, 1) := by decide +kernel
theorem d_W_law_429 : decode code 429 = .ok (.invokevirtual 61, 3) := by decide +kernel
theorem d_W_law_432 : decode code 432 = .ok (.aload_n 2, 1) := by decide +kernel
theorem d_W_law_433 : decode code 433 = .ok (.aload_n 0, 1) := by decide +kernel
theorem d_W_law_434 : decode code 434 = .ok (.iload_n 3, 1) := by decide +kernel
theorem d_W_law_435 : decode code 435 = .ok (.iconst 1, 1) := by decide +kernel
theorem d_W_law_436 : decode code 436 = .ok (.iadd, 1) := by decide +kernel
theorem d_W_law_437 : decode code 437 = .ok (.iaload, 1) := by decide +kernel
theorem d_W_law_438 : decode code 438 = .ok (.invokevirtual 64, 3) := by decide +kernel
theorem d_W_law_441 : decode code 441 = .ok (.if_icmp .eq 203, 3) := by decide +kernel
theorem d_W_law_444 : decode code 444 = .ok (.iconst 0, 1) := by decide +kernel
theorem d_W_law_445 : decode code 445 = .ok (.ireturn, 1) := by decide +kernel
theorem d_W_law_446 : decode code 446 = .ok (.aload_n 1, 1) := by decide +kernel
theorem d_W_law_447 : decode code 447 = .ok (.aload_n 0, 1) := by decide +kernel
theorem d_W_law_448 : decode code 448 = .ok (.iload_n 3, 1) := by decide +kernel
theorem d_W_law_449 : decode code 449 = .ok (.iconst 1, 1) := by decide +kernel
theorem d_W_law_450 : decode code 450 = .ok (.iadd, 1) := by decide +kernel
theorem d_W_law_451 : decode code 451 = .ok (.iaload, 1) := by decide +kernel
theorem d_W_law_452 : decode code 452 = .ok (.aload_n 0, 1) := by decide +kernel
theorem d_W_law_453 : decode code 453 = .ok (.iload_n 3, 1) := by decide +kernel
theorem d_W_law_454 : decode code 454 = .ok (.iconst 2, 1) := by decide +kernel
theorem d_W_law_455 : decode code 455 = .ok (.iadd, 1) := by decide +kernel
theorem d_W_law_456 : decode code 456 = .ok (.iaload, 1) := by decide +kernel
theorem d_W_law_457 : decode code 457 = .ok (.invokevirtual 65, 3) := by decide +kernel
theorem d_W_law_460 : decode code 460 = .ok (.aload_n 2, 1) := by decide +kernel
theorem d_W_law_461 : decode code 461 = .ok (.aload_n 0, 1) := by decide +kernel
theorem d_W_law_462 : decode code 462 = .ok (.iload_n 3, 1) := by decide +kernel
theorem d_W_law_463 : decode code 463 = .ok (.iconst 1, 1) := by decide +kernel
theorem d_W_law_464 : decode code 464 = .ok (.iadd, 1) := by decide +kernel
theorem d_W_law_465 : decode code 465 = .ok (.iaload, 1) := by decide +kernel
theorem d_W_law_466 : decode code 466 = .ok (.aload_n 0, 1) := by decide +kernel
theorem d_W_law_467 : decode code 467 = .ok (.iload_n 3, 1) := by decide +kernel
theorem d_W_law_468 : decode code 468 = .ok (.iconst 2, 1) := by decide +kernel
theorem d_W_law_469 : decode code 469 = .ok (.iadd, 1) := by decide +kernel
theorem d_W_law_470 : decode code 470 = .ok (.iaload, 1) := by decide +kernel
theorem d_W_law_471 : decode code 471 = .ok (.invokevirtual 68, 3) := by decide +kernel
theorem d_W_law_474 : decode code 474 = .ok (.if_icmp .eq 170, 3) := by decide +kernel
theorem d_W_law_477 : decode code 477 = .ok (.iconst 0, 1) := by decide +kernel
theorem d_W_law_478 : decode code 478 = .ok (.ireturn, 1) := by decide +kernel
theorem d_W_law_479 : decode code 479 = .ok (.aload_n 1, 1) := by decide +kernel
theorem d_W_law_480 : decode code 480 = .ok (.aload_n 0, 1) := by decide +kernel
theorem d_W_law_481 : decode code 481 = .ok (.iload_n 3, 1) := by decide +kernel
theorem d_W_law_482 : decode code 482 = .ok (.iconst 1, 1) := by decide +kernel
theorem d_W_law_483 : decode code 483 = .ok (.iadd, 1) := by decide +kernel
theorem d_W_law_484 : decode code 484 = .ok (.iaload, 1) := by decide +kernel
theorem d_W_law_485 : decode code 485 = .ok (.invokevirtual 69, 3) := by decide +kernel
theorem d_W_law_488 : decode code 488 = .ok (.aload_n 2, 1) := by decide +kernel
theorem d_W_law_489 : decode code 489 = .ok (.aload_n 0, 1) := by decide +kernel
theorem d_W_law_490 : decode code 490 = .ok (.iload_n 3, 1) := by decide +kernel
theorem d_W_law_491 : decode code 491 = .ok (.iconst 1, 1) := by decide +kernel
theorem d_W_law_492 : decode code 492 = .ok (.iadd, 1) := by decide +kernel
theorem d_W_law_493 : decode code 493 = .ok (.iaload, 1) := by decide +kernel
theorem d_W_law_494 : decode code 494 = .ok (.invokevirtual 72, 3) := by decide +kernel
theorem d_W_law_497 : decode code 497 = .ok (.if_icmp .eq 147, 3) := by decide +kernel
theorem d_W_law_500 : decode code 500 = .ok (.iconst 0, 1) := by decide +kernel
theorem d_W_law_501 : decode code 501 = .ok (.ireturn, 1) := by decide +kernel
theorem d_W_law_502 : decode code 502 = .ok (.aload_n 1, 1) := by decide +kernel
theorem d_W_law_503 : decode code 503 = .ok (.aload_n 0, 1) := by decide +kernel
theorem d_W_law_504 : decode code 504 = .ok (.iload_n 3, 1) := by decide +kernel
theorem d_W_law_505 : decode code 505 = .ok (.iconst 1, 1) := by decide +kernel
theorem d_W_law_506 : decode code 506 = .ok (.iadd, 1) := by decide +kernel
theorem d_W_law_507 : decode code 507 = .ok (.iaload, 1) := by decide +kernel
theorem d_W_law_508 : decode code 508 = .ok (.aload_n 0, 1) := by decide +kernel
theorem d_W_law_509 : decode code 509 = .ok (.iload_n 3, 1) := by decide +kernel
theorem d_W_law_510 : decode code 510 = .ok (.iconst 2, 1) := by decide +kernel
theorem d_W_law_511 : decode code 511 = .ok (.iadd, 1) := by decide +kernel
theorem d_W_law_512 : decode code 512 = .ok (.iaload, 1) := by decide +kernel
theorem d_W_law_513 : decode code 513 = .ok (.invokevirtual 73, 3) := by decide +kernel
theorem d_W_law_516 : decode code 516 = .ok (.aload_n 2, 1) := by decide +kernel
theorem d_W_law_517 : decode code 517 = .ok (.aload_n 0, 1) := by decide +kernel
theorem d_W_law_518 : decode code 518 = .ok (.iload_n 3, 1) := by decide +kernel
theorem d_W_law_519 : decode code 519 = .ok (.iconst 1, 1) := by decide +kernel
theorem d_W_law_520 : decode code 520 = .ok (.iadd, 1) := by decide +kernel
theorem d_W_law_521 : decode code 521 = .ok (.iaload, 1) := by decide +kernel
theorem d_W_law_522 : decode code 522 = .ok (.aload_n 0, 1) := by decide +kernel
theorem d_W_law_523 : decode code 523 = .ok (.iload_n 3, 1) := by decide +kernel
theorem d_W_law_524 : decode code 524 = .ok (.iconst 2, 1) := by decide +kernel
theorem d_W_law_525 : decode code 525 = .ok (.iadd, 1) := by decide +kernel
theorem d_W_law_526 : decode code 526 = .ok (.iaload, 1) := by decide +kernel
theorem d_W_law_527 : decode code 527 = .ok (.invokevirtual 76, 3) := by decide +kernel
theorem d_W_law_530 : decode code 530 = .ok (.if_icmp .eq 114, 3) := by decide +kernel
theorem d_W_law_533 : decode code 533 = .ok (.iconst 0, 1) := by decide +kernel
theorem d_W_law_534 : decode code 534 = .ok (.ireturn, 1) := by decide +kernel
theorem d_W_law_535 : decode code 535 = .ok (.aload_n 1, 1) := by decide +kernel
theorem d_W_law_536 : decode code 536 = .ok (.aload_n 0, 1) := by decide +kernel
theorem d_W_law_537 : decode code 537 = .ok (.iload_n 3, 1) := by decide +kernel
theorem d_W_law_538 : decode code 538 = .ok (.iconst 1, 1) := by decide +kernel
theorem d_W_law_539 : decode code 539 = .ok (.iadd, 1) := by decide +kernel
theorem d_W_law_540 : decode code 540 = .ok (.iaload, 1) := by decide +kernel
theorem d_W_law_541 : decode code 541 = .ok (.aload_n 0, 1) := by decide +kernel
theorem d_W_law_542 : decode code 542 = .ok (.iload_n 3, 1) := by decide +kernel
theorem d_W_law_543 : decode code 543 = .ok (.iconst 2, 1) := by decide +kernel
theorem d_W_law_544 : decode code 544 = .ok (.iadd, 1) := by decide +kernel
theorem d_W_law_545 : decode code 545 = .ok (.iaload, 1) := by decide +kernel
theorem d_W_law_546 : decode code 546 = .ok (.aload_n 0, 1) := by decide +kernel
theorem d_W_law_547 : decode code 547 = .ok (.iload_n 3, 1) := by decide +kernel
theorem d_W_law_548 : decode code 548 = .ok (.iconst 3, 1) := by decide +kernel
theorem d_W_law_549 : decode code 549 = .ok (.iadd, 1) := by decide +kernel
theorem d_W_law_550 : decode code 550 = .ok (.iaload, 1) := by decide +kernel
theorem d_W_law_551 : decode code 551 = .ok (.invokevirtual 77, 3) := by decide +kernel
theorem d_W_law_554 : decode code 554 = .ok (.aload_n 2, 1) := by decide +kernel
theorem d_W_law_555 : decode code 555 = .ok (.aload_n 0, 1) := by decide +kernel
theorem d_W_law_556 : decode code 556 = .ok (.iload_n 3, 1) := by decide +kernel
theorem d_W_law_557 : decode code 557 = .ok (.iconst 1, 1) := by decide +kernel
theorem d_W_law_558 : decode code 558 = .ok (.iadd, 1) := by decide +kernel
theorem d_W_law_559 : decode code 559 = .ok (.iaload, 1) := by decide +kernel
theorem d_W_law_560 : decode code 560 = .ok (.aload_n 0, 1) := by decide +kernel
theorem d_W_law_561 : decode code 561 = .ok (.iload_n 3, 1) := by decide +kernel
theorem d_W_law_562 : decode code 562 = .ok (.iconst 2, 1) := by decide +kernel
theorem d_W_law_563 : decode code 563 = .ok (.iadd, 1) := by decide +kernel
theorem d_W_law_564 : decode code 564 = .ok (.iaload, 1) := by decide +kernel
theorem d_W_law_565 : decode code 565 = .ok (.aload_n 0, 1) := by decide +kernel
theorem d_W_law_566 : decode code 566 = .ok (.iload_n 3, 1) := by decide +kernel
theorem d_W_law_567 : decode code 567 = .ok (.iconst 3, 1) := by decide +kernel
theorem d_W_law_568 : decode code 568 = .ok (.iadd, 1) := by decide +kernel
theorem d_W_law_569 : decode code 569 = .ok (.iaload, 1) := by decide +kernel
theorem d_W_law_570 : decode code 570 = .ok (.invokevirtual 81, 3) := by decide +kernel
theorem d_W_law_573 : decode code 573 = .ok (.if_icmp .eq 71, 3) := by decide +kernel
theorem d_W_law_576 : decode code 576 = .ok (.iconst 0, 1) := by decide +kernel
theorem d_W_law_577 : decode code 577 = .ok (.ireturn, 1) := by decide +kernel
theorem d_W_law_578 : decode code 578 = .ok (.aload_n 1, 1) := by decide +kernel
theorem d_W_law_579 : decode code 579 = .ok (.aload_n 0, 1) := by decide +kernel
theorem d_W_law_580 : decode code 580 = .ok (.iload_n 3, 1) := by decide +kernel
theorem d_W_law_581 : decode code 581 = .ok (.iconst 1, 1) := by decide +kernel
theorem d_W_law_582 : decode code 582 = .ok (.iadd, 1) := by decide +kernel
theorem d_W_law_583 : decode code 583 = .ok (.iaload, 1) := by decide +kernel
theorem d_W_law_584 : decode code 584 = .ok (.aload_n 0, 1) := by decide +kernel
theorem d_W_law_585 : decode code 585 = .ok (.iload_n 3, 1) := by decide +kernel
theorem d_W_law_586 : decode code 586 = .ok (.iconst 2, 1) := by decide +kernel
theorem d_W_law_587 : decode code 587 = .ok (.iadd, 1) := by decide +kernel
theorem d_W_law_588 : decode code 588 = .ok (.iaload, 1) := by decide +kernel
theorem d_W_law_589 : decode code 589 = .ok (.aload_n 0, 1) := by decide +kernel
theorem d_W_law_590 : decode code 590 = .ok (.iload_n 3, 1) := by decide +kernel
theorem d_W_law_591 : decode code 591 = .ok (.iconst 3, 1) := by decide +kernel
theorem d_W_law_592 : decode code 592 = .ok (.iadd, 1) := by decide +kernel
theorem d_W_law_593 : decode code 593 = .ok (.iaload, 1) := by decide +kernel
theorem d_W_law_594 : decode code 594 = .ok (.invokevirtual 82, 3) := by decide +kernel
theorem d_W_law_597 : decode code 597 = .ok (.aload_n 2, 1) := by decide +kernel
theorem d_W_law_598 : decode code 598 = .ok (.aload_n 0, 1) := by decide +kernel
theorem d_W_law_599 : decode code 599 = .ok (.iload_n 3, 1) := by decide +kernel
theorem d_W_law_600 : decode code 600 = .ok (.iconst 1, 1) := by decide +kernel
theorem d_W_law_601 : decode code 601 = .ok (.iadd, 1) := by decide +kernel
theorem d_W_law_602 : decode code 602 = .ok (.iaload, 1) := by decide +kernel
theorem d_W_law_603 : decode code 603 = .ok (.aload_n 0, 1) := by decide +kernel
theorem d_W_law_604 : decode code 604 = .ok (.iload_n 3, 1) := by decide +kernel
theorem d_W_law_605 : decode code 605 = .ok (.iconst 2, 1) := by decide +kernel
theorem d_W_law_606 : decode code 606 = .ok (.iadd, 1) := by decide +kernel
theorem d_W_law_607 : decode code 607 = .ok (.iaload, 1) := by decide +kernel
theorem d_W_law_608 : decode code 608 = .ok (.aload_n 0, 1) := by decide +kernel
theorem d_W_law_609 : decode code 609 = .ok (.iload_n 3, 1) := by decide +kernel
theorem d_W_law_610 : decode code 610 = .ok (.iconst 3, 1) := by decide +kernel
theorem d_W_law_611 : decode code 611 = .ok (.iadd, 1) := by decide +kernel
theorem d_W_law_612 : decode code 612 = .ok (.iaload, 1) := by decide +kernel
theorem d_W_law_613 : decode code 613 = .ok (.invokevirtual 85, 3) := by decide +kernel
theorem d_W_law_616 : decode code 616 = .ok (.if_icmp .eq 28, 3) := by decide +kernel
theorem d_W_law_619 : decode code 619 = .ok (.iconst 0, 1) := by decide +kernel
theorem d_W_law_620 : decode code 620 = .ok (.ireturn, 1) := by decide +kernel
theorem d_W_law_621 : decode code 621 = .ok (.aload_n 1, 1) := by decide +kernel
theorem d_W_law_622 : decode code 622 = .ok (.aload_n 0, 1) := by decide +kernel
theorem d_W_law_623 : decode code 623 = .ok (.iload_n 3, 1) := by decide +kernel
theorem d_W_law_624 : decode code 624 = .ok (.iconst 1, 1) := by decide +kernel
theorem d_W_law_625 : decode code 625 = .ok (.iadd, 1) := by decide +kernel
theorem d_W_law_626 : decode code 626 = .ok (.iaload, 1) := by decide +kernel
theorem d_W_law_627 : decode code 627 = .ok (.invokevirtual 86, 3) := by decide +kernel
theorem d_W_law_630 : decode code 630 = .ok (.aload_n 2, 1) := by decide +kernel
theorem d_W_law_631 : decode code 631 = .ok (.aload_n 0, 1) := by decide +kernel
theorem d_W_law_632 : decode code 632 = .ok (.iload_n 3, 1) := by decide +kernel
theorem d_W_law_633 : decode code 633 = .ok (.iconst 1, 1) := by decide +kernel
theorem d_W_law_634 : decode code 634 = .ok (.iadd, 1) := by decide +kernel
theorem d_W_law_635 : decode code 635 = .ok (.iaload, 1) := by decide +kernel
theorem d_W_law_636 : decode code 636 = .ok (.invokevirtual 89, 3) := by decide +kernel
theorem d_W_law_639 : decode code 639 = .ok (.if_icmp .eq 5, 3) := by decide +kernel
theorem d_W_law_642 : decode code 642 = .ok (.iconst 0, 1) := by decide +kernel
theorem d_W_law_643 : decode code 643 = .ok (.ireturn, 1) := by decide +kernel
theorem d_W_law_644 : decode code 644 = .ok (.iinc 3 6, 3) := by decide +kernel
theorem d_W_law_647 : decode code 647 = .ok (.goto (-629), 3) := by decide +kernel
theorem d_W_law_650 : decode code 650 = .ok (.iconst 1, 1) := by decide +kernel
theorem d_W_law_651 : decode code 651 = .ok (.ireturn, 1) := by decide +kernel
