theorem dL_law_16 : decode cL_law 16 = .ok (.iconst 0, 1) := by decide +kernel
theorem dL_law_17 : decode cL_law 17 = .ok (.istore_n 3, 1) := by decide +kernel
theorem dL_law_18 : decode cL_law 18 = .ok (.iload_n 3, 1) := by decide +kernel
theorem dL_law_19 : decode cL_law 19 = .ok (.aload_n 0, 1) := by decide +kernel
theorem dL_law_20 : decode cL_law 20 = .ok (.arraylength, 1) := by decide +kernel
theorem dL_law_21 : decode cL_law 21 = .ok (.bipush 6, 2) := by decide +kernel
theorem dL_law_23 : decode cL_law 23 = .ok (.isub, 1) := by decide +kernel
theorem dL_law_24 : decode cL_law 24 = .ok (.if_icmp .gt 849, 3) := by decide +kernel
theorem dL_law_27 : decode cL_law 27 = .ok (.aload_n 0, 1) := by decide +kernel
theorem dL_law_28 : decode cL_law 28 = .ok (.iload_n 3, 1) := by decide +kernel
theorem dL_law_29 : decode cL_law 29 = .ok (.iaload, 1) := by decide +kernel
theorem dL_law_30 : decode cL_law 30 = .ok (.bipush 31, 2) := by decide +kernel
theorem dL_law_32 : decode cL_law 32 = .ok (.iand, 1) := by decide +kernel
theorem dL_law_33 : decode cL_law 33 = .ok (.tableswitch 834 0 23 #[111, 174, 237, 280, 323, 366, 379, 422, 465, 488, 521, 554, 587, 600, 623, 646, 679, 712, 735, 758, 771, 784, 797, 820], 111) := by decide +kernel
theorem dL_law_144 : decode cL_law 144 = .ok (.aload_n 1, 1) := by decide +kernel
theorem dL_law_145 : decode cL_law 145 = .ok (.aload_n 0, 1) := by decide +kernel
theorem dL_law_146 : decode cL_law 146 = .ok (.iload_n 3, 1) := by decide +kernel
theorem dL_law_147 : decode cL_law 147 = .ok (.iconst 1, 1) := by decide +kernel
theorem dL_law_148 : decode cL_law 148 = .ok (.iadd, 1) := by decide +kernel
theorem dL_law_149 : decode cL_law 149 = .ok (.iaload, 1) := by decide +kernel
theorem dL_law_150 : decode cL_law 150 = .ok (.aload_n 0, 1) := by decide +kernel
theorem dL_law_151 : decode cL_law 151 = .ok (.iload_n 3, 1) := by decide +kernel
theorem dL_law_152 : decode cL_law 152 = .ok (.iconst 2, 1) := by decide +kernel
theorem dL_law_153 : decode cL_law 153 = .ok (.iadd, 1) := by decide +kernel
theorem dL_law_154 : decode cL_law 154 = .ok (.iaload, 1) := by decide +kernel
theorem dL_law_155 : decode cL_law 155 = .ok (.aload_n 0, 1) := by decide +kernel
theorem dL_law_156 : decode cL_law 156 = .ok (.iload_n 3, 1) := by decide +kernel
theorem dL_law_157 : decode cL_law 157 = .ok (.iconst 3, 1) := by decide +kernel
theorem dL_law_158 : decode cL_law 158 = .ok (.iadd, 1) := by decide +kernel
theorem dL_law_159 : decode cL_law 159 = .ok (.iaload, 1) := by decide +kernel
theorem dL_law_160 : decode cL_law 160 = .ok (.aload_n 0, 1) := by decide +kernel
theorem dL_law_161 : decode cL_law 161 = .ok (.iload_n 3, 1) := by decide +kernel
theorem dL_law_162 : decode cL_law 162 = .ok (.iconst 4, 1) := by decide +kernel
theorem dL_law_163 : decode cL_law 163 = .ok (.iadd, 1) := by decide +kernel
theorem dL_law_164 : decode cL_law 164 = .ok (.iaload, 1) := by decide +kernel
theorem dL_law_165 : decode cL_law 165 = .ok (.aload_n 0, 1) := by decide +kernel
theorem dL_law_166 : decode cL_law 166 = .ok (.iload_n 3, 1) := by decide +kernel
theorem dL_law_167 : decode cL_law 167 = .ok (.iconst 5, 1) := by decide +kernel
theorem dL_law_168 : decode cL_law 168 = .ok (.iadd, 1) := by decide +kernel
theorem dL_law_169 : decode cL_law 169 = .ok (.iaload, 1) := by decide +kernel
theorem dL_law_170 : decode cL_law 170 = .ok (.invokevirtual 13, 3) := by decide +kernel
theorem dL_law_173 : decode cL_law 173 = .ok (.aload_n 2, 1) := by decide +kernel
theorem dL_law_174 : decode cL_law 174 = .ok (.aload_n 0, 1) := by decide +kernel
theorem dL_law_175 : decode cL_law 175 = .ok (.iload_n 3, 1) := by decide +kernel
theorem dL_law_176 : decode cL_law 176 = .ok (.iconst 1, 1) := by decide +kernel
theorem dL_law_177 : decode cL_law 177 = .ok (.iadd, 1) := by decide +kernel
theorem dL_law_178 : decode cL_law 178 = .ok (.iaload, 1) := by decide +kernel
theorem dL_law_179 : decode cL_law 179 = .ok (.aload_n 0, 1) := by decide +kernel
theorem dL_law_180 : decode cL_law 180 = .ok (.iload_n 3, 1) := by decide +kernel
theorem dL_law_181 : decode cL_law 181 = .ok (.iconst 2, 1) := by decide +kernel
theorem dL_law_182 : decode cL_law 182 = .ok (.iadd, 1) := by decide +kernel
theorem dL_law_183 : decode cL_law 183 = .ok (.iaload, 1) := by decide +kernel
theorem dL_law_184 : decode cL_law 184 = .ok (.aload_n 0, 1) := by decide +kernel
theorem dL_law_185 : decode cL_law 185 = .ok (.iload_n 3, 1) := by decide +kernel
theorem dL_law_186 : decode cL_law 186 = .ok (.iconst 3, 1) := by decide +kernel
theorem dL_law_187 : decode cL_law 187 = .ok (.iadd, 1) := by decide +kernel
theorem dL_law_188 : decode cL_law 188 = .ok (.iaload, 1) := by decide +kernel
theorem dL_law_189 : decode cL_law 189 = .ok (.aload_n 0, 1) := by decide +kernel
theorem dL_law_190 : decode cL_law 190 = .ok (.iload_n 3, 1) := by decide +kernel
theorem dL_law_191 : decode cL_law 191 = .ok (.iconst 4, 1) := by decide +kernel
theorem dL_law_192 : decode cL_law 192 = .ok (.iadd, 1) := by decide +kernel
theorem dL_law_193 : decode cL_law 193 = .ok (.iaload, 1) := by decide +kernel
theorem dL_law_194 : decode cL_law 194 = .ok (.aload_n 0, 1) := by decide +kernel
theorem dL_law_195 : decode cL_law 195 = .ok (.iload_n 3, 1) := by decide +kernel
theorem dL_law_196 : decode cL_law 196 = .ok (.iconst 5, 1) := by decide +kernel
theorem dL_law_197 : decode cL_law 197 = .ok (.iadd, 1) := by decide +kernel
theorem dL_law_198 : decode cL_law 198 = .ok (.iaload, 1) := by decide +kernel
theorem dL_law_199 : decode cL_law 199 = .ok (.invokevirtual 17, 3) := by decide +kernel
theorem dL_law_202 : decode cL_law 202 = .ok (.if_icmp .eq 665, 3) := by decide +kernel
theorem dL_law_205 : decode cL_law 205 = .ok (.iconst 0, 1) := by decide +kernel
theorem dL_law_206 : decode cL_law 206 = .ok (.ireturn, 1) := by decide +kernel
theorem dL_law_207 : decode cL_law 207 = .ok (.aload_n 1, 1) := by decide +kernel
theorem dL_law_208 : decode cL_law 208 = .ok (.aload_n 0, 1) := by decide +kernel
theorem dL_law_209 : decode cL_law 209 = .ok (.iload_n 3, 1) := by decide +kernel
theorem dL_law_210 : decode cL_law 210 = .ok (.iconst 1, 1) := by decide +kernel
theorem dL_law_211 : decode cL_law 211 = .ok (.iadd, 1) := by decide +kernel
theorem dL_law_212 : decode cL_law 212 = .ok (.iaload, 1) := by decide +kernel
theorem dL_law_213 : decode cL_law 213 = .ok (.aload_n 0, 1) := by decide +kernel
theorem dL_law_214 : decode cL_law 214 = .ok (.iload_n 3, 1) := by decide +kernel
theorem dL_law_215 : decode cL_law 215 = .ok (.iconst 2, 1) := by decide +kernel
theorem dL_law_216 : decode cL_law 216 = .ok (.iadd, 1) := by decide +kernel
theorem dL_law_217 : decode cL_law 217 = .ok (.iaload, 1) := by decide +kernel
theorem dL_law_218 : decode cL_law 218 = .ok (.aload_n 0, 1) := by decide +kernel
theorem dL_law_219 : decode cL_law 219 = .ok (.iload_n 3, 1) := by decide +kernel
theorem dL_law_220 : decode cL_law 220 = .ok (.iconst 3, 1) := by decide +kernel
theorem dL_law_221 : decode cL_law 221 = .ok (.iadd, 1) := by decide +kernel
theorem dL_law_222 : decode cL_law 222 = .ok (.iaload, 1) := by decide +kernel
theorem dL_law_223 : decode cL_law 223 = .ok (.aload_n 0, 1) := by decide +kernel
theorem dL_law_224 : decode cL_law 224 = .ok (.iload_n 3, 1) := by decide +kernel
theorem dL_law_225 : decode cL_law 225 = .ok (.iconst 4, 1) := by decide +kernel
theorem dL_law_226 : decode cL_law 226 = .ok (.iadd, 1) := by decide +kernel
theorem dL_law_227 : decode cL_law 227 = .ok (.iaload, 1) := by decide +kernel
theorem dL_law_228 : decode cL_law 228 = .ok (.aload_n 0, 1) := by decide +kernel
theorem dL_law_229 : decode cL_law 229 = .ok (.iload_n 3, 1) := by decide +kernel
theorem dL_law_230 : decode cL_law 230 = .ok (.iconst 5, 1) := by decide +kernel
theorem dL_law_231 : decode cL_law 231 = .ok (.iadd, 1) := by decide +kernel
theorem dL_law_232 : decode cL_law 232 = .ok (.iaload, 1) := by decide +kernel
theorem dL_law_233 : decode cL_law 233 = .ok (.invokevirtual 18, 3) := by decide +kernel
theorem dL_law_236 : decode cL_law 236 = .ok (.aload_n 2, 1) := by decide +kernel
theorem dL_law_237 : decode cL_law 237 = .ok (.aload_n 0, 1) := by decide +kernel
theorem dL_law_238 : decode cL_law 238 = .ok (.iload_n 3, 1) := by decide +kernel
theorem dL_law_239 : decode cL_law 239 = .ok (.iconst 1, 1) := by decide +kernel
theorem dL_law_240 : decode cL_law 240 = .ok (.iadd, 1) := by decide +kernel
theorem dL_law_241 : decode cL_law 241 = .ok (.iaload, 1) := by decide +kernel
theorem dL_law_242 : decode cL_law 242 = .ok (.aload_n 0, 1) := by decide +kernel
theorem dL_law_243 : decode cL_law 243 = .ok (.iload_n 3, 1) := by decide +kernel
theorem dL_law_244 : decode cL_law 244 = .ok (.iconst 2, 1) := by decide +kernel
theorem dL_law_245 : decode cL_law 245 = .ok (.iadd, 1) := by decide +kernel
theorem dL_law_246 : decode cL_law 246 = .ok (.iaload, 1) := by decide +kernel
theorem dL_law_247 : decode cL_law 247 = .ok (.aload_n 0, 1) := by decide +kernel
theorem dL_law_248 : decode cL_law 248 = .ok (.iload_n 3, 1) := by decide +kernel
theorem dL_law_249 : decode cL_law 249 = .ok (.iconst 3, 1) := by decide +kernel
theorem dL_law_250 : decode cL_law 250 = .ok (.iadd, 1) := by decide +kernel
theorem dL_law_251 : decode cL_law 251 = .ok (.iaload, 1) := by decide +kernel
theorem dL_law_252 : decode cL_law 252 = .ok (.aload_n 0, 1) := by decide +kernel
theorem dL_law_253 : decode cL_law 253 = .ok (.iload_n 3, 1) := by decide +kernel
theorem dL_law_254 : decode cL_law 254 = .ok (.iconst 4, 1) := by decide +kernel
theorem dL_law_255 : decode cL_law 255 = .ok (.iadd, 1) := by decide +kernel
theorem dL_law_256 : decode cL_law 256 = .ok (.iaload, 1) := by decide +kernel
theorem dL_law_257 : decode cL_law 257 = .ok (.aload_n 0, 1) := by decide +kernel
theorem dL_law_258 : decode cL_law 258 = .ok (.iload_n 3, 1) := by decide +kernel
theorem dL_law_259 : decode cL_law 259 = .ok (.iconst 5, 1) := by decide +kernel
theorem dL_law_260 : decode cL_law 260 = .ok (.iadd, 1) := by decide +kernel
theorem dL_law_261 : decode cL_law 261 = .ok (.iaload, 1) := by decide +kernel
theorem dL_law_262 : decode cL_law 262 = .ok (.invokevirtual 21, 3) := by decide +kernel
theorem dL_law_265 : decode cL_law 265 = .ok (.if_icmp .eq 602, 3) := by decide +kernel
theorem dL_law_268 : decode cL_law 268 = .ok (.iconst 0, 1) := by decide +kernel
theorem dL_law_269 : decode cL_law 269 = .ok (.ireturn, 1) := by decide +kernel
theorem dL_law_270 : decode cL_law 270 = .ok (.aload_n 1, 1) := by decide +kernel
theorem dL_law_271 : decode cL_law 271 = .ok (.aload_n 0, 1) := by decide +kernel
theorem dL_law_272 : decode cL_law 272 = .ok (.iload_n 3, 1) := by decide +kernel
theorem dL_law_273 : decode cL_law 273 = .ok (.iconst 1, 1) := by decide +kernel
theorem dL_law_274 : decode cL_law 274 = .ok (.iadd, 1) := by decide +kernel
theorem dL_law_275 : decode cL_law 275 = .ok (.iaload, 1) := by decide +kernel
theorem dL_law_276 : decode cL_law 276 = .ok (.aload_n 0, 1) := by decide +kernel
theorem dL_law_277 : decode cL_law 277 = .ok (.iload_n 3, 1) := by decide +kernel
theorem dL_law_278 : decode cL_law 278 = .ok (.iconst 2, 1) := by decide +kernel
theorem dL_law_279 : decode cL_law 279 = .ok (.iadd, 1) := by decide +kernel
theorem dL_law_280 : decode cL_law 280 = .ok (.iaload, 1) := by decide +kernel
theorem dL_law_281 : decode cL_law 281 = .ok (.aload_n 0, 1) := by decide +kernel
theorem dL_law_282 : decode cL_law 282 = .ok (.iload_n 3, 1) := by decide +kernel
theorem dL_law_283 : decode cL_law 283 = .ok (.iconst 3, 1) := by decide +kernel
theorem dL_law_284 : decode cL_law 284 = .ok (.iadd, 1) := by decide +kernel
theorem dL_law_285 : decode cL_law 285 = .ok (.iaload, 1) := by decide +kernel
theorem dL_law_286 : decode cL_law 286 = .ok (.invokevirtual 22, 3) := by decide +kernel
theorem dL_law_289 : decode cL_law 289 = .ok (.aload_n 2, 1) := by decide +kernel
theorem dL_law_290 : decode cL_law 290 = .ok (.aload_n 0, 1) := by decide +kernel
theorem dL_law_291 : decode cL_law 291 = .ok (.iload_n 3, 1) := by decide +kernel
theorem dL_law_292 : decode cL_law 292 = .ok (.iconst 1, 1) := by decide +kernel
theorem dL_law_293 : decode cL_law 293 = .ok (.iadd, 1) := by decide +kernel
theorem dL_law_294 : decode cL_law 294 = .ok (.iaload, 1) := by decide +kernel
theorem dL_law_295 : decode cL_law 295 = .ok (.aload_n 0, 1) := by decide +kernel
theorem dL_law_296 : decode cL_law 296 = .ok (.iload_n 3, 1) := by decide +kernel
theorem dL_law_297 : decode cL_law 297 = .ok (.iconst 2, 1) := by decide +kernel
theorem dL_law_298 : decode cL_law 298 = .ok (.iadd, 1) := by decide +kernel
theorem dL_law_299 : decode cL_law 299 = .ok (.iaload, 1) := by decide +kernel
theorem dL_law_300 : decode cL_law 300 = .ok (.aload_n 0, 1) := by decide +kernel
theorem dL_law_301 : decode cL_law 301 = .ok (.iload_n 3, 1) := by decide +kernel
theorem dL_law_302 : decode cL_law 302 = .ok (.iconst 3, 1) := by decide +kernel
theorem dL_law_303 : decode cL_law 303 = .ok (.iadd, 1) := by decide +kernel
theorem dL_law_304 : decode cL_law 304 = .ok (.iaload, 1) := by decide +kernel
theorem dL_law_305 : decode cL_law 305 = .ok (.invokevirtual 26, 3) := by decide +kernel
theorem dL_law_308 : decode cL_law 308 = .ok (.if_icmp .eq 559, 3) := by decide +kernel
theorem dL_law_311 : decode cL_law 311 = .ok (.iconst 0, 1) := by decide +kernel
theorem dL_law_312 : decode cL_law 312 = .ok (.ireturn, 1) := by decide +kernel
theorem dL_law_313 : decode cL_law 313 = .ok (.aload_n 1, 1) := by decide +kernel
theorem dL_law_314 : decode cL_law 314 = .ok (.aload_n 0, 1) := by decide +kernel
theorem dL_law_315 : decode cL_law 315 = .ok (.iload_n 3, 1) := by decide +kernel
theorem dL_law_316 : decode cL_law 316 = .ok (.iconst 1, 1) := by decide +kernel
theorem dL_law_317 : decode cL_law 317 = .ok (.iadd, 1) := by decide +kernel
theorem dL_law_318 : decode cL_law 318 = .ok (.iaload, 1) := by decide +kernel
theorem dL_law_319 : decode cL_law 319 = .ok (.aload_n 0, 1) := by decide +kernel
theorem dL_law_320 : decode cL_law 320 = .ok (.iload_n 3, 1) := by decide +kernel
theorem dL_law_321 : decode cL_law 321 = .ok (.iconst 2, 1) := by decide +kernel
theorem dL_law_322 : decode cL_law 322 = .ok (.iadd, 1) := by decide +kernel
theorem dL_law_323 : decode cL_law 323 = .ok (.iaload, 1) := by decide +kernel
theorem dL_law_324 : decode cL_law 324 = .ok (.aload_n 0, 1) := by decide +kernel
theorem dL_law_325 : decode cL_law 325 = .ok (.iload_n 3, 1) := by decide +kernel
theorem dL_law_326 : decode cL_law 326 = .ok (.iconst 3, 1) := by decide +kernel
theorem dL_law_327 : decode cL_law 327 = .ok (.iadd, 1) := by decide +kernel
theorem dL_law_328 : decode cL_law 328 = .ok (.iaload, 1) := by decide +kernel
theorem dL_law_329 : decode cL_law 329 = .ok (.invokevirtual 27, 3) := by decide +kernel
theorem dL_law_332 : decode cL_law 332 = .ok (.aload_n 2, 1) := by decide +kernel
theorem dL_law_333 : decode cL_law 333 = .ok (.aload_n 0, 1) := by decide +kernel
theorem dL_law_334 : decode cL_law 334 = .ok (.iload_n 3, 1) := by decide +kernel
theorem dL_law_335 : decode cL_law 335 = .ok (.iconst 1, 1) := by decide +kernel
theorem dL_law_336 : decode cL_law 336 = .ok (.iadd, 1) := by decide +kernel
theorem dL_law_337 : decode cL_law 337 = .ok (.iaload, 1) := by decide +kernel
theorem dL_law_338 : decode cL_law 338 = .ok (.aload_n 0, 1) := by decide +kernel
theorem dL_law_339 : decode cL_law 339 = .ok (.iload_n 3, 1) := by decide +kernel
theorem dL_law_340 : decode cL_law 340 = .ok (.iconst 2, 1) := by decide +kernel
theorem dL_law_341 : decode cL_law 341 = .ok (.iadd, 1) := by decide +kernel
theorem dL_law_342 : decode cL_law 342 = .ok (.iaload, 1) := by decide +kernel
theorem dL_law_343 : decode cL_law 343 = .ok (.aload_n 0, 1) := by decide +kernel
theorem dL_law_344 : decode cL_law 344 = .ok (.iload_n 3, 1) := by decide +kernel
theorem dL_law_345 : decode cL_law 345 = .ok (.iconst 3, 1) := by decide +kernel
theorem dL_law_346 : decode cL_law 346 = .ok (.iadd, 1) := by decide +kernel
theorem dL_law_347 : decode cL_law 347 = .ok (.iaload, 1) := by decide +kernel
theorem dL_law_348 : decode cL_law 348 = .ok (.invokevirtual 30, 3) := by decide +kernel
theorem dL_law_351 : decode cL_law 351 = .ok (.if_icmp .eq 516, 3) := by decide +kernel
theorem dL_law_354 : decode cL_law 354 = .ok (.iconst 0, 1) := by decide +kernel
theorem dL_law_355 : decode cL_law 355 = .ok (.ireturn, 1) := by decide +kernel
theorem dL_law_356 : decode cL_law 356 = .ok (.aload_n 1, 1) := by decide +kernel
theorem dL_law_357 : decode cL_law 357 = .ok (.aload_n 0, 1) := by decide +kernel
theorem dL_law_358 : decode cL_law 358 = .ok (.iload_n 3, 1) := by decide +kernel
theorem dL_law_359 : decode cL_law 359 = .ok (.iconst 1, 1) := by decide +kernel
theorem dL_law_360 : decode cL_law 360 = .ok (.iadd, 1) := by decide +kernel
theorem dL_law_361 : decode cL_law 361 = .ok (.iaload, 1) := by decide +kernel
theorem dL_law_362 : decode cL_law 362 = .ok (.aload_n 0, 1) := by decide +kernel
theorem dL_law_363 : decode cL_law 363 = .ok (.iload_n 3, 1) := by decide +kernel
theorem dL_law_364 : decode cL_law 364 = .ok (.iconst 2, 1) := by decide +kernel
theorem dL_law_365 : decode cL_law 365 = .ok (.iadd, 1) := by decide +kernel
theorem dL_law_366 : decode cL_law 366 = .ok (.iaload, 1) := by decide +kernel
theorem dL_law_367 : decode cL_law 367 = .ok (.aload_n 0, 1) := by decide +kernel
theorem dL_law_368 : decode cL_law 368 = .ok (.iload_n 3, 1) := by decide +kernel
theorem dL_law_369 : decode cL_law 369 = .ok (.iconst 3, 1) := by decide +kernel
theorem dL_law_370 : decode cL_law 370 = .ok (.iadd, 1) := by decide +kernel
theorem dL_law_371 : decode cL_law 371 = .ok (.iaload, 1) := by decide +kernel
theorem dL_law_372 : decode cL_law 372 = .ok (.invokevirtual 31, 3) := by decide +kernel
theorem dL_law_375 : decode cL_law 375 = .ok (.aload_n 2, 1) := by decide +kernel
theorem dL_law_376 : decode cL_law 376 = .ok (.aload_n 0, 1) := by decide +kernel
theorem dL_law_377 : decode cL_law 377 = .ok (.iload_n 3, 1) := by decide +kernel
theorem dL_law_378 : decode cL_law 378 = .ok (.iconst 1, 1) := by decide +kernel
theorem dL_law_379 : decode cL_law 379 = .ok (.iadd, 1) := by decide +kernel
theorem dL_law_380 : decode cL_law 380 = .ok (.iaload, 1) := by decide +kernel
theorem dL_law_381 : decode cL_law 381 = .ok (.aload_n 0, 1) := by decide +kernel
theorem dL_law_382 : decode cL_law 382 = .ok (.iload_n 3, 1) := by decide +kernel
theorem dL_law_383 : decode cL_law 383 = .ok (.iconst 2, 1) := by decide +kernel
theorem dL_law_384 : decode cL_law 384 = .ok (.iadd, 1) := by decide +kernel
theorem dL_law_385 : decode cL_law 385 = .ok (.iaload, 1) := by decide +kernel
theorem dL_law_386 : decode cL_law 386 = .ok (.aload_n 0, 1) := by decide +kernel
theorem dL_law_387 : decode cL_law 387 = .ok (.iload_n 3, 1) := by decide +kernel
theorem dL_law_388 : decode cL_law 388 = .ok (.iconst 3, 1) := by decide +kernel
theorem dL_law_389 : decode cL_law 389 = .ok (.iadd, 1) := by decide +kernel
theorem dL_law_390 : decode cL_law 390 = .ok (.iaload, 1) := by decide +kernel
theorem dL_law_391 : decode cL_law 391 = .ok (.invokevirtual 34, 3) := by decide +kernel
theorem dL_law_394 : decode cL_law 394 = .ok (.if_icmp .eq 473, 3) := by decide +kernel
theorem dL_law_397 : decode cL_law 397 = .ok (.iconst 0, 1) := by decide +kernel
theorem dL_law_398 : decode cL_law 398 = .ok (.ireturn, 1) := by decide +kernel
theorem dL_law_399 : decode cL_law 399 = .ok (.aload_n 1, 1) := by decide +kernel
theorem dL_law_400 : decode cL_law 400 = .ok (.invokevirtual 35, 3) := by decide +kernel
theorem dL_law_403 : decode cL_law 403 = .ok (.aload_n 2, 1) := by decide +kernel
theorem dL_law_404 : decode cL_law 404 = .ok (.invokevirtual 39, 3) := by decide +kernel
theorem dL_law_407 : decode cL_law 407 = .ok (.if_icmp .eq 460, 3) := by decide +kernel
theorem dL_law_410 : decode cL_law 410 = .ok (.iconst 0, 1) := by decide +kernel
theorem dL_law_411 : decode cL_law 411 = .ok (.ireturn, 1) := by decide +kernel
theorem dL_law_412 : decode cL_law 412 = .ok (.aload_n 1, 1) := by decide +kernel
theorem dL_law_413 : decode cL_law 413 = .ok (.aload_n 0, 1) := by decide +kernel
theorem dL_law_414 : decode cL_law 414 = .ok (.iload_n 3, 1) := by decide +kernel
theorem dL_law_415 : decode cL_law 415 = .ok (.iconst 1, 1) := by decide +kernel
theorem dL_law_416 : decode cL_law 416 = .ok (.iadd, 1) := by decide +kernel
theorem dL_law_417 : decode cL_law 417 = .ok (.iaload, 1) := by decide +kernel
theorem dL_law_418 : decode cL_law 418 = .ok (.aload_n 0, 1) := by decide +kernel
theorem dL_law_419 : decode cL_law 419 = .ok (.iload_n 3, 1) := by decide +kernel
theorem dL_law_420 : decode cL_law 420 = .ok (.iconst 2, 1) := by decide +kernel
theorem dL_law_421 : decode cL_law 421 = .ok (.iadd, 1) := by decide +kernel
theorem dL_law_422 : decode cL_law 422 = .ok (.iaload, 1) := by decide +kernel
theorem dL_law_423 : decode cL_law 423 = .ok (.aload_n 0, 1) := by decide +kernel
theorem dL_law_424 : decode cL_law 424 = .ok (.iload_n 3, 1) := by decide +kernel
theorem dL_law_425 : decode cL_law 425 = .ok (.iconst 3, 1) := by decide +kernel
theorem dL_law_426 : decode cL_law 426 = .ok (.iadd, 1) := by decide +kernel
theorem dL_law_427 : decode cL_law 427 = .ok (.iaload, 1) := by decide +kernel
theorem dL_law_428 : decode cL_law 428 = .ok (.invokevirtual 40, 3) := by decide +kernel
theorem dL_law_431 : decode cL_law 431 = .ok (.aload_n 2, 1) := by decide +kernel
theorem dL_law_432 : decode cL_law 432 = .ok (.aload_n 0, 1) := by decide +kernel
theorem dL_law_433 : decode cL_law 433 = .ok (.iload_n 3, 1) := by decide +kernel
theorem dL_law_434 : decode cL_law 434 = .ok (.iconst 1, 1) := by decide +kernel
theorem dL_law_435 : decode cL_law 435 = .ok (.iadd, 1) := by decide +kernel
theorem dL_law_436 : decode cL_law 436 = .ok (.iaload, 1) := by decide +kernel
theorem dL_law_437 : decode cL_law 437 = .ok (.aload_n 0, 1) := by decide +kernel
theorem dL_law_438 : decode cL_law 438 = .ok (.iload_n 3, 1) := by decide +kernel
theorem dL_law_439 : decode cL_law 439 = .ok (.iconst 2, 1) := by decide +kernel
theorem dL_law_440 : decode cL_law 440 = .ok (.iadd, 1) := by decide +kernel
theorem dL_law_441 : decode cL_law 441 = .ok (.iaload, 1) := by decide +kernel
theorem dL_law_442 : decode cL_law 442 = .ok (.aload_n 0, 1) := by decide +kernel
theorem dL_law_443 : decode cL_law 443 = .ok (.iload_n 3, 1) := by decide +kernel
theorem dL_law_444 : decode cL_law 444 = .ok (.iconst 3, 1) := by decide +kernel
theorem dL_law_445 : decode cL_law 445 = .ok (.iadd, 1) := by decide +kernel
theorem dL_law_446 : decode cL_law 446 = .ok (.iaload, 1) := by decide +kernel
theorem dL_law_447 : decode cL_law 447 = .ok (.invokevirtual 43, 3) := by decide +kernel
theorem dL_law_450 : decode cL_law 450 = .ok (.if_icmp .eq 417, 3) := by decide +kernel
theorem dL_law_453 : decode cL_law 453 = .ok (.iconst 0, 1) := by decide +kernel
theorem dL_law_454 : decode cL_law 454 = .ok (.ireturn, 1) := by decide +kernel
theorem dL_law_455 : decode cL_law 455 = .ok (.aload_n 1, 1) := by decide +kernel
theorem dL_law_456 : decode cL_law 456 = .ok (.aload_n 0, 1) := by decide +kernel
theorem dL_law_457 : decode cL_law 457 = .ok (.iload_n 3, 1) := by decide +kernel
theorem dL_law_458 : decode cL_law 458 = .ok (.iconst 1, 1) := by decide +kernel
theorem dL_law_459 : decode cL_law 459 = .ok (.iadd, 1) := by decide +kernel
theorem dL_law_460 : decode cL_law 460 = .ok (.iaload, 1) := by decide +kernel
theorem dL_law_461 : decode cL_law 461 = .ok (.aload_n 0, 1) := by decide +kernel
theorem dL_law_462 : decode cL_law 462 = .ok (.iload_n 3, 1) := by decide +kernel
theorem dL_law_463 : decode cL_law 463 = .ok (.iconst 2, 1) := by decide +kernel
theorem dL_law_464 : decode cL_law 464 = .ok (.iadd, 1) := by decide +kernel
theorem dL_law_465 : decode cL_law 465 = .ok (.iaload, 1) := by decide +kernel
theorem dL_law_466 : decode cL_law 466 = .ok (.aload_n 0, 1) := by decide +kernel
theorem dL_law_467 : decode cL_law 467 = .ok (.iload_n 3, 1) := by decide +kernel
theorem dL_law_468 : decode cL_law 468 = .ok (.iconst 3, 1) := by decide +kernel
theorem dL_law_469 : decode cL_law 469 = .ok (.iadd, 1) := by decide +kernel
theorem dL_law_470 : decode cL_law 470 = .ok (.iaload, 1) := by decide +kernel
theorem dL_law_471 : decode cL_law 471 = .ok (.invokevirtual 44, 3) := by decide +kernel
theorem dL_law_474 : decode cL_law 474 = .ok (.aload_n 2, 1) := by decide +kernel
theorem dL_law_475 : decode cL_law 475 = .ok (.aload_n 0, 1) := by decide +kernel
theorem dL_law_476 : decode cL_law 476 = .ok (.iload_n 3, 1) := by decide +kernel
theorem dL_law_477 : decode cL_law 477 = .ok (.iconst 1, 1) := by decide +kernel
theorem dL_law_478 : decode cL_law 478 = .ok (.iadd, 1) := by decide +kernel
theorem dL_law_479 : decode cL_law 479 = .ok (.iaload, 1) := by decide +kernel
theorem dL_law_480 : decode cL_law 480 = .ok (.aload_n 0, 1) := by decide +kernel
theorem dL_law_481 : decode cL_law 481 = .ok (.iload_n 3, 1) := by decide +kernel
theorem dL_law_482 : decode cL_law 482 = .ok (.iconst 2, 1) := by decide +kernel
theorem dL_law_483 : decode cL_law 483 = .ok (.iadd, 1) := by decide +kernel
theorem dL_law_484 : decode cL_law 484 = .ok (.iaload, 1) := by decide +kernel
theorem dL_law_485 : decode cL_law 485 = .ok (.aload_n 0, 1) := by decide +kernel
theorem dL_law_486 : decode cL_law 486 = .ok (.iload_n 3, 1) := by decide +kernel
theorem dL_law_487 : decode cL_law 487 = .ok (.iconst 3, 1) := by decide +kernel
theorem dL_law_488 : decode cL_law 488 = .ok (.iadd, 1) := by decide +kernel
theorem dL_law_489 : decode cL_law 489 = .ok (.iaload, 1) := by decide +kernel
theorem dL_law_490 : decode cL_law 490 = .ok (.invokevirtual 47, 3) := by decide +kernel
theorem dL_law_493 : decode cL_law 493 = .ok (.if_icmp .eq 374, 3) := by decide +kernel
theorem dL_law_496 : decode cL_law 496 = .ok (.iconst 0, 1) := by decide +kernel
theorem dL_law_497 : decode cL_law 497 = .ok (.ireturn, 1) := by decide +kernel
theorem dL_law_498 : decode cL_law 498 = .ok (.aload_n 1, 1) := by decide +kernel
theorem dL_law_499 : decode cL_law 499 = .ok (.aload_n 0, 1) := by decide +kernel
theorem dL_law_500 : decode cL_law 500 = .ok (.iload_n 3, 1) := by decide +kernel
theorem dL_law_501 : decode cL_law 501 = .ok (.iconst 1, 1) := by decide +kernel
theorem dL_law_502 : decode cL_law 502 = .ok (.iadd, 1) := by decide +kernel
theorem dL_law_503 : decode cL_law 503 = .ok (.iaload, 1) := by decide +kernel
theorem dL_law_504 : decode cL_law 504 = .ok (.invokevirtual 48, 3) := by decide +kernel
theorem dL_law_507 : decode cL_law 507 = .ok (.aload_n 2, 1) := by decide +kernel
theorem dL_law_508 : decode cL_law 508 = .ok (.aload_n 0, 1) := by decide +kernel
theorem dL_law_509 : decode cL_law 509 = .ok (.iload_n 3, 1) := by decide +kernel
theorem dL_law_510 : decode cL_law 510 = .ok (.iconst 1, 1) := by decide +kernel
theorem dL_law_511 : decode cL_law 511 = .ok (.iadd, 1) := by decide +kernel
theorem dL_law_512 : decode cL_law 512 = .ok (.iaload, 1) := by decide +kernel
theorem dL_law_513 : decode cL_law 513 = .ok (.invokevirtual 52, 3) := by decide +kernel
theorem dL_law_516 : decode cL_law 516 = .ok (.if_icmp .eq 351, 3) := by decide +kernel
theorem dL_law_519 : decode cL_law 519 = .ok (.iconst 0, 1) := by decide +kernel
theorem dL_law_520 : decode cL_law 520 = .ok (.ireturn, 1) := by decide +kernel
theorem dL_law_521 : decode cL_law 521 = .ok (.aload_n 1, 1) := by decide +kernel
theorem dL_law_522 : decode cL_law 522 = .ok (.aload_n 0, 1) := by decide +kernel
theorem dL_law_523 : decode cL_law 523 = .ok (.iload_n 3, 1) := by decide +kernel
theorem dL_law_524 : decode cL_law 524 = .ok (.iconst 1, 1) := by decide +kernel
theorem dL_law_525 : decode cL_law 525 = .ok (.iadd, 1) := by decide +kernel
theorem dL_law_526 : decode cL_law 526 = .ok (.iaload, 1) := by decide +kernel
theorem dL_law_527 : decode cL_law 527 = .ok (.aload_n 0, 1) := by decide +kernel
theorem dL_law_528 : decode cL_law 528 = .ok (.iload_n 3, 1) := by decide +kernel
theorem dL_law_529 : decode cL_law 529 = .ok (.iconst 2, 1) := by decide +kernel
theorem dL_law_530 : decode cL_law 530 = .ok (.iadd, 1) := by decide +kernel
theorem dL_law_531 : decode cL_law 531 = .ok (.iaload, 1) := by decide +kernel
theorem dL_law_532 : decode cL_law 532 = .ok (.invokevirtual 53, 3) := by decide +kernel
theorem dL_law_535 : decode cL_law 535 = .ok (.aload_n 2, 1) := by decide +kernel
theorem dL_law_536 : decode cL_law 536 = .ok (.aload_n 0, 1) := by decide +kernel
theorem dL_law_537 : decode cL_law 537 = .ok (.iload_n 3, 1) := by decide +kernel
theorem dL_law_538 : decode cL_law 538 = .ok (.iconst 1, 1) := by decide +kernel
theorem dL_law_539 : decode cL_law 539 = .ok (.iadd, 1) := by decide +kernel
theorem dL_law_540 : decode cL_law 540 = .ok (.iaload, 1) := by decide +kernel
theorem dL_law_541 : decode cL_law 541 = .ok (.aload_n 0, 1) := by decide +kernel
theorem dL_law_542 : decode cL_law 542 = .ok (.iload_n 3, 1) := by decide +kernel
theorem dL_law_543 : decode cL_law 543 = .ok (.iconst 2, 1) := by decide +kernel
theorem dL_law_544 : decode cL_law 544 = .ok (.iadd, 1) := by decide +kernel
theorem dL_law_545 : decode cL_law 545 = .ok (.iaload, 1) := by decide +kernel
theorem dL_law_546 : decode cL_law 546 = .ok (.invokevirtual 57, 3) := by decide +kernel
theorem dL_law_549 : decode cL_law 549 = .ok (.if_icmp .eq 318, 3) := by decide +kernel
theorem dL_law_552 : decode cL_law 552 = .ok (.iconst 0, 1) := by decide +kernel
theorem dL_law_553 : decode cL_law 553 = .ok (.ireturn, 1) := by decide +kernel
theorem dL_law_554 : decode cL_law 554 = .ok (.aload_n 1, 1) := by decide +kernel
theorem dL_law_555 : decode cL_law 555 = .ok (.aload_n 0, 1) := by decide +kernel
theorem dL_law_556 : decode cL_law 556 = .ok (.iload_n 3, 1) := by decide +kernel
theorem dL_law_557 : decode cL_law 557 = .ok (.iconst 1, 1) := by decide +kernel
theorem dL_law_558 : decode cL_law 558 = .ok (.iadd, 1) := by decide +kernel
theorem dL_law_559 : decode cL_law 559 = .ok (.iaload, 1) := by decide +kernel
theorem dL_law_560 : decode cL_law 560 = .ok (.aload_n 0, 1) := by decide +kernel
theorem dL_law_561 : decode cL_law 561 = .ok (.iload_n 3, 1) := by decide +kernel
theorem dL_law_562 : decode cL_law 562 = .ok (.iconst 2, 1) := by decide +kernel
theorem dL_law_563 : decode cL_law 563 = .ok (.iadd, 1) := by decide +kernel
theorem dL_law_564 : decode cL_law 564 = .ok (.iaload, 1) := by decide +kernel
theorem dL_law_565 : decode cL_law 565 = .ok (.invokevirtual 58, 3) := by decide +kernel
theorem dL_law_568 : decode cL_law 568 = .ok (.aload_n 2, 1) := by decide +kernel
theorem dL_law_569 : decode cL_law 569 = .ok (.aload_n 0, 1) := by decide +kernel
theorem dL_law_570 : decode cL_law 570 = .ok (.iload_n 3, 1) := by decide +kernel
theorem dL_law_571 : decode cL_law 571 = .ok (.iconst 1, 1) := by decide +kernel
theorem dL_law_572 : decode cL_law 572 = .ok (.iadd, 1) := by decide +kernel
theorem dL_law_573 : decode cL_law 573 = .ok (.iaload, 1) := by decide +kernel
theorem dL_law_574 : decode cL_law 574 = .ok (.aload_n 0, 1) := by decide +kernel
theorem dL_law_575 : decode cL_law 575 = .ok (.iload_n 3, 1) := by decide +kernel
theorem dL_law_576 : decode cL_law 576 = .ok (.iconst 2, 1) := by decide +kernel
theorem dL_law_577 : decode cL_law 577 = .ok (.iadd, 1) := by decide +kernel
theorem dL_law_578 : decode cL_law 578 = .ok (.iaload, 1) := by decide +kernel
theorem dL_law_579 : decode cL_law 579 = .ok (.invokevirtual 61, 3) := by decide +kernel
theorem dL_law_582 : decode cL_law 582 = .ok (.if_icmp .eq 285, 3) := by decide +kernel
theorem dL_law_585 : decode cL_law 585 = .ok (.iconst 0, 1) := by decide +kernel
theorem dL_law_586 : decode cL_law 586 = .ok (.ireturn, 1) := by decide +kernel
theorem dL_law_587 : decode cL_law 587 = .ok (.aload_n 1, 1) := by decide +kernel
theorem dL_law_588 : decode cL_law 588 = .ok (.aload_n 0, 1) := by decide +kernel
theorem dL_law_589 : decode cL_law 589 = .ok (.iload_n 3, 1) := by decide +kernel
theorem dL_law_590 : decode cL_law 590 = .ok (.iconst 1, 1) := by decide +kernel
theorem dL_law_591 : decode cL_law 591 = .ok (.iadd, 1) := by decide +kernel
theorem dL_law_592 : decode cL_law 592 = .ok (.iaload, 1) := by decide +kernel
theorem dL_law_593 : decode cL_law 593 = .ok (.aload_n 0, 1) := by decide +kernel
theorem dL_law_594 : decode cL_law 594 = .ok (.iload_n 3, 1) := by decide +kernel
theorem dL_law_595 : decode cL_law 595 = .ok (.iconst 2, 1) := by decide +kernel
theorem dL_law_596 : decode cL_law 596 = .ok (.iadd, 1) := by decide +kernel
theorem dL_law_597 : decode cL_law 597 = .ok (.iaload, 1) := by decide +kernel
theorem dL_law_598 : decode cL_law 598 = .ok (.invokevirtual 62, 3) := by decide +kernel
theorem dL_law_601 : decode cL_law 601 = .ok (.aload_n 2, 1) := by decide +kernel
theorem dL_law_602 : decode cL_law 602 = .ok (.aload_n 0, 1) := by decide +kernel
theorem dL_law_603 : decode cL_law 603 = .ok (.iload_n 3, 1) := by decide +kernel
theorem dL_law_604 : decode cL_law 604 = .ok (.iconst 1, 1) := by decide +kernel
theorem dL_law_605 : decode cL_law 605 = .ok (.iadd, 1) := by decide +kernel
theorem dL_law_606 : decode cL_law 606 = .ok (.iaload, 1) := by decide +kernel
theorem dL_law_607 : decode cL_law 607 = .ok (.aload_n 0, 1) := by decide +kernel
theorem dL_law_608 : decode cL_law 608 = .ok (.iload_n 3, 1) := by decide +kernel
theorem dL_law_609 : decode cL_law 609 = .ok (.iconst 2, 1) := by decide +kernel
theorem dL_law_610 : decode cL_law 610 = .ok (.iadd, 1) := by decide +kernel
theorem dL_law_611 : decode cL_law 611 = .ok (.iaload, 1) := by decide +kernel
theorem dL_law_612 : decode cL_law 612 = .ok (.invokevirtual 65, 3) := by decide +kernel
theorem dL_law_615 : decode cL_law 615 = .ok (.if_icmp .eq 252, 3) := by decide +kernel
theorem dL_law_618 : decode cL_law 618 = .ok (.iconst 0, 1) := by decide +kernel
theorem dL_law_619 : decode cL_law 619 = .ok (.ireturn, 1) := by decide +kernel
theorem dL_law_620 : decode cL_law 620 = .ok (.aload_n 1, 1) := by decide +kernel
theorem dL_law_621 : decode cL_law 621 = .ok (.invokevirtual 66, 3) := by decide +kernel
theorem dL_law_624 : decode cL_law 624 = .ok (.aload_n 2, 1) := by decide +kernel
theorem dL_law_625 : decode cL_law 625 = .ok (.invokevirtual 69, 3) := by decide +kernel
theorem dL_law_628 : decode cL_law 628 = .ok (.if_icmp .eq 239, 3) := by decide +kernel
theorem dL_law_631 : decode cL_law 631 = .ok (.iconst 0, 1) := by decide +kernel
theorem dL_law_632 : decode cL_law 632 = .ok (.ireturn, 1) := by decide +kernel
theorem dL_law_633 : decode cL_law 633 = .ok (.aload_n 1, 1) := by decide +kernel
theorem dL_law_634 : decode cL_law 634 = .ok (.aload_n 0, 1) := by decide +kernel
theorem dL_law_635 : decode cL_law 635 = .ok (.iload_n 3, 1) := by decide +kernel
theorem dL_law_636 : decode cL_law 636 = .ok (.iconst 1, 1) := by decide +kernel
theorem dL_law_637 : decode cL_law 637 = .ok (.iadd, 1) := by decide +kernel
theorem dL_law_638 : decode cL_law 638 = .ok (.iaload, 1) := by decide +kernel
theorem dL_law_639 : decode cL_law 639 = .ok (.invokevirtual 70, 3) := by decide +kernel
theorem dL_law_642 : decode cL_law 642 = .ok (.aload_n 2, 1) := by decide +kernel
theorem dL_law_643 : decode cL_law 643 = .ok (.aload_n 0, 1) := by decide +kernel
theorem dL_law_644 : decode cL_law 644 = .ok (.iload_n 3, 1) := by decide +kernel
theorem dL_law_645 : decode cL_law 645 = .ok (.iconst 1, 1) := by decide +kernel
theorem dL_law_646 : decode cL_law 646 = .ok (.iadd, 1) := by decide +kernel
theorem dL_law_647 : decode cL_law 647 = .ok (.iaload, 1) := by decide +kernel
theorem dL_law_648 : decode cL_law 648 = .ok (.invokevirtual 73, 3) := by decide +kernel
theorem dL_law_651 : decode cL_law 651 = .ok (.if_icmp .eq 216, 3) := by decide +kernel
theorem dL_law_654 : decode cL_law 654 = .ok (.iconst 0, 1) := by decide +kernel
theorem dL_law_655 : decode cL_law 655 = .ok (.ireturn, 1) := by decide +kernel
theorem dL_law_656 : decode cL_law 656 = .ok (.aload_n 1, 1) := by decide +kernel
theorem dL_law_657 : decode cL_law 657 = .ok (.aload_n 0, 1) := by decide +kernel
theorem dL_law_658 : decode cL_law 658 = .ok (.iload_n 3, 1) := by decide +kernel
theorem dL_law_659 : decode cL_law 659 = .ok (.iconst 1, 1) := by decide +kernel
theorem dL_law_660 : decode cL_law 660 = .ok (.iadd, 1) := by decide +kernel
theorem dL_law_661 : decode cL_law 661 = .ok (.iaload, 1) := by decide +kernel
theorem dL_law_662 : decode cL_law 662 = .ok (.invokevirtual 74, 3) := by decide +kernel
theorem dL_law_665 : decode cL_law 665 = .ok (.aload_n 2, 1) := by decide +kernel
theorem dL_law_666 : decode cL_law 666 = .ok (.aload_n 0, 1) := by decide +kernel
theorem dL_law_667 : decode cL_law 667 = .ok (.iload_n 3, 1) := by decide +kernel
theorem dL_law_668 : decode cL_law 668 = .ok (.iconst 1, 1) := by decide +kernel
theorem dL_law_669 : decode cL_law 669 = .ok (.iadd, 1) := by decide +kernel
theorem dL_law_670 : decode cL_law 670 = .ok (.iaload, 1) := by decide +kernel
theorem dL_law_671 : decode cL_law 671 = .ok (.invokevirtual 77, 3) := by decide +kernel
theorem dL_law_674 : decode cL_law 674 = .ok (.if_icmp .eq 193, 3) := by decide +kernel
theorem dL_law_677 : decode cL_law 677 = .ok (.iconst 0, 1) := by decide +kernel
theorem dL_law_678 : decode cL_law 678 = .ok (.ireturn, 1) := by decide +kernel
theorem dL_law_679 : decode cL_law 679 = .ok (.aload_n 1, 1) := by decide +kernel
theorem dL_law_680 : decode cL_law 680 = .ok (.aload_n 0, 1) := by decide +kernel
theorem dL_law_681 : decode cL_law 681 = .ok (.iload_n 3, 1) := by decide +kernel
theorem dL_law_682 : decode cL_law 682 = .ok (.iconst 1, 1) := by decide +kernel
theorem dL_law_683 : decode cL_law 683 = .ok (.iadd, 1) := by decide +kernel
theorem dL_law_684 : decode cL_law 684 = .ok (.iaload, 1) := by decide +kernel
theorem dL_law_685 : decode cL_law 685 = .ok (.aload_n 0, 1) := by decide +kernel
theorem dL_law_686 : decode cL_law 686 = .ok (.iload_n 3, 1) := by decide +kernel
theorem dL_law_687 : decode cL_law 687 = .ok (.iconst 2, 1) := by decide +kernel
theorem dL_law_688 : decode cL_law 688 = .ok (.iadd, 1) := by decide +kernel
theorem dL_law_689 : decode cL_law 689 = .ok (.iaload, 1) := by decide +kernel
theorem dL_law_690 : decode cL_law 690 = .ok (.invokevirtual 78, 3) := by decide +kernel
theorem dL_law_693 : decode cL_law 693 = .ok (.aload_n 2, 1) := by decide +kernel
theorem dL_law_694 : decode cL_law 694 = .ok (.aload_n 0, 1) := by decide +kernel
theorem dL_law_695 : decode cL_law 695 = .ok (.iload_n 3, 1) := by decide +kernel
theorem dL_law_696 : decode cL_law 696 = .ok (.iconst 1, 1) := by decide +kernel
theorem dL_law_697 : decode cL_law 697 = .ok (.iadd, 1) := by decide +kernel
theorem dL_law_698 : decode cL_law 698 = .ok (.iaload, 1) := by decide +kernel
theorem dL_law_699 : decode cL_law 699 = .ok (.aload_n 0, 1) := by decide +kernel
theorem dL_law_700 : decode cL_law 700 = .ok (.iload_n 3, 1) := by decide +kernel
theorem dL_law_701 : decode cL_law 701 = .ok (.iconst 2, 1) := by decide +kernel
theorem dL_law_702 : decode cL_law 702 = .ok (.iadd, 1) := by decide +kernel
theorem dL_law_703 : decode cL_law 703 = .ok (.iaload, 1) := by decide +kernel
theorem dL_law_704 : decode cL_law 704 = .ok (.invokevirtual 81, 3) := by decide +kernel
theorem dL_law_707 : decode cL_law 707 = .ok (.if_icmp .eq 160, 3) := by decide +kernel
theorem dL_law_710 : decode cL_law 710 = .ok (.iconst 0, 1) := by decide +kernel
theorem dL_law_711 : decode cL_law 711 = .ok (.ireturn, 1) := by decide +kernel
theorem dL_law_712 : decode cL_law 712 = .ok (.aload_n 1, 1) := by decide +kernel
theorem dL_law_713 : decode cL_law 713 = .ok (.aload_n 0, 1) := by decide +kernel
theorem dL_law_714 : decode cL_law 714 = .ok (.iload_n 3, 1) := by decide +kernel
theorem dL_law_715 : decode cL_law 715 = .ok (.iconst 1, 1) := by decide +kernel
theorem dL_law_716 : decode cL_law 716 = .ok (.iadd, 1) := by decide +kernel
theorem dL_law_717 : decode cL_law 717 = .ok (.iaload, 1) := by decide +kernel
theorem dL_law_718 : decode cL_law 718 = .ok (.aload_n 0, 1) := by decide +kernel
theorem dL_law_719 : decode cL_law 719 = .ok (.iload_n 3, 1) := by decide +kernel
theorem dL_law_720 : decode cL_law 720 = .ok (.iconst 2, 1) := by decide +kernel
theorem dL_law_721 : decode cL_law 721 = .ok (.iadd, 1) := by decide +kernel
theorem dL_law_722 : decode cL_law 722 = .ok (.iaload, 1) := by decide +kernel
theorem dL_law_723 : decode cL_law 723 = .ok (.invokevirtual 82, 3) := by decide +kernel
theorem dL_law_726 : decode cL_law 726 = .ok (.aload_n 2, 1) := by decide +kernel
theorem dL_law_727 : decode cL_law 727 = .ok (.aload_n 0, 1) := by decide +kernel
theorem dL_law_728 : decode cL_law 728 = .ok (.iload_n 3, 1) := by decide +kernel
theorem dL_law_729 : decode cL_law 729 = .ok (.iconst 1, 1) := by decide +kernel
theorem dL_law_730 : decode cL_law 730 = .ok (.iadd, 1) := by decide +kernel
theorem dL_law_731 : decode cL_law 731 = .ok (.iaload, 1) := by decide +kernel
theorem dL_law_732 : decode cL_law 732 = .ok (.aload_n 0, 1) := by decide +kernel
theorem dL_law_733 : decode cL_law 733 = .ok (.iload_n 3, 1) := by decide +kernel
theorem dL_law_734 : decode cL_law 734 = .ok (.iconst 2, 1) := by decide +kernel
theorem dL_law_735 : decode cL_law 735 = .ok (.iadd, 1) := by decide +kernel
theorem dL_law_736 : decode cL_law 736 = .ok (.iaload, 1) := by decide +kernel
theorem dL_law_737 : decode cL_law 737 = .ok (.invokevirtual 85, 3) := by decide +kernel
theorem dL_law_740 : decode cL_law 740 = .ok (.if_icmp .eq 127, 3) := by decide +kernel
theorem dL_law_743 : decode cL_law 743 = .ok (.iconst 0, 1) := by decide +kernel
theorem dL_law_744 : decode cL_law 744 = .ok (.ireturn, 1) := by decide +kernel
theorem dL_law_745 : decode cL_law 745 = .ok (.aload_n 1, 1) := by decide +kernel
theorem dL_law_746 : decode cL_law 746 = .ok (.aload_n 0, 1) := by decide +kernel
theorem dL_law_747 : decode cL_law 747 = .ok (.iload_n 3, 1) := by decide +kernel
theorem dL_law_748 : decode cL_law 748 = .ok (.iconst 1, 1) := by decide +kernel
theorem dL_law_749 : decode cL_law 749 = .ok (.iadd, 1) := by decide +kernel
theorem dL_law_750 : decode cL_law 750 = .ok (.iaload, 1) := by decide +kernel
theorem dL_law_751 : decode cL_law 751 = .ok (.invokevirtual 86, 3) := by decide +kernel
theorem dL_law_754 : decode cL_law 754 = .ok (.aload_n 2, 1) := by decide +kernel
theorem dL_law_755 : decode cL_law 755 = .ok (.aload_n 0, 1) := by decide +kernel
theorem dL_law_756 : decode cL_law 756 = .ok (.iload_n 3, 1) := by decide +kernel
theorem dL_law_757 : decode cL_law 757 = .ok (.iconst 1, 1) := by decide +kernel
theorem dL_law_758 : decode cL_law 758 = .ok (.iadd, 1) := by decide +kernel
theorem dL_law_759 : decode cL_law 759 = .ok (.iaload, 1) := by decide +kernel
theorem dL_law_760 : decode cL_law 760 = .ok (.invokevirtual 89, 3) := by decide +kernel
theorem dL_law_763 : decode cL_law 763 = .ok (.if_icmp .eq 104, 3) := by decide +kernel
theorem dL_law_766 : decode cL_law 766 = .ok (.iconst 0, 1) := by decide +kernel
theorem dL_law_767 : decode cL_law 767 = .ok (.ireturn, 1) := by decide +kernel
theorem dL_law_768 : decode cL_law 768 = .ok (.aload_n 1, 1) := by decide +kernel
theorem dL_law_769 : decode cL_law 769 = .ok (.aload_n 0, 1) := by decide +kernel
theorem dL_law_770 : decode cL_law 770 = .ok (.iload_n 3, 1) := by decide +kernel
theorem dL_law_771 : decode cL_law 771 = .ok (.iconst 1, 1) := by decide +kernel
theorem dL_law_772 : decode cL_law 772 = .ok (.iadd, 1) := by decide +kernel
theorem dL_law_773 : decode cL_law 773 = .ok (.iaload, 1) := by decide +kernel
theorem dL_law_774 : decode cL_law 774 = .ok (.invokevirtual 90, 3) := by decide +kernel
theorem dL_law_777 : decode cL_law 777 = .ok (.aload_n 2, 1) := by decide +kernel
theorem dL_law_778 : decode cL_law 778 = .ok (.aload_n 0, 1) := by decide +kernel
theorem dL_law_779 : decode cL_law 779 = .ok (.iload_n 3, 1) := by decide +kernel
theorem dL_law_780 : decode cL_law 780 = .ok (.iconst 1, 1) := by decide +kernel
theorem dL_law_781 : decode cL_law 781 = .ok (.iadd, 1) := by decide +kernel
theorem dL_law_782 : decode cL_law 782 = .ok (.iaload, 1) := by decide +kernel
theorem dL_law_783 : decode cL_law 783 = .ok (.invokevirtual 93, 3) := by decide +kernel
theorem dL_law_786 : decode cL_law 786 = .ok (.if_icmp .eq 81, 3) := by decide +kernel
theorem dL_law_789 : decode cL_law 789 = .ok (.iconst 0, 1) := by decide +kernel
theorem dL_law_790 : decode cL_law 790 = .ok (.ireturn, 1) := by decide +kernel
theorem dL_law_791 : decode cL_law 791 = .ok (.aload_n 1, 1) := by decide +kernel
theorem dL_law_792 : decode cL_law 792 = .ok (.invokevirtual 94, 3) := by decide +kernel
theorem dL_law_795 : decode cL_law 795 = .ok (.aload_n 2, 1) := by decide +kernel
theorem dL_law_796 : decode cL_law 796 = .ok (.invokevirtual 97, 3) := by decide +kernel
theorem dL_law_799 : decode cL_law 799 = .ok (.if_icmp .eq 68, 3) := by decide +kernel
theorem dL_law_802 : decode cL_law 802 = .ok (.iconst 0, 1) := by decide +kernel
theorem dL_law_803 : decode cL_law 803 = .ok (.ireturn, 1) := by decide +kernel
theorem dL_law_804 : decode cL_law 804 = .ok (.aload_n 1, 1) := by decide +kernel
theorem dL_law_805 : decode cL_law 805 = .ok (.invokevirtual 98, 3) := by decide +kernel
theorem dL_law_808 : decode cL_law 808 = .ok (.aload_n 2, 1) := by decide +kernel
theorem dL_law_809 : decode cL_law 809 = .ok (.invokevirtual 101, 3) := by decide +kernel
theorem dL_law_812 : decode cL_law 812 = .ok (.if_icmp .eq 55, 3) := by decide +kernel
theorem dL_law_815 : decode cL_law 815 = .ok (.iconst 0, 1) := by decide +kernel
theorem dL_law_816 : decode cL_law 816 = .ok (.ireturn, 1) := by decide +kernel
theorem dL_law_817 : decode cL_law 817 = .ok (.aload_n 1, 1) := by decide +kernel
theorem dL_law_818 : decode cL_law 818 = .ok (.invokevirtual 102, 3) := by decide +kernel
theorem dL_law_821 : decode cL_law 821 = .ok (.aload_n 2, 1) := by decide +kernel
theorem dL_law_822 : decode cL_law 822 = .ok (.invokevirtual 105, 3) := by decide +kernel
theorem dL_law_825 : decode cL_law 825 = .ok (.if_icmp .eq 42, 3) := by decide +kernel
theorem dL_law_828 : decode cL_law 828 = .ok (.iconst 0, 1) := by decide +kernel
theorem dL_law_829 : decode cL_law 829 = .ok (.ireturn, 1) := by decide +kernel
theorem dL_law_830 : decode cL_law 830 = .ok (.aload_n 1, 1) := by decide +kernel
theorem dL_law_831 : decode cL_law 831 = .ok (.aload_n 0, 1) := by decide +kernel
theorem dL_law_832 : decode cL_law 832 = .ok (.iload_n 3, 1) := by decide +kernel
theorem dL_law_833 : decode cL_law 833 = .ok (.iconst 1, 1) := by decide +kernel
theorem dL_law_834 : decode cL_law 834 = .ok (.iadd, 1) := by decide +kernel
theorem dL_law_835 : decode cL_law 835 = .ok (.iaload, 1) := by decide +kernel
theorem dL_law_836 : decode cL_law 836 = .ok (.invokevirtual 106, 3) := by decide +kernel
theorem dL_law_839 : decode cL_law 839 = .ok (.aload_n 2, 1) := by decide +kernel
theorem dL_law_840 : decode cL_law 840 = .ok (.aload_n 0, 1) := by decide +kernel
theorem dL_law_841 : decode cL_law 841 = .ok (.iload_n 3, 1) := by decide +kernel
theorem dL_law_842 : decode cL_law 842 = .ok (.iconst 1, 1) := by decide +kernel
theorem dL_law_843 : decode cL_law 843 = .ok (.iadd, 1) := by decide +kernel
theorem dL_law_844 : decode cL_law 844 = .ok (.iaload, 1) := by decide +kernel
theorem dL_law_845 : decode cL_law 845 = .ok (.invokevirtual 109, 3) := by decide +kernel
theorem dL_law_848 : decode cL_law 848 = .ok (.if_icmp .eq 19, 3) := by decide +kernel
theorem dL_law_851 : decode cL_law 851 = .ok (.iconst 0, 1) := by decide +kernel
theorem dL_law_852 : decode cL_law 852 = .ok (.ireturn, 1) := by decide +kernel
theorem dL_law_853 : decode cL_law 853 = .ok (.aload_n 1, 1) := by decide +kernel
theorem dL_law_854 : decode cL_law 854 = .ok (.invokevirtual 110, 3) := by decide +kernel
theorem dL_law_857 : decode cL_law 857 = .ok (.aload_n 2, 1) := by decide +kernel
theorem dL_law_858 : decode cL_law 858 = .ok (.invokevirtual 114, 3) := by decide +kernel
theorem dL_law_861 : decode cL_law 861 = .ok (.lcmp, 1) := by decide +kernel
theorem dL_law_862 : decode cL_law 862 = .ok (.ifCond .eq 5, 3) := by decide +kernel
theorem dL_law_865 : decode cL_law 865 = .ok (.iconst 0, 1) := by decide +kernel
theorem dL_law_866 : decode cL_law 866 = .ok (.ireturn, 1) := by decide +kernel
theorem dL_law_867 : decode cL_law 867 = .ok (.iinc 3 6, 3) := by decide +kernel
theorem dL_law_870 : decode cL_law 870 = .ok (.goto (-852), 3) := by decide +kernel
theorem dL_law_873 : decode cL_law 873 = .ok (.iconst 1, 1) := by decide +kernel
theorem dL_law_874 : decode cL_law 874 = .ok (.ireturn, 1) := by decide +kernel
def jL_law_144 (F : Nat) (L : Nat) (xs : Nat → Int32) (kc_18 : (Int32 × zOS × zOS × zOS × zOS × zOS × zOS × zSS × zOS) → Option (Int32)) (x3 : Int32) (sX : zOS) (sT : zOS) (sM : zOS) (sL : zOS) (sP : zOS) (sB : zOS) (sSS : zSS) (sD : zOS) : Option (Int32) := (zchk (x3 + (1 : Int32)) L (zchk (x3 + (2 : Int32)) L (zchk (x3 + (3 : Int32)) L (zchk (x3 + (4 : Int32)) L (zchk (x3 + (5 : Int32)) L (Option.bind (fX4_draws F (xs (x3 + (1 : Int32)).toNatClampNeg) (xs (x3 + (2 : Int32)).toNatClampNeg) (xs (x3 + (3 : Int32)).toNatClampNeg) (xs (x3 + (4 : Int32)).toNatClampNeg) (xs (x3 + (5 : Int32)).toNatClampNeg) sX sP sB sSS) (fun r_2 : Int32 × zOS × zOS × zOS × zSS => (zchk (x3 + (1 : Int32)) L (zchk (x3 + (2 : Int32)) L (zchk (x3 + (3 : Int32)) L (zchk (x3 + (4 : Int32)) L (zchk (x3 + (5 : Int32)) L (Option.bind (fX5_draws F (xs (x3 + (1 : Int32)).toNatClampNeg) (xs (x3 + (2 : Int32)).toNatClampNeg) (xs (x3 + (3 : Int32)).toNatClampNeg) (xs (x3 + (4 : Int32)).toNatClampNeg) (xs (x3 + (5 : Int32)).toNatClampNeg) sD) (fun r_4 : Int32 × zOS => (if r_2.1 = r_4.1 then (kc_18 ((x3 + 6), r_2.2.1, sT, sM, sL, r_2.2.2.1, r_2.2.2.2.1, r_2.2.2.2.2, r_4.2)) else (zbk (0 : Int32) (some (0 : Int32))))))))))))))))))
set_option maxRecDepth 20000 in
theorem wL_law_144 {X : zCx} {F b L : Nat} {xs : Nat → Int32} {qX : Nat → Nat} {qT : Nat → Nat} {qM : Nat → Nat} {qL : Nat → Nat} {qP : Nat → Nat} {qB : Nat → Nat} {qD : Nat → Nat} {aa : Nat → Nat → Nat} {kc_18 : (Int32 × zOS × zOS × zOS × zOS × zOS × zOS × zSS × zOS) → Option (Int32)} (C : zC X R_law code 4 24 558) (hR : zLw X b L xs) (hM50 : qM 50 = qP 0) (hM51 : qM 51 = qL 0) (hX50 : qX 50 = qP 0) (hX51 : qX 51 = qB 0) (hX52 : qX 52 = qL 0) (hX53 : qX 53 = qM 0) (hX54 : qX 54 = qT 0) (hk_18 : ∀ (y3 : Int32) (tX : zOS) (tT : zOS) (tM : zOS) (tL : zOS) (tP : zOS) (tB : zOS) (tSS : zSS) (tD : zOS), zJ X 4 (1 : Int32) (kc_18 (y3, tX, tT, tM, tL, tP, tB, tSS, tD)) 18 [(0, (.ref b)), (1, (.ref (qX 0))), (2, (.ref (qD 0))), (3, (.int y3))] [] [(4, (zqx qX aa tSS.1), tX), (3, qT, tT), (1, qM, tM), (0, qL, tL), (2, qP, tP), (2, qB, tB), (2, (aa ((0 + tSS.1) % 5)), (tSS.2 0)), (2, (aa ((1 + tSS.1) % 5)), (tSS.2 1)), (2, (aa ((2 + tSS.1) % 5)), (tSS.2 2)), (2, (aa ((3 + tSS.1) % 5)), (tSS.2 3)), (2, (aa ((4 + tSS.1) % 5)), (tSS.2 4)), (5, qD, tD)]) (x3 : Int32) (sX : zOS) (sT : zOS) (sM : zOS) (sL : zOS) (sP : zOS) (sB : zOS) (sSS : zSS) (sD : zOS) : zJ X 4 (1 : Int32) (jL_law_144 F L xs kc_18 x3 sX sT sM sL sP sB sSS sD) 144 [(0, (.ref b)), (1, (.ref (qX 0))), (2, (.ref (qD 0))), (3, (.int x3))] [] [(4, (zqx qX aa sSS.1), sX), (3, qT, sT), (1, qM, sM), (0, qL, sL), (2, qP, sP), (2, qB, sB), (2, (aa ((0 + sSS.1) % 5)), (sSS.2 0)), (2, (aa ((1 + sSS.1) % 5)), (sSS.2 1)), (2, (aa ((2 + sSS.1) % 5)), (sSS.2 2)), (2, (aa ((3 + sSS.1) % 5)), (sSS.2 3)), (2, (aa ((4 + sSS.1) % 5)), (sSS.2 4)), (5, qD, sD)] := by
  unfold jL_law_144
  refine z_aload_n (pc := 144) 1 rfl rfl C dL_law_144 ?_
  refine z_aload_n (pc := 145) 0 rfl rfl C dL_law_145 ?_
  refine z_iload_n (pc := 146) 3 rfl rfl C dL_law_146 ?_
  refine z_iconst (pc := 147) (1 : Int32) (by decide) C dL_law_147 ?_
  refine z_iadd (pc := 148) C dL_law_148 ?_
  refine z_sld (pc := 149) C hR dL_law_149 ?_
  refine z_aload_n (pc := 150) 0 rfl rfl C dL_law_150 ?_
  refine z_iload_n (pc := 151) 3 rfl rfl C dL_law_151 ?_
  refine z_iconst (pc := 152) (2 : Int32) (by decide) C dL_law_152 ?_
  refine z_iadd (pc := 153) C dL_law_153 ?_
  refine z_sld (pc := 154) C hR dL_law_154 ?_
  refine z_aload_n (pc := 155) 0 rfl rfl C dL_law_155 ?_
  refine z_iload_n (pc := 156) 3 rfl rfl C dL_law_156 ?_
  refine z_iconst (pc := 157) (3 : Int32) (by decide) C dL_law_157 ?_
  refine z_iadd (pc := 158) C dL_law_158 ?_
  refine z_sld (pc := 159) C hR dL_law_159 ?_
  refine z_aload_n (pc := 160) 0 rfl rfl C dL_law_160 ?_
  refine z_iload_n (pc := 161) 3 rfl rfl C dL_law_161 ?_
  refine z_iconst (pc := 162) (4 : Int32) (by decide) C dL_law_162 ?_
  refine z_iadd (pc := 163) C dL_law_163 ?_
  refine z_sld (pc := 164) C hR dL_law_164 ?_
  refine z_aload_n (pc := 165) 0 rfl rfl C dL_law_165 ?_
  refine z_iload_n (pc := 166) 3 rfl rfl C dL_law_166 ?_
  refine z_iconst (pc := 167) (5 : Int32) (by decide) C dL_law_167 ?_
  refine z_iadd (pc := 168) C dL_law_168 ?_
  refine z_sld (pc := 169) C hR dL_law_169 ?_
  refine z_callV (q' := (zqx qX aa sSS.1)) (pc := 170) (rf' := 4) (rl' := 92) (fX4_draws F (xs (x3 + (1 : Int32)).toNatClampNeg) (xs (x3 + (2 : Int32)).toNatClampNeg) (xs (x3 + (3 : Int32)).toNatClampNeg) (xs (x3 + (4 : Int32)).toNatClampNeg) (xs (x3 + (5 : Int32)).toNatClampNeg) sX sP sB sSS) [(.int (xs (x3 + (1 : Int32)).toNatClampNeg)), (.int (xs (x3 + (2 : Int32)).toNatClampNeg)), (.int (xs (x3 + (3 : Int32)).toNatClampNeg)), (.int (xs (x3 + (4 : Int32)).toNatClampNeg)), (.int (xs (x3 + (5 : Int32)).toNatClampNeg))] [] [(4, (zqx qX aa sSS.1), sX), (2, qP, sP), (2, qB, sB), (2, (aa ((0 + sSS.1) % 5)), (sSS.2 0)), (2, (aa ((1 + sSS.1) % 5)), (sSS.2 1)), (2, (aa ((2 + sSS.1) % 5)), (sSS.2 2)), (2, (aa ((3 + sSS.1) % 5)), (sSS.2 3)), (2, (aa ((4 + sSS.1) % 5)), (sSS.2 4))] (fun r_2 => (some (.int r_2.1))) (fun r_2 => [(4, (zqx qX aa r_2.2.2.2.2.1), r_2.2.1), (2, qP, r_2.2.2.1), (2, qB, r_2.2.2.2.1), (2, (aa ((0 + r_2.2.2.2.2.1) % 5)), (r_2.2.2.2.2.2 0)), (2, (aa ((1 + r_2.2.2.2.2.1) % 5)), (r_2.2.2.2.2.2 1)), (2, (aa ((2 + r_2.2.2.2.2.1) % 5)), (r_2.2.2.2.2.2 2)), (2, (aa ((3 + r_2.2.2.2.2.1) % 5)), (r_2.2.2.2.2.2 3)), (2, (aa ((4 + r_2.2.2.2.2.1) % 5)), (r_2.2.2.2.2.2 4))]) [(3, qT, sT), (1, qM, sM), (0, qL, sL), (5, qD, sD)] (fun r_2 => [(4, (zqx qX aa r_2.2.2.2.2.1), r_2.2.1), (3, qT, sT), (1, qM, sM), (0, qL, sL), (2, qP, r_2.2.2.1), (2, qB, r_2.2.2.2.1), (2, (aa ((0 + r_2.2.2.2.2.1) % 5)), (r_2.2.2.2.2.2 0)), (2, (aa ((1 + r_2.2.2.2.2.1) % 5)), (r_2.2.2.2.2.2 1)), (2, (aa ((2 + r_2.2.2.2.2.1) % 5)), (r_2.2.2.2.2.2 2)), (2, (aa ((3 + r_2.2.2.2.2.1) % 5)), (r_2.2.2.2.2.2 3)), (2, (aa ((4 + r_2.2.2.2.2.1) % 5)), (r_2.2.2.2.2.2 4)), (5, qD, sD)]) C dL_law_170 zy_X4_draws zw_289 (fun _ hr9 => mX4_draws (qX := qX) (qP := qP) (qB := qB) (aa := aa) hX50 hX51 hr9) (by decide) rfl rfl (by decide) rfl (Nat.le_of_ble_eq_true rfl) (z_pn 12 _ rfl [0, 4, 5, 6, 7, 8, 9, 10, 1, 2, 3, 11] (by decide)).symm (fun _ => (z_pn 12 _ rfl [0, 8, 9, 10, 1, 2, 3, 4, 5, 6, 7, 11] (by decide)).symm) rfl (fun r_2 hr_3 => ?_)
  show zJ X 4 (1 : Int32) _ 173 [(0, (.ref b)), (1, (.ref (qX 0))), (2, (.ref (qD 0))), (3, (.int x3))] [(.int r_2.1)] [(4, (zqx qX aa r_2.2.2.2.2.1), r_2.2.1), (3, qT, sT), (1, qM, sM), (0, qL, sL), (2, qP, r_2.2.2.1), (2, qB, r_2.2.2.2.1), (2, (aa ((0 + r_2.2.2.2.2.1) % 5)), (r_2.2.2.2.2.2 0)), (2, (aa ((1 + r_2.2.2.2.2.1) % 5)), (r_2.2.2.2.2.2 1)), (2, (aa ((2 + r_2.2.2.2.2.1) % 5)), (r_2.2.2.2.2.2 2)), (2, (aa ((3 + r_2.2.2.2.2.1) % 5)), (r_2.2.2.2.2.2 3)), (2, (aa ((4 + r_2.2.2.2.2.1) % 5)), (r_2.2.2.2.2.2 4)), (5, qD, sD)]
  refine z_aload_n (pc := 173) 2 rfl rfl C dL_law_173 ?_
  refine z_aload_n (pc := 174) 0 rfl rfl C dL_law_174 ?_
  refine z_iload_n (pc := 175) 3 rfl rfl C dL_law_175 ?_
  refine z_iconst (pc := 176) (1 : Int32) (by decide) C dL_law_176 ?_
  refine z_iadd (pc := 177) C dL_law_177 ?_
  refine z_sld (pc := 178) C hR dL_law_178 ?_
  refine z_aload_n (pc := 179) 0 rfl rfl C dL_law_179 ?_
  refine z_iload_n (pc := 180) 3 rfl rfl C dL_law_180 ?_
  refine z_iconst (pc := 181) (2 : Int32) (by decide) C dL_law_181 ?_
  refine z_iadd (pc := 182) C dL_law_182 ?_
  refine z_sld (pc := 183) C hR dL_law_183 ?_
  refine z_aload_n (pc := 184) 0 rfl rfl C dL_law_184 ?_
  refine z_iload_n (pc := 185) 3 rfl rfl C dL_law_185 ?_
  refine z_iconst (pc := 186) (3 : Int32) (by decide) C dL_law_186 ?_
  refine z_iadd (pc := 187) C dL_law_187 ?_
  refine z_sld (pc := 188) C hR dL_law_188 ?_
  refine z_aload_n (pc := 189) 0 rfl rfl C dL_law_189 ?_
  refine z_iload_n (pc := 190) 3 rfl rfl C dL_law_190 ?_
  refine z_iconst (pc := 191) (4 : Int32) (by decide) C dL_law_191 ?_
  refine z_iadd (pc := 192) C dL_law_192 ?_
  refine z_sld (pc := 193) C hR dL_law_193 ?_
  refine z_aload_n (pc := 194) 0 rfl rfl C dL_law_194 ?_
  refine z_iload_n (pc := 195) 3 rfl rfl C dL_law_195 ?_
  refine z_iconst (pc := 196) (5 : Int32) (by decide) C dL_law_196 ?_
  refine z_iadd (pc := 197) C dL_law_197 ?_
  refine z_sld (pc := 198) C hR dL_law_198 ?_
  refine z_callV (pc := 199) (rf' := 3) (rl' := 72) (fX5_draws F (xs (x3 + (1 : Int32)).toNatClampNeg) (xs (x3 + (2 : Int32)).toNatClampNeg) (xs (x3 + (3 : Int32)).toNatClampNeg) (xs (x3 + (4 : Int32)).toNatClampNeg) (xs (x3 + (5 : Int32)).toNatClampNeg) sD) [(.int (xs (x3 + (1 : Int32)).toNatClampNeg)), (.int (xs (x3 + (2 : Int32)).toNatClampNeg)), (.int (xs (x3 + (3 : Int32)).toNatClampNeg)), (.int (xs (x3 + (4 : Int32)).toNatClampNeg)), (.int (xs (x3 + (5 : Int32)).toNatClampNeg))] [(.int r_2.1)] [(5, qD, sD)] (fun r_4 => (some (.int r_4.1))) (fun r_4 => [(5, qD, r_4.2)]) [(4, (zqx qX aa r_2.2.2.2.2.1), r_2.2.1), (3, qT, sT), (1, qM, sM), (0, qL, sL), (2, qP, r_2.2.2.1), (2, qB, r_2.2.2.2.1), (2, (aa ((0 + r_2.2.2.2.2.1) % 5)), (r_2.2.2.2.2.2 0)), (2, (aa ((1 + r_2.2.2.2.2.1) % 5)), (r_2.2.2.2.2.2 1)), (2, (aa ((2 + r_2.2.2.2.2.1) % 5)), (r_2.2.2.2.2.2 2)), (2, (aa ((3 + r_2.2.2.2.2.1) % 5)), (r_2.2.2.2.2.2 3)), (2, (aa ((4 + r_2.2.2.2.2.1) % 5)), (r_2.2.2.2.2.2 4))] (fun r_4 => [(4, (zqx qX aa r_2.2.2.2.2.1), r_2.2.1), (3, qT, sT), (1, qM, sM), (0, qL, sL), (2, qP, r_2.2.2.1), (2, qB, r_2.2.2.2.1), (2, (aa ((0 + r_2.2.2.2.2.1) % 5)), (r_2.2.2.2.2.2 0)), (2, (aa ((1 + r_2.2.2.2.2.1) % 5)), (r_2.2.2.2.2.2 1)), (2, (aa ((2 + r_2.2.2.2.2.1) % 5)), (r_2.2.2.2.2.2 2)), (2, (aa ((3 + r_2.2.2.2.2.1) % 5)), (r_2.2.2.2.2.2 3)), (2, (aa ((4 + r_2.2.2.2.2.1) % 5)), (r_2.2.2.2.2.2 4)), (5, qD, r_4.2)]) C dL_law_199 zy_X5_draws zw_802 (fun _ hr9 => mX5_draws  hr9) (by decide) rfl rfl (by decide) rfl (Nat.le_of_ble_eq_true rfl) (z_pn 12 _ rfl [11, 0, 1, 2, 3, 4, 5, 6, 7, 8, 9, 10] (by decide)).symm (fun _ => (z_pn 12 _ rfl [1, 2, 3, 4, 5, 6, 7, 8, 9, 10, 11, 0] (by decide)).symm) rfl (fun r_4 hr_5 => ?_)
  show zJ X 4 (1 : Int32) _ 202 [(0, (.ref b)), (1, (.ref (qX 0))), (2, (.ref (qD 0))), (3, (.int x3))] [(.int r_4.1), (.int r_2.1)] [(4, (zqx qX aa r_2.2.2.2.2.1), r_2.2.1), (3, qT, sT), (1, qM, sM), (0, qL, sL), (2, qP, r_2.2.2.1), (2, qB, r_2.2.2.2.1), (2, (aa ((0 + r_2.2.2.2.2.1) % 5)), (r_2.2.2.2.2.2 0)), (2, (aa ((1 + r_2.2.2.2.2.1) % 5)), (r_2.2.2.2.2.2 1)), (2, (aa ((2 + r_2.2.2.2.2.1) % 5)), (r_2.2.2.2.2.2 2)), (2, (aa ((3 + r_2.2.2.2.2.1) % 5)), (r_2.2.2.2.2.2 3)), (2, (aa ((4 + r_2.2.2.2.2.1) % 5)), (r_2.2.2.2.2.2 4)), (5, qD, r_4.2)]
  refine z_icmp_eq (pc := 202) 867 C dL_law_202 (by decide) ?_ ?_
  · refine z_iinc (pc := 867) (x3 + 6) 3 rfl rfl [(0, (.ref b)), (1, (.ref (qX 0))), (2, (.ref (qD 0))), (3, (.int (x3 + 6)))] [1, 2, 3, 0] (by decide) rfl C dL_law_867 ?_
    refine z_goto (pc := 870) 18 C dL_law_870 (by decide) ?_
    exact hk_18 _ _ _ _ _ _ _ _ _
  · refine z_iconst (pc := 205) (0 : Int32) (by decide) C dL_law_205 ?_
    exact z_lawret (pc := 206) C hR dL_law_206
def jL_law_207 (F : Nat) (L : Nat) (xs : Nat → Int32) (kc_18 : (Int32 × zOS × zOS × zOS × zOS × zOS × zOS × zSS × zOS) → Option (Int32)) (x3 : Int32) (sX : zOS) (sT : zOS) (sM : zOS) (sL : zOS) (sP : zOS) (sB : zOS) (sSS : zSS) (sD : zOS) : Option (Int32) := (zchk (x3 + (1 : Int32)) L (zchk (x3 + (2 : Int32)) L (zchk (x3 + (3 : Int32)) L (zchk (x3 + (4 : Int32)) L (zchk (x3 + (5 : Int32)) L (Option.bind (fX4_rubs F (xs (x3 + (1 : Int32)).toNatClampNeg) (xs (x3 + (2 : Int32)).toNatClampNeg) (xs (x3 + (3 : Int32)).toNatClampNeg) (xs (x3 + (4 : Int32)).toNatClampNeg) (xs (x3 + (5 : Int32)).toNatClampNeg) sX sP sB sSS) (fun r_7 : Int32 × zOS × zOS × zOS × zSS => (zchk (x3 + (1 : Int32)) L (zchk (x3 + (2 : Int32)) L (zchk (x3 + (3 : Int32)) L (zchk (x3 + (4 : Int32)) L (zchk (x3 + (5 : Int32)) L (Option.bind (fX5_rubs F (xs (x3 + (1 : Int32)).toNatClampNeg) (xs (x3 + (2 : Int32)).toNatClampNeg) (xs (x3 + (3 : Int32)).toNatClampNeg) (xs (x3 + (4 : Int32)).toNatClampNeg) (xs (x3 + (5 : Int32)).toNatClampNeg) sD) (fun r_9 : Int32 × zOS => (if r_7.1 = r_9.1 then (kc_18 ((x3 + 6), r_7.2.1, sT, sM, sL, r_7.2.2.1, r_7.2.2.2.1, r_7.2.2.2.2, r_9.2)) else (zbk (0 : Int32) (some (0 : Int32))))))))))))))))))
set_option maxRecDepth 20000 in
theorem wL_law_207 {X : zCx} {F b L : Nat} {xs : Nat → Int32} {qX : Nat → Nat} {qT : Nat → Nat} {qM : Nat → Nat} {qL : Nat → Nat} {qP : Nat → Nat} {qB : Nat → Nat} {qD : Nat → Nat} {aa : Nat → Nat → Nat} {kc_18 : (Int32 × zOS × zOS × zOS × zOS × zOS × zOS × zSS × zOS) → Option (Int32)} (C : zC X R_law code 4 24 558) (hR : zLw X b L xs) (hM50 : qM 50 = qP 0) (hM51 : qM 51 = qL 0) (hX50 : qX 50 = qP 0) (hX51 : qX 51 = qB 0) (hX52 : qX 52 = qL 0) (hX53 : qX 53 = qM 0) (hX54 : qX 54 = qT 0) (hk_18 : ∀ (y3 : Int32) (tX : zOS) (tT : zOS) (tM : zOS) (tL : zOS) (tP : zOS) (tB : zOS) (tSS : zSS) (tD : zOS), zJ X 4 (1 : Int32) (kc_18 (y3, tX, tT, tM, tL, tP, tB, tSS, tD)) 18 [(0, (.ref b)), (1, (.ref (qX 0))), (2, (.ref (qD 0))), (3, (.int y3))] [] [(4, (zqx qX aa tSS.1), tX), (3, qT, tT), (1, qM, tM), (0, qL, tL), (2, qP, tP), (2, qB, tB), (2, (aa ((0 + tSS.1) % 5)), (tSS.2 0)), (2, (aa ((1 + tSS.1) % 5)), (tSS.2 1)), (2, (aa ((2 + tSS.1) % 5)), (tSS.2 2)), (2, (aa ((3 + tSS.1) % 5)), (tSS.2 3)), (2, (aa ((4 + tSS.1) % 5)), (tSS.2 4)), (5, qD, tD)]) (x3 : Int32) (sX : zOS) (sT : zOS) (sM : zOS) (sL : zOS) (sP : zOS) (sB : zOS) (sSS : zSS) (sD : zOS) : zJ X 4 (1 : Int32) (jL_law_207 F L xs kc_18 x3 sX sT sM sL sP sB sSS sD) 207 [(0, (.ref b)), (1, (.ref (qX 0))), (2, (.ref (qD 0))), (3, (.int x3))] [] [(4, (zqx qX aa sSS.1), sX), (3, qT, sT), (1, qM, sM), (0, qL, sL), (2, qP, sP), (2, qB, sB), (2, (aa ((0 + sSS.1) % 5)), (sSS.2 0)), (2, (aa ((1 + sSS.1) % 5)), (sSS.2 1)), (2, (aa ((2 + sSS.1) % 5)), (sSS.2 2)), (2, (aa ((3 + sSS.1) % 5)), (sSS.2 3)), (2, (aa ((4 + sSS.1) % 5)), (sSS.2 4)), (5, qD, sD)] := by
  unfold jL_law_207
  refine z_aload_n (pc := 207) 1 rfl rfl C dL_law_207 ?_
  refine z_aload_n (pc := 208) 0 rfl rfl C dL_law_208 ?_
  refine z_iload_n (pc := 209) 3 rfl rfl C dL_law_209 ?_
  refine z_iconst (pc := 210) (1 : Int32) (by decide) C dL_law_210 ?_
  refine z_iadd (pc := 211) C dL_law_211 ?_
  refine z_sld (pc := 212) C hR dL_law_212 ?_
  refine z_aload_n (pc := 213) 0 rfl rfl C dL_law_213 ?_
  refine z_iload_n (pc := 214) 3 rfl rfl C dL_law_214 ?_
  refine z_iconst (pc := 215) (2 : Int32) (by decide) C dL_law_215 ?_
  refine z_iadd (pc := 216) C dL_law_216 ?_
  refine z_sld (pc := 217) C hR dL_law_217 ?_
  refine z_aload_n (pc := 218) 0 rfl rfl C dL_law_218 ?_
  refine z_iload_n (pc := 219) 3 rfl rfl C dL_law_219 ?_
  refine z_iconst (pc := 220) (3 : Int32) (by decide) C dL_law_220 ?_
  refine z_iadd (pc := 221) C dL_law_221 ?_
  refine z_sld (pc := 222) C hR dL_law_222 ?_
  refine z_aload_n (pc := 223) 0 rfl rfl C dL_law_223 ?_
  refine z_iload_n (pc := 224) 3 rfl rfl C dL_law_224 ?_
  refine z_iconst (pc := 225) (4 : Int32) (by decide) C dL_law_225 ?_
  refine z_iadd (pc := 226) C dL_law_226 ?_
  refine z_sld (pc := 227) C hR dL_law_227 ?_
  refine z_aload_n (pc := 228) 0 rfl rfl C dL_law_228 ?_
  refine z_iload_n (pc := 229) 3 rfl rfl C dL_law_229 ?_
  refine z_iconst (pc := 230) (5 : Int32) (by decide) C dL_law_230 ?_
  refine z_iadd (pc := 231) C dL_law_231 ?_
  refine z_sld (pc := 232) C hR dL_law_232 ?_
  refine z_callV (q' := (zqx qX aa sSS.1)) (pc := 233) (rf' := 4) (rl' := 92) (fX4_rubs F (xs (x3 + (1 : Int32)).toNatClampNeg) (xs (x3 + (2 : Int32)).toNatClampNeg) (xs (x3 + (3 : Int32)).toNatClampNeg) (xs (x3 + (4 : Int32)).toNatClampNeg) (xs (x3 + (5 : Int32)).toNatClampNeg) sX sP sB sSS) [(.int (xs (x3 + (1 : Int32)).toNatClampNeg)), (.int (xs (x3 + (2 : Int32)).toNatClampNeg)), (.int (xs (x3 + (3 : Int32)).toNatClampNeg)), (.int (xs (x3 + (4 : Int32)).toNatClampNeg)), (.int (xs (x3 + (5 : Int32)).toNatClampNeg))] [] [(4, (zqx qX aa sSS.1), sX), (2, qP, sP), (2, qB, sB), (2, (aa ((0 + sSS.1) % 5)), (sSS.2 0)), (2, (aa ((1 + sSS.1) % 5)), (sSS.2 1)), (2, (aa ((2 + sSS.1) % 5)), (sSS.2 2)), (2, (aa ((3 + sSS.1) % 5)), (sSS.2 3)), (2, (aa ((4 + sSS.1) % 5)), (sSS.2 4))] (fun r_7 => (some (.int r_7.1))) (fun r_7 => [(4, (zqx qX aa r_7.2.2.2.2.1), r_7.2.1), (2, qP, r_7.2.2.1), (2, qB, r_7.2.2.2.1), (2, (aa ((0 + r_7.2.2.2.2.1) % 5)), (r_7.2.2.2.2.2 0)), (2, (aa ((1 + r_7.2.2.2.2.1) % 5)), (r_7.2.2.2.2.2 1)), (2, (aa ((2 + r_7.2.2.2.2.1) % 5)), (r_7.2.2.2.2.2 2)), (2, (aa ((3 + r_7.2.2.2.2.1) % 5)), (r_7.2.2.2.2.2 3)), (2, (aa ((4 + r_7.2.2.2.2.1) % 5)), (r_7.2.2.2.2.2 4))]) [(3, qT, sT), (1, qM, sM), (0, qL, sL), (5, qD, sD)] (fun r_7 => [(4, (zqx qX aa r_7.2.2.2.2.1), r_7.2.1), (3, qT, sT), (1, qM, sM), (0, qL, sL), (2, qP, r_7.2.2.1), (2, qB, r_7.2.2.2.1), (2, (aa ((0 + r_7.2.2.2.2.1) % 5)), (r_7.2.2.2.2.2 0)), (2, (aa ((1 + r_7.2.2.2.2.1) % 5)), (r_7.2.2.2.2.2 1)), (2, (aa ((2 + r_7.2.2.2.2.1) % 5)), (r_7.2.2.2.2.2 2)), (2, (aa ((3 + r_7.2.2.2.2.1) % 5)), (r_7.2.2.2.2.2 3)), (2, (aa ((4 + r_7.2.2.2.2.1) % 5)), (r_7.2.2.2.2.2 4)), (5, qD, sD)]) C dL_law_233 zy_X4_rubs zw_340 (fun _ hr9 => mX4_rubs (qX := qX) (qP := qP) (qB := qB) (aa := aa) hX50 hX51 hr9) (by decide) rfl rfl (by decide) rfl (Nat.le_of_ble_eq_true rfl) (z_pn 12 _ rfl [0, 4, 5, 6, 7, 8, 9, 10, 1, 2, 3, 11] (by decide)).symm (fun _ => (z_pn 12 _ rfl [0, 8, 9, 10, 1, 2, 3, 4, 5, 6, 7, 11] (by decide)).symm) rfl (fun r_7 hr_8 => ?_)
  show zJ X 4 (1 : Int32) _ 236 [(0, (.ref b)), (1, (.ref (qX 0))), (2, (.ref (qD 0))), (3, (.int x3))] [(.int r_7.1)] [(4, (zqx qX aa r_7.2.2.2.2.1), r_7.2.1), (3, qT, sT), (1, qM, sM), (0, qL, sL), (2, qP, r_7.2.2.1), (2, qB, r_7.2.2.2.1), (2, (aa ((0 + r_7.2.2.2.2.1) % 5)), (r_7.2.2.2.2.2 0)), (2, (aa ((1 + r_7.2.2.2.2.1) % 5)), (r_7.2.2.2.2.2 1)), (2, (aa ((2 + r_7.2.2.2.2.1) % 5)), (r_7.2.2.2.2.2 2)), (2, (aa ((3 + r_7.2.2.2.2.1) % 5)), (r_7.2.2.2.2.2 3)), (2, (aa ((4 + r_7.2.2.2.2.1) % 5)), (r_7.2.2.2.2.2 4)), (5, qD, sD)]
  refine z_aload_n (pc := 236) 2 rfl rfl C dL_law_236 ?_
  refine z_aload_n (pc := 237) 0 rfl rfl C dL_law_237 ?_
  refine z_iload_n (pc := 238) 3 rfl rfl C dL_law_238 ?_
  refine z_iconst (pc := 239) (1 : Int32) (by decide) C dL_law_239 ?_
  refine z_iadd (pc := 240) C dL_law_240 ?_
  refine z_sld (pc := 241) C hR dL_law_241 ?_
  refine z_aload_n (pc := 242) 0 rfl rfl C dL_law_242 ?_
  refine z_iload_n (pc := 243) 3 rfl rfl C dL_law_243 ?_
  refine z_iconst (pc := 244) (2 : Int32) (by decide) C dL_law_244 ?_
  refine z_iadd (pc := 245) C dL_law_245 ?_
  refine z_sld (pc := 246) C hR dL_law_246 ?_
  refine z_aload_n (pc := 247) 0 rfl rfl C dL_law_247 ?_
  refine z_iload_n (pc := 248) 3 rfl rfl C dL_law_248 ?_
  refine z_iconst (pc := 249) (3 : Int32) (by decide) C dL_law_249 ?_
  refine z_iadd (pc := 250) C dL_law_250 ?_
  refine z_sld (pc := 251) C hR dL_law_251 ?_
  refine z_aload_n (pc := 252) 0 rfl rfl C dL_law_252 ?_
  refine z_iload_n (pc := 253) 3 rfl rfl C dL_law_253 ?_
  refine z_iconst (pc := 254) (4 : Int32) (by decide) C dL_law_254 ?_
  refine z_iadd (pc := 255) C dL_law_255 ?_
  refine z_sld (pc := 256) C hR dL_law_256 ?_
  refine z_aload_n (pc := 257) 0 rfl rfl C dL_law_257 ?_
  refine z_iload_n (pc := 258) 3 rfl rfl C dL_law_258 ?_
  refine z_iconst (pc := 259) (5 : Int32) (by decide) C dL_law_259 ?_
  refine z_iadd (pc := 260) C dL_law_260 ?_
  refine z_sld (pc := 261) C hR dL_law_261 ?_
  refine z_callV (pc := 262) (rf' := 3) (rl' := 72) (fX5_rubs F (xs (x3 + (1 : Int32)).toNatClampNeg) (xs (x3 + (2 : Int32)).toNatClampNeg) (xs (x3 + (3 : Int32)).toNatClampNeg) (xs (x3 + (4 : Int32)).toNatClampNeg) (xs (x3 + (5 : Int32)).toNatClampNeg) sD) [(.int (xs (x3 + (1 : Int32)).toNatClampNeg)), (.int (xs (x3 + (2 : Int32)).toNatClampNeg)), (.int (xs (x3 + (3 : Int32)).toNatClampNeg)), (.int (xs (x3 + (4 : Int32)).toNatClampNeg)), (.int (xs (x3 + (5 : Int32)).toNatClampNeg))] [(.int r_7.1)] [(5, qD, sD)] (fun r_9 => (some (.int r_9.1))) (fun r_9 => [(5, qD, r_9.2)]) [(4, (zqx qX aa r_7.2.2.2.2.1), r_7.2.1), (3, qT, sT), (1, qM, sM), (0, qL, sL), (2, qP, r_7.2.2.1), (2, qB, r_7.2.2.2.1), (2, (aa ((0 + r_7.2.2.2.2.1) % 5)), (r_7.2.2.2.2.2 0)), (2, (aa ((1 + r_7.2.2.2.2.1) % 5)), (r_7.2.2.2.2.2 1)), (2, (aa ((2 + r_7.2.2.2.2.1) % 5)), (r_7.2.2.2.2.2 2)), (2, (aa ((3 + r_7.2.2.2.2.1) % 5)), (r_7.2.2.2.2.2 3)), (2, (aa ((4 + r_7.2.2.2.2.1) % 5)), (r_7.2.2.2.2.2 4))] (fun r_9 => [(4, (zqx qX aa r_7.2.2.2.2.1), r_7.2.1), (3, qT, sT), (1, qM, sM), (0, qL, sL), (2, qP, r_7.2.2.1), (2, qB, r_7.2.2.2.1), (2, (aa ((0 + r_7.2.2.2.2.1) % 5)), (r_7.2.2.2.2.2 0)), (2, (aa ((1 + r_7.2.2.2.2.1) % 5)), (r_7.2.2.2.2.2 1)), (2, (aa ((2 + r_7.2.2.2.2.1) % 5)), (r_7.2.2.2.2.2 2)), (2, (aa ((3 + r_7.2.2.2.2.1) % 5)), (r_7.2.2.2.2.2 3)), (2, (aa ((4 + r_7.2.2.2.2.1) % 5)), (r_7.2.2.2.2.2 4)), (5, qD, r_9.2)]) C dL_law_262 zy_X5_rubs zw_836 (fun _ hr9 => mX5_rubs  hr9) (by decide) rfl rfl (by decide) rfl (Nat.le_of_ble_eq_true rfl) (z_pn 12 _ rfl [11, 0, 1, 2, 3, 4, 5, 6, 7, 8, 9, 10] (by decide)).symm (fun _ => (z_pn 12 _ rfl [1, 2, 3, 4, 5, 6, 7, 8, 9, 10, 11, 0] (by decide)).symm) rfl (fun r_9 hr_10 => ?_)
  show zJ X 4 (1 : Int32) _ 265 [(0, (.ref b)), (1, (.ref (qX 0))), (2, (.ref (qD 0))), (3, (.int x3))] [(.int r_9.1), (.int r_7.1)] [(4, (zqx qX aa r_7.2.2.2.2.1), r_7.2.1), (3, qT, sT), (1, qM, sM), (0, qL, sL), (2, qP, r_7.2.2.1), (2, qB, r_7.2.2.2.1), (2, (aa ((0 + r_7.2.2.2.2.1) % 5)), (r_7.2.2.2.2.2 0)), (2, (aa ((1 + r_7.2.2.2.2.1) % 5)), (r_7.2.2.2.2.2 1)), (2, (aa ((2 + r_7.2.2.2.2.1) % 5)), (r_7.2.2.2.2.2 2)), (2, (aa ((3 + r_7.2.2.2.2.1) % 5)), (r_7.2.2.2.2.2 3)), (2, (aa ((4 + r_7.2.2.2.2.1) % 5)), (r_7.2.2.2.2.2 4)), (5, qD, r_9.2)]
  refine z_icmp_eq (pc := 265) 867 C dL_law_265 (by decide) ?_ ?_
  · refine z_iinc (pc := 867) (x3 + 6) 3 rfl rfl [(0, (.ref b)), (1, (.ref (qX 0))), (2, (.ref (qD 0))), (3, (.int (x3 + 6)))] [1, 2, 3, 0] (by decide) rfl C dL_law_867 ?_
    refine z_goto (pc := 870) 18 C dL_law_870 (by decide) ?_
    exact hk_18 _ _ _ _ _ _ _ _ _
  · refine z_iconst (pc := 268) (0 : Int32) (by decide) C dL_law_268 ?_
    exact z_lawret (pc := 269) C hR dL_law_269
def jL_law_270 (F : Nat) (L : Nat) (xs : Nat → Int32) (kc_18 : (Int32 × zOS × zOS × zOS × zOS × zOS × zOS × zSS × zOS) → Option (Int32)) (x3 : Int32) (sX : zOS) (sT : zOS) (sM : zOS) (sL : zOS) (sP : zOS) (sB : zOS) (sSS : zSS) (sD : zOS) : Option (Int32) := (zchk (x3 + (1 : Int32)) L (zchk (x3 + (2 : Int32)) L (zchk (x3 + (3 : Int32)) L (Option.bind (fX4_moves F (xs (x3 + (1 : Int32)).toNatClampNeg) (xs (x3 + (2 : Int32)).toNatClampNeg) (xs (x3 + (3 : Int32)).toNatClampNeg) sX sP sB sSS) (fun r_12 : Int32 × zOS × zOS × zOS × zSS => (zchk (x3 + (1 : Int32)) L (zchk (x3 + (2 : Int32)) L (zchk (x3 + (3 : Int32)) L (Option.bind (fX5_moves F (xs (x3 + (1 : Int32)).toNatClampNeg) (xs (x3 + (2 : Int32)).toNatClampNeg) (xs (x3 + (3 : Int32)).toNatClampNeg) sD) (fun r_14 : Int32 × zOS => (if r_12.1 = r_14.1 then (kc_18 ((x3 + 6), r_12.2.1, sT, sM, sL, r_12.2.2.1, r_12.2.2.2.1, r_12.2.2.2.2, r_14.2)) else (zbk (0 : Int32) (some (0 : Int32))))))))))))))
set_option maxRecDepth 20000 in
theorem wL_law_270 {X : zCx} {F b L : Nat} {xs : Nat → Int32} {qX : Nat → Nat} {qT : Nat → Nat} {qM : Nat → Nat} {qL : Nat → Nat} {qP : Nat → Nat} {qB : Nat → Nat} {qD : Nat → Nat} {aa : Nat → Nat → Nat} {kc_18 : (Int32 × zOS × zOS × zOS × zOS × zOS × zOS × zSS × zOS) → Option (Int32)} (C : zC X R_law code 4 24 558) (hR : zLw X b L xs) (hM50 : qM 50 = qP 0) (hM51 : qM 51 = qL 0) (hX50 : qX 50 = qP 0) (hX51 : qX 51 = qB 0) (hX52 : qX 52 = qL 0) (hX53 : qX 53 = qM 0) (hX54 : qX 54 = qT 0) (hk_18 : ∀ (y3 : Int32) (tX : zOS) (tT : zOS) (tM : zOS) (tL : zOS) (tP : zOS) (tB : zOS) (tSS : zSS) (tD : zOS), zJ X 4 (1 : Int32) (kc_18 (y3, tX, tT, tM, tL, tP, tB, tSS, tD)) 18 [(0, (.ref b)), (1, (.ref (qX 0))), (2, (.ref (qD 0))), (3, (.int y3))] [] [(4, (zqx qX aa tSS.1), tX), (3, qT, tT), (1, qM, tM), (0, qL, tL), (2, qP, tP), (2, qB, tB), (2, (aa ((0 + tSS.1) % 5)), (tSS.2 0)), (2, (aa ((1 + tSS.1) % 5)), (tSS.2 1)), (2, (aa ((2 + tSS.1) % 5)), (tSS.2 2)), (2, (aa ((3 + tSS.1) % 5)), (tSS.2 3)), (2, (aa ((4 + tSS.1) % 5)), (tSS.2 4)), (5, qD, tD)]) (x3 : Int32) (sX : zOS) (sT : zOS) (sM : zOS) (sL : zOS) (sP : zOS) (sB : zOS) (sSS : zSS) (sD : zOS) : zJ X 4 (1 : Int32) (jL_law_270 F L xs kc_18 x3 sX sT sM sL sP sB sSS sD) 270 [(0, (.ref b)), (1, (.ref (qX 0))), (2, (.ref (qD 0))), (3, (.int x3))] [] [(4, (zqx qX aa sSS.1), sX), (3, qT, sT), (1, qM, sM), (0, qL, sL), (2, qP, sP), (2, qB, sB), (2, (aa ((0 + sSS.1) % 5)), (sSS.2 0)), (2, (aa ((1 + sSS.1) % 5)), (sSS.2 1)), (2, (aa ((2 + sSS.1) % 5)), (sSS.2 2)), (2, (aa ((3 + sSS.1) % 5)), (sSS.2 3)), (2, (aa ((4 + sSS.1) % 5)), (sSS.2 4)), (5, qD, sD)] := by
  unfold jL_law_270
  refine z_aload_n (pc := 270) 1 rfl rfl C dL_law_270 ?_
  refine z_aload_n (pc := 271) 0 rfl rfl C dL_law_271 ?_
  refine z_iload_n (pc := 272) 3 rfl rfl C dL_law_272 ?_
  refine z_iconst (pc := 273) (1 : Int32) (by decide) C dL_law_273 ?_
  refine z_iadd (pc := 274) C dL_law_274 ?_
  refine z_sld (pc := 275) C hR dL_law_275 ?_
  refine z_aload_n (pc := 276) 0 rfl rfl C dL_law_276 ?_
  refine z_iload_n (pc := 277) 3 rfl rfl C dL_law_277 ?_
  refine z_iconst (pc := 278) (2 : Int32) (by decide) C dL_law_278 ?_
  refine z_iadd (pc := 279) C dL_law_279 ?_
  refine z_sld (pc := 280) C hR dL_law_280 ?_
  refine z_aload_n (pc := 281) 0 rfl rfl C dL_law_281 ?_
  refine z_iload_n (pc := 282) 3 rfl rfl C dL_law_282 ?_
  refine z_iconst (pc := 283) (3 : Int32) (by decide) C dL_law_283 ?_
  refine z_iadd (pc := 284) C dL_law_284 ?_
  refine z_sld (pc := 285) C hR dL_law_285 ?_
  refine z_callV (q' := (zqx qX aa sSS.1)) (pc := 286) (rf' := 4) (rl' := 88) (fX4_moves F (xs (x3 + (1 : Int32)).toNatClampNeg) (xs (x3 + (2 : Int32)).toNatClampNeg) (xs (x3 + (3 : Int32)).toNatClampNeg) sX sP sB sSS) [(.int (xs (x3 + (1 : Int32)).toNatClampNeg)), (.int (xs (x3 + (2 : Int32)).toNatClampNeg)), (.int (xs (x3 + (3 : Int32)).toNatClampNeg))] [] [(4, (zqx qX aa sSS.1), sX), (2, qP, sP), (2, qB, sB), (2, (aa ((0 + sSS.1) % 5)), (sSS.2 0)), (2, (aa ((1 + sSS.1) % 5)), (sSS.2 1)), (2, (aa ((2 + sSS.1) % 5)), (sSS.2 2)), (2, (aa ((3 + sSS.1) % 5)), (sSS.2 3)), (2, (aa ((4 + sSS.1) % 5)), (sSS.2 4))] (fun r_12 => (some (.int r_12.1))) (fun r_12 => [(4, (zqx qX aa r_12.2.2.2.2.1), r_12.2.1), (2, qP, r_12.2.2.1), (2, qB, r_12.2.2.2.1), (2, (aa ((0 + r_12.2.2.2.2.1) % 5)), (r_12.2.2.2.2.2 0)), (2, (aa ((1 + r_12.2.2.2.2.1) % 5)), (r_12.2.2.2.2.2 1)), (2, (aa ((2 + r_12.2.2.2.2.1) % 5)), (r_12.2.2.2.2.2 2)), (2, (aa ((3 + r_12.2.2.2.2.1) % 5)), (r_12.2.2.2.2.2 3)), (2, (aa ((4 + r_12.2.2.2.2.1) % 5)), (r_12.2.2.2.2.2 4))]) [(3, qT, sT), (1, qM, sM), (0, qL, sL), (5, qD, sD)] (fun r_12 => [(4, (zqx qX aa r_12.2.2.2.2.1), r_12.2.1), (3, qT, sT), (1, qM, sM), (0, qL, sL), (2, qP, r_12.2.2.1), (2, qB, r_12.2.2.2.1), (2, (aa ((0 + r_12.2.2.2.2.1) % 5)), (r_12.2.2.2.2.2 0)), (2, (aa ((1 + r_12.2.2.2.2.1) % 5)), (r_12.2.2.2.2.2 1)), (2, (aa ((2 + r_12.2.2.2.2.1) % 5)), (r_12.2.2.2.2.2 2)), (2, (aa ((3 + r_12.2.2.2.2.1) % 5)), (r_12.2.2.2.2.2 3)), (2, (aa ((4 + r_12.2.2.2.2.1) % 5)), (r_12.2.2.2.2.2 4)), (5, qD, sD)]) C dL_law_286 zy_X4_moves zw_348 (fun _ hr9 => mX4_moves (qX := qX) (qP := qP) (qB := qB) (aa := aa) hX50 hX51 hr9) (by decide) rfl rfl (by decide) rfl (Nat.le_of_ble_eq_true rfl) (z_pn 12 _ rfl [0, 4, 5, 6, 7, 8, 9, 10, 1, 2, 3, 11] (by decide)).symm (fun _ => (z_pn 12 _ rfl [0, 8, 9, 10, 1, 2, 3, 4, 5, 6, 7, 11] (by decide)).symm) rfl (fun r_12 hr_13 => ?_)
  show zJ X 4 (1 : Int32) _ 289 [(0, (.ref b)), (1, (.ref (qX 0))), (2, (.ref (qD 0))), (3, (.int x3))] [(.int r_12.1)] [(4, (zqx qX aa r_12.2.2.2.2.1), r_12.2.1), (3, qT, sT), (1, qM, sM), (0, qL, sL), (2, qP, r_12.2.2.1), (2, qB, r_12.2.2.2.1), (2, (aa ((0 + r_12.2.2.2.2.1) % 5)), (r_12.2.2.2.2.2 0)), (2, (aa ((1 + r_12.2.2.2.2.1) % 5)), (r_12.2.2.2.2.2 1)), (2, (aa ((2 + r_12.2.2.2.2.1) % 5)), (r_12.2.2.2.2.2 2)), (2, (aa ((3 + r_12.2.2.2.2.1) % 5)), (r_12.2.2.2.2.2 3)), (2, (aa ((4 + r_12.2.2.2.2.1) % 5)), (r_12.2.2.2.2.2 4)), (5, qD, sD)]
  refine z_aload_n (pc := 289) 2 rfl rfl C dL_law_289 ?_
  refine z_aload_n (pc := 290) 0 rfl rfl C dL_law_290 ?_
  refine z_iload_n (pc := 291) 3 rfl rfl C dL_law_291 ?_
  refine z_iconst (pc := 292) (1 : Int32) (by decide) C dL_law_292 ?_
  refine z_iadd (pc := 293) C dL_law_293 ?_
  refine z_sld (pc := 294) C hR dL_law_294 ?_
  refine z_aload_n (pc := 295) 0 rfl rfl C dL_law_295 ?_
  refine z_iload_n (pc := 296) 3 rfl rfl C dL_law_296 ?_
  refine z_iconst (pc := 297) (2 : Int32) (by decide) C dL_law_297 ?_
  refine z_iadd (pc := 298) C dL_law_298 ?_
  refine z_sld (pc := 299) C hR dL_law_299 ?_
  refine z_aload_n (pc := 300) 0 rfl rfl C dL_law_300 ?_
  refine z_iload_n (pc := 301) 3 rfl rfl C dL_law_301 ?_
  refine z_iconst (pc := 302) (3 : Int32) (by decide) C dL_law_302 ?_
  refine z_iadd (pc := 303) C dL_law_303 ?_
  refine z_sld (pc := 304) C hR dL_law_304 ?_
  refine z_callV (pc := 305) (rf' := 3) (rl' := 73) (fX5_moves F (xs (x3 + (1 : Int32)).toNatClampNeg) (xs (x3 + (2 : Int32)).toNatClampNeg) (xs (x3 + (3 : Int32)).toNatClampNeg) sD) [(.int (xs (x3 + (1 : Int32)).toNatClampNeg)), (.int (xs (x3 + (2 : Int32)).toNatClampNeg)), (.int (xs (x3 + (3 : Int32)).toNatClampNeg))] [(.int r_12.1)] [(5, qD, sD)] (fun r_14 => (some (.int r_14.1))) (fun r_14 => [(5, qD, r_14.2)]) [(4, (zqx qX aa r_12.2.2.2.2.1), r_12.2.1), (3, qT, sT), (1, qM, sM), (0, qL, sL), (2, qP, r_12.2.2.1), (2, qB, r_12.2.2.2.1), (2, (aa ((0 + r_12.2.2.2.2.1) % 5)), (r_12.2.2.2.2.2 0)), (2, (aa ((1 + r_12.2.2.2.2.1) % 5)), (r_12.2.2.2.2.2 1)), (2, (aa ((2 + r_12.2.2.2.2.1) % 5)), (r_12.2.2.2.2.2 2)), (2, (aa ((3 + r_12.2.2.2.2.1) % 5)), (r_12.2.2.2.2.2 3)), (2, (aa ((4 + r_12.2.2.2.2.1) % 5)), (r_12.2.2.2.2.2 4))] (fun r_14 => [(4, (zqx qX aa r_12.2.2.2.2.1), r_12.2.1), (3, qT, sT), (1, qM, sM), (0, qL, sL), (2, qP, r_12.2.2.1), (2, qB, r_12.2.2.2.1), (2, (aa ((0 + r_12.2.2.2.2.1) % 5)), (r_12.2.2.2.2.2 0)), (2, (aa ((1 + r_12.2.2.2.2.1) % 5)), (r_12.2.2.2.2.2 1)), (2, (aa ((2 + r_12.2.2.2.2.1) % 5)), (r_12.2.2.2.2.2 2)), (2, (aa ((3 + r_12.2.2.2.2.1) % 5)), (r_12.2.2.2.2.2 3)), (2, (aa ((4 + r_12.2.2.2.2.1) % 5)), (r_12.2.2.2.2.2 4)), (5, qD, r_14.2)]) C dL_law_305 zy_X5_moves zw_840 (fun _ hr9 => mX5_moves  hr9) (by decide) rfl rfl (by decide) rfl (Nat.le_of_ble_eq_true rfl) (z_pn 12 _ rfl [11, 0, 1, 2, 3, 4, 5, 6, 7, 8, 9, 10] (by decide)).symm (fun _ => (z_pn 12 _ rfl [1, 2, 3, 4, 5, 6, 7, 8, 9, 10, 11, 0] (by decide)).symm) rfl (fun r_14 hr_15 => ?_)
  show zJ X 4 (1 : Int32) _ 308 [(0, (.ref b)), (1, (.ref (qX 0))), (2, (.ref (qD 0))), (3, (.int x3))] [(.int r_14.1), (.int r_12.1)] [(4, (zqx qX aa r_12.2.2.2.2.1), r_12.2.1), (3, qT, sT), (1, qM, sM), (0, qL, sL), (2, qP, r_12.2.2.1), (2, qB, r_12.2.2.2.1), (2, (aa ((0 + r_12.2.2.2.2.1) % 5)), (r_12.2.2.2.2.2 0)), (2, (aa ((1 + r_12.2.2.2.2.1) % 5)), (r_12.2.2.2.2.2 1)), (2, (aa ((2 + r_12.2.2.2.2.1) % 5)), (r_12.2.2.2.2.2 2)), (2, (aa ((3 + r_12.2.2.2.2.1) % 5)), (r_12.2.2.2.2.2 3)), (2, (aa ((4 + r_12.2.2.2.2.1) % 5)), (r_12.2.2.2.2.2 4)), (5, qD, r_14.2)]
  refine z_icmp_eq (pc := 308) 867 C dL_law_308 (by decide) ?_ ?_
  · refine z_iinc (pc := 867) (x3 + 6) 3 rfl rfl [(0, (.ref b)), (1, (.ref (qX 0))), (2, (.ref (qD 0))), (3, (.int (x3 + 6)))] [1, 2, 3, 0] (by decide) rfl C dL_law_867 ?_
    refine z_goto (pc := 870) 18 C dL_law_870 (by decide) ?_
    exact hk_18 _ _ _ _ _ _ _ _ _
  · refine z_iconst (pc := 311) (0 : Int32) (by decide) C dL_law_311 ?_
    exact z_lawret (pc := 312) C hR dL_law_312
def jL_law_313 (F : Nat) (L : Nat) (xs : Nat → Int32) (kc_18 : (Int32 × zOS × zOS × zOS × zOS × zOS × zOS × zSS × zOS) → Option (Int32)) (x3 : Int32) (sX : zOS) (sT : zOS) (sM : zOS) (sL : zOS) (sP : zOS) (sB : zOS) (sSS : zSS) (sD : zOS) : Option (Int32) := (zchk (x3 + (1 : Int32)) L (zchk (x3 + (2 : Int32)) L (zchk (x3 + (3 : Int32)) L (Option.bind (fX4_means (xs (x3 + (1 : Int32)).toNatClampNeg) (xs (x3 + (2 : Int32)).toNatClampNeg) (xs (x3 + (3 : Int32)).toNatClampNeg) sX sP sB sSS) (fun r_17 : Int32 × zOS × zOS × zOS × zSS => (zchk (x3 + (1 : Int32)) L (zchk (x3 + (2 : Int32)) L (zchk (x3 + (3 : Int32)) L (Option.bind (fX5_means F (xs (x3 + (1 : Int32)).toNatClampNeg) (xs (x3 + (2 : Int32)).toNatClampNeg) (xs (x3 + (3 : Int32)).toNatClampNeg) sD) (fun r_19 : Int32 × zOS => (if r_17.1 = r_19.1 then (kc_18 ((x3 + 6), r_17.2.1, sT, sM, sL, r_17.2.2.1, r_17.2.2.2.1, r_17.2.2.2.2, r_19.2)) else (zbk (0 : Int32) (some (0 : Int32))))))))))))))
set_option maxRecDepth 20000 in
theorem wL_law_313 {X : zCx} {F b L : Nat} {xs : Nat → Int32} {qX : Nat → Nat} {qT : Nat → Nat} {qM : Nat → Nat} {qL : Nat → Nat} {qP : Nat → Nat} {qB : Nat → Nat} {qD : Nat → Nat} {aa : Nat → Nat → Nat} {kc_18 : (Int32 × zOS × zOS × zOS × zOS × zOS × zOS × zSS × zOS) → Option (Int32)} (C : zC X R_law code 4 24 558) (hR : zLw X b L xs) (hM50 : qM 50 = qP 0) (hM51 : qM 51 = qL 0) (hX50 : qX 50 = qP 0) (hX51 : qX 51 = qB 0) (hX52 : qX 52 = qL 0) (hX53 : qX 53 = qM 0) (hX54 : qX 54 = qT 0) (hk_18 : ∀ (y3 : Int32) (tX : zOS) (tT : zOS) (tM : zOS) (tL : zOS) (tP : zOS) (tB : zOS) (tSS : zSS) (tD : zOS), zJ X 4 (1 : Int32) (kc_18 (y3, tX, tT, tM, tL, tP, tB, tSS, tD)) 18 [(0, (.ref b)), (1, (.ref (qX 0))), (2, (.ref (qD 0))), (3, (.int y3))] [] [(4, (zqx qX aa tSS.1), tX), (3, qT, tT), (1, qM, tM), (0, qL, tL), (2, qP, tP), (2, qB, tB), (2, (aa ((0 + tSS.1) % 5)), (tSS.2 0)), (2, (aa ((1 + tSS.1) % 5)), (tSS.2 1)), (2, (aa ((2 + tSS.1) % 5)), (tSS.2 2)), (2, (aa ((3 + tSS.1) % 5)), (tSS.2 3)), (2, (aa ((4 + tSS.1) % 5)), (tSS.2 4)), (5, qD, tD)]) (x3 : Int32) (sX : zOS) (sT : zOS) (sM : zOS) (sL : zOS) (sP : zOS) (sB : zOS) (sSS : zSS) (sD : zOS) : zJ X 4 (1 : Int32) (jL_law_313 F L xs kc_18 x3 sX sT sM sL sP sB sSS sD) 313 [(0, (.ref b)), (1, (.ref (qX 0))), (2, (.ref (qD 0))), (3, (.int x3))] [] [(4, (zqx qX aa sSS.1), sX), (3, qT, sT), (1, qM, sM), (0, qL, sL), (2, qP, sP), (2, qB, sB), (2, (aa ((0 + sSS.1) % 5)), (sSS.2 0)), (2, (aa ((1 + sSS.1) % 5)), (sSS.2 1)), (2, (aa ((2 + sSS.1) % 5)), (sSS.2 2)), (2, (aa ((3 + sSS.1) % 5)), (sSS.2 3)), (2, (aa ((4 + sSS.1) % 5)), (sSS.2 4)), (5, qD, sD)] := by
  unfold jL_law_313
  refine z_aload_n (pc := 313) 1 rfl rfl C dL_law_313 ?_
  refine z_aload_n (pc := 314) 0 rfl rfl C dL_law_314 ?_
  refine z_iload_n (pc := 315) 3 rfl rfl C dL_law_315 ?_
  refine z_iconst (pc := 316) (1 : Int32) (by decide) C dL_law_316 ?_
  refine z_iadd (pc := 317) C dL_law_317 ?_
  refine z_sld (pc := 318) C hR dL_law_318 ?_
  refine z_aload_n (pc := 319) 0 rfl rfl C dL_law_319 ?_
  refine z_iload_n (pc := 320) 3 rfl rfl C dL_law_320 ?_
  refine z_iconst (pc := 321) (2 : Int32) (by decide) C dL_law_321 ?_
  refine z_iadd (pc := 322) C dL_law_322 ?_
  refine z_sld (pc := 323) C hR dL_law_323 ?_
  refine z_aload_n (pc := 324) 0 rfl rfl C dL_law_324 ?_
  refine z_iload_n (pc := 325) 3 rfl rfl C dL_law_325 ?_
  refine z_iconst (pc := 326) (3 : Int32) (by decide) C dL_law_326 ?_
  refine z_iadd (pc := 327) C dL_law_327 ?_
  refine z_sld (pc := 328) C hR dL_law_328 ?_
  refine z_callV (q' := (zqx qX aa sSS.1)) (pc := 329) (rf' := 4) (rl' := 88) (fX4_means (xs (x3 + (1 : Int32)).toNatClampNeg) (xs (x3 + (2 : Int32)).toNatClampNeg) (xs (x3 + (3 : Int32)).toNatClampNeg) sX sP sB sSS) [(.int (xs (x3 + (1 : Int32)).toNatClampNeg)), (.int (xs (x3 + (2 : Int32)).toNatClampNeg)), (.int (xs (x3 + (3 : Int32)).toNatClampNeg))] [] [(4, (zqx qX aa sSS.1), sX), (2, qP, sP), (2, qB, sB), (2, (aa ((0 + sSS.1) % 5)), (sSS.2 0)), (2, (aa ((1 + sSS.1) % 5)), (sSS.2 1)), (2, (aa ((2 + sSS.1) % 5)), (sSS.2 2)), (2, (aa ((3 + sSS.1) % 5)), (sSS.2 3)), (2, (aa ((4 + sSS.1) % 5)), (sSS.2 4))] (fun r_17 => (some (.int r_17.1))) (fun r_17 => [(4, (zqx qX aa r_17.2.2.2.2.1), r_17.2.1), (2, qP, r_17.2.2.1), (2, qB, r_17.2.2.2.1), (2, (aa ((0 + r_17.2.2.2.2.1) % 5)), (r_17.2.2.2.2.2 0)), (2, (aa ((1 + r_17.2.2.2.2.1) % 5)), (r_17.2.2.2.2.2 1)), (2, (aa ((2 + r_17.2.2.2.2.1) % 5)), (r_17.2.2.2.2.2 2)), (2, (aa ((3 + r_17.2.2.2.2.1) % 5)), (r_17.2.2.2.2.2 3)), (2, (aa ((4 + r_17.2.2.2.2.1) % 5)), (r_17.2.2.2.2.2 4))]) [(3, qT, sT), (1, qM, sM), (0, qL, sL), (5, qD, sD)] (fun r_17 => [(4, (zqx qX aa r_17.2.2.2.2.1), r_17.2.1), (3, qT, sT), (1, qM, sM), (0, qL, sL), (2, qP, r_17.2.2.1), (2, qB, r_17.2.2.2.1), (2, (aa ((0 + r_17.2.2.2.2.1) % 5)), (r_17.2.2.2.2.2 0)), (2, (aa ((1 + r_17.2.2.2.2.1) % 5)), (r_17.2.2.2.2.2 1)), (2, (aa ((2 + r_17.2.2.2.2.1) % 5)), (r_17.2.2.2.2.2 2)), (2, (aa ((3 + r_17.2.2.2.2.1) % 5)), (r_17.2.2.2.2.2 3)), (2, (aa ((4 + r_17.2.2.2.2.1) % 5)), (r_17.2.2.2.2.2 4)), (5, qD, sD)]) C dL_law_329 zy_X4_means zw_362 (fun _ hr9 => mX4_means (qX := qX) (qP := qP) (qB := qB) (aa := aa) hX50 hX51 hr9) (by decide) rfl rfl (by decide) rfl (Nat.le_of_ble_eq_true rfl) (z_pn 12 _ rfl [0, 4, 5, 6, 7, 8, 9, 10, 1, 2, 3, 11] (by decide)).symm (fun _ => (z_pn 12 _ rfl [0, 8, 9, 10, 1, 2, 3, 4, 5, 6, 7, 11] (by decide)).symm) rfl (fun r_17 hr_18 => ?_)
  show zJ X 4 (1 : Int32) _ 332 [(0, (.ref b)), (1, (.ref (qX 0))), (2, (.ref (qD 0))), (3, (.int x3))] [(.int r_17.1)] [(4, (zqx qX aa r_17.2.2.2.2.1), r_17.2.1), (3, qT, sT), (1, qM, sM), (0, qL, sL), (2, qP, r_17.2.2.1), (2, qB, r_17.2.2.2.1), (2, (aa ((0 + r_17.2.2.2.2.1) % 5)), (r_17.2.2.2.2.2 0)), (2, (aa ((1 + r_17.2.2.2.2.1) % 5)), (r_17.2.2.2.2.2 1)), (2, (aa ((2 + r_17.2.2.2.2.1) % 5)), (r_17.2.2.2.2.2 2)), (2, (aa ((3 + r_17.2.2.2.2.1) % 5)), (r_17.2.2.2.2.2 3)), (2, (aa ((4 + r_17.2.2.2.2.1) % 5)), (r_17.2.2.2.2.2 4)), (5, qD, sD)]
  refine z_aload_n (pc := 332) 2 rfl rfl C dL_law_332 ?_
  refine z_aload_n (pc := 333) 0 rfl rfl C dL_law_333 ?_
  refine z_iload_n (pc := 334) 3 rfl rfl C dL_law_334 ?_
  refine z_iconst (pc := 335) (1 : Int32) (by decide) C dL_law_335 ?_
  refine z_iadd (pc := 336) C dL_law_336 ?_
  refine z_sld (pc := 337) C hR dL_law_337 ?_
  refine z_aload_n (pc := 338) 0 rfl rfl C dL_law_338 ?_
  refine z_iload_n (pc := 339) 3 rfl rfl C dL_law_339 ?_
  refine z_iconst (pc := 340) (2 : Int32) (by decide) C dL_law_340 ?_
  refine z_iadd (pc := 341) C dL_law_341 ?_
  refine z_sld (pc := 342) C hR dL_law_342 ?_
  refine z_aload_n (pc := 343) 0 rfl rfl C dL_law_343 ?_
  refine z_iload_n (pc := 344) 3 rfl rfl C dL_law_344 ?_
  refine z_iconst (pc := 345) (3 : Int32) (by decide) C dL_law_345 ?_
  refine z_iadd (pc := 346) C dL_law_346 ?_
  refine z_sld (pc := 347) C hR dL_law_347 ?_
  refine z_callV (pc := 348) (rf' := 3) (rl' := 65) (fX5_means F (xs (x3 + (1 : Int32)).toNatClampNeg) (xs (x3 + (2 : Int32)).toNatClampNeg) (xs (x3 + (3 : Int32)).toNatClampNeg) sD) [(.int (xs (x3 + (1 : Int32)).toNatClampNeg)), (.int (xs (x3 + (2 : Int32)).toNatClampNeg)), (.int (xs (x3 + (3 : Int32)).toNatClampNeg))] [(.int r_17.1)] [(5, qD, sD)] (fun r_19 => (some (.int r_19.1))) (fun r_19 => [(5, qD, r_19.2)]) [(4, (zqx qX aa r_17.2.2.2.2.1), r_17.2.1), (3, qT, sT), (1, qM, sM), (0, qL, sL), (2, qP, r_17.2.2.1), (2, qB, r_17.2.2.2.1), (2, (aa ((0 + r_17.2.2.2.2.1) % 5)), (r_17.2.2.2.2.2 0)), (2, (aa ((1 + r_17.2.2.2.2.1) % 5)), (r_17.2.2.2.2.2 1)), (2, (aa ((2 + r_17.2.2.2.2.1) % 5)), (r_17.2.2.2.2.2 2)), (2, (aa ((3 + r_17.2.2.2.2.1) % 5)), (r_17.2.2.2.2.2 3)), (2, (aa ((4 + r_17.2.2.2.2.1) % 5)), (r_17.2.2.2.2.2 4))] (fun r_19 => [(4, (zqx qX aa r_17.2.2.2.2.1), r_17.2.1), (3, qT, sT), (1, qM, sM), (0, qL, sL), (2, qP, r_17.2.2.1), (2, qB, r_17.2.2.2.1), (2, (aa ((0 + r_17.2.2.2.2.1) % 5)), (r_17.2.2.2.2.2 0)), (2, (aa ((1 + r_17.2.2.2.2.1) % 5)), (r_17.2.2.2.2.2 1)), (2, (aa ((2 + r_17.2.2.2.2.1) % 5)), (r_17.2.2.2.2.2 2)), (2, (aa ((3 + r_17.2.2.2.2.1) % 5)), (r_17.2.2.2.2.2 3)), (2, (aa ((4 + r_17.2.2.2.2.1) % 5)), (r_17.2.2.2.2.2 4)), (5, qD, r_19.2)]) C dL_law_348 zy_X5_means zw_848 (fun _ hr9 => mX5_means  hr9) (by decide) rfl rfl (by decide) rfl (Nat.le_of_ble_eq_true rfl) (z_pn 12 _ rfl [11, 0, 1, 2, 3, 4, 5, 6, 7, 8, 9, 10] (by decide)).symm (fun _ => (z_pn 12 _ rfl [1, 2, 3, 4, 5, 6, 7, 8, 9, 10, 11, 0] (by decide)).symm) rfl (fun r_19 hr_20 => ?_)
  show zJ X 4 (1 : Int32) _ 351 [(0, (.ref b)), (1, (.ref (qX 0))), (2, (.ref (qD 0))), (3, (.int x3))] [(.int r_19.1), (.int r_17.1)] [(4, (zqx qX aa r_17.2.2.2.2.1), r_17.2.1), (3, qT, sT), (1, qM, sM), (0, qL, sL), (2, qP, r_17.2.2.1), (2, qB, r_17.2.2.2.1), (2, (aa ((0 + r_17.2.2.2.2.1) % 5)), (r_17.2.2.2.2.2 0)), (2, (aa ((1 + r_17.2.2.2.2.1) % 5)), (r_17.2.2.2.2.2 1)), (2, (aa ((2 + r_17.2.2.2.2.1) % 5)), (r_17.2.2.2.2.2 2)), (2, (aa ((3 + r_17.2.2.2.2.1) % 5)), (r_17.2.2.2.2.2 3)), (2, (aa ((4 + r_17.2.2.2.2.1) % 5)), (r_17.2.2.2.2.2 4)), (5, qD, r_19.2)]
  refine z_icmp_eq (pc := 351) 867 C dL_law_351 (by decide) ?_ ?_
  · refine z_iinc (pc := 867) (x3 + 6) 3 rfl rfl [(0, (.ref b)), (1, (.ref (qX 0))), (2, (.ref (qD 0))), (3, (.int (x3 + 6)))] [1, 2, 3, 0] (by decide) rfl C dL_law_867 ?_
    refine z_goto (pc := 870) 18 C dL_law_870 (by decide) ?_
    exact hk_18 _ _ _ _ _ _ _ _ _
  · refine z_iconst (pc := 354) (0 : Int32) (by decide) C dL_law_354 ?_
    exact z_lawret (pc := 355) C hR dL_law_355
def jL_law_356 (F : Nat) (L : Nat) (xs : Nat → Int32) (kc_18 : (Int32 × zOS × zOS × zOS × zOS × zOS × zOS × zSS × zOS) → Option (Int32)) (x3 : Int32) (sX : zOS) (sT : zOS) (sM : zOS) (sL : zOS) (sP : zOS) (sB : zOS) (sSS : zSS) (sD : zOS) : Option (Int32) := (zchk (x3 + (1 : Int32)) L (zchk (x3 + (2 : Int32)) L (zchk (x3 + (3 : Int32)) L (Option.bind (fX4_pins (xs (x3 + (1 : Int32)).toNatClampNeg) (xs (x3 + (2 : Int32)).toNatClampNeg) (xs (x3 + (3 : Int32)).toNatClampNeg) sX sP sB sSS) (fun r_22 : Int32 × zOS × zOS × zOS × zSS => (zchk (x3 + (1 : Int32)) L (zchk (x3 + (2 : Int32)) L (zchk (x3 + (3 : Int32)) L (Option.bind (fX5_pins F (xs (x3 + (1 : Int32)).toNatClampNeg) (xs (x3 + (2 : Int32)).toNatClampNeg) (xs (x3 + (3 : Int32)).toNatClampNeg) sD) (fun r_24 : Int32 × zOS => (if r_22.1 = r_24.1 then (kc_18 ((x3 + 6), r_22.2.1, sT, sM, sL, r_22.2.2.1, r_22.2.2.2.1, r_22.2.2.2.2, r_24.2)) else (zbk (0 : Int32) (some (0 : Int32))))))))))))))
set_option maxRecDepth 20000 in
theorem wL_law_356 {X : zCx} {F b L : Nat} {xs : Nat → Int32} {qX : Nat → Nat} {qT : Nat → Nat} {qM : Nat → Nat} {qL : Nat → Nat} {qP : Nat → Nat} {qB : Nat → Nat} {qD : Nat → Nat} {aa : Nat → Nat → Nat} {kc_18 : (Int32 × zOS × zOS × zOS × zOS × zOS × zOS × zSS × zOS) → Option (Int32)} (C : zC X R_law code 4 24 558) (hR : zLw X b L xs) (hM50 : qM 50 = qP 0) (hM51 : qM 51 = qL 0) (hX50 : qX 50 = qP 0) (hX51 : qX 51 = qB 0) (hX52 : qX 52 = qL 0) (hX53 : qX 53 = qM 0) (hX54 : qX 54 = qT 0) (hk_18 : ∀ (y3 : Int32) (tX : zOS) (tT : zOS) (tM : zOS) (tL : zOS) (tP : zOS) (tB : zOS) (tSS : zSS) (tD : zOS), zJ X 4 (1 : Int32) (kc_18 (y3, tX, tT, tM, tL, tP, tB, tSS, tD)) 18 [(0, (.ref b)), (1, (.ref (qX 0))), (2, (.ref (qD 0))), (3, (.int y3))] [] [(4, (zqx qX aa tSS.1), tX), (3, qT, tT), (1, qM, tM), (0, qL, tL), (2, qP, tP), (2, qB, tB), (2, (aa ((0 + tSS.1) % 5)), (tSS.2 0)), (2, (aa ((1 + tSS.1) % 5)), (tSS.2 1)), (2, (aa ((2 + tSS.1) % 5)), (tSS.2 2)), (2, (aa ((3 + tSS.1) % 5)), (tSS.2 3)), (2, (aa ((4 + tSS.1) % 5)), (tSS.2 4)), (5, qD, tD)]) (x3 : Int32) (sX : zOS) (sT : zOS) (sM : zOS) (sL : zOS) (sP : zOS) (sB : zOS) (sSS : zSS) (sD : zOS) : zJ X 4 (1 : Int32) (jL_law_356 F L xs kc_18 x3 sX sT sM sL sP sB sSS sD) 356 [(0, (.ref b)), (1, (.ref (qX 0))), (2, (.ref (qD 0))), (3, (.int x3))] [] [(4, (zqx qX aa sSS.1), sX), (3, qT, sT), (1, qM, sM), (0, qL, sL), (2, qP, sP), (2, qB, sB), (2, (aa ((0 + sSS.1) % 5)), (sSS.2 0)), (2, (aa ((1 + sSS.1) % 5)), (sSS.2 1)), (2, (aa ((2 + sSS.1) % 5)), (sSS.2 2)), (2, (aa ((3 + sSS.1) % 5)), (sSS.2 3)), (2, (aa ((4 + sSS.1) % 5)), (sSS.2 4)), (5, qD, sD)] := by
  unfold jL_law_356
  refine z_aload_n (pc := 356) 1 rfl rfl C dL_law_356 ?_
  refine z_aload_n (pc := 357) 0 rfl rfl C dL_law_357 ?_
  refine z_iload_n (pc := 358) 3 rfl rfl C dL_law_358 ?_
  refine z_iconst (pc := 359) (1 : Int32) (by decide) C dL_law_359 ?_
  refine z_iadd (pc := 360) C dL_law_360 ?_
  refine z_sld (pc := 361) C hR dL_law_361 ?_
  refine z_aload_n (pc := 362) 0 rfl rfl C dL_law_362 ?_
  refine z_iload_n (pc := 363) 3 rfl rfl C dL_law_363 ?_
  refine z_iconst (pc := 364) (2 : Int32) (by decide) C dL_law_364 ?_
  refine z_iadd (pc := 365) C dL_law_365 ?_
  refine z_sld (pc := 366) C hR dL_law_366 ?_
  refine z_aload_n (pc := 367) 0 rfl rfl C dL_law_367 ?_
  refine z_iload_n (pc := 368) 3 rfl rfl C dL_law_368 ?_
  refine z_iconst (pc := 369) (3 : Int32) (by decide) C dL_law_369 ?_
  refine z_iadd (pc := 370) C dL_law_370 ?_
  refine z_sld (pc := 371) C hR dL_law_371 ?_
  refine z_callV (q' := (zqx qX aa sSS.1)) (pc := 372) (rf' := 4) (rl' := 88) (fX4_pins (xs (x3 + (1 : Int32)).toNatClampNeg) (xs (x3 + (2 : Int32)).toNatClampNeg) (xs (x3 + (3 : Int32)).toNatClampNeg) sX sP sB sSS) [(.int (xs (x3 + (1 : Int32)).toNatClampNeg)), (.int (xs (x3 + (2 : Int32)).toNatClampNeg)), (.int (xs (x3 + (3 : Int32)).toNatClampNeg))] [] [(4, (zqx qX aa sSS.1), sX), (2, qP, sP), (2, qB, sB), (2, (aa ((0 + sSS.1) % 5)), (sSS.2 0)), (2, (aa ((1 + sSS.1) % 5)), (sSS.2 1)), (2, (aa ((2 + sSS.1) % 5)), (sSS.2 2)), (2, (aa ((3 + sSS.1) % 5)), (sSS.2 3)), (2, (aa ((4 + sSS.1) % 5)), (sSS.2 4))] (fun r_22 => (some (.int r_22.1))) (fun r_22 => [(4, (zqx qX aa r_22.2.2.2.2.1), r_22.2.1), (2, qP, r_22.2.2.1), (2, qB, r_22.2.2.2.1), (2, (aa ((0 + r_22.2.2.2.2.1) % 5)), (r_22.2.2.2.2.2 0)), (2, (aa ((1 + r_22.2.2.2.2.1) % 5)), (r_22.2.2.2.2.2 1)), (2, (aa ((2 + r_22.2.2.2.2.1) % 5)), (r_22.2.2.2.2.2 2)), (2, (aa ((3 + r_22.2.2.2.2.1) % 5)), (r_22.2.2.2.2.2 3)), (2, (aa ((4 + r_22.2.2.2.2.1) % 5)), (r_22.2.2.2.2.2 4))]) [(3, qT, sT), (1, qM, sM), (0, qL, sL), (5, qD, sD)] (fun r_22 => [(4, (zqx qX aa r_22.2.2.2.2.1), r_22.2.1), (3, qT, sT), (1, qM, sM), (0, qL, sL), (2, qP, r_22.2.2.1), (2, qB, r_22.2.2.2.1), (2, (aa ((0 + r_22.2.2.2.2.1) % 5)), (r_22.2.2.2.2.2 0)), (2, (aa ((1 + r_22.2.2.2.2.1) % 5)), (r_22.2.2.2.2.2 1)), (2, (aa ((2 + r_22.2.2.2.2.1) % 5)), (r_22.2.2.2.2.2 2)), (2, (aa ((3 + r_22.2.2.2.2.1) % 5)), (r_22.2.2.2.2.2 3)), (2, (aa ((4 + r_22.2.2.2.2.1) % 5)), (r_22.2.2.2.2.2 4)), (5, qD, sD)]) C dL_law_372 zy_X4_pins zw_373 (fun _ hr9 => mX4_pins (qX := qX) (qP := qP) (qB := qB) (aa := aa) hX50 hX51 hr9) (by decide) rfl rfl (by decide) rfl (Nat.le_of_ble_eq_true rfl) (z_pn 12 _ rfl [0, 4, 5, 6, 7, 8, 9, 10, 1, 2, 3, 11] (by decide)).symm (fun _ => (z_pn 12 _ rfl [0, 8, 9, 10, 1, 2, 3, 4, 5, 6, 7, 11] (by decide)).symm) rfl (fun r_22 hr_23 => ?_)
  show zJ X 4 (1 : Int32) _ 375 [(0, (.ref b)), (1, (.ref (qX 0))), (2, (.ref (qD 0))), (3, (.int x3))] [(.int r_22.1)] [(4, (zqx qX aa r_22.2.2.2.2.1), r_22.2.1), (3, qT, sT), (1, qM, sM), (0, qL, sL), (2, qP, r_22.2.2.1), (2, qB, r_22.2.2.2.1), (2, (aa ((0 + r_22.2.2.2.2.1) % 5)), (r_22.2.2.2.2.2 0)), (2, (aa ((1 + r_22.2.2.2.2.1) % 5)), (r_22.2.2.2.2.2 1)), (2, (aa ((2 + r_22.2.2.2.2.1) % 5)), (r_22.2.2.2.2.2 2)), (2, (aa ((3 + r_22.2.2.2.2.1) % 5)), (r_22.2.2.2.2.2 3)), (2, (aa ((4 + r_22.2.2.2.2.1) % 5)), (r_22.2.2.2.2.2 4)), (5, qD, sD)]
  refine z_aload_n (pc := 375) 2 rfl rfl C dL_law_375 ?_
  refine z_aload_n (pc := 376) 0 rfl rfl C dL_law_376 ?_
  refine z_iload_n (pc := 377) 3 rfl rfl C dL_law_377 ?_
  refine z_iconst (pc := 378) (1 : Int32) (by decide) C dL_law_378 ?_
  refine z_iadd (pc := 379) C dL_law_379 ?_
  refine z_sld (pc := 380) C hR dL_law_380 ?_
  refine z_aload_n (pc := 381) 0 rfl rfl C dL_law_381 ?_
  refine z_iload_n (pc := 382) 3 rfl rfl C dL_law_382 ?_
  refine z_iconst (pc := 383) (2 : Int32) (by decide) C dL_law_383 ?_
  refine z_iadd (pc := 384) C dL_law_384 ?_
  refine z_sld (pc := 385) C hR dL_law_385 ?_
  refine z_aload_n (pc := 386) 0 rfl rfl C dL_law_386 ?_
  refine z_iload_n (pc := 387) 3 rfl rfl C dL_law_387 ?_
  refine z_iconst (pc := 388) (3 : Int32) (by decide) C dL_law_388 ?_
  refine z_iadd (pc := 389) C dL_law_389 ?_
  refine z_sld (pc := 390) C hR dL_law_390 ?_
  refine z_callV (pc := 391) (rf' := 3) (rl' := 66) (fX5_pins F (xs (x3 + (1 : Int32)).toNatClampNeg) (xs (x3 + (2 : Int32)).toNatClampNeg) (xs (x3 + (3 : Int32)).toNatClampNeg) sD) [(.int (xs (x3 + (1 : Int32)).toNatClampNeg)), (.int (xs (x3 + (2 : Int32)).toNatClampNeg)), (.int (xs (x3 + (3 : Int32)).toNatClampNeg))] [(.int r_22.1)] [(5, qD, sD)] (fun r_24 => (some (.int r_24.1))) (fun r_24 => [(5, qD, r_24.2)]) [(4, (zqx qX aa r_22.2.2.2.2.1), r_22.2.1), (3, qT, sT), (1, qM, sM), (0, qL, sL), (2, qP, r_22.2.2.1), (2, qB, r_22.2.2.2.1), (2, (aa ((0 + r_22.2.2.2.2.1) % 5)), (r_22.2.2.2.2.2 0)), (2, (aa ((1 + r_22.2.2.2.2.1) % 5)), (r_22.2.2.2.2.2 1)), (2, (aa ((2 + r_22.2.2.2.2.1) % 5)), (r_22.2.2.2.2.2 2)), (2, (aa ((3 + r_22.2.2.2.2.1) % 5)), (r_22.2.2.2.2.2 3)), (2, (aa ((4 + r_22.2.2.2.2.1) % 5)), (r_22.2.2.2.2.2 4))] (fun r_24 => [(4, (zqx qX aa r_22.2.2.2.2.1), r_22.2.1), (3, qT, sT), (1, qM, sM), (0, qL, sL), (2, qP, r_22.2.2.1), (2, qB, r_22.2.2.2.1), (2, (aa ((0 + r_22.2.2.2.2.1) % 5)), (r_22.2.2.2.2.2 0)), (2, (aa ((1 + r_22.2.2.2.2.1) % 5)), (r_22.2.2.2.2.2 1)), (2, (aa ((2 + r_22.2.2.2.2.1) % 5)), (r_22.2.2.2.2.2 2)), (2, (aa ((3 + r_22.2.2.2.2.1) % 5)), (r_22.2.2.2.2.2 3)), (2, (aa ((4 + r_22.2.2.2.2.1) % 5)), (r_22.2.2.2.2.2 4)), (5, qD, r_24.2)]) C dL_law_391 zy_X5_pins zw_863 (fun _ hr9 => mX5_pins  hr9) (by decide) rfl rfl (by decide) rfl (Nat.le_of_ble_eq_true rfl) (z_pn 12 _ rfl [11, 0, 1, 2, 3, 4, 5, 6, 7, 8, 9, 10] (by decide)).symm (fun _ => (z_pn 12 _ rfl [1, 2, 3, 4, 5, 6, 7, 8, 9, 10, 11, 0] (by decide)).symm) rfl (fun r_24 hr_25 => ?_)
  show zJ X 4 (1 : Int32) _ 394 [(0, (.ref b)), (1, (.ref (qX 0))), (2, (.ref (qD 0))), (3, (.int x3))] [(.int r_24.1), (.int r_22.1)] [(4, (zqx qX aa r_22.2.2.2.2.1), r_22.2.1), (3, qT, sT), (1, qM, sM), (0, qL, sL), (2, qP, r_22.2.2.1), (2, qB, r_22.2.2.2.1), (2, (aa ((0 + r_22.2.2.2.2.1) % 5)), (r_22.2.2.2.2.2 0)), (2, (aa ((1 + r_22.2.2.2.2.1) % 5)), (r_22.2.2.2.2.2 1)), (2, (aa ((2 + r_22.2.2.2.2.1) % 5)), (r_22.2.2.2.2.2 2)), (2, (aa ((3 + r_22.2.2.2.2.1) % 5)), (r_22.2.2.2.2.2 3)), (2, (aa ((4 + r_22.2.2.2.2.1) % 5)), (r_22.2.2.2.2.2 4)), (5, qD, r_24.2)]
  refine z_icmp_eq (pc := 394) 867 C dL_law_394 (by decide) ?_ ?_
  · refine z_iinc (pc := 867) (x3 + 6) 3 rfl rfl [(0, (.ref b)), (1, (.ref (qX 0))), (2, (.ref (qD 0))), (3, (.int (x3 + 6)))] [1, 2, 3, 0] (by decide) rfl C dL_law_867 ?_
    refine z_goto (pc := 870) 18 C dL_law_870 (by decide) ?_
    exact hk_18 _ _ _ _ _ _ _ _ _
  · refine z_iconst (pc := 397) (0 : Int32) (by decide) C dL_law_397 ?_
    exact z_lawret (pc := 398) C hR dL_law_398
def jL_law_399 (F : Nat) (L : Nat) (xs : Nat → Int32) (kc_18 : (Int32 × zOS × zOS × zOS × zOS × zOS × zOS × zSS × zOS) → Option (Int32)) (x3 : Int32) (sX : zOS) (sT : zOS) (sM : zOS) (sL : zOS) (sP : zOS) (sB : zOS) (sSS : zSS) (sD : zOS) : Option (Int32) := (Option.bind (fX4_forgets sX sP sB sSS) (fun r_27 : Int32 × zOS × zOS × zOS × zSS => (Option.bind (fX5_forgets F sD) (fun r_29 : Int32 × zOS => (if r_27.1 = r_29.1 then (kc_18 ((x3 + 6), r_27.2.1, sT, sM, sL, r_27.2.2.1, r_27.2.2.2.1, r_27.2.2.2.2, r_29.2)) else (zbk (0 : Int32) (some (0 : Int32))))))))
set_option maxRecDepth 20000 in
theorem wL_law_399 {X : zCx} {F b L : Nat} {xs : Nat → Int32} {qX : Nat → Nat} {qT : Nat → Nat} {qM : Nat → Nat} {qL : Nat → Nat} {qP : Nat → Nat} {qB : Nat → Nat} {qD : Nat → Nat} {aa : Nat → Nat → Nat} {kc_18 : (Int32 × zOS × zOS × zOS × zOS × zOS × zOS × zSS × zOS) → Option (Int32)} (C : zC X R_law code 4 24 558) (hR : zLw X b L xs) (hM50 : qM 50 = qP 0) (hM51 : qM 51 = qL 0) (hX50 : qX 50 = qP 0) (hX51 : qX 51 = qB 0) (hX52 : qX 52 = qL 0) (hX53 : qX 53 = qM 0) (hX54 : qX 54 = qT 0) (hk_18 : ∀ (y3 : Int32) (tX : zOS) (tT : zOS) (tM : zOS) (tL : zOS) (tP : zOS) (tB : zOS) (tSS : zSS) (tD : zOS), zJ X 4 (1 : Int32) (kc_18 (y3, tX, tT, tM, tL, tP, tB, tSS, tD)) 18 [(0, (.ref b)), (1, (.ref (qX 0))), (2, (.ref (qD 0))), (3, (.int y3))] [] [(4, (zqx qX aa tSS.1), tX), (3, qT, tT), (1, qM, tM), (0, qL, tL), (2, qP, tP), (2, qB, tB), (2, (aa ((0 + tSS.1) % 5)), (tSS.2 0)), (2, (aa ((1 + tSS.1) % 5)), (tSS.2 1)), (2, (aa ((2 + tSS.1) % 5)), (tSS.2 2)), (2, (aa ((3 + tSS.1) % 5)), (tSS.2 3)), (2, (aa ((4 + tSS.1) % 5)), (tSS.2 4)), (5, qD, tD)]) (x3 : Int32) (sX : zOS) (sT : zOS) (sM : zOS) (sL : zOS) (sP : zOS) (sB : zOS) (sSS : zSS) (sD : zOS) : zJ X 4 (1 : Int32) (jL_law_399 F L xs kc_18 x3 sX sT sM sL sP sB sSS sD) 399 [(0, (.ref b)), (1, (.ref (qX 0))), (2, (.ref (qD 0))), (3, (.int x3))] [] [(4, (zqx qX aa sSS.1), sX), (3, qT, sT), (1, qM, sM), (0, qL, sL), (2, qP, sP), (2, qB, sB), (2, (aa ((0 + sSS.1) % 5)), (sSS.2 0)), (2, (aa ((1 + sSS.1) % 5)), (sSS.2 1)), (2, (aa ((2 + sSS.1) % 5)), (sSS.2 2)), (2, (aa ((3 + sSS.1) % 5)), (sSS.2 3)), (2, (aa ((4 + sSS.1) % 5)), (sSS.2 4)), (5, qD, sD)] := by
  unfold jL_law_399
  refine z_aload_n (pc := 399) 1 rfl rfl C dL_law_399 ?_
  refine z_callV (q' := (zqx qX aa sSS.1)) (pc := 400) (rf' := 4) (rl' := 88) (fX4_forgets sX sP sB sSS) [] [] [(4, (zqx qX aa sSS.1), sX), (2, qP, sP), (2, qB, sB), (2, (aa ((0 + sSS.1) % 5)), (sSS.2 0)), (2, (aa ((1 + sSS.1) % 5)), (sSS.2 1)), (2, (aa ((2 + sSS.1) % 5)), (sSS.2 2)), (2, (aa ((3 + sSS.1) % 5)), (sSS.2 3)), (2, (aa ((4 + sSS.1) % 5)), (sSS.2 4))] (fun r_27 => (some (.int r_27.1))) (fun r_27 => [(4, (zqx qX aa r_27.2.2.2.2.1), r_27.2.1), (2, qP, r_27.2.2.1), (2, qB, r_27.2.2.2.1), (2, (aa ((0 + r_27.2.2.2.2.1) % 5)), (r_27.2.2.2.2.2 0)), (2, (aa ((1 + r_27.2.2.2.2.1) % 5)), (r_27.2.2.2.2.2 1)), (2, (aa ((2 + r_27.2.2.2.2.1) % 5)), (r_27.2.2.2.2.2 2)), (2, (aa ((3 + r_27.2.2.2.2.1) % 5)), (r_27.2.2.2.2.2 3)), (2, (aa ((4 + r_27.2.2.2.2.1) % 5)), (r_27.2.2.2.2.2 4))]) [(3, qT, sT), (1, qM, sM), (0, qL, sL), (5, qD, sD)] (fun r_27 => [(4, (zqx qX aa r_27.2.2.2.2.1), r_27.2.1), (3, qT, sT), (1, qM, sM), (0, qL, sL), (2, qP, r_27.2.2.1), (2, qB, r_27.2.2.2.1), (2, (aa ((0 + r_27.2.2.2.2.1) % 5)), (r_27.2.2.2.2.2 0)), (2, (aa ((1 + r_27.2.2.2.2.1) % 5)), (r_27.2.2.2.2.2 1)), (2, (aa ((2 + r_27.2.2.2.2.1) % 5)), (r_27.2.2.2.2.2 2)), (2, (aa ((3 + r_27.2.2.2.2.1) % 5)), (r_27.2.2.2.2.2 3)), (2, (aa ((4 + r_27.2.2.2.2.1) % 5)), (r_27.2.2.2.2.2 4)), (5, qD, sD)]) C dL_law_400 zy_X4_forgets zw_381 (fun _ hr9 => mX4_forgets (qX := qX) (qP := qP) (qB := qB) (aa := aa) hX50 hX51 hr9) (by decide) rfl rfl (by decide) rfl (Nat.le_of_ble_eq_true rfl) (z_pn 12 _ rfl [0, 4, 5, 6, 7, 8, 9, 10, 1, 2, 3, 11] (by decide)).symm (fun _ => (z_pn 12 _ rfl [0, 8, 9, 10, 1, 2, 3, 4, 5, 6, 7, 11] (by decide)).symm) rfl (fun r_27 hr_28 => ?_)
  show zJ X 4 (1 : Int32) _ 403 [(0, (.ref b)), (1, (.ref (qX 0))), (2, (.ref (qD 0))), (3, (.int x3))] [(.int r_27.1)] [(4, (zqx qX aa r_27.2.2.2.2.1), r_27.2.1), (3, qT, sT), (1, qM, sM), (0, qL, sL), (2, qP, r_27.2.2.1), (2, qB, r_27.2.2.2.1), (2, (aa ((0 + r_27.2.2.2.2.1) % 5)), (r_27.2.2.2.2.2 0)), (2, (aa ((1 + r_27.2.2.2.2.1) % 5)), (r_27.2.2.2.2.2 1)), (2, (aa ((2 + r_27.2.2.2.2.1) % 5)), (r_27.2.2.2.2.2 2)), (2, (aa ((3 + r_27.2.2.2.2.1) % 5)), (r_27.2.2.2.2.2 3)), (2, (aa ((4 + r_27.2.2.2.2.1) % 5)), (r_27.2.2.2.2.2 4)), (5, qD, sD)]
  refine z_aload_n (pc := 403) 2 rfl rfl C dL_law_403 ?_
  refine z_callV (pc := 404) (rf' := 2) (rl' := 42) (fX5_forgets F sD) [] [(.int r_27.1)] [(5, qD, sD)] (fun r_29 => (some (.int r_29.1))) (fun r_29 => [(5, qD, r_29.2)]) [(4, (zqx qX aa r_27.2.2.2.2.1), r_27.2.1), (3, qT, sT), (1, qM, sM), (0, qL, sL), (2, qP, r_27.2.2.1), (2, qB, r_27.2.2.2.1), (2, (aa ((0 + r_27.2.2.2.2.1) % 5)), (r_27.2.2.2.2.2 0)), (2, (aa ((1 + r_27.2.2.2.2.1) % 5)), (r_27.2.2.2.2.2 1)), (2, (aa ((2 + r_27.2.2.2.2.1) % 5)), (r_27.2.2.2.2.2 2)), (2, (aa ((3 + r_27.2.2.2.2.1) % 5)), (r_27.2.2.2.2.2 3)), (2, (aa ((4 + r_27.2.2.2.2.1) % 5)), (r_27.2.2.2.2.2 4))] (fun r_29 => [(4, (zqx qX aa r_27.2.2.2.2.1), r_27.2.1), (3, qT, sT), (1, qM, sM), (0, qL, sL), (2, qP, r_27.2.2.1), (2, qB, r_27.2.2.2.1), (2, (aa ((0 + r_27.2.2.2.2.1) % 5)), (r_27.2.2.2.2.2 0)), (2, (aa ((1 + r_27.2.2.2.2.1) % 5)), (r_27.2.2.2.2.2 1)), (2, (aa ((2 + r_27.2.2.2.2.1) % 5)), (r_27.2.2.2.2.2 2)), (2, (aa ((3 + r_27.2.2.2.2.1) % 5)), (r_27.2.2.2.2.2 3)), (2, (aa ((4 + r_27.2.2.2.2.1) % 5)), (r_27.2.2.2.2.2 4)), (5, qD, r_29.2)]) C dL_law_404 zy_X5_forgets zw_871 (fun _ hr9 => mX5_forgets  hr9) (by decide) rfl rfl (by decide) rfl (Nat.le_of_ble_eq_true rfl) (z_pn 12 _ rfl [11, 0, 1, 2, 3, 4, 5, 6, 7, 8, 9, 10] (by decide)).symm (fun _ => (z_pn 12 _ rfl [1, 2, 3, 4, 5, 6, 7, 8, 9, 10, 11, 0] (by decide)).symm) rfl (fun r_29 hr_30 => ?_)
  show zJ X 4 (1 : Int32) _ 407 [(0, (.ref b)), (1, (.ref (qX 0))), (2, (.ref (qD 0))), (3, (.int x3))] [(.int r_29.1), (.int r_27.1)] [(4, (zqx qX aa r_27.2.2.2.2.1), r_27.2.1), (3, qT, sT), (1, qM, sM), (0, qL, sL), (2, qP, r_27.2.2.1), (2, qB, r_27.2.2.2.1), (2, (aa ((0 + r_27.2.2.2.2.1) % 5)), (r_27.2.2.2.2.2 0)), (2, (aa ((1 + r_27.2.2.2.2.1) % 5)), (r_27.2.2.2.2.2 1)), (2, (aa ((2 + r_27.2.2.2.2.1) % 5)), (r_27.2.2.2.2.2 2)), (2, (aa ((3 + r_27.2.2.2.2.1) % 5)), (r_27.2.2.2.2.2 3)), (2, (aa ((4 + r_27.2.2.2.2.1) % 5)), (r_27.2.2.2.2.2 4)), (5, qD, r_29.2)]
  refine z_icmp_eq (pc := 407) 867 C dL_law_407 (by decide) ?_ ?_
  · refine z_iinc (pc := 867) (x3 + 6) 3 rfl rfl [(0, (.ref b)), (1, (.ref (qX 0))), (2, (.ref (qD 0))), (3, (.int (x3 + 6)))] [1, 2, 3, 0] (by decide) rfl C dL_law_867 ?_
    refine z_goto (pc := 870) 18 C dL_law_870 (by decide) ?_
    exact hk_18 _ _ _ _ _ _ _ _ _
  · refine z_iconst (pc := 410) (0 : Int32) (by decide) C dL_law_410 ?_
    exact z_lawret (pc := 411) C hR dL_law_411
def jL_law_412 (F : Nat) (L : Nat) (xs : Nat → Int32) (kc_18 : (Int32 × zOS × zOS × zOS × zOS × zOS × zOS × zSS × zOS) → Option (Int32)) (x3 : Int32) (sX : zOS) (sT : zOS) (sM : zOS) (sL : zOS) (sP : zOS) (sB : zOS) (sSS : zSS) (sD : zOS) : Option (Int32) := (zchk (x3 + (1 : Int32)) L (zchk (x3 + (2 : Int32)) L (zchk (x3 + (3 : Int32)) L (Option.bind (fX4_at (xs (x3 + (1 : Int32)).toNatClampNeg) (xs (x3 + (2 : Int32)).toNatClampNeg) (xs (x3 + (3 : Int32)).toNatClampNeg) sX sP) (fun r_32 : Int32 × zOS => (zchk (x3 + (1 : Int32)) L (zchk (x3 + (2 : Int32)) L (zchk (x3 + (3 : Int32)) L (Option.bind (fX5_at (xs (x3 + (1 : Int32)).toNatClampNeg) (xs (x3 + (2 : Int32)).toNatClampNeg) (xs (x3 + (3 : Int32)).toNatClampNeg) sD) (fun r_34 : Int32 × zOS => (if r_32.1 = r_34.1 then (kc_18 ((x3 + 6), r_32.2, sT, sM, sL, sP, sB, sSS, r_34.2)) else (zbk (0 : Int32) (some (0 : Int32))))))))))))))
set_option maxRecDepth 20000 in
theorem wL_law_412 {X : zCx} {F b L : Nat} {xs : Nat → Int32} {qX : Nat → Nat} {qT : Nat → Nat} {qM : Nat → Nat} {qL : Nat → Nat} {qP : Nat → Nat} {qB : Nat → Nat} {qD : Nat → Nat} {aa : Nat → Nat → Nat} {kc_18 : (Int32 × zOS × zOS × zOS × zOS × zOS × zOS × zSS × zOS) → Option (Int32)} (C : zC X R_law code 4 24 558) (hR : zLw X b L xs) (hM50 : qM 50 = qP 0) (hM51 : qM 51 = qL 0) (hX50 : qX 50 = qP 0) (hX51 : qX 51 = qB 0) (hX52 : qX 52 = qL 0) (hX53 : qX 53 = qM 0) (hX54 : qX 54 = qT 0) (hk_18 : ∀ (y3 : Int32) (tX : zOS) (tT : zOS) (tM : zOS) (tL : zOS) (tP : zOS) (tB : zOS) (tSS : zSS) (tD : zOS), zJ X 4 (1 : Int32) (kc_18 (y3, tX, tT, tM, tL, tP, tB, tSS, tD)) 18 [(0, (.ref b)), (1, (.ref (qX 0))), (2, (.ref (qD 0))), (3, (.int y3))] [] [(4, (zqx qX aa tSS.1), tX), (3, qT, tT), (1, qM, tM), (0, qL, tL), (2, qP, tP), (2, qB, tB), (2, (aa ((0 + tSS.1) % 5)), (tSS.2 0)), (2, (aa ((1 + tSS.1) % 5)), (tSS.2 1)), (2, (aa ((2 + tSS.1) % 5)), (tSS.2 2)), (2, (aa ((3 + tSS.1) % 5)), (tSS.2 3)), (2, (aa ((4 + tSS.1) % 5)), (tSS.2 4)), (5, qD, tD)]) (x3 : Int32) (sX : zOS) (sT : zOS) (sM : zOS) (sL : zOS) (sP : zOS) (sB : zOS) (sSS : zSS) (sD : zOS) : zJ X 4 (1 : Int32) (jL_law_412 F L xs kc_18 x3 sX sT sM sL sP sB sSS sD) 412 [(0, (.ref b)), (1, (.ref (qX 0))), (2, (.ref (qD 0))), (3, (.int x3))] [] [(4, (zqx qX aa sSS.1), sX), (3, qT, sT), (1, qM, sM), (0, qL, sL), (2, qP, sP), (2, qB, sB), (2, (aa ((0 + sSS.1) % 5)), (sSS.2 0)), (2, (aa ((1 + sSS.1) % 5)), (sSS.2 1)), (2, (aa ((2 + sSS.1) % 5)), (sSS.2 2)), (2, (aa ((3 + sSS.1) % 5)), (sSS.2 3)), (2, (aa ((4 + sSS.1) % 5)), (sSS.2 4)), (5, qD, sD)] := by
  unfold jL_law_412
  refine z_aload_n (pc := 412) 1 rfl rfl C dL_law_412 ?_
  refine z_aload_n (pc := 413) 0 rfl rfl C dL_law_413 ?_
  refine z_iload_n (pc := 414) 3 rfl rfl C dL_law_414 ?_
  refine z_iconst (pc := 415) (1 : Int32) (by decide) C dL_law_415 ?_
  refine z_iadd (pc := 416) C dL_law_416 ?_
  refine z_sld (pc := 417) C hR dL_law_417 ?_
  refine z_aload_n (pc := 418) 0 rfl rfl C dL_law_418 ?_
  refine z_iload_n (pc := 419) 3 rfl rfl C dL_law_419 ?_
  refine z_iconst (pc := 420) (2 : Int32) (by decide) C dL_law_420 ?_
  refine z_iadd (pc := 421) C dL_law_421 ?_
  refine z_sld (pc := 422) C hR dL_law_422 ?_
  refine z_aload_n (pc := 423) 0 rfl rfl C dL_law_423 ?_
  refine z_iload_n (pc := 424) 3 rfl rfl C dL_law_424 ?_
  refine z_iconst (pc := 425) (3 : Int32) (by decide) C dL_law_425 ?_
  refine z_iadd (pc := 426) C dL_law_426 ?_
  refine z_sld (pc := 427) C hR dL_law_427 ?_
  refine z_callV (q' := (zqx qX aa sSS.1)) (pc := 428) (rf' := 2) (rl' := 43) (fX4_at (xs (x3 + (1 : Int32)).toNatClampNeg) (xs (x3 + (2 : Int32)).toNatClampNeg) (xs (x3 + (3 : Int32)).toNatClampNeg) sX sP) [(.int (xs (x3 + (1 : Int32)).toNatClampNeg)), (.int (xs (x3 + (2 : Int32)).toNatClampNeg)), (.int (xs (x3 + (3 : Int32)).toNatClampNeg))] [] [(4, (zqx qX aa sSS.1), sX), (2, qP, sP)] (fun r_32 => (some (.int r_32.1))) (fun r_32 => [(4, (zqx qX aa sSS.1), r_32.2), (2, qP, sP)]) [(3, qT, sT), (1, qM, sM), (0, qL, sL), (2, qB, sB), (2, (aa ((0 + sSS.1) % 5)), (sSS.2 0)), (2, (aa ((1 + sSS.1) % 5)), (sSS.2 1)), (2, (aa ((2 + sSS.1) % 5)), (sSS.2 2)), (2, (aa ((3 + sSS.1) % 5)), (sSS.2 3)), (2, (aa ((4 + sSS.1) % 5)), (sSS.2 4)), (5, qD, sD)] (fun r_32 => [(4, (zqx qX aa sSS.1), r_32.2), (3, qT, sT), (1, qM, sM), (0, qL, sL), (2, qP, sP), (2, qB, sB), (2, (aa ((0 + sSS.1) % 5)), (sSS.2 0)), (2, (aa ((1 + sSS.1) % 5)), (sSS.2 1)), (2, (aa ((2 + sSS.1) % 5)), (sSS.2 2)), (2, (aa ((3 + sSS.1) % 5)), (sSS.2 3)), (2, (aa ((4 + sSS.1) % 5)), (sSS.2 4)), (5, qD, sD)]) C dL_law_428 zy_X4_at zw_389 (fun _ hr9 => mX4_at hX50 hr9) (by decide) rfl rfl (by decide) rfl (Nat.le_of_ble_eq_true rfl) (z_pn 12 _ rfl [0, 4, 1, 2, 3, 5, 6, 7, 8, 9, 10, 11] (by decide)).symm (fun _ => (z_pn 12 _ rfl [0, 2, 3, 4, 1, 5, 6, 7, 8, 9, 10, 11] (by decide)).symm) rfl (fun r_32 hr_33 => ?_)
  show zJ X 4 (1 : Int32) _ 431 [(0, (.ref b)), (1, (.ref (qX 0))), (2, (.ref (qD 0))), (3, (.int x3))] [(.int r_32.1)] [(4, (zqx qX aa sSS.1), r_32.2), (3, qT, sT), (1, qM, sM), (0, qL, sL), (2, qP, sP), (2, qB, sB), (2, (aa ((0 + sSS.1) % 5)), (sSS.2 0)), (2, (aa ((1 + sSS.1) % 5)), (sSS.2 1)), (2, (aa ((2 + sSS.1) % 5)), (sSS.2 2)), (2, (aa ((3 + sSS.1) % 5)), (sSS.2 3)), (2, (aa ((4 + sSS.1) % 5)), (sSS.2 4)), (5, qD, sD)]
  refine z_aload_n (pc := 431) 2 rfl rfl C dL_law_431 ?_
  refine z_aload_n (pc := 432) 0 rfl rfl C dL_law_432 ?_
  refine z_iload_n (pc := 433) 3 rfl rfl C dL_law_433 ?_
  refine z_iconst (pc := 434) (1 : Int32) (by decide) C dL_law_434 ?_
  refine z_iadd (pc := 435) C dL_law_435 ?_
  refine z_sld (pc := 436) C hR dL_law_436 ?_
  refine z_aload_n (pc := 437) 0 rfl rfl C dL_law_437 ?_
  refine z_iload_n (pc := 438) 3 rfl rfl C dL_law_438 ?_
  refine z_iconst (pc := 439) (2 : Int32) (by decide) C dL_law_439 ?_
  refine z_iadd (pc := 440) C dL_law_440 ?_
  refine z_sld (pc := 441) C hR dL_law_441 ?_
  refine z_aload_n (pc := 442) 0 rfl rfl C dL_law_442 ?_
  refine z_iload_n (pc := 443) 3 rfl rfl C dL_law_443 ?_
  refine z_iconst (pc := 444) (3 : Int32) (by decide) C dL_law_444 ?_
  refine z_iadd (pc := 445) C dL_law_445 ?_
  refine z_sld (pc := 446) C hR dL_law_446 ?_
  refine z_callV (pc := 447) (rf' := 2) (rl' := 43) (fX5_at (xs (x3 + (1 : Int32)).toNatClampNeg) (xs (x3 + (2 : Int32)).toNatClampNeg) (xs (x3 + (3 : Int32)).toNatClampNeg) sD) [(.int (xs (x3 + (1 : Int32)).toNatClampNeg)), (.int (xs (x3 + (2 : Int32)).toNatClampNeg)), (.int (xs (x3 + (3 : Int32)).toNatClampNeg))] [(.int r_32.1)] [(5, qD, sD)] (fun r_34 => (some (.int r_34.1))) (fun r_34 => [(5, qD, r_34.2)]) [(4, (zqx qX aa sSS.1), r_32.2), (3, qT, sT), (1, qM, sM), (0, qL, sL), (2, qP, sP), (2, qB, sB), (2, (aa ((0 + sSS.1) % 5)), (sSS.2 0)), (2, (aa ((1 + sSS.1) % 5)), (sSS.2 1)), (2, (aa ((2 + sSS.1) % 5)), (sSS.2 2)), (2, (aa ((3 + sSS.1) % 5)), (sSS.2 3)), (2, (aa ((4 + sSS.1) % 5)), (sSS.2 4))] (fun r_34 => [(4, (zqx qX aa sSS.1), r_32.2), (3, qT, sT), (1, qM, sM), (0, qL, sL), (2, qP, sP), (2, qB, sB), (2, (aa ((0 + sSS.1) % 5)), (sSS.2 0)), (2, (aa ((1 + sSS.1) % 5)), (sSS.2 1)), (2, (aa ((2 + sSS.1) % 5)), (sSS.2 2)), (2, (aa ((3 + sSS.1) % 5)), (sSS.2 3)), (2, (aa ((4 + sSS.1) % 5)), (sSS.2 4)), (5, qD, r_34.2)]) C dL_law_447 zy_X5_at zw_879 (fun _ hr9 => mX5_at  hr9) (by decide) rfl rfl (by decide) rfl (Nat.le_of_ble_eq_true rfl) (z_pn 12 _ rfl [11, 0, 1, 2, 3, 4, 5, 6, 7, 8, 9, 10] (by decide)).symm (fun _ => (z_pn 12 _ rfl [1, 2, 3, 4, 5, 6, 7, 8, 9, 10, 11, 0] (by decide)).symm) rfl (fun r_34 hr_35 => ?_)
  show zJ X 4 (1 : Int32) _ 450 [(0, (.ref b)), (1, (.ref (qX 0))), (2, (.ref (qD 0))), (3, (.int x3))] [(.int r_34.1), (.int r_32.1)] [(4, (zqx qX aa sSS.1), r_32.2), (3, qT, sT), (1, qM, sM), (0, qL, sL), (2, qP, sP), (2, qB, sB), (2, (aa ((0 + sSS.1) % 5)), (sSS.2 0)), (2, (aa ((1 + sSS.1) % 5)), (sSS.2 1)), (2, (aa ((2 + sSS.1) % 5)), (sSS.2 2)), (2, (aa ((3 + sSS.1) % 5)), (sSS.2 3)), (2, (aa ((4 + sSS.1) % 5)), (sSS.2 4)), (5, qD, r_34.2)]
  refine z_icmp_eq (pc := 450) 867 C dL_law_450 (by decide) ?_ ?_
  · refine z_iinc (pc := 867) (x3 + 6) 3 rfl rfl [(0, (.ref b)), (1, (.ref (qX 0))), (2, (.ref (qD 0))), (3, (.int (x3 + 6)))] [1, 2, 3, 0] (by decide) rfl C dL_law_867 ?_
    refine z_goto (pc := 870) 18 C dL_law_870 (by decide) ?_
    exact hk_18 _ _ _ _ _ _ _ _ _
  · refine z_iconst (pc := 453) (0 : Int32) (by decide) C dL_law_453 ?_
    exact z_lawret (pc := 454) C hR dL_law_454
def jL_law_455 (F : Nat) (L : Nat) (xs : Nat → Int32) (kc_18 : (Int32 × zOS × zOS × zOS × zOS × zOS × zOS × zSS × zOS) → Option (Int32)) (x3 : Int32) (sX : zOS) (sT : zOS) (sM : zOS) (sL : zOS) (sP : zOS) (sB : zOS) (sSS : zSS) (sD : zOS) : Option (Int32) := (zchk (x3 + (1 : Int32)) L (zchk (x3 + (2 : Int32)) L (zchk (x3 + (3 : Int32)) L (Option.bind (fX4_node F (xs (x3 + (1 : Int32)).toNatClampNeg) (xs (x3 + (2 : Int32)).toNatClampNeg) (xs (x3 + (3 : Int32)).toNatClampNeg) sX sL sP) (fun r_37 : Int32 × zOS × zOS => (zchk (x3 + (1 : Int32)) L (zchk (x3 + (2 : Int32)) L (zchk (x3 + (3 : Int32)) L (Option.bind (fX5_node F (xs (x3 + (1 : Int32)).toNatClampNeg) (xs (x3 + (2 : Int32)).toNatClampNeg) (xs (x3 + (3 : Int32)).toNatClampNeg) sD) (fun r_39 : Int32 × zOS => (if r_37.1 = r_39.1 then (kc_18 ((x3 + 6), r_37.2.1, sT, sM, r_37.2.2, sP, sB, sSS, r_39.2)) else (zbk (0 : Int32) (some (0 : Int32))))))))))))))
set_option maxRecDepth 20000 in
theorem wL_law_455 {X : zCx} {F b L : Nat} {xs : Nat → Int32} {qX : Nat → Nat} {qT : Nat → Nat} {qM : Nat → Nat} {qL : Nat → Nat} {qP : Nat → Nat} {qB : Nat → Nat} {qD : Nat → Nat} {aa : Nat → Nat → Nat} {kc_18 : (Int32 × zOS × zOS × zOS × zOS × zOS × zOS × zSS × zOS) → Option (Int32)} (C : zC X R_law code 4 24 558) (hR : zLw X b L xs) (hM50 : qM 50 = qP 0) (hM51 : qM 51 = qL 0) (hX50 : qX 50 = qP 0) (hX51 : qX 51 = qB 0) (hX52 : qX 52 = qL 0) (hX53 : qX 53 = qM 0) (hX54 : qX 54 = qT 0) (hk_18 : ∀ (y3 : Int32) (tX : zOS) (tT : zOS) (tM : zOS) (tL : zOS) (tP : zOS) (tB : zOS) (tSS : zSS) (tD : zOS), zJ X 4 (1 : Int32) (kc_18 (y3, tX, tT, tM, tL, tP, tB, tSS, tD)) 18 [(0, (.ref b)), (1, (.ref (qX 0))), (2, (.ref (qD 0))), (3, (.int y3))] [] [(4, (zqx qX aa tSS.1), tX), (3, qT, tT), (1, qM, tM), (0, qL, tL), (2, qP, tP), (2, qB, tB), (2, (aa ((0 + tSS.1) % 5)), (tSS.2 0)), (2, (aa ((1 + tSS.1) % 5)), (tSS.2 1)), (2, (aa ((2 + tSS.1) % 5)), (tSS.2 2)), (2, (aa ((3 + tSS.1) % 5)), (tSS.2 3)), (2, (aa ((4 + tSS.1) % 5)), (tSS.2 4)), (5, qD, tD)]) (x3 : Int32) (sX : zOS) (sT : zOS) (sM : zOS) (sL : zOS) (sP : zOS) (sB : zOS) (sSS : zSS) (sD : zOS) : zJ X 4 (1 : Int32) (jL_law_455 F L xs kc_18 x3 sX sT sM sL sP sB sSS sD) 455 [(0, (.ref b)), (1, (.ref (qX 0))), (2, (.ref (qD 0))), (3, (.int x3))] [] [(4, (zqx qX aa sSS.1), sX), (3, qT, sT), (1, qM, sM), (0, qL, sL), (2, qP, sP), (2, qB, sB), (2, (aa ((0 + sSS.1) % 5)), (sSS.2 0)), (2, (aa ((1 + sSS.1) % 5)), (sSS.2 1)), (2, (aa ((2 + sSS.1) % 5)), (sSS.2 2)), (2, (aa ((3 + sSS.1) % 5)), (sSS.2 3)), (2, (aa ((4 + sSS.1) % 5)), (sSS.2 4)), (5, qD, sD)] := by
  unfold jL_law_455
  refine z_aload_n (pc := 455) 1 rfl rfl C dL_law_455 ?_
  refine z_aload_n (pc := 456) 0 rfl rfl C dL_law_456 ?_
  refine z_iload_n (pc := 457) 3 rfl rfl C dL_law_457 ?_
  refine z_iconst (pc := 458) (1 : Int32) (by decide) C dL_law_458 ?_
  refine z_iadd (pc := 459) C dL_law_459 ?_
  refine z_sld (pc := 460) C hR dL_law_460 ?_
  refine z_aload_n (pc := 461) 0 rfl rfl C dL_law_461 ?_
  refine z_iload_n (pc := 462) 3 rfl rfl C dL_law_462 ?_
  refine z_iconst (pc := 463) (2 : Int32) (by decide) C dL_law_463 ?_
  refine z_iadd (pc := 464) C dL_law_464 ?_
  refine z_sld (pc := 465) C hR dL_law_465 ?_
  refine z_aload_n (pc := 466) 0 rfl rfl C dL_law_466 ?_
  refine z_iload_n (pc := 467) 3 rfl rfl C dL_law_467 ?_
  refine z_iconst (pc := 468) (3 : Int32) (by decide) C dL_law_468 ?_
  refine z_iadd (pc := 469) C dL_law_469 ?_
  refine z_sld (pc := 470) C hR dL_law_470 ?_
  refine z_callV (q' := (zqx qX aa sSS.1)) (pc := 471) (rf' := 6) (rl' := 132) (fX4_node F (xs (x3 + (1 : Int32)).toNatClampNeg) (xs (x3 + (2 : Int32)).toNatClampNeg) (xs (x3 + (3 : Int32)).toNatClampNeg) sX sL sP) [(.int (xs (x3 + (1 : Int32)).toNatClampNeg)), (.int (xs (x3 + (2 : Int32)).toNatClampNeg)), (.int (xs (x3 + (3 : Int32)).toNatClampNeg))] [] [(4, (zqx qX aa sSS.1), sX), (0, qL, sL), (2, qP, sP)] (fun r_37 => (some (.int r_37.1))) (fun r_37 => [(4, (zqx qX aa sSS.1), r_37.2.1), (0, qL, r_37.2.2), (2, qP, sP)]) [(3, qT, sT), (1, qM, sM), (2, qB, sB), (2, (aa ((0 + sSS.1) % 5)), (sSS.2 0)), (2, (aa ((1 + sSS.1) % 5)), (sSS.2 1)), (2, (aa ((2 + sSS.1) % 5)), (sSS.2 2)), (2, (aa ((3 + sSS.1) % 5)), (sSS.2 3)), (2, (aa ((4 + sSS.1) % 5)), (sSS.2 4)), (5, qD, sD)] (fun r_37 => [(4, (zqx qX aa sSS.1), r_37.2.1), (3, qT, sT), (1, qM, sM), (0, qL, r_37.2.2), (2, qP, sP), (2, qB, sB), (2, (aa ((0 + sSS.1) % 5)), (sSS.2 0)), (2, (aa ((1 + sSS.1) % 5)), (sSS.2 1)), (2, (aa ((2 + sSS.1) % 5)), (sSS.2 2)), (2, (aa ((3 + sSS.1) % 5)), (sSS.2 3)), (2, (aa ((4 + sSS.1) % 5)), (sSS.2 4)), (5, qD, sD)]) C dL_law_471 zy_X4_node zw_395 (fun _ hr9 => mX4_node hX50 hX52 hr9) (by decide) rfl rfl (by decide) rfl (Nat.le_of_ble_eq_true rfl) (z_pn 12 _ rfl [0, 3, 4, 1, 2, 5, 6, 7, 8, 9, 10, 11] (by decide)).symm (fun _ => (z_pn 12 _ rfl [0, 3, 4, 1, 2, 5, 6, 7, 8, 9, 10, 11] (by decide)).symm) rfl (fun r_37 hr_38 => ?_)
  show zJ X 4 (1 : Int32) _ 474 [(0, (.ref b)), (1, (.ref (qX 0))), (2, (.ref (qD 0))), (3, (.int x3))] [(.int r_37.1)] [(4, (zqx qX aa sSS.1), r_37.2.1), (3, qT, sT), (1, qM, sM), (0, qL, r_37.2.2), (2, qP, sP), (2, qB, sB), (2, (aa ((0 + sSS.1) % 5)), (sSS.2 0)), (2, (aa ((1 + sSS.1) % 5)), (sSS.2 1)), (2, (aa ((2 + sSS.1) % 5)), (sSS.2 2)), (2, (aa ((3 + sSS.1) % 5)), (sSS.2 3)), (2, (aa ((4 + sSS.1) % 5)), (sSS.2 4)), (5, qD, sD)]
  refine z_aload_n (pc := 474) 2 rfl rfl C dL_law_474 ?_
  refine z_aload_n (pc := 475) 0 rfl rfl C dL_law_475 ?_
  refine z_iload_n (pc := 476) 3 rfl rfl C dL_law_476 ?_
  refine z_iconst (pc := 477) (1 : Int32) (by decide) C dL_law_477 ?_
  refine z_iadd (pc := 478) C dL_law_478 ?_
  refine z_sld (pc := 479) C hR dL_law_479 ?_
  refine z_aload_n (pc := 480) 0 rfl rfl C dL_law_480 ?_
  refine z_iload_n (pc := 481) 3 rfl rfl C dL_law_481 ?_
  refine z_iconst (pc := 482) (2 : Int32) (by decide) C dL_law_482 ?_
  refine z_iadd (pc := 483) C dL_law_483 ?_
  refine z_sld (pc := 484) C hR dL_law_484 ?_
  refine z_aload_n (pc := 485) 0 rfl rfl C dL_law_485 ?_
  refine z_iload_n (pc := 486) 3 rfl rfl C dL_law_486 ?_
  refine z_iconst (pc := 487) (3 : Int32) (by decide) C dL_law_487 ?_
  refine z_iadd (pc := 488) C dL_law_488 ?_
  refine z_sld (pc := 489) C hR dL_law_489 ?_
  refine z_callV (pc := 490) (rf' := 7) (rl' := 160) (fX5_node F (xs (x3 + (1 : Int32)).toNatClampNeg) (xs (x3 + (2 : Int32)).toNatClampNeg) (xs (x3 + (3 : Int32)).toNatClampNeg) sD) [(.int (xs (x3 + (1 : Int32)).toNatClampNeg)), (.int (xs (x3 + (2 : Int32)).toNatClampNeg)), (.int (xs (x3 + (3 : Int32)).toNatClampNeg))] [(.int r_37.1)] [(5, qD, sD)] (fun r_39 => (some (.int r_39.1))) (fun r_39 => [(5, qD, r_39.2)]) [(4, (zqx qX aa sSS.1), r_37.2.1), (3, qT, sT), (1, qM, sM), (0, qL, r_37.2.2), (2, qP, sP), (2, qB, sB), (2, (aa ((0 + sSS.1) % 5)), (sSS.2 0)), (2, (aa ((1 + sSS.1) % 5)), (sSS.2 1)), (2, (aa ((2 + sSS.1) % 5)), (sSS.2 2)), (2, (aa ((3 + sSS.1) % 5)), (sSS.2 3)), (2, (aa ((4 + sSS.1) % 5)), (sSS.2 4))] (fun r_39 => [(4, (zqx qX aa sSS.1), r_37.2.1), (3, qT, sT), (1, qM, sM), (0, qL, r_37.2.2), (2, qP, sP), (2, qB, sB), (2, (aa ((0 + sSS.1) % 5)), (sSS.2 0)), (2, (aa ((1 + sSS.1) % 5)), (sSS.2 1)), (2, (aa ((2 + sSS.1) % 5)), (sSS.2 2)), (2, (aa ((3 + sSS.1) % 5)), (sSS.2 3)), (2, (aa ((4 + sSS.1) % 5)), (sSS.2 4)), (5, qD, r_39.2)]) C dL_law_490 zy_X5_node zw_883 (fun _ hr9 => mX5_node  hr9) (by decide) rfl rfl (by decide) rfl (Nat.le_of_ble_eq_true rfl) (z_pn 12 _ rfl [11, 0, 1, 2, 3, 4, 5, 6, 7, 8, 9, 10] (by decide)).symm (fun _ => (z_pn 12 _ rfl [1, 2, 3, 4, 5, 6, 7, 8, 9, 10, 11, 0] (by decide)).symm) rfl (fun r_39 hr_40 => ?_)
  show zJ X 4 (1 : Int32) _ 493 [(0, (.ref b)), (1, (.ref (qX 0))), (2, (.ref (qD 0))), (3, (.int x3))] [(.int r_39.1), (.int r_37.1)] [(4, (zqx qX aa sSS.1), r_37.2.1), (3, qT, sT), (1, qM, sM), (0, qL, r_37.2.2), (2, qP, sP), (2, qB, sB), (2, (aa ((0 + sSS.1) % 5)), (sSS.2 0)), (2, (aa ((1 + sSS.1) % 5)), (sSS.2 1)), (2, (aa ((2 + sSS.1) % 5)), (sSS.2 2)), (2, (aa ((3 + sSS.1) % 5)), (sSS.2 3)), (2, (aa ((4 + sSS.1) % 5)), (sSS.2 4)), (5, qD, r_39.2)]
  refine z_icmp_eq (pc := 493) 867 C dL_law_493 (by decide) ?_ ?_
  · refine z_iinc (pc := 867) (x3 + 6) 3 rfl rfl [(0, (.ref b)), (1, (.ref (qX 0))), (2, (.ref (qD 0))), (3, (.int (x3 + 6)))] [1, 2, 3, 0] (by decide) rfl C dL_law_867 ?_
    refine z_goto (pc := 870) 18 C dL_law_870 (by decide) ?_
    exact hk_18 _ _ _ _ _ _ _ _ _
  · refine z_iconst (pc := 496) (0 : Int32) (by decide) C dL_law_496 ?_
    exact z_lawret (pc := 497) C hR dL_law_497
def jL_law_498 (F : Nat) (L : Nat) (xs : Nat → Int32) (kc_18 : (Int32 × zOS × zOS × zOS × zOS × zOS × zOS × zSS × zOS) → Option (Int32)) (x3 : Int32) (sX : zOS) (sT : zOS) (sM : zOS) (sL : zOS) (sP : zOS) (sB : zOS) (sSS : zSS) (sD : zOS) : Option (Int32) := (zchk (x3 + (1 : Int32)) L (Option.bind (fX4_count F (xs (x3 + (1 : Int32)).toNatClampNeg) sX sM sP sL) (fun r_42 : Int32 × zOS × zOS × zOS × zOS => (zchk (x3 + (1 : Int32)) L (Option.bind (fX5_count F (xs (x3 + (1 : Int32)).toNatClampNeg) sD) (fun r_44 : Int32 × zOS => (if r_42.1 = r_44.1 then (kc_18 ((x3 + 6), r_42.2.1, sT, r_42.2.2.1, r_42.2.2.2.2, r_42.2.2.2.1, sB, sSS, r_44.2)) else (zbk (0 : Int32) (some (0 : Int32))))))))))
set_option maxRecDepth 20000 in
theorem wL_law_498 {X : zCx} {F b L : Nat} {xs : Nat → Int32} {qX : Nat → Nat} {qT : Nat → Nat} {qM : Nat → Nat} {qL : Nat → Nat} {qP : Nat → Nat} {qB : Nat → Nat} {qD : Nat → Nat} {aa : Nat → Nat → Nat} {kc_18 : (Int32 × zOS × zOS × zOS × zOS × zOS × zOS × zSS × zOS) → Option (Int32)} (C : zC X R_law code 4 24 558) (hR : zLw X b L xs) (hM50 : qM 50 = qP 0) (hM51 : qM 51 = qL 0) (hX50 : qX 50 = qP 0) (hX51 : qX 51 = qB 0) (hX52 : qX 52 = qL 0) (hX53 : qX 53 = qM 0) (hX54 : qX 54 = qT 0) (hk_18 : ∀ (y3 : Int32) (tX : zOS) (tT : zOS) (tM : zOS) (tL : zOS) (tP : zOS) (tB : zOS) (tSS : zSS) (tD : zOS), zJ X 4 (1 : Int32) (kc_18 (y3, tX, tT, tM, tL, tP, tB, tSS, tD)) 18 [(0, (.ref b)), (1, (.ref (qX 0))), (2, (.ref (qD 0))), (3, (.int y3))] [] [(4, (zqx qX aa tSS.1), tX), (3, qT, tT), (1, qM, tM), (0, qL, tL), (2, qP, tP), (2, qB, tB), (2, (aa ((0 + tSS.1) % 5)), (tSS.2 0)), (2, (aa ((1 + tSS.1) % 5)), (tSS.2 1)), (2, (aa ((2 + tSS.1) % 5)), (tSS.2 2)), (2, (aa ((3 + tSS.1) % 5)), (tSS.2 3)), (2, (aa ((4 + tSS.1) % 5)), (tSS.2 4)), (5, qD, tD)]) (x3 : Int32) (sX : zOS) (sT : zOS) (sM : zOS) (sL : zOS) (sP : zOS) (sB : zOS) (sSS : zSS) (sD : zOS) : zJ X 4 (1 : Int32) (jL_law_498 F L xs kc_18 x3 sX sT sM sL sP sB sSS sD) 498 [(0, (.ref b)), (1, (.ref (qX 0))), (2, (.ref (qD 0))), (3, (.int x3))] [] [(4, (zqx qX aa sSS.1), sX), (3, qT, sT), (1, qM, sM), (0, qL, sL), (2, qP, sP), (2, qB, sB), (2, (aa ((0 + sSS.1) % 5)), (sSS.2 0)), (2, (aa ((1 + sSS.1) % 5)), (sSS.2 1)), (2, (aa ((2 + sSS.1) % 5)), (sSS.2 2)), (2, (aa ((3 + sSS.1) % 5)), (sSS.2 3)), (2, (aa ((4 + sSS.1) % 5)), (sSS.2 4)), (5, qD, sD)] := by
  unfold jL_law_498
  refine z_aload_n (pc := 498) 1 rfl rfl C dL_law_498 ?_
  refine z_aload_n (pc := 499) 0 rfl rfl C dL_law_499 ?_
  refine z_iload_n (pc := 500) 3 rfl rfl C dL_law_500 ?_
  refine z_iconst (pc := 501) (1 : Int32) (by decide) C dL_law_501 ?_
  refine z_iadd (pc := 502) C dL_law_502 ?_
  refine z_sld (pc := 503) C hR dL_law_503 ?_
  refine z_callV (q' := (zqx qX aa sSS.1)) (pc := 504) (rf' := 22) (rl' := 514) (fX4_count F (xs (x3 + (1 : Int32)).toNatClampNeg) sX sM sP sL) [(.int (xs (x3 + (1 : Int32)).toNatClampNeg))] [] [(4, (zqx qX aa sSS.1), sX), (1, qM, sM), (2, qP, sP), (0, qL, sL)] (fun r_42 => (some (.int r_42.1))) (fun r_42 => [(4, (zqx qX aa sSS.1), r_42.2.1), (1, qM, r_42.2.2.1), (2, qP, r_42.2.2.2.1), (0, qL, r_42.2.2.2.2)]) [(3, qT, sT), (2, qB, sB), (2, (aa ((0 + sSS.1) % 5)), (sSS.2 0)), (2, (aa ((1 + sSS.1) % 5)), (sSS.2 1)), (2, (aa ((2 + sSS.1) % 5)), (sSS.2 2)), (2, (aa ((3 + sSS.1) % 5)), (sSS.2 3)), (2, (aa ((4 + sSS.1) % 5)), (sSS.2 4)), (5, qD, sD)] (fun r_42 => [(4, (zqx qX aa sSS.1), r_42.2.1), (3, qT, sT), (1, qM, r_42.2.2.1), (0, qL, r_42.2.2.2.2), (2, qP, r_42.2.2.2.1), (2, qB, sB), (2, (aa ((0 + sSS.1) % 5)), (sSS.2 0)), (2, (aa ((1 + sSS.1) % 5)), (sSS.2 1)), (2, (aa ((2 + sSS.1) % 5)), (sSS.2 2)), (2, (aa ((3 + sSS.1) % 5)), (sSS.2 3)), (2, (aa ((4 + sSS.1) % 5)), (sSS.2 4)), (5, qD, sD)]) C dL_law_504 zy_X4_count zw_484 (fun _ hr9 => mX4_count hM50 hM51 hX50 hX52 hX53 hr9) (by decide) rfl rfl (by decide) rfl (Nat.le_of_ble_eq_true rfl) (z_pn 12 _ rfl [0, 2, 4, 3, 1, 5, 6, 7, 8, 9, 10, 11] (by decide)).symm (fun _ => (z_pn 12 _ rfl [0, 4, 1, 3, 2, 5, 6, 7, 8, 9, 10, 11] (by decide)).symm) rfl (fun r_42 hr_43 => ?_)
  show zJ X 4 (1 : Int32) _ 507 [(0, (.ref b)), (1, (.ref (qX 0))), (2, (.ref (qD 0))), (3, (.int x3))] [(.int r_42.1)] [(4, (zqx qX aa sSS.1), r_42.2.1), (3, qT, sT), (1, qM, r_42.2.2.1), (0, qL, r_42.2.2.2.2), (2, qP, r_42.2.2.2.1), (2, qB, sB), (2, (aa ((0 + sSS.1) % 5)), (sSS.2 0)), (2, (aa ((1 + sSS.1) % 5)), (sSS.2 1)), (2, (aa ((2 + sSS.1) % 5)), (sSS.2 2)), (2, (aa ((3 + sSS.1) % 5)), (sSS.2 3)), (2, (aa ((4 + sSS.1) % 5)), (sSS.2 4)), (5, qD, sD)]
  refine z_aload_n (pc := 507) 2 rfl rfl C dL_law_507 ?_
  refine z_aload_n (pc := 508) 0 rfl rfl C dL_law_508 ?_
  refine z_iload_n (pc := 509) 3 rfl rfl C dL_law_509 ?_
  refine z_iconst (pc := 510) (1 : Int32) (by decide) C dL_law_510 ?_
  refine z_iadd (pc := 511) C dL_law_511 ?_
  refine z_sld (pc := 512) C hR dL_law_512 ?_
  refine z_callV (pc := 513) (rf' := 8) (rl' := 181) (fX5_count F (xs (x3 + (1 : Int32)).toNatClampNeg) sD) [(.int (xs (x3 + (1 : Int32)).toNatClampNeg))] [(.int r_42.1)] [(5, qD, sD)] (fun r_44 => (some (.int r_44.1))) (fun r_44 => [(5, qD, r_44.2)]) [(4, (zqx qX aa sSS.1), r_42.2.1), (3, qT, sT), (1, qM, r_42.2.2.1), (0, qL, r_42.2.2.2.2), (2, qP, r_42.2.2.2.1), (2, qB, sB), (2, (aa ((0 + sSS.1) % 5)), (sSS.2 0)), (2, (aa ((1 + sSS.1) % 5)), (sSS.2 1)), (2, (aa ((2 + sSS.1) % 5)), (sSS.2 2)), (2, (aa ((3 + sSS.1) % 5)), (sSS.2 3)), (2, (aa ((4 + sSS.1) % 5)), (sSS.2 4))] (fun r_44 => [(4, (zqx qX aa sSS.1), r_42.2.1), (3, qT, sT), (1, qM, r_42.2.2.1), (0, qL, r_42.2.2.2.2), (2, qP, r_42.2.2.2.1), (2, qB, sB), (2, (aa ((0 + sSS.1) % 5)), (sSS.2 0)), (2, (aa ((1 + sSS.1) % 5)), (sSS.2 1)), (2, (aa ((2 + sSS.1) % 5)), (sSS.2 2)), (2, (aa ((3 + sSS.1) % 5)), (sSS.2 3)), (2, (aa ((4 + sSS.1) % 5)), (sSS.2 4)), (5, qD, r_44.2)]) C dL_law_513 zy_X5_count zw_978 (fun _ hr9 => mX5_count  hr9) (by decide) rfl rfl (by decide) rfl (Nat.le_of_ble_eq_true rfl) (z_pn 12 _ rfl [11, 0, 1, 2, 3, 4, 5, 6, 7, 8, 9, 10] (by decide)).symm (fun _ => (z_pn 12 _ rfl [1, 2, 3, 4, 5, 6, 7, 8, 9, 10, 11, 0] (by decide)).symm) rfl (fun r_44 hr_45 => ?_)
  show zJ X 4 (1 : Int32) _ 516 [(0, (.ref b)), (1, (.ref (qX 0))), (2, (.ref (qD 0))), (3, (.int x3))] [(.int r_44.1), (.int r_42.1)] [(4, (zqx qX aa sSS.1), r_42.2.1), (3, qT, sT), (1, qM, r_42.2.2.1), (0, qL, r_42.2.2.2.2), (2, qP, r_42.2.2.2.1), (2, qB, sB), (2, (aa ((0 + sSS.1) % 5)), (sSS.2 0)), (2, (aa ((1 + sSS.1) % 5)), (sSS.2 1)), (2, (aa ((2 + sSS.1) % 5)), (sSS.2 2)), (2, (aa ((3 + sSS.1) % 5)), (sSS.2 3)), (2, (aa ((4 + sSS.1) % 5)), (sSS.2 4)), (5, qD, r_44.2)]
  refine z_icmp_eq (pc := 516) 867 C dL_law_516 (by decide) ?_ ?_
  · refine z_iinc (pc := 867) (x3 + 6) 3 rfl rfl [(0, (.ref b)), (1, (.ref (qX 0))), (2, (.ref (qD 0))), (3, (.int (x3 + 6)))] [1, 2, 3, 0] (by decide) rfl C dL_law_867 ?_
    refine z_goto (pc := 870) 18 C dL_law_870 (by decide) ?_
    exact hk_18 _ _ _ _ _ _ _ _ _
  · refine z_iconst (pc := 519) (0 : Int32) (by decide) C dL_law_519 ?_
    exact z_lawret (pc := 520) C hR dL_law_520
def jL_law_521 (F : Nat) (L : Nat) (xs : Nat → Int32) (kc_18 : (Int32 × zOS × zOS × zOS × zOS × zOS × zOS × zSS × zOS) → Option (Int32)) (x3 : Int32) (sX : zOS) (sT : zOS) (sM : zOS) (sL : zOS) (sP : zOS) (sB : zOS) (sSS : zSS) (sD : zOS) : Option (Int32) := (zchk (x3 + (1 : Int32)) L (zchk (x3 + (2 : Int32)) L (Option.bind (fX4_gateAt F (xs (x3 + (1 : Int32)).toNatClampNeg) (xs (x3 + (2 : Int32)).toNatClampNeg) sX sL sP) (fun r_47 : Int32 × zOS × zOS => (zchk (x3 + (1 : Int32)) L (zchk (x3 + (2 : Int32)) L (Option.bind (fX5_gateAt F (xs (x3 + (1 : Int32)).toNatClampNeg) (xs (x3 + (2 : Int32)).toNatClampNeg) sD) (fun r_49 : Int32 × zOS => (if r_47.1 = r_49.1 then (kc_18 ((x3 + 6), r_47.2.1, sT, sM, r_47.2.2, sP, sB, sSS, r_49.2)) else (zbk (0 : Int32) (some (0 : Int32))))))))))))
set_option maxRecDepth 20000 in
theorem wL_law_521 {X : zCx} {F b L : Nat} {xs : Nat → Int32} {qX : Nat → Nat} {qT : Nat → Nat} {qM : Nat → Nat} {qL : Nat → Nat} {qP : Nat → Nat} {qB : Nat → Nat} {qD : Nat → Nat} {aa : Nat → Nat → Nat} {kc_18 : (Int32 × zOS × zOS × zOS × zOS × zOS × zOS × zSS × zOS) → Option (Int32)} (C : zC X R_law code 4 24 558) (hR : zLw X b L xs) (hM50 : qM 50 = qP 0) (hM51 : qM 51 = qL 0) (hX50 : qX 50 = qP 0) (hX51 : qX 51 = qB 0) (hX52 : qX 52 = qL 0) (hX53 : qX 53 = qM 0) (hX54 : qX 54 = qT 0) (hk_18 : ∀ (y3 : Int32) (tX : zOS) (tT : zOS) (tM : zOS) (tL : zOS) (tP : zOS) (tB : zOS) (tSS : zSS) (tD : zOS), zJ X 4 (1 : Int32) (kc_18 (y3, tX, tT, tM, tL, tP, tB, tSS, tD)) 18 [(0, (.ref b)), (1, (.ref (qX 0))), (2, (.ref (qD 0))), (3, (.int y3))] [] [(4, (zqx qX aa tSS.1), tX), (3, qT, tT), (1, qM, tM), (0, qL, tL), (2, qP, tP), (2, qB, tB), (2, (aa ((0 + tSS.1) % 5)), (tSS.2 0)), (2, (aa ((1 + tSS.1) % 5)), (tSS.2 1)), (2, (aa ((2 + tSS.1) % 5)), (tSS.2 2)), (2, (aa ((3 + tSS.1) % 5)), (tSS.2 3)), (2, (aa ((4 + tSS.1) % 5)), (tSS.2 4)), (5, qD, tD)]) (x3 : Int32) (sX : zOS) (sT : zOS) (sM : zOS) (sL : zOS) (sP : zOS) (sB : zOS) (sSS : zSS) (sD : zOS) : zJ X 4 (1 : Int32) (jL_law_521 F L xs kc_18 x3 sX sT sM sL sP sB sSS sD) 521 [(0, (.ref b)), (1, (.ref (qX 0))), (2, (.ref (qD 0))), (3, (.int x3))] [] [(4, (zqx qX aa sSS.1), sX), (3, qT, sT), (1, qM, sM), (0, qL, sL), (2, qP, sP), (2, qB, sB), (2, (aa ((0 + sSS.1) % 5)), (sSS.2 0)), (2, (aa ((1 + sSS.1) % 5)), (sSS.2 1)), (2, (aa ((2 + sSS.1) % 5)), (sSS.2 2)), (2, (aa ((3 + sSS.1) % 5)), (sSS.2 3)), (2, (aa ((4 + sSS.1) % 5)), (sSS.2 4)), (5, qD, sD)] := by
  unfold jL_law_521
  refine z_aload_n (pc := 521) 1 rfl rfl C dL_law_521 ?_
  refine z_aload_n (pc := 522) 0 rfl rfl C dL_law_522 ?_
  refine z_iload_n (pc := 523) 3 rfl rfl C dL_law_523 ?_
  refine z_iconst (pc := 524) (1 : Int32) (by decide) C dL_law_524 ?_
  refine z_iadd (pc := 525) C dL_law_525 ?_
  refine z_sld (pc := 526) C hR dL_law_526 ?_
  refine z_aload_n (pc := 527) 0 rfl rfl C dL_law_527 ?_
  refine z_iload_n (pc := 528) 3 rfl rfl C dL_law_528 ?_
  refine z_iconst (pc := 529) (2 : Int32) (by decide) C dL_law_529 ?_
  refine z_iadd (pc := 530) C dL_law_530 ?_
  refine z_sld (pc := 531) C hR dL_law_531 ?_
  refine z_callV (q' := (zqx qX aa sSS.1)) (pc := 532) (rf' := 6) (rl' := 132) (fX4_gateAt F (xs (x3 + (1 : Int32)).toNatClampNeg) (xs (x3 + (2 : Int32)).toNatClampNeg) sX sL sP) [(.int (xs (x3 + (1 : Int32)).toNatClampNeg)), (.int (xs (x3 + (2 : Int32)).toNatClampNeg))] [] [(4, (zqx qX aa sSS.1), sX), (0, qL, sL), (2, qP, sP)] (fun r_47 => (some (.int r_47.1))) (fun r_47 => [(4, (zqx qX aa sSS.1), r_47.2.1), (0, qL, r_47.2.2), (2, qP, sP)]) [(3, qT, sT), (1, qM, sM), (2, qB, sB), (2, (aa ((0 + sSS.1) % 5)), (sSS.2 0)), (2, (aa ((1 + sSS.1) % 5)), (sSS.2 1)), (2, (aa ((2 + sSS.1) % 5)), (sSS.2 2)), (2, (aa ((3 + sSS.1) % 5)), (sSS.2 3)), (2, (aa ((4 + sSS.1) % 5)), (sSS.2 4)), (5, qD, sD)] (fun r_47 => [(4, (zqx qX aa sSS.1), r_47.2.1), (3, qT, sT), (1, qM, sM), (0, qL, r_47.2.2), (2, qP, sP), (2, qB, sB), (2, (aa ((0 + sSS.1) % 5)), (sSS.2 0)), (2, (aa ((1 + sSS.1) % 5)), (sSS.2 1)), (2, (aa ((2 + sSS.1) % 5)), (sSS.2 2)), (2, (aa ((3 + sSS.1) % 5)), (sSS.2 3)), (2, (aa ((4 + sSS.1) % 5)), (sSS.2 4)), (5, qD, sD)]) C dL_law_532 zy_X4_gateAt zw_582 (fun _ hr9 => mX4_gateAt hX50 hX52 hr9) (by decide) rfl rfl (by decide) rfl (Nat.le_of_ble_eq_true rfl) (z_pn 12 _ rfl [0, 3, 4, 1, 2, 5, 6, 7, 8, 9, 10, 11] (by decide)).symm (fun _ => (z_pn 12 _ rfl [0, 3, 4, 1, 2, 5, 6, 7, 8, 9, 10, 11] (by decide)).symm) rfl (fun r_47 hr_48 => ?_)
  show zJ X 4 (1 : Int32) _ 535 [(0, (.ref b)), (1, (.ref (qX 0))), (2, (.ref (qD 0))), (3, (.int x3))] [(.int r_47.1)] [(4, (zqx qX aa sSS.1), r_47.2.1), (3, qT, sT), (1, qM, sM), (0, qL, r_47.2.2), (2, qP, sP), (2, qB, sB), (2, (aa ((0 + sSS.1) % 5)), (sSS.2 0)), (2, (aa ((1 + sSS.1) % 5)), (sSS.2 1)), (2, (aa ((2 + sSS.1) % 5)), (sSS.2 2)), (2, (aa ((3 + sSS.1) % 5)), (sSS.2 3)), (2, (aa ((4 + sSS.1) % 5)), (sSS.2 4)), (5, qD, sD)]
  refine z_aload_n (pc := 535) 2 rfl rfl C dL_law_535 ?_
  refine z_aload_n (pc := 536) 0 rfl rfl C dL_law_536 ?_
  refine z_iload_n (pc := 537) 3 rfl rfl C dL_law_537 ?_
  refine z_iconst (pc := 538) (1 : Int32) (by decide) C dL_law_538 ?_
  refine z_iadd (pc := 539) C dL_law_539 ?_
  refine z_sld (pc := 540) C hR dL_law_540 ?_
  refine z_aload_n (pc := 541) 0 rfl rfl C dL_law_541 ?_
  refine z_iload_n (pc := 542) 3 rfl rfl C dL_law_542 ?_
  refine z_iconst (pc := 543) (2 : Int32) (by decide) C dL_law_543 ?_
  refine z_iadd (pc := 544) C dL_law_544 ?_
  refine z_sld (pc := 545) C hR dL_law_545 ?_
  refine z_callV (pc := 546) (rf' := 7) (rl' := 160) (fX5_gateAt F (xs (x3 + (1 : Int32)).toNatClampNeg) (xs (x3 + (2 : Int32)).toNatClampNeg) sD) [(.int (xs (x3 + (1 : Int32)).toNatClampNeg)), (.int (xs (x3 + (2 : Int32)).toNatClampNeg))] [(.int r_47.1)] [(5, qD, sD)] (fun r_49 => (some (.int r_49.1))) (fun r_49 => [(5, qD, r_49.2)]) [(4, (zqx qX aa sSS.1), r_47.2.1), (3, qT, sT), (1, qM, sM), (0, qL, r_47.2.2), (2, qP, sP), (2, qB, sB), (2, (aa ((0 + sSS.1) % 5)), (sSS.2 0)), (2, (aa ((1 + sSS.1) % 5)), (sSS.2 1)), (2, (aa ((2 + sSS.1) % 5)), (sSS.2 2)), (2, (aa ((3 + sSS.1) % 5)), (sSS.2 3)), (2, (aa ((4 + sSS.1) % 5)), (sSS.2 4))] (fun r_49 => [(4, (zqx qX aa sSS.1), r_47.2.1), (3, qT, sT), (1, qM, sM), (0, qL, r_47.2.2), (2, qP, sP), (2, qB, sB), (2, (aa ((0 + sSS.1) % 5)), (sSS.2 0)), (2, (aa ((1 + sSS.1) % 5)), (sSS.2 1)), (2, (aa ((2 + sSS.1) % 5)), (sSS.2 2)), (2, (aa ((3 + sSS.1) % 5)), (sSS.2 3)), (2, (aa ((4 + sSS.1) % 5)), (sSS.2 4)), (5, qD, r_49.2)]) C dL_law_546 zy_X5_gateAt zw_1014 (fun _ hr9 => mX5_gateAt  hr9) (by decide) rfl rfl (by decide) rfl (Nat.le_of_ble_eq_true rfl) (z_pn 12 _ rfl [11, 0, 1, 2, 3, 4, 5, 6, 7, 8, 9, 10] (by decide)).symm (fun _ => (z_pn 12 _ rfl [1, 2, 3, 4, 5, 6, 7, 8, 9, 10, 11, 0] (by decide)).symm) rfl (fun r_49 hr_50 => ?_)
  show zJ X 4 (1 : Int32) _ 549 [(0, (.ref b)), (1, (.ref (qX 0))), (2, (.ref (qD 0))), (3, (.int x3))] [(.int r_49.1), (.int r_47.1)] [(4, (zqx qX aa sSS.1), r_47.2.1), (3, qT, sT), (1, qM, sM), (0, qL, r_47.2.2), (2, qP, sP), (2, qB, sB), (2, (aa ((0 + sSS.1) % 5)), (sSS.2 0)), (2, (aa ((1 + sSS.1) % 5)), (sSS.2 1)), (2, (aa ((2 + sSS.1) % 5)), (sSS.2 2)), (2, (aa ((3 + sSS.1) % 5)), (sSS.2 3)), (2, (aa ((4 + sSS.1) % 5)), (sSS.2 4)), (5, qD, r_49.2)]
  refine z_icmp_eq (pc := 549) 867 C dL_law_549 (by decide) ?_ ?_
  · refine z_iinc (pc := 867) (x3 + 6) 3 rfl rfl [(0, (.ref b)), (1, (.ref (qX 0))), (2, (.ref (qD 0))), (3, (.int (x3 + 6)))] [1, 2, 3, 0] (by decide) rfl C dL_law_867 ?_
    refine z_goto (pc := 870) 18 C dL_law_870 (by decide) ?_
    exact hk_18 _ _ _ _ _ _ _ _ _
  · refine z_iconst (pc := 552) (0 : Int32) (by decide) C dL_law_552 ?_
    exact z_lawret (pc := 553) C hR dL_law_553
def jL_law_554 (F : Nat) (L : Nat) (xs : Nat → Int32) (kc_18 : (Int32 × zOS × zOS × zOS × zOS × zOS × zOS × zSS × zOS) → Option (Int32)) (x3 : Int32) (sX : zOS) (sT : zOS) (sM : zOS) (sL : zOS) (sP : zOS) (sB : zOS) (sSS : zSS) (sD : zOS) : Option (Int32) := (zchk (x3 + (1 : Int32)) L (zchk (x3 + (2 : Int32)) L (Option.bind (fX4_gate F (xs (x3 + (1 : Int32)).toNatClampNeg) (xs (x3 + (2 : Int32)).toNatClampNeg) sX sL sP) (fun r_52 : Int32 × zOS × zOS => (zchk (x3 + (1 : Int32)) L (zchk (x3 + (2 : Int32)) L (Option.bind (fX5_gate F (xs (x3 + (1 : Int32)).toNatClampNeg) (xs (x3 + (2 : Int32)).toNatClampNeg) sD) (fun r_54 : Int32 × zOS => (if r_52.1 = r_54.1 then (kc_18 ((x3 + 6), r_52.2.1, sT, sM, r_52.2.2, sP, sB, sSS, r_54.2)) else (zbk (0 : Int32) (some (0 : Int32))))))))))))
set_option maxRecDepth 20000 in
theorem wL_law_554 {X : zCx} {F b L : Nat} {xs : Nat → Int32} {qX : Nat → Nat} {qT : Nat → Nat} {qM : Nat → Nat} {qL : Nat → Nat} {qP : Nat → Nat} {qB : Nat → Nat} {qD : Nat → Nat} {aa : Nat → Nat → Nat} {kc_18 : (Int32 × zOS × zOS × zOS × zOS × zOS × zOS × zSS × zOS) → Option (Int32)} (C : zC X R_law code 4 24 558) (hR : zLw X b L xs) (hM50 : qM 50 = qP 0) (hM51 : qM 51 = qL 0) (hX50 : qX 50 = qP 0) (hX51 : qX 51 = qB 0) (hX52 : qX 52 = qL 0) (hX53 : qX 53 = qM 0) (hX54 : qX 54 = qT 0) (hk_18 : ∀ (y3 : Int32) (tX : zOS) (tT : zOS) (tM : zOS) (tL : zOS) (tP : zOS) (tB : zOS) (tSS : zSS) (tD : zOS), zJ X 4 (1 : Int32) (kc_18 (y3, tX, tT, tM, tL, tP, tB, tSS, tD)) 18 [(0, (.ref b)), (1, (.ref (qX 0))), (2, (.ref (qD 0))), (3, (.int y3))] [] [(4, (zqx qX aa tSS.1), tX), (3, qT, tT), (1, qM, tM), (0, qL, tL), (2, qP, tP), (2, qB, tB), (2, (aa ((0 + tSS.1) % 5)), (tSS.2 0)), (2, (aa ((1 + tSS.1) % 5)), (tSS.2 1)), (2, (aa ((2 + tSS.1) % 5)), (tSS.2 2)), (2, (aa ((3 + tSS.1) % 5)), (tSS.2 3)), (2, (aa ((4 + tSS.1) % 5)), (tSS.2 4)), (5, qD, tD)]) (x3 : Int32) (sX : zOS) (sT : zOS) (sM : zOS) (sL : zOS) (sP : zOS) (sB : zOS) (sSS : zSS) (sD : zOS) : zJ X 4 (1 : Int32) (jL_law_554 F L xs kc_18 x3 sX sT sM sL sP sB sSS sD) 554 [(0, (.ref b)), (1, (.ref (qX 0))), (2, (.ref (qD 0))), (3, (.int x3))] [] [(4, (zqx qX aa sSS.1), sX), (3, qT, sT), (1, qM, sM), (0, qL, sL), (2, qP, sP), (2, qB, sB), (2, (aa ((0 + sSS.1) % 5)), (sSS.2 0)), (2, (aa ((1 + sSS.1) % 5)), (sSS.2 1)), (2, (aa ((2 + sSS.1) % 5)), (sSS.2 2)), (2, (aa ((3 + sSS.1) % 5)), (sSS.2 3)), (2, (aa ((4 + sSS.1) % 5)), (sSS.2 4)), (5, qD, sD)] := by
  unfold jL_law_554
  refine z_aload_n (pc := 554) 1 rfl rfl C dL_law_554 ?_
  refine z_aload_n (pc := 555) 0 rfl rfl C dL_law_555 ?_
  refine z_iload_n (pc := 556) 3 rfl rfl C dL_law_556 ?_
  refine z_iconst (pc := 557) (1 : Int32) (by decide) C dL_law_557 ?_
  refine z_iadd (pc := 558) C dL_law_558 ?_
  refine z_sld (pc := 559) C hR dL_law_559 ?_
  refine z_aload_n (pc := 560) 0 rfl rfl C dL_law_560 ?_
  refine z_iload_n (pc := 561) 3 rfl rfl C dL_law_561 ?_
  refine z_iconst (pc := 562) (2 : Int32) (by decide) C dL_law_562 ?_
  refine z_iadd (pc := 563) C dL_law_563 ?_
  refine z_sld (pc := 564) C hR dL_law_564 ?_
  refine z_callV (q' := (zqx qX aa sSS.1)) (pc := 565) (rf' := 6) (rl' := 132) (fX4_gate F (xs (x3 + (1 : Int32)).toNatClampNeg) (xs (x3 + (2 : Int32)).toNatClampNeg) sX sL sP) [(.int (xs (x3 + (1 : Int32)).toNatClampNeg)), (.int (xs (x3 + (2 : Int32)).toNatClampNeg))] [] [(4, (zqx qX aa sSS.1), sX), (0, qL, sL), (2, qP, sP)] (fun r_52 => (some (.int r_52.1))) (fun r_52 => [(4, (zqx qX aa sSS.1), r_52.2.1), (0, qL, r_52.2.2), (2, qP, sP)]) [(3, qT, sT), (1, qM, sM), (2, qB, sB), (2, (aa ((0 + sSS.1) % 5)), (sSS.2 0)), (2, (aa ((1 + sSS.1) % 5)), (sSS.2 1)), (2, (aa ((2 + sSS.1) % 5)), (sSS.2 2)), (2, (aa ((3 + sSS.1) % 5)), (sSS.2 3)), (2, (aa ((4 + sSS.1) % 5)), (sSS.2 4)), (5, qD, sD)] (fun r_52 => [(4, (zqx qX aa sSS.1), r_52.2.1), (3, qT, sT), (1, qM, sM), (0, qL, r_52.2.2), (2, qP, sP), (2, qB, sB), (2, (aa ((0 + sSS.1) % 5)), (sSS.2 0)), (2, (aa ((1 + sSS.1) % 5)), (sSS.2 1)), (2, (aa ((2 + sSS.1) % 5)), (sSS.2 2)), (2, (aa ((3 + sSS.1) % 5)), (sSS.2 3)), (2, (aa ((4 + sSS.1) % 5)), (sSS.2 4)), (5, qD, sD)]) C dL_law_565 zy_X4_gate zw_590 (fun _ hr9 => mX4_gate hX50 hX52 hr9) (by decide) rfl rfl (by decide) rfl (Nat.le_of_ble_eq_true rfl) (z_pn 12 _ rfl [0, 3, 4, 1, 2, 5, 6, 7, 8, 9, 10, 11] (by decide)).symm (fun _ => (z_pn 12 _ rfl [0, 3, 4, 1, 2, 5, 6, 7, 8, 9, 10, 11] (by decide)).symm) rfl (fun r_52 hr_53 => ?_)
  show zJ X 4 (1 : Int32) _ 568 [(0, (.ref b)), (1, (.ref (qX 0))), (2, (.ref (qD 0))), (3, (.int x3))] [(.int r_52.1)] [(4, (zqx qX aa sSS.1), r_52.2.1), (3, qT, sT), (1, qM, sM), (0, qL, r_52.2.2), (2, qP, sP), (2, qB, sB), (2, (aa ((0 + sSS.1) % 5)), (sSS.2 0)), (2, (aa ((1 + sSS.1) % 5)), (sSS.2 1)), (2, (aa ((2 + sSS.1) % 5)), (sSS.2 2)), (2, (aa ((3 + sSS.1) % 5)), (sSS.2 3)), (2, (aa ((4 + sSS.1) % 5)), (sSS.2 4)), (5, qD, sD)]
  refine z_aload_n (pc := 568) 2 rfl rfl C dL_law_568 ?_
  refine z_aload_n (pc := 569) 0 rfl rfl C dL_law_569 ?_
  refine z_iload_n (pc := 570) 3 rfl rfl C dL_law_570 ?_
  refine z_iconst (pc := 571) (1 : Int32) (by decide) C dL_law_571 ?_
  refine z_iadd (pc := 572) C dL_law_572 ?_
  refine z_sld (pc := 573) C hR dL_law_573 ?_
  refine z_aload_n (pc := 574) 0 rfl rfl C dL_law_574 ?_
  refine z_iload_n (pc := 575) 3 rfl rfl C dL_law_575 ?_
  refine z_iconst (pc := 576) (2 : Int32) (by decide) C dL_law_576 ?_
  refine z_iadd (pc := 577) C dL_law_577 ?_
  refine z_sld (pc := 578) C hR dL_law_578 ?_
  refine z_callV (pc := 579) (rf' := 7) (rl' := 160) (fX5_gate F (xs (x3 + (1 : Int32)).toNatClampNeg) (xs (x3 + (2 : Int32)).toNatClampNeg) sD) [(.int (xs (x3 + (1 : Int32)).toNatClampNeg)), (.int (xs (x3 + (2 : Int32)).toNatClampNeg))] [(.int r_52.1)] [(5, qD, sD)] (fun r_54 => (some (.int r_54.1))) (fun r_54 => [(5, qD, r_54.2)]) [(4, (zqx qX aa sSS.1), r_52.2.1), (3, qT, sT), (1, qM, sM), (0, qL, r_52.2.2), (2, qP, sP), (2, qB, sB), (2, (aa ((0 + sSS.1) % 5)), (sSS.2 0)), (2, (aa ((1 + sSS.1) % 5)), (sSS.2 1)), (2, (aa ((2 + sSS.1) % 5)), (sSS.2 2)), (2, (aa ((3 + sSS.1) % 5)), (sSS.2 3)), (2, (aa ((4 + sSS.1) % 5)), (sSS.2 4))] (fun r_54 => [(4, (zqx qX aa sSS.1), r_52.2.1), (3, qT, sT), (1, qM, sM), (0, qL, r_52.2.2), (2, qP, sP), (2, qB, sB), (2, (aa ((0 + sSS.1) % 5)), (sSS.2 0)), (2, (aa ((1 + sSS.1) % 5)), (sSS.2 1)), (2, (aa ((2 + sSS.1) % 5)), (sSS.2 2)), (2, (aa ((3 + sSS.1) % 5)), (sSS.2 3)), (2, (aa ((4 + sSS.1) % 5)), (sSS.2 4)), (5, qD, r_54.2)]) C dL_law_579 zy_X5_gate zw_1018 (fun _ hr9 => mX5_gate  hr9) (by decide) rfl rfl (by decide) rfl (Nat.le_of_ble_eq_true rfl) (z_pn 12 _ rfl [11, 0, 1, 2, 3, 4, 5, 6, 7, 8, 9, 10] (by decide)).symm (fun _ => (z_pn 12 _ rfl [1, 2, 3, 4, 5, 6, 7, 8, 9, 10, 11, 0] (by decide)).symm) rfl (fun r_54 hr_55 => ?_)
  show zJ X 4 (1 : Int32) _ 582 [(0, (.ref b)), (1, (.ref (qX 0))), (2, (.ref (qD 0))), (3, (.int x3))] [(.int r_54.1), (.int r_52.1)] [(4, (zqx qX aa sSS.1), r_52.2.1), (3, qT, sT), (1, qM, sM), (0, qL, r_52.2.2), (2, qP, sP), (2, qB, sB), (2, (aa ((0 + sSS.1) % 5)), (sSS.2 0)), (2, (aa ((1 + sSS.1) % 5)), (sSS.2 1)), (2, (aa ((2 + sSS.1) % 5)), (sSS.2 2)), (2, (aa ((3 + sSS.1) % 5)), (sSS.2 3)), (2, (aa ((4 + sSS.1) % 5)), (sSS.2 4)), (5, qD, r_54.2)]
  refine z_icmp_eq (pc := 582) 867 C dL_law_582 (by decide) ?_ ?_
  · refine z_iinc (pc := 867) (x3 + 6) 3 rfl rfl [(0, (.ref b)), (1, (.ref (qX 0))), (2, (.ref (qD 0))), (3, (.int (x3 + 6)))] [1, 2, 3, 0] (by decide) rfl C dL_law_867 ?_
    refine z_goto (pc := 870) 18 C dL_law_870 (by decide) ?_
    exact hk_18 _ _ _ _ _ _ _ _ _
  · refine z_iconst (pc := 585) (0 : Int32) (by decide) C dL_law_585 ?_
    exact z_lawret (pc := 586) C hR dL_law_586
def jL_law_587 (F : Nat) (L : Nat) (xs : Nat → Int32) (kc_18 : (Int32 × zOS × zOS × zOS × zOS × zOS × zOS × zSS × zOS) → Option (Int32)) (x3 : Int32) (sX : zOS) (sT : zOS) (sM : zOS) (sL : zOS) (sP : zOS) (sB : zOS) (sSS : zSS) (sD : zOS) : Option (Int32) := (zchk (x3 + (1 : Int32)) L (zchk (x3 + (2 : Int32)) L (Option.bind (fX4_wire F (xs (x3 + (1 : Int32)).toNatClampNeg) (xs (x3 + (2 : Int32)).toNatClampNeg) sX sL sP) (fun r_57 : Int32 × zOS × zOS => (zchk (x3 + (1 : Int32)) L (zchk (x3 + (2 : Int32)) L (Option.bind (fX5_wire F (xs (x3 + (1 : Int32)).toNatClampNeg) (xs (x3 + (2 : Int32)).toNatClampNeg) sD) (fun r_59 : Int32 × zOS => (if r_57.1 = r_59.1 then (kc_18 ((x3 + 6), r_57.2.1, sT, sM, r_57.2.2, sP, sB, sSS, r_59.2)) else (zbk (0 : Int32) (some (0 : Int32))))))))))))
set_option maxRecDepth 20000 in
theorem wL_law_587 {X : zCx} {F b L : Nat} {xs : Nat → Int32} {qX : Nat → Nat} {qT : Nat → Nat} {qM : Nat → Nat} {qL : Nat → Nat} {qP : Nat → Nat} {qB : Nat → Nat} {qD : Nat → Nat} {aa : Nat → Nat → Nat} {kc_18 : (Int32 × zOS × zOS × zOS × zOS × zOS × zOS × zSS × zOS) → Option (Int32)} (C : zC X R_law code 4 24 558) (hR : zLw X b L xs) (hM50 : qM 50 = qP 0) (hM51 : qM 51 = qL 0) (hX50 : qX 50 = qP 0) (hX51 : qX 51 = qB 0) (hX52 : qX 52 = qL 0) (hX53 : qX 53 = qM 0) (hX54 : qX 54 = qT 0) (hk_18 : ∀ (y3 : Int32) (tX : zOS) (tT : zOS) (tM : zOS) (tL : zOS) (tP : zOS) (tB : zOS) (tSS : zSS) (tD : zOS), zJ X 4 (1 : Int32) (kc_18 (y3, tX, tT, tM, tL, tP, tB, tSS, tD)) 18 [(0, (.ref b)), (1, (.ref (qX 0))), (2, (.ref (qD 0))), (3, (.int y3))] [] [(4, (zqx qX aa tSS.1), tX), (3, qT, tT), (1, qM, tM), (0, qL, tL), (2, qP, tP), (2, qB, tB), (2, (aa ((0 + tSS.1) % 5)), (tSS.2 0)), (2, (aa ((1 + tSS.1) % 5)), (tSS.2 1)), (2, (aa ((2 + tSS.1) % 5)), (tSS.2 2)), (2, (aa ((3 + tSS.1) % 5)), (tSS.2 3)), (2, (aa ((4 + tSS.1) % 5)), (tSS.2 4)), (5, qD, tD)]) (x3 : Int32) (sX : zOS) (sT : zOS) (sM : zOS) (sL : zOS) (sP : zOS) (sB : zOS) (sSS : zSS) (sD : zOS) : zJ X 4 (1 : Int32) (jL_law_587 F L xs kc_18 x3 sX sT sM sL sP sB sSS sD) 587 [(0, (.ref b)), (1, (.ref (qX 0))), (2, (.ref (qD 0))), (3, (.int x3))] [] [(4, (zqx qX aa sSS.1), sX), (3, qT, sT), (1, qM, sM), (0, qL, sL), (2, qP, sP), (2, qB, sB), (2, (aa ((0 + sSS.1) % 5)), (sSS.2 0)), (2, (aa ((1 + sSS.1) % 5)), (sSS.2 1)), (2, (aa ((2 + sSS.1) % 5)), (sSS.2 2)), (2, (aa ((3 + sSS.1) % 5)), (sSS.2 3)), (2, (aa ((4 + sSS.1) % 5)), (sSS.2 4)), (5, qD, sD)] := by
  unfold jL_law_587
  refine z_aload_n (pc := 587) 1 rfl rfl C dL_law_587 ?_
  refine z_aload_n (pc := 588) 0 rfl rfl C dL_law_588 ?_
  refine z_iload_n (pc := 589) 3 rfl rfl C dL_law_589 ?_
  refine z_iconst (pc := 590) (1 : Int32) (by decide) C dL_law_590 ?_
  refine z_iadd (pc := 591) C dL_law_591 ?_
  refine z_sld (pc := 592) C hR dL_law_592 ?_
  refine z_aload_n (pc := 593) 0 rfl rfl C dL_law_593 ?_
  refine z_iload_n (pc := 594) 3 rfl rfl C dL_law_594 ?_
  refine z_iconst (pc := 595) (2 : Int32) (by decide) C dL_law_595 ?_
  refine z_iadd (pc := 596) C dL_law_596 ?_
  refine z_sld (pc := 597) C hR dL_law_597 ?_
  refine z_callV (q' := (zqx qX aa sSS.1)) (pc := 598) (rf' := 6) (rl' := 132) (fX4_wire F (xs (x3 + (1 : Int32)).toNatClampNeg) (xs (x3 + (2 : Int32)).toNatClampNeg) sX sL sP) [(.int (xs (x3 + (1 : Int32)).toNatClampNeg)), (.int (xs (x3 + (2 : Int32)).toNatClampNeg))] [] [(4, (zqx qX aa sSS.1), sX), (0, qL, sL), (2, qP, sP)] (fun r_57 => (some (.int r_57.1))) (fun r_57 => [(4, (zqx qX aa sSS.1), r_57.2.1), (0, qL, r_57.2.2), (2, qP, sP)]) [(3, qT, sT), (1, qM, sM), (2, qB, sB), (2, (aa ((0 + sSS.1) % 5)), (sSS.2 0)), (2, (aa ((1 + sSS.1) % 5)), (sSS.2 1)), (2, (aa ((2 + sSS.1) % 5)), (sSS.2 2)), (2, (aa ((3 + sSS.1) % 5)), (sSS.2 3)), (2, (aa ((4 + sSS.1) % 5)), (sSS.2 4)), (5, qD, sD)] (fun r_57 => [(4, (zqx qX aa sSS.1), r_57.2.1), (3, qT, sT), (1, qM, sM), (0, qL, r_57.2.2), (2, qP, sP), (2, qB, sB), (2, (aa ((0 + sSS.1) % 5)), (sSS.2 0)), (2, (aa ((1 + sSS.1) % 5)), (sSS.2 1)), (2, (aa ((2 + sSS.1) % 5)), (sSS.2 2)), (2, (aa ((3 + sSS.1) % 5)), (sSS.2 3)), (2, (aa ((4 + sSS.1) % 5)), (sSS.2 4)), (5, qD, sD)]) C dL_law_598 zy_X4_wire zw_606 (fun _ hr9 => mX4_wire hX50 hX52 hr9) (by decide) rfl rfl (by decide) rfl (Nat.le_of_ble_eq_true rfl) (z_pn 12 _ rfl [0, 3, 4, 1, 2, 5, 6, 7, 8, 9, 10, 11] (by decide)).symm (fun _ => (z_pn 12 _ rfl [0, 3, 4, 1, 2, 5, 6, 7, 8, 9, 10, 11] (by decide)).symm) rfl (fun r_57 hr_58 => ?_)
  show zJ X 4 (1 : Int32) _ 601 [(0, (.ref b)), (1, (.ref (qX 0))), (2, (.ref (qD 0))), (3, (.int x3))] [(.int r_57.1)] [(4, (zqx qX aa sSS.1), r_57.2.1), (3, qT, sT), (1, qM, sM), (0, qL, r_57.2.2), (2, qP, sP), (2, qB, sB), (2, (aa ((0 + sSS.1) % 5)), (sSS.2 0)), (2, (aa ((1 + sSS.1) % 5)), (sSS.2 1)), (2, (aa ((2 + sSS.1) % 5)), (sSS.2 2)), (2, (aa ((3 + sSS.1) % 5)), (sSS.2 3)), (2, (aa ((4 + sSS.1) % 5)), (sSS.2 4)), (5, qD, sD)]
  refine z_aload_n (pc := 601) 2 rfl rfl C dL_law_601 ?_
  refine z_aload_n (pc := 602) 0 rfl rfl C dL_law_602 ?_
  refine z_iload_n (pc := 603) 3 rfl rfl C dL_law_603 ?_
  refine z_iconst (pc := 604) (1 : Int32) (by decide) C dL_law_604 ?_
  refine z_iadd (pc := 605) C dL_law_605 ?_
  refine z_sld (pc := 606) C hR dL_law_606 ?_
  refine z_aload_n (pc := 607) 0 rfl rfl C dL_law_607 ?_
  refine z_iload_n (pc := 608) 3 rfl rfl C dL_law_608 ?_
  refine z_iconst (pc := 609) (2 : Int32) (by decide) C dL_law_609 ?_
  refine z_iadd (pc := 610) C dL_law_610 ?_
  refine z_sld (pc := 611) C hR dL_law_611 ?_
  refine z_callV (pc := 612) (rf' := 7) (rl' := 160) (fX5_wire F (xs (x3 + (1 : Int32)).toNatClampNeg) (xs (x3 + (2 : Int32)).toNatClampNeg) sD) [(.int (xs (x3 + (1 : Int32)).toNatClampNeg)), (.int (xs (x3 + (2 : Int32)).toNatClampNeg))] [(.int r_57.1)] [(5, qD, sD)] (fun r_59 => (some (.int r_59.1))) (fun r_59 => [(5, qD, r_59.2)]) [(4, (zqx qX aa sSS.1), r_57.2.1), (3, qT, sT), (1, qM, sM), (0, qL, r_57.2.2), (2, qP, sP), (2, qB, sB), (2, (aa ((0 + sSS.1) % 5)), (sSS.2 0)), (2, (aa ((1 + sSS.1) % 5)), (sSS.2 1)), (2, (aa ((2 + sSS.1) % 5)), (sSS.2 2)), (2, (aa ((3 + sSS.1) % 5)), (sSS.2 3)), (2, (aa ((4 + sSS.1) % 5)), (sSS.2 4))] (fun r_59 => [(4, (zqx qX aa sSS.1), r_57.2.1), (3, qT, sT), (1, qM, sM), (0, qL, r_57.2.2), (2, qP, sP), (2, qB, sB), (2, (aa ((0 + sSS.1) % 5)), (sSS.2 0)), (2, (aa ((1 + sSS.1) % 5)), (sSS.2 1)), (2, (aa ((2 + sSS.1) % 5)), (sSS.2 2)), (2, (aa ((3 + sSS.1) % 5)), (sSS.2 3)), (2, (aa ((4 + sSS.1) % 5)), (sSS.2 4)), (5, qD, r_59.2)]) C dL_law_612 zy_X5_wire zw_1022 (fun _ hr9 => mX5_wire  hr9) (by decide) rfl rfl (by decide) rfl (Nat.le_of_ble_eq_true rfl) (z_pn 12 _ rfl [11, 0, 1, 2, 3, 4, 5, 6, 7, 8, 9, 10] (by decide)).symm (fun _ => (z_pn 12 _ rfl [1, 2, 3, 4, 5, 6, 7, 8, 9, 10, 11, 0] (by decide)).symm) rfl (fun r_59 hr_60 => ?_)
  show zJ X 4 (1 : Int32) _ 615 [(0, (.ref b)), (1, (.ref (qX 0))), (2, (.ref (qD 0))), (3, (.int x3))] [(.int r_59.1), (.int r_57.1)] [(4, (zqx qX aa sSS.1), r_57.2.1), (3, qT, sT), (1, qM, sM), (0, qL, r_57.2.2), (2, qP, sP), (2, qB, sB), (2, (aa ((0 + sSS.1) % 5)), (sSS.2 0)), (2, (aa ((1 + sSS.1) % 5)), (sSS.2 1)), (2, (aa ((2 + sSS.1) % 5)), (sSS.2 2)), (2, (aa ((3 + sSS.1) % 5)), (sSS.2 3)), (2, (aa ((4 + sSS.1) % 5)), (sSS.2 4)), (5, qD, r_59.2)]
  refine z_icmp_eq (pc := 615) 867 C dL_law_615 (by decide) ?_ ?_
  · refine z_iinc (pc := 867) (x3 + 6) 3 rfl rfl [(0, (.ref b)), (1, (.ref (qX 0))), (2, (.ref (qD 0))), (3, (.int (x3 + 6)))] [1, 2, 3, 0] (by decide) rfl C dL_law_867 ?_
    refine z_goto (pc := 870) 18 C dL_law_870 (by decide) ?_
    exact hk_18 _ _ _ _ _ _ _ _ _
  · refine z_iconst (pc := 618) (0 : Int32) (by decide) C dL_law_618 ?_
    exact z_lawret (pc := 619) C hR dL_law_619
def jL_law_620 (F : Nat) (L : Nat) (xs : Nat → Int32) (kc_18 : (Int32 × zOS × zOS × zOS × zOS × zOS × zOS × zSS × zOS) → Option (Int32)) (x3 : Int32) (sX : zOS) (sT : zOS) (sM : zOS) (sL : zOS) (sP : zOS) (sB : zOS) (sSS : zSS) (sD : zOS) : Option (Int32) := (Option.bind (fX4_ways F sX sM sP sL) (fun r_62 : Int32 × zOS × zOS × zOS × zOS => (Option.bind (fX5_ways F sD) (fun r_64 : Int32 × zOS => (if r_62.1 = r_64.1 then (kc_18 ((x3 + 6), r_62.2.1, sT, r_62.2.2.1, r_62.2.2.2.2, r_62.2.2.2.1, sB, sSS, r_64.2)) else (zbk (0 : Int32) (some (0 : Int32))))))))
set_option maxRecDepth 20000 in
theorem wL_law_620 {X : zCx} {F b L : Nat} {xs : Nat → Int32} {qX : Nat → Nat} {qT : Nat → Nat} {qM : Nat → Nat} {qL : Nat → Nat} {qP : Nat → Nat} {qB : Nat → Nat} {qD : Nat → Nat} {aa : Nat → Nat → Nat} {kc_18 : (Int32 × zOS × zOS × zOS × zOS × zOS × zOS × zSS × zOS) → Option (Int32)} (C : zC X R_law code 4 24 558) (hR : zLw X b L xs) (hM50 : qM 50 = qP 0) (hM51 : qM 51 = qL 0) (hX50 : qX 50 = qP 0) (hX51 : qX 51 = qB 0) (hX52 : qX 52 = qL 0) (hX53 : qX 53 = qM 0) (hX54 : qX 54 = qT 0) (hk_18 : ∀ (y3 : Int32) (tX : zOS) (tT : zOS) (tM : zOS) (tL : zOS) (tP : zOS) (tB : zOS) (tSS : zSS) (tD : zOS), zJ X 4 (1 : Int32) (kc_18 (y3, tX, tT, tM, tL, tP, tB, tSS, tD)) 18 [(0, (.ref b)), (1, (.ref (qX 0))), (2, (.ref (qD 0))), (3, (.int y3))] [] [(4, (zqx qX aa tSS.1), tX), (3, qT, tT), (1, qM, tM), (0, qL, tL), (2, qP, tP), (2, qB, tB), (2, (aa ((0 + tSS.1) % 5)), (tSS.2 0)), (2, (aa ((1 + tSS.1) % 5)), (tSS.2 1)), (2, (aa ((2 + tSS.1) % 5)), (tSS.2 2)), (2, (aa ((3 + tSS.1) % 5)), (tSS.2 3)), (2, (aa ((4 + tSS.1) % 5)), (tSS.2 4)), (5, qD, tD)]) (x3 : Int32) (sX : zOS) (sT : zOS) (sM : zOS) (sL : zOS) (sP : zOS) (sB : zOS) (sSS : zSS) (sD : zOS) : zJ X 4 (1 : Int32) (jL_law_620 F L xs kc_18 x3 sX sT sM sL sP sB sSS sD) 620 [(0, (.ref b)), (1, (.ref (qX 0))), (2, (.ref (qD 0))), (3, (.int x3))] [] [(4, (zqx qX aa sSS.1), sX), (3, qT, sT), (1, qM, sM), (0, qL, sL), (2, qP, sP), (2, qB, sB), (2, (aa ((0 + sSS.1) % 5)), (sSS.2 0)), (2, (aa ((1 + sSS.1) % 5)), (sSS.2 1)), (2, (aa ((2 + sSS.1) % 5)), (sSS.2 2)), (2, (aa ((3 + sSS.1) % 5)), (sSS.2 3)), (2, (aa ((4 + sSS.1) % 5)), (sSS.2 4)), (5, qD, sD)] := by
  unfold jL_law_620
  refine z_aload_n (pc := 620) 1 rfl rfl C dL_law_620 ?_
  refine z_callV (q' := (zqx qX aa sSS.1)) (pc := 621) (rf' := 22) (rl' := 514) (fX4_ways F sX sM sP sL) [] [] [(4, (zqx qX aa sSS.1), sX), (1, qM, sM), (2, qP, sP), (0, qL, sL)] (fun r_62 => (some (.int r_62.1))) (fun r_62 => [(4, (zqx qX aa sSS.1), r_62.2.1), (1, qM, r_62.2.2.1), (2, qP, r_62.2.2.2.1), (0, qL, r_62.2.2.2.2)]) [(3, qT, sT), (2, qB, sB), (2, (aa ((0 + sSS.1) % 5)), (sSS.2 0)), (2, (aa ((1 + sSS.1) % 5)), (sSS.2 1)), (2, (aa ((2 + sSS.1) % 5)), (sSS.2 2)), (2, (aa ((3 + sSS.1) % 5)), (sSS.2 3)), (2, (aa ((4 + sSS.1) % 5)), (sSS.2 4)), (5, qD, sD)] (fun r_62 => [(4, (zqx qX aa sSS.1), r_62.2.1), (3, qT, sT), (1, qM, r_62.2.2.1), (0, qL, r_62.2.2.2.2), (2, qP, r_62.2.2.2.1), (2, qB, sB), (2, (aa ((0 + sSS.1) % 5)), (sSS.2 0)), (2, (aa ((1 + sSS.1) % 5)), (sSS.2 1)), (2, (aa ((2 + sSS.1) % 5)), (sSS.2 2)), (2, (aa ((3 + sSS.1) % 5)), (sSS.2 3)), (2, (aa ((4 + sSS.1) % 5)), (sSS.2 4)), (5, qD, sD)]) C dL_law_621 zy_X4_ways zw_615 (fun _ hr9 => mX4_ways hM50 hM51 hX50 hX52 hX53 hr9) (by decide) rfl rfl (by decide) rfl (Nat.le_of_ble_eq_true rfl) (z_pn 12 _ rfl [0, 2, 4, 3, 1, 5, 6, 7, 8, 9, 10, 11] (by decide)).symm (fun _ => (z_pn 12 _ rfl [0, 4, 1, 3, 2, 5, 6, 7, 8, 9, 10, 11] (by decide)).symm) rfl (fun r_62 hr_63 => ?_)
  show zJ X 4 (1 : Int32) _ 624 [(0, (.ref b)), (1, (.ref (qX 0))), (2, (.ref (qD 0))), (3, (.int x3))] [(.int r_62.1)] [(4, (zqx qX aa sSS.1), r_62.2.1), (3, qT, sT), (1, qM, r_62.2.2.1), (0, qL, r_62.2.2.2.2), (2, qP, r_62.2.2.2.1), (2, qB, sB), (2, (aa ((0 + sSS.1) % 5)), (sSS.2 0)), (2, (aa ((1 + sSS.1) % 5)), (sSS.2 1)), (2, (aa ((2 + sSS.1) % 5)), (sSS.2 2)), (2, (aa ((3 + sSS.1) % 5)), (sSS.2 3)), (2, (aa ((4 + sSS.1) % 5)), (sSS.2 4)), (5, qD, sD)]
  refine z_aload_n (pc := 624) 2 rfl rfl C dL_law_624 ?_
  refine z_callV (pc := 625) (rf' := 8) (rl' := 180) (fX5_ways F sD) [] [(.int r_62.1)] [(5, qD, sD)] (fun r_64 => (some (.int r_64.1))) (fun r_64 => [(5, qD, r_64.2)]) [(4, (zqx qX aa sSS.1), r_62.2.1), (3, qT, sT), (1, qM, r_62.2.2.1), (0, qL, r_62.2.2.2.2), (2, qP, r_62.2.2.2.1), (2, qB, sB), (2, (aa ((0 + sSS.1) % 5)), (sSS.2 0)), (2, (aa ((1 + sSS.1) % 5)), (sSS.2 1)), (2, (aa ((2 + sSS.1) % 5)), (sSS.2 2)), (2, (aa ((3 + sSS.1) % 5)), (sSS.2 3)), (2, (aa ((4 + sSS.1) % 5)), (sSS.2 4))] (fun r_64 => [(4, (zqx qX aa sSS.1), r_62.2.1), (3, qT, sT), (1, qM, r_62.2.2.1), (0, qL, r_62.2.2.2.2), (2, qP, r_62.2.2.2.1), (2, qB, sB), (2, (aa ((0 + sSS.1) % 5)), (sSS.2 0)), (2, (aa ((1 + sSS.1) % 5)), (sSS.2 1)), (2, (aa ((2 + sSS.1) % 5)), (sSS.2 2)), (2, (aa ((3 + sSS.1) % 5)), (sSS.2 3)), (2, (aa ((4 + sSS.1) % 5)), (sSS.2 4)), (5, qD, r_64.2)]) C dL_law_625 zy_X5_ways zw_1030 (fun _ hr9 => mX5_ways  hr9) (by decide) rfl rfl (by decide) rfl (Nat.le_of_ble_eq_true rfl) (z_pn 12 _ rfl [11, 0, 1, 2, 3, 4, 5, 6, 7, 8, 9, 10] (by decide)).symm (fun _ => (z_pn 12 _ rfl [1, 2, 3, 4, 5, 6, 7, 8, 9, 10, 11, 0] (by decide)).symm) rfl (fun r_64 hr_65 => ?_)
  show zJ X 4 (1 : Int32) _ 628 [(0, (.ref b)), (1, (.ref (qX 0))), (2, (.ref (qD 0))), (3, (.int x3))] [(.int r_64.1), (.int r_62.1)] [(4, (zqx qX aa sSS.1), r_62.2.1), (3, qT, sT), (1, qM, r_62.2.2.1), (0, qL, r_62.2.2.2.2), (2, qP, r_62.2.2.2.1), (2, qB, sB), (2, (aa ((0 + sSS.1) % 5)), (sSS.2 0)), (2, (aa ((1 + sSS.1) % 5)), (sSS.2 1)), (2, (aa ((2 + sSS.1) % 5)), (sSS.2 2)), (2, (aa ((3 + sSS.1) % 5)), (sSS.2 3)), (2, (aa ((4 + sSS.1) % 5)), (sSS.2 4)), (5, qD, r_64.2)]
  refine z_icmp_eq (pc := 628) 867 C dL_law_628 (by decide) ?_ ?_
  · refine z_iinc (pc := 867) (x3 + 6) 3 rfl rfl [(0, (.ref b)), (1, (.ref (qX 0))), (2, (.ref (qD 0))), (3, (.int (x3 + 6)))] [1, 2, 3, 0] (by decide) rfl C dL_law_867 ?_
    refine z_goto (pc := 870) 18 C dL_law_870 (by decide) ?_
    exact hk_18 _ _ _ _ _ _ _ _ _
  · refine z_iconst (pc := 631) (0 : Int32) (by decide) C dL_law_631 ?_
    exact z_lawret (pc := 632) C hR dL_law_632
def jL_law_633 (F : Nat) (L : Nat) (xs : Nat → Int32) (kc_18 : (Int32 × zOS × zOS × zOS × zOS × zOS × zOS × zSS × zOS) → Option (Int32)) (x3 : Int32) (sX : zOS) (sT : zOS) (sM : zOS) (sL : zOS) (sP : zOS) (sB : zOS) (sSS : zSS) (sD : zOS) : Option (Int32) := (zchk (x3 + (1 : Int32)) L (Option.bind (fX4_matched F (xs (x3 + (1 : Int32)).toNatClampNeg) sX sM sP sL) (fun r_67 : Int32 × zOS × zOS × zOS × zOS => (zchk (x3 + (1 : Int32)) L (Option.bind (fX5_matched F (xs (x3 + (1 : Int32)).toNatClampNeg) sD) (fun r_69 : Int32 × zOS => (if r_67.1 = r_69.1 then (kc_18 ((x3 + 6), r_67.2.1, sT, r_67.2.2.1, r_67.2.2.2.2, r_67.2.2.2.1, sB, sSS, r_69.2)) else (zbk (0 : Int32) (some (0 : Int32))))))))))
set_option maxRecDepth 20000 in
theorem wL_law_633 {X : zCx} {F b L : Nat} {xs : Nat → Int32} {qX : Nat → Nat} {qT : Nat → Nat} {qM : Nat → Nat} {qL : Nat → Nat} {qP : Nat → Nat} {qB : Nat → Nat} {qD : Nat → Nat} {aa : Nat → Nat → Nat} {kc_18 : (Int32 × zOS × zOS × zOS × zOS × zOS × zOS × zSS × zOS) → Option (Int32)} (C : zC X R_law code 4 24 558) (hR : zLw X b L xs) (hM50 : qM 50 = qP 0) (hM51 : qM 51 = qL 0) (hX50 : qX 50 = qP 0) (hX51 : qX 51 = qB 0) (hX52 : qX 52 = qL 0) (hX53 : qX 53 = qM 0) (hX54 : qX 54 = qT 0) (hk_18 : ∀ (y3 : Int32) (tX : zOS) (tT : zOS) (tM : zOS) (tL : zOS) (tP : zOS) (tB : zOS) (tSS : zSS) (tD : zOS), zJ X 4 (1 : Int32) (kc_18 (y3, tX, tT, tM, tL, tP, tB, tSS, tD)) 18 [(0, (.ref b)), (1, (.ref (qX 0))), (2, (.ref (qD 0))), (3, (.int y3))] [] [(4, (zqx qX aa tSS.1), tX), (3, qT, tT), (1, qM, tM), (0, qL, tL), (2, qP, tP), (2, qB, tB), (2, (aa ((0 + tSS.1) % 5)), (tSS.2 0)), (2, (aa ((1 + tSS.1) % 5)), (tSS.2 1)), (2, (aa ((2 + tSS.1) % 5)), (tSS.2 2)), (2, (aa ((3 + tSS.1) % 5)), (tSS.2 3)), (2, (aa ((4 + tSS.1) % 5)), (tSS.2 4)), (5, qD, tD)]) (x3 : Int32) (sX : zOS) (sT : zOS) (sM : zOS) (sL : zOS) (sP : zOS) (sB : zOS) (sSS : zSS) (sD : zOS) : zJ X 4 (1 : Int32) (jL_law_633 F L xs kc_18 x3 sX sT sM sL sP sB sSS sD) 633 [(0, (.ref b)), (1, (.ref (qX 0))), (2, (.ref (qD 0))), (3, (.int x3))] [] [(4, (zqx qX aa sSS.1), sX), (3, qT, sT), (1, qM, sM), (0, qL, sL), (2, qP, sP), (2, qB, sB), (2, (aa ((0 + sSS.1) % 5)), (sSS.2 0)), (2, (aa ((1 + sSS.1) % 5)), (sSS.2 1)), (2, (aa ((2 + sSS.1) % 5)), (sSS.2 2)), (2, (aa ((3 + sSS.1) % 5)), (sSS.2 3)), (2, (aa ((4 + sSS.1) % 5)), (sSS.2 4)), (5, qD, sD)] := by
  unfold jL_law_633
  refine z_aload_n (pc := 633) 1 rfl rfl C dL_law_633 ?_
  refine z_aload_n (pc := 634) 0 rfl rfl C dL_law_634 ?_
  refine z_iload_n (pc := 635) 3 rfl rfl C dL_law_635 ?_
  refine z_iconst (pc := 636) (1 : Int32) (by decide) C dL_law_636 ?_
  refine z_iadd (pc := 637) C dL_law_637 ?_
  refine z_sld (pc := 638) C hR dL_law_638 ?_
  refine z_callV (q' := (zqx qX aa sSS.1)) (pc := 639) (rf' := 22) (rl' := 514) (fX4_matched F (xs (x3 + (1 : Int32)).toNatClampNeg) sX sM sP sL) [(.int (xs (x3 + (1 : Int32)).toNatClampNeg))] [] [(4, (zqx qX aa sSS.1), sX), (1, qM, sM), (2, qP, sP), (0, qL, sL)] (fun r_67 => (some (.int r_67.1))) (fun r_67 => [(4, (zqx qX aa sSS.1), r_67.2.1), (1, qM, r_67.2.2.1), (2, qP, r_67.2.2.2.1), (0, qL, r_67.2.2.2.2)]) [(3, qT, sT), (2, qB, sB), (2, (aa ((0 + sSS.1) % 5)), (sSS.2 0)), (2, (aa ((1 + sSS.1) % 5)), (sSS.2 1)), (2, (aa ((2 + sSS.1) % 5)), (sSS.2 2)), (2, (aa ((3 + sSS.1) % 5)), (sSS.2 3)), (2, (aa ((4 + sSS.1) % 5)), (sSS.2 4)), (5, qD, sD)] (fun r_67 => [(4, (zqx qX aa sSS.1), r_67.2.1), (3, qT, sT), (1, qM, r_67.2.2.1), (0, qL, r_67.2.2.2.2), (2, qP, r_67.2.2.2.1), (2, qB, sB), (2, (aa ((0 + sSS.1) % 5)), (sSS.2 0)), (2, (aa ((1 + sSS.1) % 5)), (sSS.2 1)), (2, (aa ((2 + sSS.1) % 5)), (sSS.2 2)), (2, (aa ((3 + sSS.1) % 5)), (sSS.2 3)), (2, (aa ((4 + sSS.1) % 5)), (sSS.2 4)), (5, qD, sD)]) C dL_law_639 zy_X4_matched zw_619 (fun _ hr9 => mX4_matched hM50 hM51 hX50 hX52 hX53 hr9) (by decide) rfl rfl (by decide) rfl (Nat.le_of_ble_eq_true rfl) (z_pn 12 _ rfl [0, 2, 4, 3, 1, 5, 6, 7, 8, 9, 10, 11] (by decide)).symm (fun _ => (z_pn 12 _ rfl [0, 4, 1, 3, 2, 5, 6, 7, 8, 9, 10, 11] (by decide)).symm) rfl (fun r_67 hr_68 => ?_)
  show zJ X 4 (1 : Int32) _ 642 [(0, (.ref b)), (1, (.ref (qX 0))), (2, (.ref (qD 0))), (3, (.int x3))] [(.int r_67.1)] [(4, (zqx qX aa sSS.1), r_67.2.1), (3, qT, sT), (1, qM, r_67.2.2.1), (0, qL, r_67.2.2.2.2), (2, qP, r_67.2.2.2.1), (2, qB, sB), (2, (aa ((0 + sSS.1) % 5)), (sSS.2 0)), (2, (aa ((1 + sSS.1) % 5)), (sSS.2 1)), (2, (aa ((2 + sSS.1) % 5)), (sSS.2 2)), (2, (aa ((3 + sSS.1) % 5)), (sSS.2 3)), (2, (aa ((4 + sSS.1) % 5)), (sSS.2 4)), (5, qD, sD)]
  refine z_aload_n (pc := 642) 2 rfl rfl C dL_law_642 ?_
  refine z_aload_n (pc := 643) 0 rfl rfl C dL_law_643 ?_
  refine z_iload_n (pc := 644) 3 rfl rfl C dL_law_644 ?_
  refine z_iconst (pc := 645) (1 : Int32) (by decide) C dL_law_645 ?_
  refine z_iadd (pc := 646) C dL_law_646 ?_
  refine z_sld (pc := 647) C hR dL_law_647 ?_
  refine z_callV (pc := 648) (rf' := 8) (rl' := 180) (fX5_matched F (xs (x3 + (1 : Int32)).toNatClampNeg) sD) [(.int (xs (x3 + (1 : Int32)).toNatClampNeg))] [(.int r_67.1)] [(5, qD, sD)] (fun r_69 => (some (.int r_69.1))) (fun r_69 => [(5, qD, r_69.2)]) [(4, (zqx qX aa sSS.1), r_67.2.1), (3, qT, sT), (1, qM, r_67.2.2.1), (0, qL, r_67.2.2.2.2), (2, qP, r_67.2.2.2.1), (2, qB, sB), (2, (aa ((0 + sSS.1) % 5)), (sSS.2 0)), (2, (aa ((1 + sSS.1) % 5)), (sSS.2 1)), (2, (aa ((2 + sSS.1) % 5)), (sSS.2 2)), (2, (aa ((3 + sSS.1) % 5)), (sSS.2 3)), (2, (aa ((4 + sSS.1) % 5)), (sSS.2 4))] (fun r_69 => [(4, (zqx qX aa sSS.1), r_67.2.1), (3, qT, sT), (1, qM, r_67.2.2.1), (0, qL, r_67.2.2.2.2), (2, qP, r_67.2.2.2.1), (2, qB, sB), (2, (aa ((0 + sSS.1) % 5)), (sSS.2 0)), (2, (aa ((1 + sSS.1) % 5)), (sSS.2 1)), (2, (aa ((2 + sSS.1) % 5)), (sSS.2 2)), (2, (aa ((3 + sSS.1) % 5)), (sSS.2 3)), (2, (aa ((4 + sSS.1) % 5)), (sSS.2 4)), (5, qD, r_69.2)]) C dL_law_648 zy_X5_matched zw_1038 (fun _ hr9 => mX5_matched  hr9) (by decide) rfl rfl (by decide) rfl (Nat.le_of_ble_eq_true rfl) (z_pn 12 _ rfl [11, 0, 1, 2, 3, 4, 5, 6, 7, 8, 9, 10] (by decide)).symm (fun _ => (z_pn 12 _ rfl [1, 2, 3, 4, 5, 6, 7, 8, 9, 10, 11, 0] (by decide)).symm) rfl (fun r_69 hr_70 => ?_)
  show zJ X 4 (1 : Int32) _ 651 [(0, (.ref b)), (1, (.ref (qX 0))), (2, (.ref (qD 0))), (3, (.int x3))] [(.int r_69.1), (.int r_67.1)] [(4, (zqx qX aa sSS.1), r_67.2.1), (3, qT, sT), (1, qM, r_67.2.2.1), (0, qL, r_67.2.2.2.2), (2, qP, r_67.2.2.2.1), (2, qB, sB), (2, (aa ((0 + sSS.1) % 5)), (sSS.2 0)), (2, (aa ((1 + sSS.1) % 5)), (sSS.2 1)), (2, (aa ((2 + sSS.1) % 5)), (sSS.2 2)), (2, (aa ((3 + sSS.1) % 5)), (sSS.2 3)), (2, (aa ((4 + sSS.1) % 5)), (sSS.2 4)), (5, qD, r_69.2)]
  refine z_icmp_eq (pc := 651) 867 C dL_law_651 (by decide) ?_ ?_
  · refine z_iinc (pc := 867) (x3 + 6) 3 rfl rfl [(0, (.ref b)), (1, (.ref (qX 0))), (2, (.ref (qD 0))), (3, (.int (x3 + 6)))] [1, 2, 3, 0] (by decide) rfl C dL_law_867 ?_
    refine z_goto (pc := 870) 18 C dL_law_870 (by decide) ?_
    exact hk_18 _ _ _ _ _ _ _ _ _
  · refine z_iconst (pc := 654) (0 : Int32) (by decide) C dL_law_654 ?_
    exact z_lawret (pc := 655) C hR dL_law_655
def jL_law_656 (F : Nat) (L : Nat) (xs : Nat → Int32) (kc_18 : (Int32 × zOS × zOS × zOS × zOS × zOS × zOS × zSS × zOS) → Option (Int32)) (x3 : Int32) (sX : zOS) (sT : zOS) (sM : zOS) (sL : zOS) (sP : zOS) (sB : zOS) (sSS : zSS) (sD : zOS) : Option (Int32) := (zchk (x3 + (1 : Int32)) L (Option.bind (fX4_net F (xs (x3 + (1 : Int32)).toNatClampNeg) sX sM sP sL) (fun r_72 : Int32 × zOS × zOS × zOS × zOS => (zchk (x3 + (1 : Int32)) L (Option.bind (fX5_net F (xs (x3 + (1 : Int32)).toNatClampNeg) sD) (fun r_74 : Int32 × zOS => (if r_72.1 = r_74.1 then (kc_18 ((x3 + 6), r_72.2.1, sT, r_72.2.2.1, r_72.2.2.2.2, r_72.2.2.2.1, sB, sSS, r_74.2)) else (zbk (0 : Int32) (some (0 : Int32))))))))))
set_option maxRecDepth 20000 in
theorem wL_law_656 {X : zCx} {F b L : Nat} {xs : Nat → Int32} {qX : Nat → Nat} {qT : Nat → Nat} {qM : Nat → Nat} {qL : Nat → Nat} {qP : Nat → Nat} {qB : Nat → Nat} {qD : Nat → Nat} {aa : Nat → Nat → Nat} {kc_18 : (Int32 × zOS × zOS × zOS × zOS × zOS × zOS × zSS × zOS) → Option (Int32)} (C : zC X R_law code 4 24 558) (hR : zLw X b L xs) (hM50 : qM 50 = qP 0) (hM51 : qM 51 = qL 0) (hX50 : qX 50 = qP 0) (hX51 : qX 51 = qB 0) (hX52 : qX 52 = qL 0) (hX53 : qX 53 = qM 0) (hX54 : qX 54 = qT 0) (hk_18 : ∀ (y3 : Int32) (tX : zOS) (tT : zOS) (tM : zOS) (tL : zOS) (tP : zOS) (tB : zOS) (tSS : zSS) (tD : zOS), zJ X 4 (1 : Int32) (kc_18 (y3, tX, tT, tM, tL, tP, tB, tSS, tD)) 18 [(0, (.ref b)), (1, (.ref (qX 0))), (2, (.ref (qD 0))), (3, (.int y3))] [] [(4, (zqx qX aa tSS.1), tX), (3, qT, tT), (1, qM, tM), (0, qL, tL), (2, qP, tP), (2, qB, tB), (2, (aa ((0 + tSS.1) % 5)), (tSS.2 0)), (2, (aa ((1 + tSS.1) % 5)), (tSS.2 1)), (2, (aa ((2 + tSS.1) % 5)), (tSS.2 2)), (2, (aa ((3 + tSS.1) % 5)), (tSS.2 3)), (2, (aa ((4 + tSS.1) % 5)), (tSS.2 4)), (5, qD, tD)]) (x3 : Int32) (sX : zOS) (sT : zOS) (sM : zOS) (sL : zOS) (sP : zOS) (sB : zOS) (sSS : zSS) (sD : zOS) : zJ X 4 (1 : Int32) (jL_law_656 F L xs kc_18 x3 sX sT sM sL sP sB sSS sD) 656 [(0, (.ref b)), (1, (.ref (qX 0))), (2, (.ref (qD 0))), (3, (.int x3))] [] [(4, (zqx qX aa sSS.1), sX), (3, qT, sT), (1, qM, sM), (0, qL, sL), (2, qP, sP), (2, qB, sB), (2, (aa ((0 + sSS.1) % 5)), (sSS.2 0)), (2, (aa ((1 + sSS.1) % 5)), (sSS.2 1)), (2, (aa ((2 + sSS.1) % 5)), (sSS.2 2)), (2, (aa ((3 + sSS.1) % 5)), (sSS.2 3)), (2, (aa ((4 + sSS.1) % 5)), (sSS.2 4)), (5, qD, sD)] := by
  unfold jL_law_656
  refine z_aload_n (pc := 656) 1 rfl rfl C dL_law_656 ?_
  refine z_aload_n (pc := 657) 0 rfl rfl C dL_law_657 ?_
  refine z_iload_n (pc := 658) 3 rfl rfl C dL_law_658 ?_
  refine z_iconst (pc := 659) (1 : Int32) (by decide) C dL_law_659 ?_
  refine z_iadd (pc := 660) C dL_law_660 ?_
  refine z_sld (pc := 661) C hR dL_law_661 ?_
  refine z_callV (q' := (zqx qX aa sSS.1)) (pc := 662) (rf' := 22) (rl' := 514) (fX4_net F (xs (x3 + (1 : Int32)).toNatClampNeg) sX sM sP sL) [(.int (xs (x3 + (1 : Int32)).toNatClampNeg))] [] [(4, (zqx qX aa sSS.1), sX), (1, qM, sM), (2, qP, sP), (0, qL, sL)] (fun r_72 => (some (.int r_72.1))) (fun r_72 => [(4, (zqx qX aa sSS.1), r_72.2.1), (1, qM, r_72.2.2.1), (2, qP, r_72.2.2.2.1), (0, qL, r_72.2.2.2.2)]) [(3, qT, sT), (2, qB, sB), (2, (aa ((0 + sSS.1) % 5)), (sSS.2 0)), (2, (aa ((1 + sSS.1) % 5)), (sSS.2 1)), (2, (aa ((2 + sSS.1) % 5)), (sSS.2 2)), (2, (aa ((3 + sSS.1) % 5)), (sSS.2 3)), (2, (aa ((4 + sSS.1) % 5)), (sSS.2 4)), (5, qD, sD)] (fun r_72 => [(4, (zqx qX aa sSS.1), r_72.2.1), (3, qT, sT), (1, qM, r_72.2.2.1), (0, qL, r_72.2.2.2.2), (2, qP, r_72.2.2.2.1), (2, qB, sB), (2, (aa ((0 + sSS.1) % 5)), (sSS.2 0)), (2, (aa ((1 + sSS.1) % 5)), (sSS.2 1)), (2, (aa ((2 + sSS.1) % 5)), (sSS.2 2)), (2, (aa ((3 + sSS.1) % 5)), (sSS.2 3)), (2, (aa ((4 + sSS.1) % 5)), (sSS.2 4)), (5, qD, sD)]) C dL_law_662 zy_X4_net zw_623 (fun _ hr9 => mX4_net hM50 hM51 hX50 hX52 hX53 hr9) (by decide) rfl rfl (by decide) rfl (Nat.le_of_ble_eq_true rfl) (z_pn 12 _ rfl [0, 2, 4, 3, 1, 5, 6, 7, 8, 9, 10, 11] (by decide)).symm (fun _ => (z_pn 12 _ rfl [0, 4, 1, 3, 2, 5, 6, 7, 8, 9, 10, 11] (by decide)).symm) rfl (fun r_72 hr_73 => ?_)
  show zJ X 4 (1 : Int32) _ 665 [(0, (.ref b)), (1, (.ref (qX 0))), (2, (.ref (qD 0))), (3, (.int x3))] [(.int r_72.1)] [(4, (zqx qX aa sSS.1), r_72.2.1), (3, qT, sT), (1, qM, r_72.2.2.1), (0, qL, r_72.2.2.2.2), (2, qP, r_72.2.2.2.1), (2, qB, sB), (2, (aa ((0 + sSS.1) % 5)), (sSS.2 0)), (2, (aa ((1 + sSS.1) % 5)), (sSS.2 1)), (2, (aa ((2 + sSS.1) % 5)), (sSS.2 2)), (2, (aa ((3 + sSS.1) % 5)), (sSS.2 3)), (2, (aa ((4 + sSS.1) % 5)), (sSS.2 4)), (5, qD, sD)]
  refine z_aload_n (pc := 665) 2 rfl rfl C dL_law_665 ?_
  refine z_aload_n (pc := 666) 0 rfl rfl C dL_law_666 ?_
  refine z_iload_n (pc := 667) 3 rfl rfl C dL_law_667 ?_
  refine z_iconst (pc := 668) (1 : Int32) (by decide) C dL_law_668 ?_
  refine z_iadd (pc := 669) C dL_law_669 ?_
  refine z_sld (pc := 670) C hR dL_law_670 ?_
  refine z_callV (pc := 671) (rf' := 8) (rl' := 180) (fX5_net F (xs (x3 + (1 : Int32)).toNatClampNeg) sD) [(.int (xs (x3 + (1 : Int32)).toNatClampNeg))] [(.int r_72.1)] [(5, qD, sD)] (fun r_74 => (some (.int r_74.1))) (fun r_74 => [(5, qD, r_74.2)]) [(4, (zqx qX aa sSS.1), r_72.2.1), (3, qT, sT), (1, qM, r_72.2.2.1), (0, qL, r_72.2.2.2.2), (2, qP, r_72.2.2.2.1), (2, qB, sB), (2, (aa ((0 + sSS.1) % 5)), (sSS.2 0)), (2, (aa ((1 + sSS.1) % 5)), (sSS.2 1)), (2, (aa ((2 + sSS.1) % 5)), (sSS.2 2)), (2, (aa ((3 + sSS.1) % 5)), (sSS.2 3)), (2, (aa ((4 + sSS.1) % 5)), (sSS.2 4))] (fun r_74 => [(4, (zqx qX aa sSS.1), r_72.2.1), (3, qT, sT), (1, qM, r_72.2.2.1), (0, qL, r_72.2.2.2.2), (2, qP, r_72.2.2.2.1), (2, qB, sB), (2, (aa ((0 + sSS.1) % 5)), (sSS.2 0)), (2, (aa ((1 + sSS.1) % 5)), (sSS.2 1)), (2, (aa ((2 + sSS.1) % 5)), (sSS.2 2)), (2, (aa ((3 + sSS.1) % 5)), (sSS.2 3)), (2, (aa ((4 + sSS.1) % 5)), (sSS.2 4)), (5, qD, r_74.2)]) C dL_law_671 zy_X5_net zw_1046 (fun _ hr9 => mX5_net  hr9) (by decide) rfl rfl (by decide) rfl (Nat.le_of_ble_eq_true rfl) (z_pn 12 _ rfl [11, 0, 1, 2, 3, 4, 5, 6, 7, 8, 9, 10] (by decide)).symm (fun _ => (z_pn 12 _ rfl [1, 2, 3, 4, 5, 6, 7, 8, 9, 10, 11, 0] (by decide)).symm) rfl (fun r_74 hr_75 => ?_)
  show zJ X 4 (1 : Int32) _ 674 [(0, (.ref b)), (1, (.ref (qX 0))), (2, (.ref (qD 0))), (3, (.int x3))] [(.int r_74.1), (.int r_72.1)] [(4, (zqx qX aa sSS.1), r_72.2.1), (3, qT, sT), (1, qM, r_72.2.2.1), (0, qL, r_72.2.2.2.2), (2, qP, r_72.2.2.2.1), (2, qB, sB), (2, (aa ((0 + sSS.1) % 5)), (sSS.2 0)), (2, (aa ((1 + sSS.1) % 5)), (sSS.2 1)), (2, (aa ((2 + sSS.1) % 5)), (sSS.2 2)), (2, (aa ((3 + sSS.1) % 5)), (sSS.2 3)), (2, (aa ((4 + sSS.1) % 5)), (sSS.2 4)), (5, qD, r_74.2)]
  refine z_icmp_eq (pc := 674) 867 C dL_law_674 (by decide) ?_ ?_
  · refine z_iinc (pc := 867) (x3 + 6) 3 rfl rfl [(0, (.ref b)), (1, (.ref (qX 0))), (2, (.ref (qD 0))), (3, (.int (x3 + 6)))] [1, 2, 3, 0] (by decide) rfl C dL_law_867 ?_
    refine z_goto (pc := 870) 18 C dL_law_870 (by decide) ?_
    exact hk_18 _ _ _ _ _ _ _ _ _
  · refine z_iconst (pc := 677) (0 : Int32) (by decide) C dL_law_677 ?_
    exact z_lawret (pc := 678) C hR dL_law_678
def jL_law_679 (F : Nat) (L : Nat) (xs : Nat → Int32) (kc_18 : (Int32 × zOS × zOS × zOS × zOS × zOS × zOS × zSS × zOS) → Option (Int32)) (x3 : Int32) (sX : zOS) (sT : zOS) (sM : zOS) (sL : zOS) (sP : zOS) (sB : zOS) (sSS : zSS) (sD : zOS) : Option (Int32) := (zchk (x3 + (1 : Int32)) L (zchk (x3 + (2 : Int32)) L (Option.bind (fX4_device (xs (x3 + (1 : Int32)).toNatClampNeg) (xs (x3 + (2 : Int32)).toNatClampNeg) sX sP) (fun r_77 : Int32 × zOS => (zchk (x3 + (1 : Int32)) L (zchk (x3 + (2 : Int32)) L (Option.bind (fX5_device (xs (x3 + (1 : Int32)).toNatClampNeg) (xs (x3 + (2 : Int32)).toNatClampNeg) sD) (fun r_79 : Int32 × zOS => (if r_77.1 = r_79.1 then (kc_18 ((x3 + 6), r_77.2, sT, sM, sL, sP, sB, sSS, r_79.2)) else (zbk (0 : Int32) (some (0 : Int32))))))))))))
set_option maxRecDepth 20000 in
theorem wL_law_679 {X : zCx} {F b L : Nat} {xs : Nat → Int32} {qX : Nat → Nat} {qT : Nat → Nat} {qM : Nat → Nat} {qL : Nat → Nat} {qP : Nat → Nat} {qB : Nat → Nat} {qD : Nat → Nat} {aa : Nat → Nat → Nat} {kc_18 : (Int32 × zOS × zOS × zOS × zOS × zOS × zOS × zSS × zOS) → Option (Int32)} (C : zC X R_law code 4 24 558) (hR : zLw X b L xs) (hM50 : qM 50 = qP 0) (hM51 : qM 51 = qL 0) (hX50 : qX 50 = qP 0) (hX51 : qX 51 = qB 0) (hX52 : qX 52 = qL 0) (hX53 : qX 53 = qM 0) (hX54 : qX 54 = qT 0) (hk_18 : ∀ (y3 : Int32) (tX : zOS) (tT : zOS) (tM : zOS) (tL : zOS) (tP : zOS) (tB : zOS) (tSS : zSS) (tD : zOS), zJ X 4 (1 : Int32) (kc_18 (y3, tX, tT, tM, tL, tP, tB, tSS, tD)) 18 [(0, (.ref b)), (1, (.ref (qX 0))), (2, (.ref (qD 0))), (3, (.int y3))] [] [(4, (zqx qX aa tSS.1), tX), (3, qT, tT), (1, qM, tM), (0, qL, tL), (2, qP, tP), (2, qB, tB), (2, (aa ((0 + tSS.1) % 5)), (tSS.2 0)), (2, (aa ((1 + tSS.1) % 5)), (tSS.2 1)), (2, (aa ((2 + tSS.1) % 5)), (tSS.2 2)), (2, (aa ((3 + tSS.1) % 5)), (tSS.2 3)), (2, (aa ((4 + tSS.1) % 5)), (tSS.2 4)), (5, qD, tD)]) (x3 : Int32) (sX : zOS) (sT : zOS) (sM : zOS) (sL : zOS) (sP : zOS) (sB : zOS) (sSS : zSS) (sD : zOS) : zJ X 4 (1 : Int32) (jL_law_679 F L xs kc_18 x3 sX sT sM sL sP sB sSS sD) 679 [(0, (.ref b)), (1, (.ref (qX 0))), (2, (.ref (qD 0))), (3, (.int x3))] [] [(4, (zqx qX aa sSS.1), sX), (3, qT, sT), (1, qM, sM), (0, qL, sL), (2, qP, sP), (2, qB, sB), (2, (aa ((0 + sSS.1) % 5)), (sSS.2 0)), (2, (aa ((1 + sSS.1) % 5)), (sSS.2 1)), (2, (aa ((2 + sSS.1) % 5)), (sSS.2 2)), (2, (aa ((3 + sSS.1) % 5)), (sSS.2 3)), (2, (aa ((4 + sSS.1) % 5)), (sSS.2 4)), (5, qD, sD)] := by
  unfold jL_law_679
  refine z_aload_n (pc := 679) 1 rfl rfl C dL_law_679 ?_
  refine z_aload_n (pc := 680) 0 rfl rfl C dL_law_680 ?_
  refine z_iload_n (pc := 681) 3 rfl rfl C dL_law_681 ?_
  refine z_iconst (pc := 682) (1 : Int32) (by decide) C dL_law_682 ?_
  refine z_iadd (pc := 683) C dL_law_683 ?_
  refine z_sld (pc := 684) C hR dL_law_684 ?_
  refine z_aload_n (pc := 685) 0 rfl rfl C dL_law_685 ?_
  refine z_iload_n (pc := 686) 3 rfl rfl C dL_law_686 ?_
  refine z_iconst (pc := 687) (2 : Int32) (by decide) C dL_law_687 ?_
  refine z_iadd (pc := 688) C dL_law_688 ?_
  refine z_sld (pc := 689) C hR dL_law_689 ?_
  refine z_callV (q' := (zqx qX aa sSS.1)) (pc := 690) (rf' := 2) (rl' := 43) (fX4_device (xs (x3 + (1 : Int32)).toNatClampNeg) (xs (x3 + (2 : Int32)).toNatClampNeg) sX sP) [(.int (xs (x3 + (1 : Int32)).toNatClampNeg)), (.int (xs (x3 + (2 : Int32)).toNatClampNeg))] [] [(4, (zqx qX aa sSS.1), sX), (2, qP, sP)] (fun r_77 => (some (.int r_77.1))) (fun r_77 => [(4, (zqx qX aa sSS.1), r_77.2), (2, qP, sP)]) [(3, qT, sT), (1, qM, sM), (0, qL, sL), (2, qB, sB), (2, (aa ((0 + sSS.1) % 5)), (sSS.2 0)), (2, (aa ((1 + sSS.1) % 5)), (sSS.2 1)), (2, (aa ((2 + sSS.1) % 5)), (sSS.2 2)), (2, (aa ((3 + sSS.1) % 5)), (sSS.2 3)), (2, (aa ((4 + sSS.1) % 5)), (sSS.2 4)), (5, qD, sD)] (fun r_77 => [(4, (zqx qX aa sSS.1), r_77.2), (3, qT, sT), (1, qM, sM), (0, qL, sL), (2, qP, sP), (2, qB, sB), (2, (aa ((0 + sSS.1) % 5)), (sSS.2 0)), (2, (aa ((1 + sSS.1) % 5)), (sSS.2 1)), (2, (aa ((2 + sSS.1) % 5)), (sSS.2 2)), (2, (aa ((3 + sSS.1) % 5)), (sSS.2 3)), (2, (aa ((4 + sSS.1) % 5)), (sSS.2 4)), (5, qD, sD)]) C dL_law_690 zy_X4_device zw_627 (fun _ hr9 => mX4_device hX50 hr9) (by decide) rfl rfl (by decide) rfl (Nat.le_of_ble_eq_true rfl) (z_pn 12 _ rfl [0, 4, 1, 2, 3, 5, 6, 7, 8, 9, 10, 11] (by decide)).symm (fun _ => (z_pn 12 _ rfl [0, 2, 3, 4, 1, 5, 6, 7, 8, 9, 10, 11] (by decide)).symm) rfl (fun r_77 hr_78 => ?_)
  show zJ X 4 (1 : Int32) _ 693 [(0, (.ref b)), (1, (.ref (qX 0))), (2, (.ref (qD 0))), (3, (.int x3))] [(.int r_77.1)] [(4, (zqx qX aa sSS.1), r_77.2), (3, qT, sT), (1, qM, sM), (0, qL, sL), (2, qP, sP), (2, qB, sB), (2, (aa ((0 + sSS.1) % 5)), (sSS.2 0)), (2, (aa ((1 + sSS.1) % 5)), (sSS.2 1)), (2, (aa ((2 + sSS.1) % 5)), (sSS.2 2)), (2, (aa ((3 + sSS.1) % 5)), (sSS.2 3)), (2, (aa ((4 + sSS.1) % 5)), (sSS.2 4)), (5, qD, sD)]
  refine z_aload_n (pc := 693) 2 rfl rfl C dL_law_693 ?_
  refine z_aload_n (pc := 694) 0 rfl rfl C dL_law_694 ?_
  refine z_iload_n (pc := 695) 3 rfl rfl C dL_law_695 ?_
  refine z_iconst (pc := 696) (1 : Int32) (by decide) C dL_law_696 ?_
  refine z_iadd (pc := 697) C dL_law_697 ?_
  refine z_sld (pc := 698) C hR dL_law_698 ?_
  refine z_aload_n (pc := 699) 0 rfl rfl C dL_law_699 ?_
  refine z_iload_n (pc := 700) 3 rfl rfl C dL_law_700 ?_
  refine z_iconst (pc := 701) (2 : Int32) (by decide) C dL_law_701 ?_
  refine z_iadd (pc := 702) C dL_law_702 ?_
  refine z_sld (pc := 703) C hR dL_law_703 ?_
  refine z_callV (pc := 704) (rf' := 2) (rl' := 43) (fX5_device (xs (x3 + (1 : Int32)).toNatClampNeg) (xs (x3 + (2 : Int32)).toNatClampNeg) sD) [(.int (xs (x3 + (1 : Int32)).toNatClampNeg)), (.int (xs (x3 + (2 : Int32)).toNatClampNeg))] [(.int r_77.1)] [(5, qD, sD)] (fun r_79 => (some (.int r_79.1))) (fun r_79 => [(5, qD, r_79.2)]) [(4, (zqx qX aa sSS.1), r_77.2), (3, qT, sT), (1, qM, sM), (0, qL, sL), (2, qP, sP), (2, qB, sB), (2, (aa ((0 + sSS.1) % 5)), (sSS.2 0)), (2, (aa ((1 + sSS.1) % 5)), (sSS.2 1)), (2, (aa ((2 + sSS.1) % 5)), (sSS.2 2)), (2, (aa ((3 + sSS.1) % 5)), (sSS.2 3)), (2, (aa ((4 + sSS.1) % 5)), (sSS.2 4))] (fun r_79 => [(4, (zqx qX aa sSS.1), r_77.2), (3, qT, sT), (1, qM, sM), (0, qL, sL), (2, qP, sP), (2, qB, sB), (2, (aa ((0 + sSS.1) % 5)), (sSS.2 0)), (2, (aa ((1 + sSS.1) % 5)), (sSS.2 1)), (2, (aa ((2 + sSS.1) % 5)), (sSS.2 2)), (2, (aa ((3 + sSS.1) % 5)), (sSS.2 3)), (2, (aa ((4 + sSS.1) % 5)), (sSS.2 4)), (5, qD, r_79.2)]) C dL_law_704 zy_X5_device zw_1050 (fun _ hr9 => mX5_device  hr9) (by decide) rfl rfl (by decide) rfl (Nat.le_of_ble_eq_true rfl) (z_pn 12 _ rfl [11, 0, 1, 2, 3, 4, 5, 6, 7, 8, 9, 10] (by decide)).symm (fun _ => (z_pn 12 _ rfl [1, 2, 3, 4, 5, 6, 7, 8, 9, 10, 11, 0] (by decide)).symm) rfl (fun r_79 hr_80 => ?_)
  show zJ X 4 (1 : Int32) _ 707 [(0, (.ref b)), (1, (.ref (qX 0))), (2, (.ref (qD 0))), (3, (.int x3))] [(.int r_79.1), (.int r_77.1)] [(4, (zqx qX aa sSS.1), r_77.2), (3, qT, sT), (1, qM, sM), (0, qL, sL), (2, qP, sP), (2, qB, sB), (2, (aa ((0 + sSS.1) % 5)), (sSS.2 0)), (2, (aa ((1 + sSS.1) % 5)), (sSS.2 1)), (2, (aa ((2 + sSS.1) % 5)), (sSS.2 2)), (2, (aa ((3 + sSS.1) % 5)), (sSS.2 3)), (2, (aa ((4 + sSS.1) % 5)), (sSS.2 4)), (5, qD, r_79.2)]
  refine z_icmp_eq (pc := 707) 867 C dL_law_707 (by decide) ?_ ?_
  · refine z_iinc (pc := 867) (x3 + 6) 3 rfl rfl [(0, (.ref b)), (1, (.ref (qX 0))), (2, (.ref (qD 0))), (3, (.int (x3 + 6)))] [1, 2, 3, 0] (by decide) rfl C dL_law_867 ?_
    refine z_goto (pc := 870) 18 C dL_law_870 (by decide) ?_
    exact hk_18 _ _ _ _ _ _ _ _ _
  · refine z_iconst (pc := 710) (0 : Int32) (by decide) C dL_law_710 ?_
    exact z_lawret (pc := 711) C hR dL_law_711
def jL_law_712 (F : Nat) (L : Nat) (xs : Nat → Int32) (kc_18 : (Int32 × zOS × zOS × zOS × zOS × zOS × zOS × zSS × zOS) → Option (Int32)) (x3 : Int32) (sX : zOS) (sT : zOS) (sM : zOS) (sL : zOS) (sP : zOS) (sB : zOS) (sSS : zSS) (sD : zOS) : Option (Int32) := (zchk (x3 + (1 : Int32)) L (zchk (x3 + (2 : Int32)) L (Option.bind (fX4_pin F (xs (x3 + (1 : Int32)).toNatClampNeg) (xs (x3 + (2 : Int32)).toNatClampNeg) sX sL sP) (fun r_82 : Int32 × zOS × zOS => (zchk (x3 + (1 : Int32)) L (zchk (x3 + (2 : Int32)) L (Option.bind (fX5_pin F (xs (x3 + (1 : Int32)).toNatClampNeg) (xs (x3 + (2 : Int32)).toNatClampNeg) sD) (fun r_84 : Int32 × zOS => (if r_82.1 = r_84.1 then (kc_18 ((x3 + 6), r_82.2.1, sT, sM, r_82.2.2, sP, sB, sSS, r_84.2)) else (zbk (0 : Int32) (some (0 : Int32))))))))))))
set_option maxRecDepth 20000 in
theorem wL_law_712 {X : zCx} {F b L : Nat} {xs : Nat → Int32} {qX : Nat → Nat} {qT : Nat → Nat} {qM : Nat → Nat} {qL : Nat → Nat} {qP : Nat → Nat} {qB : Nat → Nat} {qD : Nat → Nat} {aa : Nat → Nat → Nat} {kc_18 : (Int32 × zOS × zOS × zOS × zOS × zOS × zOS × zSS × zOS) → Option (Int32)} (C : zC X R_law code 4 24 558) (hR : zLw X b L xs) (hM50 : qM 50 = qP 0) (hM51 : qM 51 = qL 0) (hX50 : qX 50 = qP 0) (hX51 : qX 51 = qB 0) (hX52 : qX 52 = qL 0) (hX53 : qX 53 = qM 0) (hX54 : qX 54 = qT 0) (hk_18 : ∀ (y3 : Int32) (tX : zOS) (tT : zOS) (tM : zOS) (tL : zOS) (tP : zOS) (tB : zOS) (tSS : zSS) (tD : zOS), zJ X 4 (1 : Int32) (kc_18 (y3, tX, tT, tM, tL, tP, tB, tSS, tD)) 18 [(0, (.ref b)), (1, (.ref (qX 0))), (2, (.ref (qD 0))), (3, (.int y3))] [] [(4, (zqx qX aa tSS.1), tX), (3, qT, tT), (1, qM, tM), (0, qL, tL), (2, qP, tP), (2, qB, tB), (2, (aa ((0 + tSS.1) % 5)), (tSS.2 0)), (2, (aa ((1 + tSS.1) % 5)), (tSS.2 1)), (2, (aa ((2 + tSS.1) % 5)), (tSS.2 2)), (2, (aa ((3 + tSS.1) % 5)), (tSS.2 3)), (2, (aa ((4 + tSS.1) % 5)), (tSS.2 4)), (5, qD, tD)]) (x3 : Int32) (sX : zOS) (sT : zOS) (sM : zOS) (sL : zOS) (sP : zOS) (sB : zOS) (sSS : zSS) (sD : zOS) : zJ X 4 (1 : Int32) (jL_law_712 F L xs kc_18 x3 sX sT sM sL sP sB sSS sD) 712 [(0, (.ref b)), (1, (.ref (qX 0))), (2, (.ref (qD 0))), (3, (.int x3))] [] [(4, (zqx qX aa sSS.1), sX), (3, qT, sT), (1, qM, sM), (0, qL, sL), (2, qP, sP), (2, qB, sB), (2, (aa ((0 + sSS.1) % 5)), (sSS.2 0)), (2, (aa ((1 + sSS.1) % 5)), (sSS.2 1)), (2, (aa ((2 + sSS.1) % 5)), (sSS.2 2)), (2, (aa ((3 + sSS.1) % 5)), (sSS.2 3)), (2, (aa ((4 + sSS.1) % 5)), (sSS.2 4)), (5, qD, sD)] := by
  unfold jL_law_712
  refine z_aload_n (pc := 712) 1 rfl rfl C dL_law_712 ?_
  refine z_aload_n (pc := 713) 0 rfl rfl C dL_law_713 ?_
  refine z_iload_n (pc := 714) 3 rfl rfl C dL_law_714 ?_
  refine z_iconst (pc := 715) (1 : Int32) (by decide) C dL_law_715 ?_
  refine z_iadd (pc := 716) C dL_law_716 ?_
  refine z_sld (pc := 717) C hR dL_law_717 ?_
  refine z_aload_n (pc := 718) 0 rfl rfl C dL_law_718 ?_
  refine z_iload_n (pc := 719) 3 rfl rfl C dL_law_719 ?_
  refine z_iconst (pc := 720) (2 : Int32) (by decide) C dL_law_720 ?_
  refine z_iadd (pc := 721) C dL_law_721 ?_
  refine z_sld (pc := 722) C hR dL_law_722 ?_
  refine z_callV (q' := (zqx qX aa sSS.1)) (pc := 723) (rf' := 6) (rl' := 132) (fX4_pin F (xs (x3 + (1 : Int32)).toNatClampNeg) (xs (x3 + (2 : Int32)).toNatClampNeg) sX sL sP) [(.int (xs (x3 + (1 : Int32)).toNatClampNeg)), (.int (xs (x3 + (2 : Int32)).toNatClampNeg))] [] [(4, (zqx qX aa sSS.1), sX), (0, qL, sL), (2, qP, sP)] (fun r_82 => (some (.int r_82.1))) (fun r_82 => [(4, (zqx qX aa sSS.1), r_82.2.1), (0, qL, r_82.2.2), (2, qP, sP)]) [(3, qT, sT), (1, qM, sM), (2, qB, sB), (2, (aa ((0 + sSS.1) % 5)), (sSS.2 0)), (2, (aa ((1 + sSS.1) % 5)), (sSS.2 1)), (2, (aa ((2 + sSS.1) % 5)), (sSS.2 2)), (2, (aa ((3 + sSS.1) % 5)), (sSS.2 3)), (2, (aa ((4 + sSS.1) % 5)), (sSS.2 4)), (5, qD, sD)] (fun r_82 => [(4, (zqx qX aa sSS.1), r_82.2.1), (3, qT, sT), (1, qM, sM), (0, qL, r_82.2.2), (2, qP, sP), (2, qB, sB), (2, (aa ((0 + sSS.1) % 5)), (sSS.2 0)), (2, (aa ((1 + sSS.1) % 5)), (sSS.2 1)), (2, (aa ((2 + sSS.1) % 5)), (sSS.2 2)), (2, (aa ((3 + sSS.1) % 5)), (sSS.2 3)), (2, (aa ((4 + sSS.1) % 5)), (sSS.2 4)), (5, qD, sD)]) C dL_law_723 zy_X4_pin zw_631 (fun _ hr9 => mX4_pin hX50 hX52 hr9) (by decide) rfl rfl (by decide) rfl (Nat.le_of_ble_eq_true rfl) (z_pn 12 _ rfl [0, 3, 4, 1, 2, 5, 6, 7, 8, 9, 10, 11] (by decide)).symm (fun _ => (z_pn 12 _ rfl [0, 3, 4, 1, 2, 5, 6, 7, 8, 9, 10, 11] (by decide)).symm) rfl (fun r_82 hr_83 => ?_)
  show zJ X 4 (1 : Int32) _ 726 [(0, (.ref b)), (1, (.ref (qX 0))), (2, (.ref (qD 0))), (3, (.int x3))] [(.int r_82.1)] [(4, (zqx qX aa sSS.1), r_82.2.1), (3, qT, sT), (1, qM, sM), (0, qL, r_82.2.2), (2, qP, sP), (2, qB, sB), (2, (aa ((0 + sSS.1) % 5)), (sSS.2 0)), (2, (aa ((1 + sSS.1) % 5)), (sSS.2 1)), (2, (aa ((2 + sSS.1) % 5)), (sSS.2 2)), (2, (aa ((3 + sSS.1) % 5)), (sSS.2 3)), (2, (aa ((4 + sSS.1) % 5)), (sSS.2 4)), (5, qD, sD)]
  refine z_aload_n (pc := 726) 2 rfl rfl C dL_law_726 ?_
  refine z_aload_n (pc := 727) 0 rfl rfl C dL_law_727 ?_
  refine z_iload_n (pc := 728) 3 rfl rfl C dL_law_728 ?_
  refine z_iconst (pc := 729) (1 : Int32) (by decide) C dL_law_729 ?_
  refine z_iadd (pc := 730) C dL_law_730 ?_
  refine z_sld (pc := 731) C hR dL_law_731 ?_
  refine z_aload_n (pc := 732) 0 rfl rfl C dL_law_732 ?_
  refine z_iload_n (pc := 733) 3 rfl rfl C dL_law_733 ?_
  refine z_iconst (pc := 734) (2 : Int32) (by decide) C dL_law_734 ?_
  refine z_iadd (pc := 735) C dL_law_735 ?_
  refine z_sld (pc := 736) C hR dL_law_736 ?_
  refine z_callV (pc := 737) (rf' := 7) (rl' := 160) (fX5_pin F (xs (x3 + (1 : Int32)).toNatClampNeg) (xs (x3 + (2 : Int32)).toNatClampNeg) sD) [(.int (xs (x3 + (1 : Int32)).toNatClampNeg)), (.int (xs (x3 + (2 : Int32)).toNatClampNeg))] [(.int r_82.1)] [(5, qD, sD)] (fun r_84 => (some (.int r_84.1))) (fun r_84 => [(5, qD, r_84.2)]) [(4, (zqx qX aa sSS.1), r_82.2.1), (3, qT, sT), (1, qM, sM), (0, qL, r_82.2.2), (2, qP, sP), (2, qB, sB), (2, (aa ((0 + sSS.1) % 5)), (sSS.2 0)), (2, (aa ((1 + sSS.1) % 5)), (sSS.2 1)), (2, (aa ((2 + sSS.1) % 5)), (sSS.2 2)), (2, (aa ((3 + sSS.1) % 5)), (sSS.2 3)), (2, (aa ((4 + sSS.1) % 5)), (sSS.2 4))] (fun r_84 => [(4, (zqx qX aa sSS.1), r_82.2.1), (3, qT, sT), (1, qM, sM), (0, qL, r_82.2.2), (2, qP, sP), (2, qB, sB), (2, (aa ((0 + sSS.1) % 5)), (sSS.2 0)), (2, (aa ((1 + sSS.1) % 5)), (sSS.2 1)), (2, (aa ((2 + sSS.1) % 5)), (sSS.2 2)), (2, (aa ((3 + sSS.1) % 5)), (sSS.2 3)), (2, (aa ((4 + sSS.1) % 5)), (sSS.2 4)), (5, qD, r_84.2)]) C dL_law_737 zy_X5_pin zw_1054 (fun _ hr9 => mX5_pin  hr9) (by decide) rfl rfl (by decide) rfl (Nat.le_of_ble_eq_true rfl) (z_pn 12 _ rfl [11, 0, 1, 2, 3, 4, 5, 6, 7, 8, 9, 10] (by decide)).symm (fun _ => (z_pn 12 _ rfl [1, 2, 3, 4, 5, 6, 7, 8, 9, 10, 11, 0] (by decide)).symm) rfl (fun r_84 hr_85 => ?_)
  show zJ X 4 (1 : Int32) _ 740 [(0, (.ref b)), (1, (.ref (qX 0))), (2, (.ref (qD 0))), (3, (.int x3))] [(.int r_84.1), (.int r_82.1)] [(4, (zqx qX aa sSS.1), r_82.2.1), (3, qT, sT), (1, qM, sM), (0, qL, r_82.2.2), (2, qP, sP), (2, qB, sB), (2, (aa ((0 + sSS.1) % 5)), (sSS.2 0)), (2, (aa ((1 + sSS.1) % 5)), (sSS.2 1)), (2, (aa ((2 + sSS.1) % 5)), (sSS.2 2)), (2, (aa ((3 + sSS.1) % 5)), (sSS.2 3)), (2, (aa ((4 + sSS.1) % 5)), (sSS.2 4)), (5, qD, r_84.2)]
  refine z_icmp_eq (pc := 740) 867 C dL_law_740 (by decide) ?_ ?_
  · refine z_iinc (pc := 867) (x3 + 6) 3 rfl rfl [(0, (.ref b)), (1, (.ref (qX 0))), (2, (.ref (qD 0))), (3, (.int (x3 + 6)))] [1, 2, 3, 0] (by decide) rfl C dL_law_867 ?_
    refine z_goto (pc := 870) 18 C dL_law_870 (by decide) ?_
    exact hk_18 _ _ _ _ _ _ _ _ _
  · refine z_iconst (pc := 743) (0 : Int32) (by decide) C dL_law_743 ?_
    exact z_lawret (pc := 744) C hR dL_law_744
def jL_law_745 (F : Nat) (L : Nat) (xs : Nat → Int32) (kc_18 : (Int32 × zOS × zOS × zOS × zOS × zOS × zOS × zSS × zOS) → Option (Int32)) (x3 : Int32) (sX : zOS) (sT : zOS) (sM : zOS) (sL : zOS) (sP : zOS) (sB : zOS) (sSS : zSS) (sD : zOS) : Option (Int32) := (zchk (x3 + (1 : Int32)) L (Option.bind (fX4_hangs F (xs (x3 + (1 : Int32)).toNatClampNeg) sX sP) (fun r_87 : Int32 × zOS => (zchk (x3 + (1 : Int32)) L (Option.bind (fX5_hangs F (xs (x3 + (1 : Int32)).toNatClampNeg) sD) (fun r_89 : Int32 × zOS => (if r_87.1 = r_89.1 then (kc_18 ((x3 + 6), r_87.2, sT, sM, sL, sP, sB, sSS, r_89.2)) else (zbk (0 : Int32) (some (0 : Int32))))))))))
set_option maxRecDepth 20000 in
theorem wL_law_745 {X : zCx} {F b L : Nat} {xs : Nat → Int32} {qX : Nat → Nat} {qT : Nat → Nat} {qM : Nat → Nat} {qL : Nat → Nat} {qP : Nat → Nat} {qB : Nat → Nat} {qD : Nat → Nat} {aa : Nat → Nat → Nat} {kc_18 : (Int32 × zOS × zOS × zOS × zOS × zOS × zOS × zSS × zOS) → Option (Int32)} (C : zC X R_law code 4 24 558) (hR : zLw X b L xs) (hM50 : qM 50 = qP 0) (hM51 : qM 51 = qL 0) (hX50 : qX 50 = qP 0) (hX51 : qX 51 = qB 0) (hX52 : qX 52 = qL 0) (hX53 : qX 53 = qM 0) (hX54 : qX 54 = qT 0) (hk_18 : ∀ (y3 : Int32) (tX : zOS) (tT : zOS) (tM : zOS) (tL : zOS) (tP : zOS) (tB : zOS) (tSS : zSS) (tD : zOS), zJ X 4 (1 : Int32) (kc_18 (y3, tX, tT, tM, tL, tP, tB, tSS, tD)) 18 [(0, (.ref b)), (1, (.ref (qX 0))), (2, (.ref (qD 0))), (3, (.int y3))] [] [(4, (zqx qX aa tSS.1), tX), (3, qT, tT), (1, qM, tM), (0, qL, tL), (2, qP, tP), (2, qB, tB), (2, (aa ((0 + tSS.1) % 5)), (tSS.2 0)), (2, (aa ((1 + tSS.1) % 5)), (tSS.2 1)), (2, (aa ((2 + tSS.1) % 5)), (tSS.2 2)), (2, (aa ((3 + tSS.1) % 5)), (tSS.2 3)), (2, (aa ((4 + tSS.1) % 5)), (tSS.2 4)), (5, qD, tD)]) (x3 : Int32) (sX : zOS) (sT : zOS) (sM : zOS) (sL : zOS) (sP : zOS) (sB : zOS) (sSS : zSS) (sD : zOS) : zJ X 4 (1 : Int32) (jL_law_745 F L xs kc_18 x3 sX sT sM sL sP sB sSS sD) 745 [(0, (.ref b)), (1, (.ref (qX 0))), (2, (.ref (qD 0))), (3, (.int x3))] [] [(4, (zqx qX aa sSS.1), sX), (3, qT, sT), (1, qM, sM), (0, qL, sL), (2, qP, sP), (2, qB, sB), (2, (aa ((0 + sSS.1) % 5)), (sSS.2 0)), (2, (aa ((1 + sSS.1) % 5)), (sSS.2 1)), (2, (aa ((2 + sSS.1) % 5)), (sSS.2 2)), (2, (aa ((3 + sSS.1) % 5)), (sSS.2 3)), (2, (aa ((4 + sSS.1) % 5)), (sSS.2 4)), (5, qD, sD)] := by
  unfold jL_law_745
  refine z_aload_n (pc := 745) 1 rfl rfl C dL_law_745 ?_
  refine z_aload_n (pc := 746) 0 rfl rfl C dL_law_746 ?_
  refine z_iload_n (pc := 747) 3 rfl rfl C dL_law_747 ?_
  refine z_iconst (pc := 748) (1 : Int32) (by decide) C dL_law_748 ?_
  refine z_iadd (pc := 749) C dL_law_749 ?_
  refine z_sld (pc := 750) C hR dL_law_750 ?_
  refine z_callV (q' := (zqx qX aa sSS.1)) (pc := 751) (rf' := 2) (rl' := 44) (fX4_hangs F (xs (x3 + (1 : Int32)).toNatClampNeg) sX sP) [(.int (xs (x3 + (1 : Int32)).toNatClampNeg))] [] [(4, (zqx qX aa sSS.1), sX), (2, qP, sP)] (fun r_87 => (some (.int r_87.1))) (fun r_87 => [(4, (zqx qX aa sSS.1), r_87.2), (2, qP, sP)]) [(3, qT, sT), (1, qM, sM), (0, qL, sL), (2, qB, sB), (2, (aa ((0 + sSS.1) % 5)), (sSS.2 0)), (2, (aa ((1 + sSS.1) % 5)), (sSS.2 1)), (2, (aa ((2 + sSS.1) % 5)), (sSS.2 2)), (2, (aa ((3 + sSS.1) % 5)), (sSS.2 3)), (2, (aa ((4 + sSS.1) % 5)), (sSS.2 4)), (5, qD, sD)] (fun r_87 => [(4, (zqx qX aa sSS.1), r_87.2), (3, qT, sT), (1, qM, sM), (0, qL, sL), (2, qP, sP), (2, qB, sB), (2, (aa ((0 + sSS.1) % 5)), (sSS.2 0)), (2, (aa ((1 + sSS.1) % 5)), (sSS.2 1)), (2, (aa ((2 + sSS.1) % 5)), (sSS.2 2)), (2, (aa ((3 + sSS.1) % 5)), (sSS.2 3)), (2, (aa ((4 + sSS.1) % 5)), (sSS.2 4)), (5, qD, sD)]) C dL_law_751 zy_X4_hangs zw_636 (fun _ hr9 => mX4_hangs hX50 hr9) (by decide) rfl rfl (by decide) rfl (Nat.le_of_ble_eq_true rfl) (z_pn 12 _ rfl [0, 4, 1, 2, 3, 5, 6, 7, 8, 9, 10, 11] (by decide)).symm (fun _ => (z_pn 12 _ rfl [0, 2, 3, 4, 1, 5, 6, 7, 8, 9, 10, 11] (by decide)).symm) rfl (fun r_87 hr_88 => ?_)
  show zJ X 4 (1 : Int32) _ 754 [(0, (.ref b)), (1, (.ref (qX 0))), (2, (.ref (qD 0))), (3, (.int x3))] [(.int r_87.1)] [(4, (zqx qX aa sSS.1), r_87.2), (3, qT, sT), (1, qM, sM), (0, qL, sL), (2, qP, sP), (2, qB, sB), (2, (aa ((0 + sSS.1) % 5)), (sSS.2 0)), (2, (aa ((1 + sSS.1) % 5)), (sSS.2 1)), (2, (aa ((2 + sSS.1) % 5)), (sSS.2 2)), (2, (aa ((3 + sSS.1) % 5)), (sSS.2 3)), (2, (aa ((4 + sSS.1) % 5)), (sSS.2 4)), (5, qD, sD)]
  refine z_aload_n (pc := 754) 2 rfl rfl C dL_law_754 ?_
  refine z_aload_n (pc := 755) 0 rfl rfl C dL_law_755 ?_
  refine z_iload_n (pc := 756) 3 rfl rfl C dL_law_756 ?_
  refine z_iconst (pc := 757) (1 : Int32) (by decide) C dL_law_757 ?_
  refine z_iadd (pc := 758) C dL_law_758 ?_
  refine z_sld (pc := 759) C hR dL_law_759 ?_
  refine z_callV (pc := 760) (rf' := 2) (rl' := 45) (fX5_hangs F (xs (x3 + (1 : Int32)).toNatClampNeg) sD) [(.int (xs (x3 + (1 : Int32)).toNatClampNeg))] [(.int r_87.1)] [(5, qD, sD)] (fun r_89 => (some (.int r_89.1))) (fun r_89 => [(5, qD, r_89.2)]) [(4, (zqx qX aa sSS.1), r_87.2), (3, qT, sT), (1, qM, sM), (0, qL, sL), (2, qP, sP), (2, qB, sB), (2, (aa ((0 + sSS.1) % 5)), (sSS.2 0)), (2, (aa ((1 + sSS.1) % 5)), (sSS.2 1)), (2, (aa ((2 + sSS.1) % 5)), (sSS.2 2)), (2, (aa ((3 + sSS.1) % 5)), (sSS.2 3)), (2, (aa ((4 + sSS.1) % 5)), (sSS.2 4))] (fun r_89 => [(4, (zqx qX aa sSS.1), r_87.2), (3, qT, sT), (1, qM, sM), (0, qL, sL), (2, qP, sP), (2, qB, sB), (2, (aa ((0 + sSS.1) % 5)), (sSS.2 0)), (2, (aa ((1 + sSS.1) % 5)), (sSS.2 1)), (2, (aa ((2 + sSS.1) % 5)), (sSS.2 2)), (2, (aa ((3 + sSS.1) % 5)), (sSS.2 3)), (2, (aa ((4 + sSS.1) % 5)), (sSS.2 4)), (5, qD, r_89.2)]) C dL_law_760 zy_X5_hangs zw_1058 (fun _ hr9 => mX5_hangs  hr9) (by decide) rfl rfl (by decide) rfl (Nat.le_of_ble_eq_true rfl) (z_pn 12 _ rfl [11, 0, 1, 2, 3, 4, 5, 6, 7, 8, 9, 10] (by decide)).symm (fun _ => (z_pn 12 _ rfl [1, 2, 3, 4, 5, 6, 7, 8, 9, 10, 11, 0] (by decide)).symm) rfl (fun r_89 hr_90 => ?_)
  show zJ X 4 (1 : Int32) _ 763 [(0, (.ref b)), (1, (.ref (qX 0))), (2, (.ref (qD 0))), (3, (.int x3))] [(.int r_89.1), (.int r_87.1)] [(4, (zqx qX aa sSS.1), r_87.2), (3, qT, sT), (1, qM, sM), (0, qL, sL), (2, qP, sP), (2, qB, sB), (2, (aa ((0 + sSS.1) % 5)), (sSS.2 0)), (2, (aa ((1 + sSS.1) % 5)), (sSS.2 1)), (2, (aa ((2 + sSS.1) % 5)), (sSS.2 2)), (2, (aa ((3 + sSS.1) % 5)), (sSS.2 3)), (2, (aa ((4 + sSS.1) % 5)), (sSS.2 4)), (5, qD, r_89.2)]
  refine z_icmp_eq (pc := 763) 867 C dL_law_763 (by decide) ?_ ?_
  · refine z_iinc (pc := 867) (x3 + 6) 3 rfl rfl [(0, (.ref b)), (1, (.ref (qX 0))), (2, (.ref (qD 0))), (3, (.int (x3 + 6)))] [1, 2, 3, 0] (by decide) rfl C dL_law_867 ?_
    refine z_goto (pc := 870) 18 C dL_law_870 (by decide) ?_
    exact hk_18 _ _ _ _ _ _ _ _ _
  · refine z_iconst (pc := 766) (0 : Int32) (by decide) C dL_law_766 ?_
    exact z_lawret (pc := 767) C hR dL_law_767
def jL_law_768 (F : Nat) (L : Nat) (xs : Nat → Int32) (kc_18 : (Int32 × zOS × zOS × zOS × zOS × zOS × zOS × zSS × zOS) → Option (Int32)) (x3 : Int32) (sX : zOS) (sT : zOS) (sM : zOS) (sL : zOS) (sP : zOS) (sB : zOS) (sSS : zSS) (sD : zOS) : Option (Int32) := (zchk (x3 + (1 : Int32)) L (Option.bind (fX4_type (xs (x3 + (1 : Int32)).toNatClampNeg) sX sT) (fun r_92 : Int32 × zOS × zOS => (zchk (x3 + (1 : Int32)) L (Option.bind (fX5_type (xs (x3 + (1 : Int32)).toNatClampNeg) sD) (fun r_94 : Int32 × zOS => (if r_92.1 = r_94.1 then (kc_18 ((x3 + 6), r_92.2.1, r_92.2.2, sM, sL, sP, sB, sSS, r_94.2)) else (zbk (0 : Int32) (some (0 : Int32))))))))))
set_option maxRecDepth 20000 in
theorem wL_law_768 {X : zCx} {F b L : Nat} {xs : Nat → Int32} {qX : Nat → Nat} {qT : Nat → Nat} {qM : Nat → Nat} {qL : Nat → Nat} {qP : Nat → Nat} {qB : Nat → Nat} {qD : Nat → Nat} {aa : Nat → Nat → Nat} {kc_18 : (Int32 × zOS × zOS × zOS × zOS × zOS × zOS × zSS × zOS) → Option (Int32)} (C : zC X R_law code 4 24 558) (hR : zLw X b L xs) (hM50 : qM 50 = qP 0) (hM51 : qM 51 = qL 0) (hX50 : qX 50 = qP 0) (hX51 : qX 51 = qB 0) (hX52 : qX 52 = qL 0) (hX53 : qX 53 = qM 0) (hX54 : qX 54 = qT 0) (hk_18 : ∀ (y3 : Int32) (tX : zOS) (tT : zOS) (tM : zOS) (tL : zOS) (tP : zOS) (tB : zOS) (tSS : zSS) (tD : zOS), zJ X 4 (1 : Int32) (kc_18 (y3, tX, tT, tM, tL, tP, tB, tSS, tD)) 18 [(0, (.ref b)), (1, (.ref (qX 0))), (2, (.ref (qD 0))), (3, (.int y3))] [] [(4, (zqx qX aa tSS.1), tX), (3, qT, tT), (1, qM, tM), (0, qL, tL), (2, qP, tP), (2, qB, tB), (2, (aa ((0 + tSS.1) % 5)), (tSS.2 0)), (2, (aa ((1 + tSS.1) % 5)), (tSS.2 1)), (2, (aa ((2 + tSS.1) % 5)), (tSS.2 2)), (2, (aa ((3 + tSS.1) % 5)), (tSS.2 3)), (2, (aa ((4 + tSS.1) % 5)), (tSS.2 4)), (5, qD, tD)]) (x3 : Int32) (sX : zOS) (sT : zOS) (sM : zOS) (sL : zOS) (sP : zOS) (sB : zOS) (sSS : zSS) (sD : zOS) : zJ X 4 (1 : Int32) (jL_law_768 F L xs kc_18 x3 sX sT sM sL sP sB sSS sD) 768 [(0, (.ref b)), (1, (.ref (qX 0))), (2, (.ref (qD 0))), (3, (.int x3))] [] [(4, (zqx qX aa sSS.1), sX), (3, qT, sT), (1, qM, sM), (0, qL, sL), (2, qP, sP), (2, qB, sB), (2, (aa ((0 + sSS.1) % 5)), (sSS.2 0)), (2, (aa ((1 + sSS.1) % 5)), (sSS.2 1)), (2, (aa ((2 + sSS.1) % 5)), (sSS.2 2)), (2, (aa ((3 + sSS.1) % 5)), (sSS.2 3)), (2, (aa ((4 + sSS.1) % 5)), (sSS.2 4)), (5, qD, sD)] := by
  unfold jL_law_768
  refine z_aload_n (pc := 768) 1 rfl rfl C dL_law_768 ?_
  refine z_aload_n (pc := 769) 0 rfl rfl C dL_law_769 ?_
  refine z_iload_n (pc := 770) 3 rfl rfl C dL_law_770 ?_
  refine z_iconst (pc := 771) (1 : Int32) (by decide) C dL_law_771 ?_
  refine z_iadd (pc := 772) C dL_law_772 ?_
  refine z_sld (pc := 773) C hR dL_law_773 ?_
  refine z_callV (q' := (zqx qX aa sSS.1)) (pc := 774) (rf' := 2) (rl' := 43) (fX4_type (xs (x3 + (1 : Int32)).toNatClampNeg) sX sT) [(.int (xs (x3 + (1 : Int32)).toNatClampNeg))] [] [(4, (zqx qX aa sSS.1), sX), (3, qT, sT)] (fun r_92 => (some (.int r_92.1))) (fun r_92 => [(4, (zqx qX aa sSS.1), r_92.2.1), (3, qT, r_92.2.2)]) [(1, qM, sM), (0, qL, sL), (2, qP, sP), (2, qB, sB), (2, (aa ((0 + sSS.1) % 5)), (sSS.2 0)), (2, (aa ((1 + sSS.1) % 5)), (sSS.2 1)), (2, (aa ((2 + sSS.1) % 5)), (sSS.2 2)), (2, (aa ((3 + sSS.1) % 5)), (sSS.2 3)), (2, (aa ((4 + sSS.1) % 5)), (sSS.2 4)), (5, qD, sD)] (fun r_92 => [(4, (zqx qX aa sSS.1), r_92.2.1), (3, qT, r_92.2.2), (1, qM, sM), (0, qL, sL), (2, qP, sP), (2, qB, sB), (2, (aa ((0 + sSS.1) % 5)), (sSS.2 0)), (2, (aa ((1 + sSS.1) % 5)), (sSS.2 1)), (2, (aa ((2 + sSS.1) % 5)), (sSS.2 2)), (2, (aa ((3 + sSS.1) % 5)), (sSS.2 3)), (2, (aa ((4 + sSS.1) % 5)), (sSS.2 4)), (5, qD, sD)]) C dL_law_774 zy_X4_type zw_641 (fun _ hr9 => mX4_type hX54 hr9) (by decide) rfl rfl (by decide) rfl (Nat.le_of_ble_eq_true rfl) (List.Perm.refl _) (fun _ => List.Perm.refl _) rfl (fun r_92 hr_93 => ?_)
  show zJ X 4 (1 : Int32) _ 777 [(0, (.ref b)), (1, (.ref (qX 0))), (2, (.ref (qD 0))), (3, (.int x3))] [(.int r_92.1)] [(4, (zqx qX aa sSS.1), r_92.2.1), (3, qT, r_92.2.2), (1, qM, sM), (0, qL, sL), (2, qP, sP), (2, qB, sB), (2, (aa ((0 + sSS.1) % 5)), (sSS.2 0)), (2, (aa ((1 + sSS.1) % 5)), (sSS.2 1)), (2, (aa ((2 + sSS.1) % 5)), (sSS.2 2)), (2, (aa ((3 + sSS.1) % 5)), (sSS.2 3)), (2, (aa ((4 + sSS.1) % 5)), (sSS.2 4)), (5, qD, sD)]
  refine z_aload_n (pc := 777) 2 rfl rfl C dL_law_777 ?_
  refine z_aload_n (pc := 778) 0 rfl rfl C dL_law_778 ?_
  refine z_iload_n (pc := 779) 3 rfl rfl C dL_law_779 ?_
  refine z_iconst (pc := 780) (1 : Int32) (by decide) C dL_law_780 ?_
  refine z_iadd (pc := 781) C dL_law_781 ?_
  refine z_sld (pc := 782) C hR dL_law_782 ?_
  refine z_callV (pc := 783) (rf' := 1) (rl' := 22) (fX5_type (xs (x3 + (1 : Int32)).toNatClampNeg) sD) [(.int (xs (x3 + (1 : Int32)).toNatClampNeg))] [(.int r_92.1)] [(5, qD, sD)] (fun r_94 => (some (.int r_94.1))) (fun r_94 => [(5, qD, r_94.2)]) [(4, (zqx qX aa sSS.1), r_92.2.1), (3, qT, r_92.2.2), (1, qM, sM), (0, qL, sL), (2, qP, sP), (2, qB, sB), (2, (aa ((0 + sSS.1) % 5)), (sSS.2 0)), (2, (aa ((1 + sSS.1) % 5)), (sSS.2 1)), (2, (aa ((2 + sSS.1) % 5)), (sSS.2 2)), (2, (aa ((3 + sSS.1) % 5)), (sSS.2 3)), (2, (aa ((4 + sSS.1) % 5)), (sSS.2 4))] (fun r_94 => [(4, (zqx qX aa sSS.1), r_92.2.1), (3, qT, r_92.2.2), (1, qM, sM), (0, qL, sL), (2, qP, sP), (2, qB, sB), (2, (aa ((0 + sSS.1) % 5)), (sSS.2 0)), (2, (aa ((1 + sSS.1) % 5)), (sSS.2 1)), (2, (aa ((2 + sSS.1) % 5)), (sSS.2 2)), (2, (aa ((3 + sSS.1) % 5)), (sSS.2 3)), (2, (aa ((4 + sSS.1) % 5)), (sSS.2 4)), (5, qD, r_94.2)]) C dL_law_783 zy_X5_type zw_1062 (fun _ hr9 => mX5_type  hr9) (by decide) rfl rfl (by decide) rfl (Nat.le_of_ble_eq_true rfl) (z_pn 12 _ rfl [11, 0, 1, 2, 3, 4, 5, 6, 7, 8, 9, 10] (by decide)).symm (fun _ => (z_pn 12 _ rfl [1, 2, 3, 4, 5, 6, 7, 8, 9, 10, 11, 0] (by decide)).symm) rfl (fun r_94 hr_95 => ?_)
  show zJ X 4 (1 : Int32) _ 786 [(0, (.ref b)), (1, (.ref (qX 0))), (2, (.ref (qD 0))), (3, (.int x3))] [(.int r_94.1), (.int r_92.1)] [(4, (zqx qX aa sSS.1), r_92.2.1), (3, qT, r_92.2.2), (1, qM, sM), (0, qL, sL), (2, qP, sP), (2, qB, sB), (2, (aa ((0 + sSS.1) % 5)), (sSS.2 0)), (2, (aa ((1 + sSS.1) % 5)), (sSS.2 1)), (2, (aa ((2 + sSS.1) % 5)), (sSS.2 2)), (2, (aa ((3 + sSS.1) % 5)), (sSS.2 3)), (2, (aa ((4 + sSS.1) % 5)), (sSS.2 4)), (5, qD, r_94.2)]
  refine z_icmp_eq (pc := 786) 867 C dL_law_786 (by decide) ?_ ?_
  · refine z_iinc (pc := 867) (x3 + 6) 3 rfl rfl [(0, (.ref b)), (1, (.ref (qX 0))), (2, (.ref (qD 0))), (3, (.int (x3 + 6)))] [1, 2, 3, 0] (by decide) rfl C dL_law_867 ?_
    refine z_goto (pc := 870) 18 C dL_law_870 (by decide) ?_
    exact hk_18 _ _ _ _ _ _ _ _ _
  · refine z_iconst (pc := 789) (0 : Int32) (by decide) C dL_law_789 ?_
    exact z_lawret (pc := 790) C hR dL_law_790
def jL_law_791 (F : Nat) (L : Nat) (xs : Nat → Int32) (kc_18 : (Int32 × zOS × zOS × zOS × zOS × zOS × zOS × zSS × zOS) → Option (Int32)) (x3 : Int32) (sX : zOS) (sT : zOS) (sM : zOS) (sL : zOS) (sP : zOS) (sB : zOS) (sSS : zSS) (sD : zOS) : Option (Int32) := (Option.bind (fX4_clear sT) (fun r_97 : Int32 × zOS => (Option.bind (fX5_clear sD) (fun r_99 : Int32 × zOS => (if r_97.1 = r_99.1 then (kc_18 ((x3 + 6), sX, r_97.2, sM, sL, sP, sB, sSS, r_99.2)) else (zbk (0 : Int32) (some (0 : Int32))))))))
set_option maxRecDepth 20000 in
theorem wL_law_791 {X : zCx} {F b L : Nat} {xs : Nat → Int32} {qX : Nat → Nat} {qT : Nat → Nat} {qM : Nat → Nat} {qL : Nat → Nat} {qP : Nat → Nat} {qB : Nat → Nat} {qD : Nat → Nat} {aa : Nat → Nat → Nat} {kc_18 : (Int32 × zOS × zOS × zOS × zOS × zOS × zOS × zSS × zOS) → Option (Int32)} (C : zC X R_law code 4 24 558) (hR : zLw X b L xs) (hM50 : qM 50 = qP 0) (hM51 : qM 51 = qL 0) (hX50 : qX 50 = qP 0) (hX51 : qX 51 = qB 0) (hX52 : qX 52 = qL 0) (hX53 : qX 53 = qM 0) (hX54 : qX 54 = qT 0) (hk_18 : ∀ (y3 : Int32) (tX : zOS) (tT : zOS) (tM : zOS) (tL : zOS) (tP : zOS) (tB : zOS) (tSS : zSS) (tD : zOS), zJ X 4 (1 : Int32) (kc_18 (y3, tX, tT, tM, tL, tP, tB, tSS, tD)) 18 [(0, (.ref b)), (1, (.ref (qX 0))), (2, (.ref (qD 0))), (3, (.int y3))] [] [(4, (zqx qX aa tSS.1), tX), (3, qT, tT), (1, qM, tM), (0, qL, tL), (2, qP, tP), (2, qB, tB), (2, (aa ((0 + tSS.1) % 5)), (tSS.2 0)), (2, (aa ((1 + tSS.1) % 5)), (tSS.2 1)), (2, (aa ((2 + tSS.1) % 5)), (tSS.2 2)), (2, (aa ((3 + tSS.1) % 5)), (tSS.2 3)), (2, (aa ((4 + tSS.1) % 5)), (tSS.2 4)), (5, qD, tD)]) (x3 : Int32) (sX : zOS) (sT : zOS) (sM : zOS) (sL : zOS) (sP : zOS) (sB : zOS) (sSS : zSS) (sD : zOS) : zJ X 4 (1 : Int32) (jL_law_791 F L xs kc_18 x3 sX sT sM sL sP sB sSS sD) 791 [(0, (.ref b)), (1, (.ref (qX 0))), (2, (.ref (qD 0))), (3, (.int x3))] [] [(4, (zqx qX aa sSS.1), sX), (3, qT, sT), (1, qM, sM), (0, qL, sL), (2, qP, sP), (2, qB, sB), (2, (aa ((0 + sSS.1) % 5)), (sSS.2 0)), (2, (aa ((1 + sSS.1) % 5)), (sSS.2 1)), (2, (aa ((2 + sSS.1) % 5)), (sSS.2 2)), (2, (aa ((3 + sSS.1) % 5)), (sSS.2 3)), (2, (aa ((4 + sSS.1) % 5)), (sSS.2 4)), (5, qD, sD)] := by
  unfold jL_law_791
  refine z_aload_n (pc := 791) 1 rfl rfl C dL_law_791 ?_
  refine z_callV (q' := (zqx qX aa sSS.1)) (pc := 792) (rf' := 0) (rl' := 0) (fX4_clear sT) [] [] [(4, (zqx qX aa sSS.1), sX), (3, qT, sT)] (fun r_97 => (some (.int r_97.1))) (fun r_97 => [(4, (zqx qX aa sSS.1), sX), (3, qT, r_97.2)]) [(1, qM, sM), (0, qL, sL), (2, qP, sP), (2, qB, sB), (2, (aa ((0 + sSS.1) % 5)), (sSS.2 0)), (2, (aa ((1 + sSS.1) % 5)), (sSS.2 1)), (2, (aa ((2 + sSS.1) % 5)), (sSS.2 2)), (2, (aa ((3 + sSS.1) % 5)), (sSS.2 3)), (2, (aa ((4 + sSS.1) % 5)), (sSS.2 4)), (5, qD, sD)] (fun r_97 => [(4, (zqx qX aa sSS.1), sX), (3, qT, r_97.2), (1, qM, sM), (0, qL, sL), (2, qP, sP), (2, qB, sB), (2, (aa ((0 + sSS.1) % 5)), (sSS.2 0)), (2, (aa ((1 + sSS.1) % 5)), (sSS.2 1)), (2, (aa ((2 + sSS.1) % 5)), (sSS.2 2)), (2, (aa ((3 + sSS.1) % 5)), (sSS.2 3)), (2, (aa ((4 + sSS.1) % 5)), (sSS.2 4)), (5, qD, sD)]) C dL_law_792 zy_X4_clear zw_649 (fun _ hr9 => mX4_clear hX54 hr9) (by decide) rfl rfl (by decide) rfl (Nat.le_of_ble_eq_true rfl) (List.Perm.refl _) (fun _ => List.Perm.refl _) rfl (fun r_97 hr_98 => ?_)
  show zJ X 4 (1 : Int32) _ 795 [(0, (.ref b)), (1, (.ref (qX 0))), (2, (.ref (qD 0))), (3, (.int x3))] [(.int r_97.1)] [(4, (zqx qX aa sSS.1), sX), (3, qT, r_97.2), (1, qM, sM), (0, qL, sL), (2, qP, sP), (2, qB, sB), (2, (aa ((0 + sSS.1) % 5)), (sSS.2 0)), (2, (aa ((1 + sSS.1) % 5)), (sSS.2 1)), (2, (aa ((2 + sSS.1) % 5)), (sSS.2 2)), (2, (aa ((3 + sSS.1) % 5)), (sSS.2 3)), (2, (aa ((4 + sSS.1) % 5)), (sSS.2 4)), (5, qD, sD)]
  refine z_aload_n (pc := 795) 2 rfl rfl C dL_law_795 ?_
  refine z_callV (pc := 796) (rf' := 0) (rl' := 0) (fX5_clear sD) [] [(.int r_97.1)] [(5, qD, sD)] (fun r_99 => (some (.int r_99.1))) (fun r_99 => [(5, qD, r_99.2)]) [(4, (zqx qX aa sSS.1), sX), (3, qT, r_97.2), (1, qM, sM), (0, qL, sL), (2, qP, sP), (2, qB, sB), (2, (aa ((0 + sSS.1) % 5)), (sSS.2 0)), (2, (aa ((1 + sSS.1) % 5)), (sSS.2 1)), (2, (aa ((2 + sSS.1) % 5)), (sSS.2 2)), (2, (aa ((3 + sSS.1) % 5)), (sSS.2 3)), (2, (aa ((4 + sSS.1) % 5)), (sSS.2 4))] (fun r_99 => [(4, (zqx qX aa sSS.1), sX), (3, qT, r_97.2), (1, qM, sM), (0, qL, sL), (2, qP, sP), (2, qB, sB), (2, (aa ((0 + sSS.1) % 5)), (sSS.2 0)), (2, (aa ((1 + sSS.1) % 5)), (sSS.2 1)), (2, (aa ((2 + sSS.1) % 5)), (sSS.2 2)), (2, (aa ((3 + sSS.1) % 5)), (sSS.2 3)), (2, (aa ((4 + sSS.1) % 5)), (sSS.2 4)), (5, qD, r_99.2)]) C dL_law_796 zy_X5_clear zw_1066 (fun _ hr9 => mX5_clear  hr9) (by decide) rfl rfl (by decide) rfl (Nat.le_of_ble_eq_true rfl) (z_pn 12 _ rfl [11, 0, 1, 2, 3, 4, 5, 6, 7, 8, 9, 10] (by decide)).symm (fun _ => (z_pn 12 _ rfl [1, 2, 3, 4, 5, 6, 7, 8, 9, 10, 11, 0] (by decide)).symm) rfl (fun r_99 hr_100 => ?_)
  show zJ X 4 (1 : Int32) _ 799 [(0, (.ref b)), (1, (.ref (qX 0))), (2, (.ref (qD 0))), (3, (.int x3))] [(.int r_99.1), (.int r_97.1)] [(4, (zqx qX aa sSS.1), sX), (3, qT, r_97.2), (1, qM, sM), (0, qL, sL), (2, qP, sP), (2, qB, sB), (2, (aa ((0 + sSS.1) % 5)), (sSS.2 0)), (2, (aa ((1 + sSS.1) % 5)), (sSS.2 1)), (2, (aa ((2 + sSS.1) % 5)), (sSS.2 2)), (2, (aa ((3 + sSS.1) % 5)), (sSS.2 3)), (2, (aa ((4 + sSS.1) % 5)), (sSS.2 4)), (5, qD, r_99.2)]
  refine z_icmp_eq (pc := 799) 867 C dL_law_799 (by decide) ?_ ?_
  · refine z_iinc (pc := 867) (x3 + 6) 3 rfl rfl [(0, (.ref b)), (1, (.ref (qX 0))), (2, (.ref (qD 0))), (3, (.int (x3 + 6)))] [1, 2, 3, 0] (by decide) rfl C dL_law_867 ?_
    refine z_goto (pc := 870) 18 C dL_law_870 (by decide) ?_
    exact hk_18 _ _ _ _ _ _ _ _ _
  · refine z_iconst (pc := 802) (0 : Int32) (by decide) C dL_law_802 ?_
    exact z_lawret (pc := 803) C hR dL_law_803
def jL_law_804 (F : Nat) (L : Nat) (xs : Nat → Int32) (kc_18 : (Int32 × zOS × zOS × zOS × zOS × zOS × zOS × zSS × zOS) → Option (Int32)) (x3 : Int32) (sX : zOS) (sT : zOS) (sM : zOS) (sL : zOS) (sP : zOS) (sB : zOS) (sSS : zSS) (sD : zOS) : Option (Int32) := (Option.bind (fX4_does F sX sT sP sB sSS) (fun r_102 : Int32 × zOS × zOS × zOS × zOS × zSS => (Option.bind (fX5_does F sD) (fun r_104 : Int32 × zOS => (if r_102.1 = r_104.1 then (kc_18 ((x3 + 6), r_102.2.1, r_102.2.2.1, sM, sL, r_102.2.2.2.1, r_102.2.2.2.2.1, r_102.2.2.2.2.2, r_104.2)) else (zbk (0 : Int32) (some (0 : Int32))))))))
set_option maxRecDepth 20000 in
theorem wL_law_804 {X : zCx} {F b L : Nat} {xs : Nat → Int32} {qX : Nat → Nat} {qT : Nat → Nat} {qM : Nat → Nat} {qL : Nat → Nat} {qP : Nat → Nat} {qB : Nat → Nat} {qD : Nat → Nat} {aa : Nat → Nat → Nat} {kc_18 : (Int32 × zOS × zOS × zOS × zOS × zOS × zOS × zSS × zOS) → Option (Int32)} (C : zC X R_law code 4 24 558) (hR : zLw X b L xs) (hM50 : qM 50 = qP 0) (hM51 : qM 51 = qL 0) (hX50 : qX 50 = qP 0) (hX51 : qX 51 = qB 0) (hX52 : qX 52 = qL 0) (hX53 : qX 53 = qM 0) (hX54 : qX 54 = qT 0) (hk_18 : ∀ (y3 : Int32) (tX : zOS) (tT : zOS) (tM : zOS) (tL : zOS) (tP : zOS) (tB : zOS) (tSS : zSS) (tD : zOS), zJ X 4 (1 : Int32) (kc_18 (y3, tX, tT, tM, tL, tP, tB, tSS, tD)) 18 [(0, (.ref b)), (1, (.ref (qX 0))), (2, (.ref (qD 0))), (3, (.int y3))] [] [(4, (zqx qX aa tSS.1), tX), (3, qT, tT), (1, qM, tM), (0, qL, tL), (2, qP, tP), (2, qB, tB), (2, (aa ((0 + tSS.1) % 5)), (tSS.2 0)), (2, (aa ((1 + tSS.1) % 5)), (tSS.2 1)), (2, (aa ((2 + tSS.1) % 5)), (tSS.2 2)), (2, (aa ((3 + tSS.1) % 5)), (tSS.2 3)), (2, (aa ((4 + tSS.1) % 5)), (tSS.2 4)), (5, qD, tD)]) (x3 : Int32) (sX : zOS) (sT : zOS) (sM : zOS) (sL : zOS) (sP : zOS) (sB : zOS) (sSS : zSS) (sD : zOS) : zJ X 4 (1 : Int32) (jL_law_804 F L xs kc_18 x3 sX sT sM sL sP sB sSS sD) 804 [(0, (.ref b)), (1, (.ref (qX 0))), (2, (.ref (qD 0))), (3, (.int x3))] [] [(4, (zqx qX aa sSS.1), sX), (3, qT, sT), (1, qM, sM), (0, qL, sL), (2, qP, sP), (2, qB, sB), (2, (aa ((0 + sSS.1) % 5)), (sSS.2 0)), (2, (aa ((1 + sSS.1) % 5)), (sSS.2 1)), (2, (aa ((2 + sSS.1) % 5)), (sSS.2 2)), (2, (aa ((3 + sSS.1) % 5)), (sSS.2 3)), (2, (aa ((4 + sSS.1) % 5)), (sSS.2 4)), (5, qD, sD)] := by
  unfold jL_law_804
  refine z_aload_n (pc := 804) 1 rfl rfl C dL_law_804 ?_
  refine z_callV (q' := (zqx qX aa sSS.1)) (pc := 805) (rf' := 6) (rl' := 141) (fX4_does F sX sT sP sB sSS) [] [] [(4, (zqx qX aa sSS.1), sX), (3, qT, sT), (2, qP, sP), (2, qB, sB), (2, (aa ((0 + sSS.1) % 5)), (sSS.2 0)), (2, (aa ((1 + sSS.1) % 5)), (sSS.2 1)), (2, (aa ((2 + sSS.1) % 5)), (sSS.2 2)), (2, (aa ((3 + sSS.1) % 5)), (sSS.2 3)), (2, (aa ((4 + sSS.1) % 5)), (sSS.2 4))] (fun r_102 => (some (.int r_102.1))) (fun r_102 => [(4, (zqx qX aa r_102.2.2.2.2.2.1), r_102.2.1), (3, qT, r_102.2.2.1), (2, qP, r_102.2.2.2.1), (2, qB, r_102.2.2.2.2.1), (2, (aa ((0 + r_102.2.2.2.2.2.1) % 5)), (r_102.2.2.2.2.2.2 0)), (2, (aa ((1 + r_102.2.2.2.2.2.1) % 5)), (r_102.2.2.2.2.2.2 1)), (2, (aa ((2 + r_102.2.2.2.2.2.1) % 5)), (r_102.2.2.2.2.2.2 2)), (2, (aa ((3 + r_102.2.2.2.2.2.1) % 5)), (r_102.2.2.2.2.2.2 3)), (2, (aa ((4 + r_102.2.2.2.2.2.1) % 5)), (r_102.2.2.2.2.2.2 4))]) [(1, qM, sM), (0, qL, sL), (5, qD, sD)] (fun r_102 => [(4, (zqx qX aa r_102.2.2.2.2.2.1), r_102.2.1), (3, qT, r_102.2.2.1), (1, qM, sM), (0, qL, sL), (2, qP, r_102.2.2.2.1), (2, qB, r_102.2.2.2.2.1), (2, (aa ((0 + r_102.2.2.2.2.2.1) % 5)), (r_102.2.2.2.2.2.2 0)), (2, (aa ((1 + r_102.2.2.2.2.2.1) % 5)), (r_102.2.2.2.2.2.2 1)), (2, (aa ((2 + r_102.2.2.2.2.2.1) % 5)), (r_102.2.2.2.2.2.2 2)), (2, (aa ((3 + r_102.2.2.2.2.2.1) % 5)), (r_102.2.2.2.2.2.2 3)), (2, (aa ((4 + r_102.2.2.2.2.2.1) % 5)), (r_102.2.2.2.2.2.2 4)), (5, qD, sD)]) C dL_law_805 zy_X4_does zw_653 (fun _ hr9 => mX4_does (qX := qX) (qT := qT) (qP := qP) (qB := qB) (aa := aa) hX50 hX51 hX54 hr9) (by decide) rfl rfl (by decide) rfl (Nat.le_of_ble_eq_true rfl) (z_pn 12 _ rfl [0, 1, 4, 5, 6, 7, 8, 9, 10, 2, 3, 11] (by decide)).symm (fun _ => (z_pn 12 _ rfl [0, 1, 9, 10, 2, 3, 4, 5, 6, 7, 8, 11] (by decide)).symm) rfl (fun r_102 hr_103 => ?_)
  show zJ X 4 (1 : Int32) _ 808 [(0, (.ref b)), (1, (.ref (qX 0))), (2, (.ref (qD 0))), (3, (.int x3))] [(.int r_102.1)] [(4, (zqx qX aa r_102.2.2.2.2.2.1), r_102.2.1), (3, qT, r_102.2.2.1), (1, qM, sM), (0, qL, sL), (2, qP, r_102.2.2.2.1), (2, qB, r_102.2.2.2.2.1), (2, (aa ((0 + r_102.2.2.2.2.2.1) % 5)), (r_102.2.2.2.2.2.2 0)), (2, (aa ((1 + r_102.2.2.2.2.2.1) % 5)), (r_102.2.2.2.2.2.2 1)), (2, (aa ((2 + r_102.2.2.2.2.2.1) % 5)), (r_102.2.2.2.2.2.2 2)), (2, (aa ((3 + r_102.2.2.2.2.2.1) % 5)), (r_102.2.2.2.2.2.2 3)), (2, (aa ((4 + r_102.2.2.2.2.2.1) % 5)), (r_102.2.2.2.2.2.2 4)), (5, qD, sD)]
  refine z_aload_n (pc := 808) 2 rfl rfl C dL_law_808 ?_
  refine z_callV (pc := 809) (rf' := 4) (rl' := 96) (fX5_does F sD) [] [(.int r_102.1)] [(5, qD, sD)] (fun r_104 => (some (.int r_104.1))) (fun r_104 => [(5, qD, r_104.2)]) [(4, (zqx qX aa r_102.2.2.2.2.2.1), r_102.2.1), (3, qT, r_102.2.2.1), (1, qM, sM), (0, qL, sL), (2, qP, r_102.2.2.2.1), (2, qB, r_102.2.2.2.2.1), (2, (aa ((0 + r_102.2.2.2.2.2.1) % 5)), (r_102.2.2.2.2.2.2 0)), (2, (aa ((1 + r_102.2.2.2.2.2.1) % 5)), (r_102.2.2.2.2.2.2 1)), (2, (aa ((2 + r_102.2.2.2.2.2.1) % 5)), (r_102.2.2.2.2.2.2 2)), (2, (aa ((3 + r_102.2.2.2.2.2.1) % 5)), (r_102.2.2.2.2.2.2 3)), (2, (aa ((4 + r_102.2.2.2.2.2.1) % 5)), (r_102.2.2.2.2.2.2 4))] (fun r_104 => [(4, (zqx qX aa r_102.2.2.2.2.2.1), r_102.2.1), (3, qT, r_102.2.2.1), (1, qM, sM), (0, qL, sL), (2, qP, r_102.2.2.2.1), (2, qB, r_102.2.2.2.2.1), (2, (aa ((0 + r_102.2.2.2.2.2.1) % 5)), (r_102.2.2.2.2.2.2 0)), (2, (aa ((1 + r_102.2.2.2.2.2.1) % 5)), (r_102.2.2.2.2.2.2 1)), (2, (aa ((2 + r_102.2.2.2.2.2.1) % 5)), (r_102.2.2.2.2.2.2 2)), (2, (aa ((3 + r_102.2.2.2.2.2.1) % 5)), (r_102.2.2.2.2.2.2 3)), (2, (aa ((4 + r_102.2.2.2.2.2.1) % 5)), (r_102.2.2.2.2.2.2 4)), (5, qD, r_104.2)]) C dL_law_809 zy_X5_does zw_1070 (fun _ hr9 => mX5_does  hr9) (by decide) rfl rfl (by decide) rfl (Nat.le_of_ble_eq_true rfl) (z_pn 12 _ rfl [11, 0, 1, 2, 3, 4, 5, 6, 7, 8, 9, 10] (by decide)).symm (fun _ => (z_pn 12 _ rfl [1, 2, 3, 4, 5, 6, 7, 8, 9, 10, 11, 0] (by decide)).symm) rfl (fun r_104 hr_105 => ?_)
  show zJ X 4 (1 : Int32) _ 812 [(0, (.ref b)), (1, (.ref (qX 0))), (2, (.ref (qD 0))), (3, (.int x3))] [(.int r_104.1), (.int r_102.1)] [(4, (zqx qX aa r_102.2.2.2.2.2.1), r_102.2.1), (3, qT, r_102.2.2.1), (1, qM, sM), (0, qL, sL), (2, qP, r_102.2.2.2.1), (2, qB, r_102.2.2.2.2.1), (2, (aa ((0 + r_102.2.2.2.2.2.1) % 5)), (r_102.2.2.2.2.2.2 0)), (2, (aa ((1 + r_102.2.2.2.2.2.1) % 5)), (r_102.2.2.2.2.2.2 1)), (2, (aa ((2 + r_102.2.2.2.2.2.1) % 5)), (r_102.2.2.2.2.2.2 2)), (2, (aa ((3 + r_102.2.2.2.2.2.1) % 5)), (r_102.2.2.2.2.2.2 3)), (2, (aa ((4 + r_102.2.2.2.2.2.1) % 5)), (r_102.2.2.2.2.2.2 4)), (5, qD, r_104.2)]
  refine z_icmp_eq (pc := 812) 867 C dL_law_812 (by decide) ?_ ?_
  · refine z_iinc (pc := 867) (x3 + 6) 3 rfl rfl [(0, (.ref b)), (1, (.ref (qX 0))), (2, (.ref (qD 0))), (3, (.int (x3 + 6)))] [1, 2, 3, 0] (by decide) rfl C dL_law_867 ?_
    refine z_goto (pc := 870) 18 C dL_law_870 (by decide) ?_
    exact hk_18 _ _ _ _ _ _ _ _ _
  · refine z_iconst (pc := 815) (0 : Int32) (by decide) C dL_law_815 ?_
    exact z_lawret (pc := 816) C hR dL_law_816
def jL_law_817 (F : Nat) (L : Nat) (xs : Nat → Int32) (kc_18 : (Int32 × zOS × zOS × zOS × zOS × zOS × zOS × zSS × zOS) → Option (Int32)) (x3 : Int32) (sX : zOS) (sT : zOS) (sM : zOS) (sL : zOS) (sP : zOS) (sB : zOS) (sSS : zSS) (sD : zOS) : Option (Int32) := (Option.bind (fX4_back sX sP sSS) (fun r_107 : Int32 × zOS × zOS => (Option.bind (fX5_back F sD) (fun r_109 : Int32 × zOS => (if r_107.1 = r_109.1 then (kc_18 ((x3 + 6), r_107.2.1, sT, sM, sL, r_107.2.2, sB, sSS, r_109.2)) else (zbk (0 : Int32) (some (0 : Int32))))))))
set_option maxRecDepth 20000 in
theorem wL_law_817 {X : zCx} {F b L : Nat} {xs : Nat → Int32} {qX : Nat → Nat} {qT : Nat → Nat} {qM : Nat → Nat} {qL : Nat → Nat} {qP : Nat → Nat} {qB : Nat → Nat} {qD : Nat → Nat} {aa : Nat → Nat → Nat} {kc_18 : (Int32 × zOS × zOS × zOS × zOS × zOS × zOS × zSS × zOS) → Option (Int32)} (C : zC X R_law code 4 24 558) (hR : zLw X b L xs) (hM50 : qM 50 = qP 0) (hM51 : qM 51 = qL 0) (hX50 : qX 50 = qP 0) (hX51 : qX 51 = qB 0) (hX52 : qX 52 = qL 0) (hX53 : qX 53 = qM 0) (hX54 : qX 54 = qT 0) (hk_18 : ∀ (y3 : Int32) (tX : zOS) (tT : zOS) (tM : zOS) (tL : zOS) (tP : zOS) (tB : zOS) (tSS : zSS) (tD : zOS), zJ X 4 (1 : Int32) (kc_18 (y3, tX, tT, tM, tL, tP, tB, tSS, tD)) 18 [(0, (.ref b)), (1, (.ref (qX 0))), (2, (.ref (qD 0))), (3, (.int y3))] [] [(4, (zqx qX aa tSS.1), tX), (3, qT, tT), (1, qM, tM), (0, qL, tL), (2, qP, tP), (2, qB, tB), (2, (aa ((0 + tSS.1) % 5)), (tSS.2 0)), (2, (aa ((1 + tSS.1) % 5)), (tSS.2 1)), (2, (aa ((2 + tSS.1) % 5)), (tSS.2 2)), (2, (aa ((3 + tSS.1) % 5)), (tSS.2 3)), (2, (aa ((4 + tSS.1) % 5)), (tSS.2 4)), (5, qD, tD)]) (x3 : Int32) (sX : zOS) (sT : zOS) (sM : zOS) (sL : zOS) (sP : zOS) (sB : zOS) (sSS : zSS) (sD : zOS) : zJ X 4 (1 : Int32) (jL_law_817 F L xs kc_18 x3 sX sT sM sL sP sB sSS sD) 817 [(0, (.ref b)), (1, (.ref (qX 0))), (2, (.ref (qD 0))), (3, (.int x3))] [] [(4, (zqx qX aa sSS.1), sX), (3, qT, sT), (1, qM, sM), (0, qL, sL), (2, qP, sP), (2, qB, sB), (2, (aa ((0 + sSS.1) % 5)), (sSS.2 0)), (2, (aa ((1 + sSS.1) % 5)), (sSS.2 1)), (2, (aa ((2 + sSS.1) % 5)), (sSS.2 2)), (2, (aa ((3 + sSS.1) % 5)), (sSS.2 3)), (2, (aa ((4 + sSS.1) % 5)), (sSS.2 4)), (5, qD, sD)] := by
  unfold jL_law_817
  refine z_aload_n (pc := 817) 1 rfl rfl C dL_law_817 ?_
  refine z_callV (q' := (zqx qX aa sSS.1)) (pc := 818) (rf' := 2) (rl' := 47) (fX4_back sX sP sSS) [] [] [(4, (zqx qX aa sSS.1), sX), (2, qP, sP), (2, (aa ((0 + sSS.1) % 5)), (sSS.2 0)), (2, (aa ((1 + sSS.1) % 5)), (sSS.2 1)), (2, (aa ((2 + sSS.1) % 5)), (sSS.2 2)), (2, (aa ((3 + sSS.1) % 5)), (sSS.2 3)), (2, (aa ((4 + sSS.1) % 5)), (sSS.2 4))] (fun r_107 => (some (.int r_107.1))) (fun r_107 => [(4, (zqx qX aa sSS.1), r_107.2.1), (2, qP, r_107.2.2), (2, (aa ((0 + sSS.1) % 5)), (sSS.2 0)), (2, (aa ((1 + sSS.1) % 5)), (sSS.2 1)), (2, (aa ((2 + sSS.1) % 5)), (sSS.2 2)), (2, (aa ((3 + sSS.1) % 5)), (sSS.2 3)), (2, (aa ((4 + sSS.1) % 5)), (sSS.2 4))]) [(3, qT, sT), (1, qM, sM), (0, qL, sL), (2, qB, sB), (5, qD, sD)] (fun r_107 => [(4, (zqx qX aa sSS.1), r_107.2.1), (3, qT, sT), (1, qM, sM), (0, qL, sL), (2, qP, r_107.2.2), (2, qB, sB), (2, (aa ((0 + sSS.1) % 5)), (sSS.2 0)), (2, (aa ((1 + sSS.1) % 5)), (sSS.2 1)), (2, (aa ((2 + sSS.1) % 5)), (sSS.2 2)), (2, (aa ((3 + sSS.1) % 5)), (sSS.2 3)), (2, (aa ((4 + sSS.1) % 5)), (sSS.2 4)), (5, qD, sD)]) C dL_law_818 zy_X4_back zw_680 (fun _ hr9 => mX4_back (qX := qX) (qP := qP) (aa := aa) hX50 hr9) (by decide) rfl rfl (by decide) rfl (Nat.le_of_ble_eq_true rfl) (z_pn 12 _ rfl [0, 4, 6, 7, 8, 9, 10, 1, 2, 3, 5, 11] (by decide)).symm (fun _ => (z_pn 12 _ rfl [0, 7, 8, 9, 1, 10, 2, 3, 4, 5, 6, 11] (by decide)).symm) rfl (fun r_107 hr_108 => ?_)
  show zJ X 4 (1 : Int32) _ 821 [(0, (.ref b)), (1, (.ref (qX 0))), (2, (.ref (qD 0))), (3, (.int x3))] [(.int r_107.1)] [(4, (zqx qX aa sSS.1), r_107.2.1), (3, qT, sT), (1, qM, sM), (0, qL, sL), (2, qP, r_107.2.2), (2, qB, sB), (2, (aa ((0 + sSS.1) % 5)), (sSS.2 0)), (2, (aa ((1 + sSS.1) % 5)), (sSS.2 1)), (2, (aa ((2 + sSS.1) % 5)), (sSS.2 2)), (2, (aa ((3 + sSS.1) % 5)), (sSS.2 3)), (2, (aa ((4 + sSS.1) % 5)), (sSS.2 4)), (5, qD, sD)]
  refine z_aload_n (pc := 821) 2 rfl rfl C dL_law_821 ?_
  refine z_callV (pc := 822) (rf' := 1) (rl' := 21) (fX5_back F sD) [] [(.int r_107.1)] [(5, qD, sD)] (fun r_109 => (some (.int r_109.1))) (fun r_109 => [(5, qD, r_109.2)]) [(4, (zqx qX aa sSS.1), r_107.2.1), (3, qT, sT), (1, qM, sM), (0, qL, sL), (2, qP, r_107.2.2), (2, qB, sB), (2, (aa ((0 + sSS.1) % 5)), (sSS.2 0)), (2, (aa ((1 + sSS.1) % 5)), (sSS.2 1)), (2, (aa ((2 + sSS.1) % 5)), (sSS.2 2)), (2, (aa ((3 + sSS.1) % 5)), (sSS.2 3)), (2, (aa ((4 + sSS.1) % 5)), (sSS.2 4))] (fun r_109 => [(4, (zqx qX aa sSS.1), r_107.2.1), (3, qT, sT), (1, qM, sM), (0, qL, sL), (2, qP, r_107.2.2), (2, qB, sB), (2, (aa ((0 + sSS.1) % 5)), (sSS.2 0)), (2, (aa ((1 + sSS.1) % 5)), (sSS.2 1)), (2, (aa ((2 + sSS.1) % 5)), (sSS.2 2)), (2, (aa ((3 + sSS.1) % 5)), (sSS.2 3)), (2, (aa ((4 + sSS.1) % 5)), (sSS.2 4)), (5, qD, r_109.2)]) C dL_law_822 zy_X5_back zw_794 (fun _ hr9 => mX5_back  hr9) (by decide) rfl rfl (by decide) rfl (Nat.le_of_ble_eq_true rfl) (z_pn 12 _ rfl [11, 0, 1, 2, 3, 4, 5, 6, 7, 8, 9, 10] (by decide)).symm (fun _ => (z_pn 12 _ rfl [1, 2, 3, 4, 5, 6, 7, 8, 9, 10, 11, 0] (by decide)).symm) rfl (fun r_109 hr_110 => ?_)
  show zJ X 4 (1 : Int32) _ 825 [(0, (.ref b)), (1, (.ref (qX 0))), (2, (.ref (qD 0))), (3, (.int x3))] [(.int r_109.1), (.int r_107.1)] [(4, (zqx qX aa sSS.1), r_107.2.1), (3, qT, sT), (1, qM, sM), (0, qL, sL), (2, qP, r_107.2.2), (2, qB, sB), (2, (aa ((0 + sSS.1) % 5)), (sSS.2 0)), (2, (aa ((1 + sSS.1) % 5)), (sSS.2 1)), (2, (aa ((2 + sSS.1) % 5)), (sSS.2 2)), (2, (aa ((3 + sSS.1) % 5)), (sSS.2 3)), (2, (aa ((4 + sSS.1) % 5)), (sSS.2 4)), (5, qD, r_109.2)]
  refine z_icmp_eq (pc := 825) 867 C dL_law_825 (by decide) ?_ ?_
  · refine z_iinc (pc := 867) (x3 + 6) 3 rfl rfl [(0, (.ref b)), (1, (.ref (qX 0))), (2, (.ref (qD 0))), (3, (.int (x3 + 6)))] [1, 2, 3, 0] (by decide) rfl C dL_law_867 ?_
    refine z_goto (pc := 870) 18 C dL_law_870 (by decide) ?_
    exact hk_18 _ _ _ _ _ _ _ _ _
  · refine z_iconst (pc := 828) (0 : Int32) (by decide) C dL_law_828 ?_
    exact z_lawret (pc := 829) C hR dL_law_829
def jL_law_830 (F : Nat) (L : Nat) (xs : Nat → Int32) (kc_18 : (Int32 × zOS × zOS × zOS × zOS × zOS × zOS × zSS × zOS) → Option (Int32)) (x3 : Int32) (sX : zOS) (sT : zOS) (sM : zOS) (sL : zOS) (sP : zOS) (sB : zOS) (sSS : zSS) (sD : zOS) : Option (Int32) := (zchk (x3 + (1 : Int32)) L (Option.bind (fX4_told (xs (x3 + (1 : Int32)).toNatClampNeg) sX sT) (fun r_112 : Int32 × zOS => (zchk (x3 + (1 : Int32)) L (Option.bind (fX5_told (xs (x3 + (1 : Int32)).toNatClampNeg) sD) (fun r_114 : Int32 × zOS => (if r_112.1 = r_114.1 then (kc_18 ((x3 + 6), r_112.2, sT, sM, sL, sP, sB, sSS, r_114.2)) else (zbk (0 : Int32) (some (0 : Int32))))))))))
set_option maxRecDepth 20000 in
theorem wL_law_830 {X : zCx} {F b L : Nat} {xs : Nat → Int32} {qX : Nat → Nat} {qT : Nat → Nat} {qM : Nat → Nat} {qL : Nat → Nat} {qP : Nat → Nat} {qB : Nat → Nat} {qD : Nat → Nat} {aa : Nat → Nat → Nat} {kc_18 : (Int32 × zOS × zOS × zOS × zOS × zOS × zOS × zSS × zOS) → Option (Int32)} (C : zC X R_law code 4 24 558) (hR : zLw X b L xs) (hM50 : qM 50 = qP 0) (hM51 : qM 51 = qL 0) (hX50 : qX 50 = qP 0) (hX51 : qX 51 = qB 0) (hX52 : qX 52 = qL 0) (hX53 : qX 53 = qM 0) (hX54 : qX 54 = qT 0) (hk_18 : ∀ (y3 : Int32) (tX : zOS) (tT : zOS) (tM : zOS) (tL : zOS) (tP : zOS) (tB : zOS) (tSS : zSS) (tD : zOS), zJ X 4 (1 : Int32) (kc_18 (y3, tX, tT, tM, tL, tP, tB, tSS, tD)) 18 [(0, (.ref b)), (1, (.ref (qX 0))), (2, (.ref (qD 0))), (3, (.int y3))] [] [(4, (zqx qX aa tSS.1), tX), (3, qT, tT), (1, qM, tM), (0, qL, tL), (2, qP, tP), (2, qB, tB), (2, (aa ((0 + tSS.1) % 5)), (tSS.2 0)), (2, (aa ((1 + tSS.1) % 5)), (tSS.2 1)), (2, (aa ((2 + tSS.1) % 5)), (tSS.2 2)), (2, (aa ((3 + tSS.1) % 5)), (tSS.2 3)), (2, (aa ((4 + tSS.1) % 5)), (tSS.2 4)), (5, qD, tD)]) (x3 : Int32) (sX : zOS) (sT : zOS) (sM : zOS) (sL : zOS) (sP : zOS) (sB : zOS) (sSS : zSS) (sD : zOS) : zJ X 4 (1 : Int32) (jL_law_830 F L xs kc_18 x3 sX sT sM sL sP sB sSS sD) 830 [(0, (.ref b)), (1, (.ref (qX 0))), (2, (.ref (qD 0))), (3, (.int x3))] [] [(4, (zqx qX aa sSS.1), sX), (3, qT, sT), (1, qM, sM), (0, qL, sL), (2, qP, sP), (2, qB, sB), (2, (aa ((0 + sSS.1) % 5)), (sSS.2 0)), (2, (aa ((1 + sSS.1) % 5)), (sSS.2 1)), (2, (aa ((2 + sSS.1) % 5)), (sSS.2 2)), (2, (aa ((3 + sSS.1) % 5)), (sSS.2 3)), (2, (aa ((4 + sSS.1) % 5)), (sSS.2 4)), (5, qD, sD)] := by
  unfold jL_law_830
  refine z_aload_n (pc := 830) 1 rfl rfl C dL_law_830 ?_
  refine z_aload_n (pc := 831) 0 rfl rfl C dL_law_831 ?_
  refine z_iload_n (pc := 832) 3 rfl rfl C dL_law_832 ?_
  refine z_iconst (pc := 833) (1 : Int32) (by decide) C dL_law_833 ?_
  refine z_iadd (pc := 834) C dL_law_834 ?_
  refine z_sld (pc := 835) C hR dL_law_835 ?_
  refine z_callV (q' := (zqx qX aa sSS.1)) (pc := 836) (rf' := 2) (rl' := 43) (fX4_told (xs (x3 + (1 : Int32)).toNatClampNeg) sX sT) [(.int (xs (x3 + (1 : Int32)).toNatClampNeg))] [] [(4, (zqx qX aa sSS.1), sX), (3, qT, sT)] (fun r_112 => (some (.int r_112.1))) (fun r_112 => [(4, (zqx qX aa sSS.1), r_112.2), (3, qT, sT)]) [(1, qM, sM), (0, qL, sL), (2, qP, sP), (2, qB, sB), (2, (aa ((0 + sSS.1) % 5)), (sSS.2 0)), (2, (aa ((1 + sSS.1) % 5)), (sSS.2 1)), (2, (aa ((2 + sSS.1) % 5)), (sSS.2 2)), (2, (aa ((3 + sSS.1) % 5)), (sSS.2 3)), (2, (aa ((4 + sSS.1) % 5)), (sSS.2 4)), (5, qD, sD)] (fun r_112 => [(4, (zqx qX aa sSS.1), r_112.2), (3, qT, sT), (1, qM, sM), (0, qL, sL), (2, qP, sP), (2, qB, sB), (2, (aa ((0 + sSS.1) % 5)), (sSS.2 0)), (2, (aa ((1 + sSS.1) % 5)), (sSS.2 1)), (2, (aa ((2 + sSS.1) % 5)), (sSS.2 2)), (2, (aa ((3 + sSS.1) % 5)), (sSS.2 3)), (2, (aa ((4 + sSS.1) % 5)), (sSS.2 4)), (5, qD, sD)]) C dL_law_836 zy_X4_told zw_684 (fun _ hr9 => mX4_told hX54 hr9) (by decide) rfl rfl (by decide) rfl (Nat.le_of_ble_eq_true rfl) (List.Perm.refl _) (fun _ => List.Perm.refl _) rfl (fun r_112 hr_113 => ?_)
  show zJ X 4 (1 : Int32) _ 839 [(0, (.ref b)), (1, (.ref (qX 0))), (2, (.ref (qD 0))), (3, (.int x3))] [(.int r_112.1)] [(4, (zqx qX aa sSS.1), r_112.2), (3, qT, sT), (1, qM, sM), (0, qL, sL), (2, qP, sP), (2, qB, sB), (2, (aa ((0 + sSS.1) % 5)), (sSS.2 0)), (2, (aa ((1 + sSS.1) % 5)), (sSS.2 1)), (2, (aa ((2 + sSS.1) % 5)), (sSS.2 2)), (2, (aa ((3 + sSS.1) % 5)), (sSS.2 3)), (2, (aa ((4 + sSS.1) % 5)), (sSS.2 4)), (5, qD, sD)]
  refine z_aload_n (pc := 839) 2 rfl rfl C dL_law_839 ?_
  refine z_aload_n (pc := 840) 0 rfl rfl C dL_law_840 ?_
  refine z_iload_n (pc := 841) 3 rfl rfl C dL_law_841 ?_
  refine z_iconst (pc := 842) (1 : Int32) (by decide) C dL_law_842 ?_
  refine z_iadd (pc := 843) C dL_law_843 ?_
  refine z_sld (pc := 844) C hR dL_law_844 ?_
  refine z_callV (pc := 845) (rf' := 1) (rl' := 22) (fX5_told (xs (x3 + (1 : Int32)).toNatClampNeg) sD) [(.int (xs (x3 + (1 : Int32)).toNatClampNeg))] [(.int r_112.1)] [(5, qD, sD)] (fun r_114 => (some (.int r_114.1))) (fun r_114 => [(5, qD, r_114.2)]) [(4, (zqx qX aa sSS.1), r_112.2), (3, qT, sT), (1, qM, sM), (0, qL, sL), (2, qP, sP), (2, qB, sB), (2, (aa ((0 + sSS.1) % 5)), (sSS.2 0)), (2, (aa ((1 + sSS.1) % 5)), (sSS.2 1)), (2, (aa ((2 + sSS.1) % 5)), (sSS.2 2)), (2, (aa ((3 + sSS.1) % 5)), (sSS.2 3)), (2, (aa ((4 + sSS.1) % 5)), (sSS.2 4))] (fun r_114 => [(4, (zqx qX aa sSS.1), r_112.2), (3, qT, sT), (1, qM, sM), (0, qL, sL), (2, qP, sP), (2, qB, sB), (2, (aa ((0 + sSS.1) % 5)), (sSS.2 0)), (2, (aa ((1 + sSS.1) % 5)), (sSS.2 1)), (2, (aa ((2 + sSS.1) % 5)), (sSS.2 2)), (2, (aa ((3 + sSS.1) % 5)), (sSS.2 3)), (2, (aa ((4 + sSS.1) % 5)), (sSS.2 4)), (5, qD, r_114.2)]) C dL_law_845 zy_X5_told zw_1093 (fun _ hr9 => mX5_told  hr9) (by decide) rfl rfl (by decide) rfl (Nat.le_of_ble_eq_true rfl) (z_pn 12 _ rfl [11, 0, 1, 2, 3, 4, 5, 6, 7, 8, 9, 10] (by decide)).symm (fun _ => (z_pn 12 _ rfl [1, 2, 3, 4, 5, 6, 7, 8, 9, 10, 11, 0] (by decide)).symm) rfl (fun r_114 hr_115 => ?_)
  show zJ X 4 (1 : Int32) _ 848 [(0, (.ref b)), (1, (.ref (qX 0))), (2, (.ref (qD 0))), (3, (.int x3))] [(.int r_114.1), (.int r_112.1)] [(4, (zqx qX aa sSS.1), r_112.2), (3, qT, sT), (1, qM, sM), (0, qL, sL), (2, qP, sP), (2, qB, sB), (2, (aa ((0 + sSS.1) % 5)), (sSS.2 0)), (2, (aa ((1 + sSS.1) % 5)), (sSS.2 1)), (2, (aa ((2 + sSS.1) % 5)), (sSS.2 2)), (2, (aa ((3 + sSS.1) % 5)), (sSS.2 3)), (2, (aa ((4 + sSS.1) % 5)), (sSS.2 4)), (5, qD, r_114.2)]
  refine z_icmp_eq (pc := 848) 867 C dL_law_848 (by decide) ?_ ?_
  · refine z_iinc (pc := 867) (x3 + 6) 3 rfl rfl [(0, (.ref b)), (1, (.ref (qX 0))), (2, (.ref (qD 0))), (3, (.int (x3 + 6)))] [1, 2, 3, 0] (by decide) rfl C dL_law_867 ?_
    refine z_goto (pc := 870) 18 C dL_law_870 (by decide) ?_
    exact hk_18 _ _ _ _ _ _ _ _ _
  · refine z_iconst (pc := 851) (0 : Int32) (by decide) C dL_law_851 ?_
    exact z_lawret (pc := 852) C hR dL_law_852
def jL_law_853 (F : Nat) (L : Nat) (xs : Nat → Int32) (kc_18 : (Int32 × zOS × zOS × zOS × zOS × zOS × zOS × zSS × zOS) → Option (Int32)) (x3 : Int32) (sX : zOS) (sT : zOS) (sM : zOS) (sL : zOS) (sP : zOS) (sB : zOS) (sSS : zSS) (sD : zOS) : Option (Int32) := (Option.bind (fX4_digest F sX sT sM sP sL) (fun r_117 : Int64 × zOS × zOS × zOS × zOS => (Option.bind (fX5_digest F sD) (fun r_119 : Int64 × zOS => (if (lg_cmp r_117.1 r_119.1) = 0 then (kc_18 ((x3 + 6), r_117.2.1, sT, r_117.2.2.1, r_117.2.2.2.2, r_117.2.2.2.1, sB, sSS, r_119.2)) else (zbk (0 : Int32) (some (0 : Int32))))))))
set_option maxRecDepth 20000 in
theorem wL_law_853 {X : zCx} {F b L : Nat} {xs : Nat → Int32} {qX : Nat → Nat} {qT : Nat → Nat} {qM : Nat → Nat} {qL : Nat → Nat} {qP : Nat → Nat} {qB : Nat → Nat} {qD : Nat → Nat} {aa : Nat → Nat → Nat} {kc_18 : (Int32 × zOS × zOS × zOS × zOS × zOS × zOS × zSS × zOS) → Option (Int32)} (C : zC X R_law code 4 24 558) (hR : zLw X b L xs) (hM50 : qM 50 = qP 0) (hM51 : qM 51 = qL 0) (hX50 : qX 50 = qP 0) (hX51 : qX 51 = qB 0) (hX52 : qX 52 = qL 0) (hX53 : qX 53 = qM 0) (hX54 : qX 54 = qT 0) (hk_18 : ∀ (y3 : Int32) (tX : zOS) (tT : zOS) (tM : zOS) (tL : zOS) (tP : zOS) (tB : zOS) (tSS : zSS) (tD : zOS), zJ X 4 (1 : Int32) (kc_18 (y3, tX, tT, tM, tL, tP, tB, tSS, tD)) 18 [(0, (.ref b)), (1, (.ref (qX 0))), (2, (.ref (qD 0))), (3, (.int y3))] [] [(4, (zqx qX aa tSS.1), tX), (3, qT, tT), (1, qM, tM), (0, qL, tL), (2, qP, tP), (2, qB, tB), (2, (aa ((0 + tSS.1) % 5)), (tSS.2 0)), (2, (aa ((1 + tSS.1) % 5)), (tSS.2 1)), (2, (aa ((2 + tSS.1) % 5)), (tSS.2 2)), (2, (aa ((3 + tSS.1) % 5)), (tSS.2 3)), (2, (aa ((4 + tSS.1) % 5)), (tSS.2 4)), (5, qD, tD)]) (x3 : Int32) (sX : zOS) (sT : zOS) (sM : zOS) (sL : zOS) (sP : zOS) (sB : zOS) (sSS : zSS) (sD : zOS) : zJ X 4 (1 : Int32) (jL_law_853 F L xs kc_18 x3 sX sT sM sL sP sB sSS sD) 853 [(0, (.ref b)), (1, (.ref (qX 0))), (2, (.ref (qD 0))), (3, (.int x3))] [] [(4, (zqx qX aa sSS.1), sX), (3, qT, sT), (1, qM, sM), (0, qL, sL), (2, qP, sP), (2, qB, sB), (2, (aa ((0 + sSS.1) % 5)), (sSS.2 0)), (2, (aa ((1 + sSS.1) % 5)), (sSS.2 1)), (2, (aa ((2 + sSS.1) % 5)), (sSS.2 2)), (2, (aa ((3 + sSS.1) % 5)), (sSS.2 3)), (2, (aa ((4 + sSS.1) % 5)), (sSS.2 4)), (5, qD, sD)] := by
  unfold jL_law_853
  refine z_aload_n (pc := 853) 1 rfl rfl C dL_law_853 ?_
  refine z_callV (q' := (zqx qX aa sSS.1)) (pc := 854) (rf' := 23) (rl' := 535) (fX4_digest F sX sT sM sP sL) [] [] [(4, (zqx qX aa sSS.1), sX), (3, qT, sT), (1, qM, sM), (2, qP, sP), (0, qL, sL)] (fun r_117 => (some (.long r_117.1))) (fun r_117 => [(4, (zqx qX aa sSS.1), r_117.2.1), (3, qT, sT), (1, qM, r_117.2.2.1), (2, qP, r_117.2.2.2.1), (0, qL, r_117.2.2.2.2)]) [(2, qB, sB), (2, (aa ((0 + sSS.1) % 5)), (sSS.2 0)), (2, (aa ((1 + sSS.1) % 5)), (sSS.2 1)), (2, (aa ((2 + sSS.1) % 5)), (sSS.2 2)), (2, (aa ((3 + sSS.1) % 5)), (sSS.2 3)), (2, (aa ((4 + sSS.1) % 5)), (sSS.2 4)), (5, qD, sD)] (fun r_117 => [(4, (zqx qX aa sSS.1), r_117.2.1), (3, qT, sT), (1, qM, r_117.2.2.1), (0, qL, r_117.2.2.2.2), (2, qP, r_117.2.2.2.1), (2, qB, sB), (2, (aa ((0 + sSS.1) % 5)), (sSS.2 0)), (2, (aa ((1 + sSS.1) % 5)), (sSS.2 1)), (2, (aa ((2 + sSS.1) % 5)), (sSS.2 2)), (2, (aa ((3 + sSS.1) % 5)), (sSS.2 3)), (2, (aa ((4 + sSS.1) % 5)), (sSS.2 4)), (5, qD, sD)]) C dL_law_854 zy_X4_digest zw_688 (fun _ hr9 => mX4_digest hM50 hM51 hX50 hX52 hX53 hX54 hr9) (by decide) rfl rfl (by decide) rfl (Nat.le_of_ble_eq_true rfl) (z_pn 12 _ rfl [0, 1, 2, 4, 3, 5, 6, 7, 8, 9, 10, 11] (by decide)).symm (fun _ => (z_pn 12 _ rfl [0, 1, 2, 4, 3, 5, 6, 7, 8, 9, 10, 11] (by decide)).symm) rfl (fun r_117 hr_118 => ?_)
  show zJ X 4 (1 : Int32) _ 857 [(0, (.ref b)), (1, (.ref (qX 0))), (2, (.ref (qD 0))), (3, (.int x3))] [(.long r_117.1)] [(4, (zqx qX aa sSS.1), r_117.2.1), (3, qT, sT), (1, qM, r_117.2.2.1), (0, qL, r_117.2.2.2.2), (2, qP, r_117.2.2.2.1), (2, qB, sB), (2, (aa ((0 + sSS.1) % 5)), (sSS.2 0)), (2, (aa ((1 + sSS.1) % 5)), (sSS.2 1)), (2, (aa ((2 + sSS.1) % 5)), (sSS.2 2)), (2, (aa ((3 + sSS.1) % 5)), (sSS.2 3)), (2, (aa ((4 + sSS.1) % 5)), (sSS.2 4)), (5, qD, sD)]
  refine z_aload_n (pc := 857) 2 rfl rfl C dL_law_857 ?_
  refine z_callV (pc := 858) (rf' := 8) (rl' := 181) (fX5_digest F sD) [] [(.long r_117.1)] [(5, qD, sD)] (fun r_119 => (some (.long r_119.1))) (fun r_119 => [(5, qD, r_119.2)]) [(4, (zqx qX aa sSS.1), r_117.2.1), (3, qT, sT), (1, qM, r_117.2.2.1), (0, qL, r_117.2.2.2.2), (2, qP, r_117.2.2.2.1), (2, qB, sB), (2, (aa ((0 + sSS.1) % 5)), (sSS.2 0)), (2, (aa ((1 + sSS.1) % 5)), (sSS.2 1)), (2, (aa ((2 + sSS.1) % 5)), (sSS.2 2)), (2, (aa ((3 + sSS.1) % 5)), (sSS.2 3)), (2, (aa ((4 + sSS.1) % 5)), (sSS.2 4))] (fun r_119 => [(4, (zqx qX aa sSS.1), r_117.2.1), (3, qT, sT), (1, qM, r_117.2.2.1), (0, qL, r_117.2.2.2.2), (2, qP, r_117.2.2.2.1), (2, qB, sB), (2, (aa ((0 + sSS.1) % 5)), (sSS.2 0)), (2, (aa ((1 + sSS.1) % 5)), (sSS.2 1)), (2, (aa ((2 + sSS.1) % 5)), (sSS.2 2)), (2, (aa ((3 + sSS.1) % 5)), (sSS.2 3)), (2, (aa ((4 + sSS.1) % 5)), (sSS.2 4)), (5, qD, r_119.2)]) C dL_law_858 zy_X5_digest zw_1101 (fun _ hr9 => mX5_digest  hr9) (by decide) rfl rfl (by decide) rfl (Nat.le_of_ble_eq_true rfl) (z_pn 12 _ rfl [11, 0, 1, 2, 3, 4, 5, 6, 7, 8, 9, 10] (by decide)).symm (fun _ => (z_pn 12 _ rfl [1, 2, 3, 4, 5, 6, 7, 8, 9, 10, 11, 0] (by decide)).symm) rfl (fun r_119 hr_120 => ?_)
  show zJ X 4 (1 : Int32) _ 861 [(0, (.ref b)), (1, (.ref (qX 0))), (2, (.ref (qD 0))), (3, (.int x3))] [(.long r_119.1), (.long r_117.1)] [(4, (zqx qX aa sSS.1), r_117.2.1), (3, qT, sT), (1, qM, r_117.2.2.1), (0, qL, r_117.2.2.2.2), (2, qP, r_117.2.2.2.1), (2, qB, sB), (2, (aa ((0 + sSS.1) % 5)), (sSS.2 0)), (2, (aa ((1 + sSS.1) % 5)), (sSS.2 1)), (2, (aa ((2 + sSS.1) % 5)), (sSS.2 2)), (2, (aa ((3 + sSS.1) % 5)), (sSS.2 3)), (2, (aa ((4 + sSS.1) % 5)), (sSS.2 4)), (5, qD, r_119.2)]
  refine z_lcmp (pc := 861) C dL_law_861 ?_
  refine z_if_eq (pc := 862) 867 C dL_law_862 (by decide) ?_ ?_
  · refine z_iinc (pc := 867) (x3 + 6) 3 rfl rfl [(0, (.ref b)), (1, (.ref (qX 0))), (2, (.ref (qD 0))), (3, (.int (x3 + 6)))] [1, 2, 3, 0] (by decide) rfl C dL_law_867 ?_
    refine z_goto (pc := 870) 18 C dL_law_870 (by decide) ?_
    exact hk_18 _ _ _ _ _ _ _ _ _
  · refine z_iconst (pc := 865) (0 : Int32) (by decide) C dL_law_865 ?_
    exact z_lawret (pc := 866) C hR dL_law_866
def bL_law_18 (F : Nat) (L : Nat) (xs : Nat → Int32) (kc_18 : (Int32 × zOS × zOS × zOS × zOS × zOS × zOS × zSS × zOS) → Option (Int32)) (x3 : Int32) (sX : zOS) (sT : zOS) (sM : zOS) (sL : zOS) (sP : zOS) (sB : zOS) (sSS : zSS) (sD : zOS) : Option (Int32) := (if ((nI L) - (6 : Int32)) < x3 then (zbk (1 : Int32) (some (1 : Int32))) else (zchk x3 L (if ((xs x3.toNatClampNeg) &&& (31 : Int32)) = (0 : Int32) then (jL_law_144 F L xs kc_18 x3 sX sT sM sL sP sB sSS sD) else (if ((xs x3.toNatClampNeg) &&& (31 : Int32)) = (1 : Int32) then (jL_law_207 F L xs kc_18 x3 sX sT sM sL sP sB sSS sD) else (if ((xs x3.toNatClampNeg) &&& (31 : Int32)) = (2 : Int32) then (jL_law_270 F L xs kc_18 x3 sX sT sM sL sP sB sSS sD) else (if ((xs x3.toNatClampNeg) &&& (31 : Int32)) = (3 : Int32) then (jL_law_313 F L xs kc_18 x3 sX sT sM sL sP sB sSS sD) else (if ((xs x3.toNatClampNeg) &&& (31 : Int32)) = (4 : Int32) then (jL_law_356 F L xs kc_18 x3 sX sT sM sL sP sB sSS sD) else (if ((xs x3.toNatClampNeg) &&& (31 : Int32)) = (5 : Int32) then (jL_law_399 F L xs kc_18 x3 sX sT sM sL sP sB sSS sD) else (if ((xs x3.toNatClampNeg) &&& (31 : Int32)) = (6 : Int32) then (jL_law_412 F L xs kc_18 x3 sX sT sM sL sP sB sSS sD) else (if ((xs x3.toNatClampNeg) &&& (31 : Int32)) = (7 : Int32) then (jL_law_455 F L xs kc_18 x3 sX sT sM sL sP sB sSS sD) else (if ((xs x3.toNatClampNeg) &&& (31 : Int32)) = (8 : Int32) then (jL_law_498 F L xs kc_18 x3 sX sT sM sL sP sB sSS sD) else (if ((xs x3.toNatClampNeg) &&& (31 : Int32)) = (9 : Int32) then (jL_law_521 F L xs kc_18 x3 sX sT sM sL sP sB sSS sD) else (if ((xs x3.toNatClampNeg) &&& (31 : Int32)) = (10 : Int32) then (jL_law_554 F L xs kc_18 x3 sX sT sM sL sP sB sSS sD) else (if ((xs x3.toNatClampNeg) &&& (31 : Int32)) = (11 : Int32) then (jL_law_587 F L xs kc_18 x3 sX sT sM sL sP sB sSS sD) else (if ((xs x3.toNatClampNeg) &&& (31 : Int32)) = (12 : Int32) then (jL_law_620 F L xs kc_18 x3 sX sT sM sL sP sB sSS sD) else (if ((xs x3.toNatClampNeg) &&& (31 : Int32)) = (13 : Int32) then (jL_law_633 F L xs kc_18 x3 sX sT sM sL sP sB sSS sD) else (if ((xs x3.toNatClampNeg) &&& (31 : Int32)) = (14 : Int32) then (jL_law_656 F L xs kc_18 x3 sX sT sM sL sP sB sSS sD) else (if ((xs x3.toNatClampNeg) &&& (31 : Int32)) = (15 : Int32) then (jL_law_679 F L xs kc_18 x3 sX sT sM sL sP sB sSS sD) else (if ((xs x3.toNatClampNeg) &&& (31 : Int32)) = (16 : Int32) then (jL_law_712 F L xs kc_18 x3 sX sT sM sL sP sB sSS sD) else (if ((xs x3.toNatClampNeg) &&& (31 : Int32)) = (17 : Int32) then (jL_law_745 F L xs kc_18 x3 sX sT sM sL sP sB sSS sD) else (if ((xs x3.toNatClampNeg) &&& (31 : Int32)) = (18 : Int32) then (jL_law_768 F L xs kc_18 x3 sX sT sM sL sP sB sSS sD) else (if ((xs x3.toNatClampNeg) &&& (31 : Int32)) = (19 : Int32) then (jL_law_791 F L xs kc_18 x3 sX sT sM sL sP sB sSS sD) else (if ((xs x3.toNatClampNeg) &&& (31 : Int32)) = (20 : Int32) then (jL_law_804 F L xs kc_18 x3 sX sT sM sL sP sB sSS sD) else (if ((xs x3.toNatClampNeg) &&& (31 : Int32)) = (21 : Int32) then (jL_law_817 F L xs kc_18 x3 sX sT sM sL sP sB sSS sD) else (if ((xs x3.toNatClampNeg) &&& (31 : Int32)) = (22 : Int32) then (jL_law_830 F L xs kc_18 x3 sX sT sM sL sP sB sSS sD) else (if ((xs x3.toNatClampNeg) &&& (31 : Int32)) = (23 : Int32) then (jL_law_853 F L xs kc_18 x3 sX sT sM sL sP sB sSS sD) else (kc_18 ((x3 + 6), sX, sT, sM, sL, sP, sB, sSS, sD))))))))))))))))))))))))))))
set_option maxRecDepth 20000 in
theorem vL_law_18 {X : zCx} {F b L : Nat} {xs : Nat → Int32} {qX : Nat → Nat} {qT : Nat → Nat} {qM : Nat → Nat} {qL : Nat → Nat} {qP : Nat → Nat} {qB : Nat → Nat} {qD : Nat → Nat} {aa : Nat → Nat → Nat} {kc_18 : (Int32 × zOS × zOS × zOS × zOS × zOS × zOS × zSS × zOS) → Option (Int32)} (C : zC X R_law code 4 24 558) (hR : zLw X b L xs) (hM50 : qM 50 = qP 0) (hM51 : qM 51 = qL 0) (hX50 : qX 50 = qP 0) (hX51 : qX 51 = qB 0) (hX52 : qX 52 = qL 0) (hX53 : qX 53 = qM 0) (hX54 : qX 54 = qT 0) (hk_18 : ∀ (y3 : Int32) (tX : zOS) (tT : zOS) (tM : zOS) (tL : zOS) (tP : zOS) (tB : zOS) (tSS : zSS) (tD : zOS), zJ X 4 (1 : Int32) (kc_18 (y3, tX, tT, tM, tL, tP, tB, tSS, tD)) 18 [(0, (.ref b)), (1, (.ref (qX 0))), (2, (.ref (qD 0))), (3, (.int y3))] [] [(4, (zqx qX aa tSS.1), tX), (3, qT, tT), (1, qM, tM), (0, qL, tL), (2, qP, tP), (2, qB, tB), (2, (aa ((0 + tSS.1) % 5)), (tSS.2 0)), (2, (aa ((1 + tSS.1) % 5)), (tSS.2 1)), (2, (aa ((2 + tSS.1) % 5)), (tSS.2 2)), (2, (aa ((3 + tSS.1) % 5)), (tSS.2 3)), (2, (aa ((4 + tSS.1) % 5)), (tSS.2 4)), (5, qD, tD)]) (x3 : Int32) (sX : zOS) (sT : zOS) (sM : zOS) (sL : zOS) (sP : zOS) (sB : zOS) (sSS : zSS) (sD : zOS) : zJ X 4 (1 : Int32) (bL_law_18 F L xs kc_18 x3 sX sT sM sL sP sB sSS sD) 18 [(0, (.ref b)), (1, (.ref (qX 0))), (2, (.ref (qD 0))), (3, (.int x3))] [] [(4, (zqx qX aa sSS.1), sX), (3, qT, sT), (1, qM, sM), (0, qL, sL), (2, qP, sP), (2, qB, sB), (2, (aa ((0 + sSS.1) % 5)), (sSS.2 0)), (2, (aa ((1 + sSS.1) % 5)), (sSS.2 1)), (2, (aa ((2 + sSS.1) % 5)), (sSS.2 2)), (2, (aa ((3 + sSS.1) % 5)), (sSS.2 3)), (2, (aa ((4 + sSS.1) % 5)), (sSS.2 4)), (5, qD, sD)] := by
  unfold bL_law_18
  refine z_iload_n (pc := 18) 3 rfl rfl C dL_law_18 ?_
  refine z_aload_n (pc := 19) 0 rfl rfl C dL_law_19 ?_
  refine z_slen (pc := 20) C hR dL_law_20 ?_
  refine z_bipush (pc := 21) (6 : Int32) (by decide) C dL_law_21 ?_
  refine z_isub (pc := 23) C dL_law_23 ?_
  refine z_icmp_gt (pc := 24) 873 C dL_law_24 (by decide) ?_ ?_
  · refine z_iconst (pc := 873) (1 : Int32) (by decide) C dL_law_873 ?_
    exact z_lawret (pc := 874) C hR dL_law_874
  · refine z_aload_n (pc := 27) 0 rfl rfl C dL_law_27 ?_
    refine z_iload_n (pc := 28) 3 rfl rfl C dL_law_28 ?_
    refine z_sld (pc := 29) C hR dL_law_29 ?_
    refine z_bipush (pc := 30) (31 : Int32) (by decide) C dL_law_30 ?_
    refine z_iand (pc := 32) C dL_law_32 ?_
    refine z_if (fun hx_1 => ?_) (fun hx_1 => ?_)
    · refine z_tin (pc := 33) (0 : Int32) 144 hx_1 C dL_law_33 (by decide) (by decide) rfl (by decide) ?_
      exact wL_law_144 C hR hM50 hM51 hX50 hX51 hX52 hX53 hX54 hk_18 _ _ _ _ _ _ _ _ _
    · refine z_if (fun hx_6 => ?_) (fun hx_6 => ?_)
      · refine z_tin (pc := 33) (1 : Int32) 207 hx_6 C dL_law_33 (by decide) (by decide) rfl (by decide) ?_
        exact wL_law_207 C hR hM50 hM51 hX50 hX51 hX52 hX53 hX54 hk_18 _ _ _ _ _ _ _ _ _
      · refine z_if (fun hx_11 => ?_) (fun hx_11 => ?_)
        · refine z_tin (pc := 33) (2 : Int32) 270 hx_11 C dL_law_33 (by decide) (by decide) rfl (by decide) ?_
          exact wL_law_270 C hR hM50 hM51 hX50 hX51 hX52 hX53 hX54 hk_18 _ _ _ _ _ _ _ _ _
        · refine z_if (fun hx_16 => ?_) (fun hx_16 => ?_)
          · refine z_tin (pc := 33) (3 : Int32) 313 hx_16 C dL_law_33 (by decide) (by decide) rfl (by decide) ?_
            exact wL_law_313 C hR hM50 hM51 hX50 hX51 hX52 hX53 hX54 hk_18 _ _ _ _ _ _ _ _ _
          · refine z_if (fun hx_21 => ?_) (fun hx_21 => ?_)
            · refine z_tin (pc := 33) (4 : Int32) 356 hx_21 C dL_law_33 (by decide) (by decide) rfl (by decide) ?_
              exact wL_law_356 C hR hM50 hM51 hX50 hX51 hX52 hX53 hX54 hk_18 _ _ _ _ _ _ _ _ _
            · refine z_if (fun hx_26 => ?_) (fun hx_26 => ?_)
              · refine z_tin (pc := 33) (5 : Int32) 399 hx_26 C dL_law_33 (by decide) (by decide) rfl (by decide) ?_
                exact wL_law_399 C hR hM50 hM51 hX50 hX51 hX52 hX53 hX54 hk_18 _ _ _ _ _ _ _ _ _
              · refine z_if (fun hx_31 => ?_) (fun hx_31 => ?_)
                · refine z_tin (pc := 33) (6 : Int32) 412 hx_31 C dL_law_33 (by decide) (by decide) rfl (by decide) ?_
                  exact wL_law_412 C hR hM50 hM51 hX50 hX51 hX52 hX53 hX54 hk_18 _ _ _ _ _ _ _ _ _
                · refine z_if (fun hx_36 => ?_) (fun hx_36 => ?_)
                  · refine z_tin (pc := 33) (7 : Int32) 455 hx_36 C dL_law_33 (by decide) (by decide) rfl (by decide) ?_
                    exact wL_law_455 C hR hM50 hM51 hX50 hX51 hX52 hX53 hX54 hk_18 _ _ _ _ _ _ _ _ _
                  · refine z_if (fun hx_41 => ?_) (fun hx_41 => ?_)
                    · refine z_tin (pc := 33) (8 : Int32) 498 hx_41 C dL_law_33 (by decide) (by decide) rfl (by decide) ?_
                      exact wL_law_498 C hR hM50 hM51 hX50 hX51 hX52 hX53 hX54 hk_18 _ _ _ _ _ _ _ _ _
                    · refine z_if (fun hx_46 => ?_) (fun hx_46 => ?_)
                      · refine z_tin (pc := 33) (9 : Int32) 521 hx_46 C dL_law_33 (by decide) (by decide) rfl (by decide) ?_
                        exact wL_law_521 C hR hM50 hM51 hX50 hX51 hX52 hX53 hX54 hk_18 _ _ _ _ _ _ _ _ _
                      · refine z_if (fun hx_51 => ?_) (fun hx_51 => ?_)
                        · refine z_tin (pc := 33) (10 : Int32) 554 hx_51 C dL_law_33 (by decide) (by decide) rfl (by decide) ?_
                          exact wL_law_554 C hR hM50 hM51 hX50 hX51 hX52 hX53 hX54 hk_18 _ _ _ _ _ _ _ _ _
                        · refine z_if (fun hx_56 => ?_) (fun hx_56 => ?_)
                          · refine z_tin (pc := 33) (11 : Int32) 587 hx_56 C dL_law_33 (by decide) (by decide) rfl (by decide) ?_
                            exact wL_law_587 C hR hM50 hM51 hX50 hX51 hX52 hX53 hX54 hk_18 _ _ _ _ _ _ _ _ _
                          · refine z_if (fun hx_61 => ?_) (fun hx_61 => ?_)
                            · refine z_tin (pc := 33) (12 : Int32) 620 hx_61 C dL_law_33 (by decide) (by decide) rfl (by decide) ?_
                              exact wL_law_620 C hR hM50 hM51 hX50 hX51 hX52 hX53 hX54 hk_18 _ _ _ _ _ _ _ _ _
                            · refine z_if (fun hx_66 => ?_) (fun hx_66 => ?_)
                              · refine z_tin (pc := 33) (13 : Int32) 633 hx_66 C dL_law_33 (by decide) (by decide) rfl (by decide) ?_
                                exact wL_law_633 C hR hM50 hM51 hX50 hX51 hX52 hX53 hX54 hk_18 _ _ _ _ _ _ _ _ _
                              · refine z_if (fun hx_71 => ?_) (fun hx_71 => ?_)
                                · refine z_tin (pc := 33) (14 : Int32) 656 hx_71 C dL_law_33 (by decide) (by decide) rfl (by decide) ?_
                                  exact wL_law_656 C hR hM50 hM51 hX50 hX51 hX52 hX53 hX54 hk_18 _ _ _ _ _ _ _ _ _
                                · refine z_if (fun hx_76 => ?_) (fun hx_76 => ?_)
                                  · refine z_tin (pc := 33) (15 : Int32) 679 hx_76 C dL_law_33 (by decide) (by decide) rfl (by decide) ?_
                                    exact wL_law_679 C hR hM50 hM51 hX50 hX51 hX52 hX53 hX54 hk_18 _ _ _ _ _ _ _ _ _
                                  · refine z_if (fun hx_81 => ?_) (fun hx_81 => ?_)
                                    · refine z_tin (pc := 33) (16 : Int32) 712 hx_81 C dL_law_33 (by decide) (by decide) rfl (by decide) ?_
                                      exact wL_law_712 C hR hM50 hM51 hX50 hX51 hX52 hX53 hX54 hk_18 _ _ _ _ _ _ _ _ _
                                    · refine z_if (fun hx_86 => ?_) (fun hx_86 => ?_)
                                      · refine z_tin (pc := 33) (17 : Int32) 745 hx_86 C dL_law_33 (by decide) (by decide) rfl (by decide) ?_
                                        exact wL_law_745 C hR hM50 hM51 hX50 hX51 hX52 hX53 hX54 hk_18 _ _ _ _ _ _ _ _ _
                                      · refine z_if (fun hx_91 => ?_) (fun hx_91 => ?_)
                                        · refine z_tin (pc := 33) (18 : Int32) 768 hx_91 C dL_law_33 (by decide) (by decide) rfl (by decide) ?_
                                          exact wL_law_768 C hR hM50 hM51 hX50 hX51 hX52 hX53 hX54 hk_18 _ _ _ _ _ _ _ _ _
                                        · refine z_if (fun hx_96 => ?_) (fun hx_96 => ?_)
                                          · refine z_tin (pc := 33) (19 : Int32) 791 hx_96 C dL_law_33 (by decide) (by decide) rfl (by decide) ?_
                                            exact wL_law_791 C hR hM50 hM51 hX50 hX51 hX52 hX53 hX54 hk_18 _ _ _ _ _ _ _ _ _
                                          · refine z_if (fun hx_101 => ?_) (fun hx_101 => ?_)
                                            · refine z_tin (pc := 33) (20 : Int32) 804 hx_101 C dL_law_33 (by decide) (by decide) rfl (by decide) ?_
                                              exact wL_law_804 C hR hM50 hM51 hX50 hX51 hX52 hX53 hX54 hk_18 _ _ _ _ _ _ _ _ _
                                            · refine z_if (fun hx_106 => ?_) (fun hx_106 => ?_)
                                              · refine z_tin (pc := 33) (21 : Int32) 817 hx_106 C dL_law_33 (by decide) (by decide) rfl (by decide) ?_
                                                exact wL_law_817 C hR hM50 hM51 hX50 hX51 hX52 hX53 hX54 hk_18 _ _ _ _ _ _ _ _ _
                                              · refine z_if (fun hx_111 => ?_) (fun hx_111 => ?_)
                                                · refine z_tin (pc := 33) (22 : Int32) 830 hx_111 C dL_law_33 (by decide) (by decide) rfl (by decide) ?_
                                                  exact wL_law_830 C hR hM50 hM51 hX50 hX51 hX52 hX53 hX54 hk_18 _ _ _ _ _ _ _ _ _
                                                · refine z_if (fun hx_116 => ?_) (fun hx_116 => ?_)
                                                  · refine z_tin (pc := 33) (23 : Int32) 853 hx_116 C dL_law_33 (by decide) (by decide) rfl (by decide) ?_
                                                    exact wL_law_853 C hR hM50 hM51 hX50 hX51 hX52 hX53 hX54 hk_18 _ _ _ _ _ _ _ _ _
                                                  · refine z_tdef (pc := 33) [(0 : Int32), (1 : Int32), (2 : Int32), (3 : Int32), (4 : Int32), (5 : Int32), (6 : Int32), (7 : Int32), (8 : Int32), (9 : Int32), (10 : Int32), (11 : Int32), (12 : Int32), (13 : Int32), (14 : Int32), (15 : Int32), (16 : Int32), (17 : Int32), (18 : Int32), (19 : Int32), (20 : Int32), (21 : Int32), (22 : Int32), (23 : Int32)] 867 (by intro v hv; simp only [List.mem_cons, List.not_mem_nil, or_false] at hv; rcases hv with rfl | rfl | rfl | rfl | rfl | rfl | rfl | rfl | rfl | rfl | rfl | rfl | rfl | rfl | rfl | rfl | rfl | rfl | rfl | rfl | rfl | rfl | rfl | rfl <;> assumption) C dL_law_33 (by decide) (by decide) ?_
                                                    refine z_iinc (pc := 867) (x3 + 6) 3 rfl rfl [(0, (.ref b)), (1, (.ref (qX 0))), (2, (.ref (qD 0))), (3, (.int (x3 + 6)))] [1, 2, 3, 0] (by decide) rfl C dL_law_867 ?_
                                                    refine z_goto (pc := 870) 18 C dL_law_870 (by decide) ?_
                                                    exact hk_18 _ _ _ _ _ _ _ _ _
def fL_law (F : Nat) (L : Nat) (xs : Nat → Int32) (sX : zOS) (sT : zOS) (sM : zOS) (sL : zOS) (sP : zOS) (sB : zOS) (sSS : zSS) (sD : zOS) : Option (Int32) := (zit (P := Int32 × zOS × zOS × zOS × zOS × zOS × zOS × zSS × zOS) (R := Int32) (fun kc9 p9 => bL_law_18 F L xs kc9 p9.1 p9.2.1 p9.2.2.1 p9.2.2.2.1 p9.2.2.2.2.1 p9.2.2.2.2.2.1 p9.2.2.2.2.2.2.1 p9.2.2.2.2.2.2.2.1 p9.2.2.2.2.2.2.2.2) F ((0 : Int32), sX, sT, sM, sL, sP, sB, sSS, sD))
set_option maxRecDepth 20000 in
theorem wL_law {X : zCx} {F b L : Nat} {xs : Nat → Int32} {qX : Nat → Nat} {qT : Nat → Nat} {qM : Nat → Nat} {qL : Nat → Nat} {qP : Nat → Nat} {qB : Nat → Nat} {qD : Nat → Nat} {aa : Nat → Nat → Nat} {sX : zOS} {sT : zOS} {sM : zOS} {sL : zOS} {sP : zOS} {sB : zOS} {sSS : zSS} {sD : zOS} (C : zC X R_law code 4 24 558) (hR : zLw X b L xs) (hM50 : qM 50 = qP 0) (hM51 : qM 51 = qL 0) (hX50 : qX 50 = qP 0) (hX51 : qX 51 = qB 0) (hX52 : qX 52 = qL 0) (hX53 : qX 53 = qM 0) (hX54 : qX 54 = qT 0) : zJ X 4 (1 : Int32) (fL_law F L xs sX sT sM sL sP sB sSS sD) 16 [(0, (.ref b)), (1, (.ref (qX 0))), (2, (.ref (qD 0)))] [] [(4, (zqx qX aa sSS.1), sX), (3, qT, sT), (1, qM, sM), (0, qL, sL), (2, qP, sP), (2, qB, sB), (2, (aa ((0 + sSS.1) % 5)), (sSS.2 0)), (2, (aa ((1 + sSS.1) % 5)), (sSS.2 1)), (2, (aa ((2 + sSS.1) % 5)), (sSS.2 2)), (2, (aa ((3 + sSS.1) % 5)), (sSS.2 3)), (2, (aa ((4 + sSS.1) % 5)), (sSS.2 4)), (5, qD, sD)] := by
  unfold fL_law
  refine z_iconst (pc := 16) (0 : Int32) (by decide) C dL_law_16 ?_
  refine z_istore_n (pc := 17) [(0, (.ref b)), (1, (.ref (qX 0))), (2, (.ref (qD 0))), (3, (.int (0 : Int32)))] [1, 2, 3, 0] (by decide) rfl rfl C dL_law_17 ?_
  show zJ X 4 (1 : Int32) _ 18 [(0, (.ref b)), (1, (.ref (qX 0))), (2, (.ref (qD 0))), (3, (.int (0 : Int32)))] [] [(4, (zqx qX aa sSS.1), sX), (3, qT, sT), (1, qM, sM), (0, qL, sL), (2, qP, sP), (2, qB, sB), (2, (aa ((0 + sSS.1) % 5)), (sSS.2 0)), (2, (aa ((1 + sSS.1) % 5)), (sSS.2 1)), (2, (aa ((2 + sSS.1) % 5)), (sSS.2 2)), (2, (aa ((3 + sSS.1) % 5)), (sSS.2 3)), (2, (aa ((4 + sSS.1) % 5)), (sSS.2 4)), (5, qD, sD)]
  exact zit_J (P := Int32 × zOS × zOS × zOS × zOS × zOS × zOS × zSS × zOS) (B := (fun kc9 p9 => bL_law_18 F L xs kc9 p9.1 p9.2.1 p9.2.2.1 p9.2.2.2.1 p9.2.2.2.2.1 p9.2.2.2.2.2.1 p9.2.2.2.2.2.2.1 p9.2.2.2.2.2.2.2.1 p9.2.2.2.2.2.2.2.2)) (fun p9 => [(0, (.ref b)), (1, (.ref (qX 0))), (2, (.ref (qD 0))), (3, (.int p9.1))]) (fun p9 => [(4, (zqx qX aa p9.2.2.2.2.2.2.2.1.1), p9.2.1), (3, qT, p9.2.2.1), (1, qM, p9.2.2.2.1), (0, qL, p9.2.2.2.2.1), (2, qP, p9.2.2.2.2.2.1), (2, qB, p9.2.2.2.2.2.2.1), (2, (aa ((0 + p9.2.2.2.2.2.2.2.1.1) % 5)), (p9.2.2.2.2.2.2.2.1.2 0)), (2, (aa ((1 + p9.2.2.2.2.2.2.2.1.1) % 5)), (p9.2.2.2.2.2.2.2.1.2 1)), (2, (aa ((2 + p9.2.2.2.2.2.2.2.1.1) % 5)), (p9.2.2.2.2.2.2.2.1.2 2)), (2, (aa ((3 + p9.2.2.2.2.2.2.2.1.1) % 5)), (p9.2.2.2.2.2.2.2.1.2 3)), (2, (aa ((4 + p9.2.2.2.2.2.2.2.1.1) % 5)), (p9.2.2.2.2.2.2.2.1.2 4)), (5, qD, p9.2.2.2.2.2.2.2.2)]) (fun kc9 hk9 p9 => vL_law_18 C hR hM50 hM51 hX50 hX51 hX52 hX53 hX54  (fun a0 a1 a2 a3 a4 a5 a6 a7 a8 => hk9 (a0, a1, a2, a3, a4, a5, a6, a7, a8)) p9.1 p9.2.1 p9.2.2.1 p9.2.2.2.1 p9.2.2.2.2.1 p9.2.2.2.2.2.1 p9.2.2.2.2.2.2.1 p9.2.2.2.2.2.2.2.1 p9.2.2.2.2.2.2.2.2) F _
