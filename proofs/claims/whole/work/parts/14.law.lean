theorem dL_law_0 : decode cL_law 0 = .ok (.new 7, 3) := by decide +kernel
theorem dL_law_3 : decode cL_law 3 = .ok (.dup, 1) := by decide +kernel
theorem dL_law_4 : decode cL_law 4 = .ok (.invokespecial 9, 3) := by decide +kernel
theorem dL_law_7 : decode cL_law 7 = .ok (.astore_n 1, 1) := by decide +kernel
theorem dL_law_8 : decode cL_law 8 = .ok (.new 10, 3) := by decide +kernel
theorem dL_law_11 : decode cL_law 11 = .ok (.dup, 1) := by decide +kernel
theorem dL_law_12 : decode cL_law 12 = .ok (.invokespecial 12, 3) := by decide +kernel
theorem dL_law_15 : decode cL_law 15 = .ok (.astore_n 2, 1) := by decide +kernel
theorem dL_law_16 : decode cL_law 16 = .ok (.iconst 0, 1) := by decide +kernel
theorem dL_law_17 : decode cL_law 17 = .ok (.istore_n 3, 1) := by decide +kernel
theorem dL_law_18 : decode cL_law 18 = .ok (.iload_n 3, 1) := by decide +kernel
theorem dL_law_19 : decode cL_law 19 = .ok (.aload_n 0, 1) := by decide +kernel
theorem dL_law_20 : decode cL_law 20 = .ok (.arraylength, 1) := by decide +kernel
theorem dL_law_21 : decode cL_law 21 = .ok (.bipush 6, 2) := by decide +kernel
theorem dL_law_23 : decode cL_law 23 = .ok (.isub, 1) := by decide +kernel
theorem dL_law_24 : decode cL_law 24 = .ok (.if_icmp .gt 727, 3) := by decide +kernel
theorem dL_law_27 : decode cL_law 27 = .ok (.aload_n 0, 1) := by decide +kernel
theorem dL_law_28 : decode cL_law 28 = .ok (.iload_n 3, 1) := by decide +kernel
theorem dL_law_29 : decode cL_law 29 = .ok (.iaload, 1) := by decide +kernel
theorem dL_law_30 : decode cL_law 30 = .ok (.bipush 31, 2) := by decide +kernel
theorem dL_law_32 : decode cL_law 32 = .ok (.iand, 1) := by decide +kernel
theorem dL_law_33 : decode cL_law 33 = .ok (.tableswitch 712 0 20 #[99, 162, 205, 238, 261, 284, 297, 310, 343, 376, 419, 442, 475, 498, 531, 574, 627, 640, 653, 666, 689], 99) := by decide +kernel
theorem dL_law_132 : decode cL_law 132 = .ok (.aload_n 1, 1) := by decide +kernel
theorem dL_law_133 : decode cL_law 133 = .ok (.aload_n 0, 1) := by decide +kernel
theorem dL_law_134 : decode cL_law 134 = .ok (.iload_n 3, 1) := by decide +kernel
theorem dL_law_135 : decode cL_law 135 = .ok (.iconst 1, 1) := by decide +kernel
theorem dL_law_136 : decode cL_law 136 = .ok (.iadd, 1) := by decide +kernel
theorem dL_law_137 : decode cL_law 137 = .ok (.iaload, 1) := by decide +kernel
theorem dL_law_138 : decode cL_law 138 = .ok (.aload_n 0, 1) := by decide +kernel
theorem dL_law_139 : decode cL_law 139 = .ok (.iload_n 3, 1) := by decide +kernel
theorem dL_law_140 : decode cL_law 140 = .ok (.iconst 2, 1) := by decide +kernel
theorem dL_law_141 : decode cL_law 141 = .ok (.iadd, 1) := by decide +kernel
theorem dL_law_142 : decode cL_law 142 = .ok (.iaload, 1) := by decide +kernel
theorem dL_law_143 : decode cL_law 143 = .ok (.aload_n 0, 1) := by decide +kernel
theorem dL_law_144 : decode cL_law 144 = .ok (.iload_n 3, 1) := by decide +kernel
theorem dL_law_145 : decode cL_law 145 = .ok (.iconst 3, 1) := by decide +kernel
theorem dL_law_146 : decode cL_law 146 = .ok (.iadd, 1) := by decide +kernel
theorem dL_law_147 : decode cL_law 147 = .ok (.iaload, 1) := by decide +kernel
theorem dL_law_148 : decode cL_law 148 = .ok (.aload_n 0, 1) := by decide +kernel
theorem dL_law_149 : decode cL_law 149 = .ok (.iload_n 3, 1) := by decide +kernel
theorem dL_law_150 : decode cL_law 150 = .ok (.iconst 4, 1) := by decide +kernel
theorem dL_law_151 : decode cL_law 151 = .ok (.iadd, 1) := by decide +kernel
theorem dL_law_152 : decode cL_law 152 = .ok (.iaload, 1) := by decide +kernel
theorem dL_law_153 : decode cL_law 153 = .ok (.aload_n 0, 1) := by decide +kernel
theorem dL_law_154 : decode cL_law 154 = .ok (.iload_n 3, 1) := by decide +kernel
theorem dL_law_155 : decode cL_law 155 = .ok (.iconst 5, 1) := by decide +kernel
theorem dL_law_156 : decode cL_law 156 = .ok (.iadd, 1) := by decide +kernel
theorem dL_law_157 : decode cL_law 157 = .ok (.iaload, 1) := by decide +kernel
theorem dL_law_158 : decode cL_law 158 = .ok (.invokevirtual 13, 3) := by decide +kernel
theorem dL_law_161 : decode cL_law 161 = .ok (.aload_n 2, 1) := by decide +kernel
theorem dL_law_162 : decode cL_law 162 = .ok (.aload_n 0, 1) := by decide +kernel
theorem dL_law_163 : decode cL_law 163 = .ok (.iload_n 3, 1) := by decide +kernel
theorem dL_law_164 : decode cL_law 164 = .ok (.iconst 1, 1) := by decide +kernel
theorem dL_law_165 : decode cL_law 165 = .ok (.iadd, 1) := by decide +kernel
theorem dL_law_166 : decode cL_law 166 = .ok (.iaload, 1) := by decide +kernel
theorem dL_law_167 : decode cL_law 167 = .ok (.aload_n 0, 1) := by decide +kernel
theorem dL_law_168 : decode cL_law 168 = .ok (.iload_n 3, 1) := by decide +kernel
theorem dL_law_169 : decode cL_law 169 = .ok (.iconst 2, 1) := by decide +kernel
theorem dL_law_170 : decode cL_law 170 = .ok (.iadd, 1) := by decide +kernel
theorem dL_law_171 : decode cL_law 171 = .ok (.iaload, 1) := by decide +kernel
theorem dL_law_172 : decode cL_law 172 = .ok (.aload_n 0, 1) := by decide +kernel
theorem dL_law_173 : decode cL_law 173 = .ok (.iload_n 3, 1) := by decide +kernel
theorem dL_law_174 : decode cL_law 174 = .ok (.iconst 3, 1) := by decide +kernel
theorem dL_law_175 : decode cL_law 175 = .ok (.iadd, 1) := by decide +kernel
theorem dL_law_176 : decode cL_law 176 = .ok (.iaload, 1) := by decide +kernel
theorem dL_law_177 : decode cL_law 177 = .ok (.aload_n 0, 1) := by decide +kernel
theorem dL_law_178 : decode cL_law 178 = .ok (.iload_n 3, 1) := by decide +kernel
theorem dL_law_179 : decode cL_law 179 = .ok (.iconst 4, 1) := by decide +kernel
theorem dL_law_180 : decode cL_law 180 = .ok (.iadd, 1) := by decide +kernel
theorem dL_law_181 : decode cL_law 181 = .ok (.iaload, 1) := by decide +kernel
theorem dL_law_182 : decode cL_law 182 = .ok (.aload_n 0, 1) := by decide +kernel
theorem dL_law_183 : decode cL_law 183 = .ok (.iload_n 3, 1) := by decide +kernel
theorem dL_law_184 : decode cL_law 184 = .ok (.iconst 5, 1) := by decide +kernel
theorem dL_law_185 : decode cL_law 185 = .ok (.iadd, 1) := by decide +kernel
theorem dL_law_186 : decode cL_law 186 = .ok (.iaload, 1) := by decide +kernel
theorem dL_law_187 : decode cL_law 187 = .ok (.invokevirtual 17, 3) := by decide +kernel
theorem dL_law_190 : decode cL_law 190 = .ok (.if_icmp .eq 555, 3) := by decide +kernel
theorem dL_law_193 : decode cL_law 193 = .ok (.iconst 0, 1) := by decide +kernel
theorem dL_law_194 : decode cL_law 194 = .ok (.ireturn, 1) := by decide +kernel
theorem dL_law_195 : decode cL_law 195 = .ok (.aload_n 1, 1) := by decide +kernel
theorem dL_law_196 : decode cL_law 196 = .ok (.aload_n 0, 1) := by decide +kernel
theorem dL_law_197 : decode cL_law 197 = .ok (.iload_n 3, 1) := by decide +kernel
theorem dL_law_198 : decode cL_law 198 = .ok (.iconst 1, 1) := by decide +kernel
theorem dL_law_199 : decode cL_law 199 = .ok (.iadd, 1) := by decide +kernel
theorem dL_law_200 : decode cL_law 200 = .ok (.iaload, 1) := by decide +kernel
theorem dL_law_201 : decode cL_law 201 = .ok (.aload_n 0, 1) := by decide +kernel
theorem dL_law_202 : decode cL_law 202 = .ok (.iload_n 3, 1) := by decide +kernel
theorem dL_law_203 : decode cL_law 203 = .ok (.iconst 2, 1) := by decide +kernel
theorem dL_law_204 : decode cL_law 204 = .ok (.iadd, 1) := by decide +kernel
theorem dL_law_205 : decode cL_law 205 = .ok (.iaload, 1) := by decide +kernel
theorem dL_law_206 : decode cL_law 206 = .ok (.aload_n 0, 1) := by decide +kernel
theorem dL_law_207 : decode cL_law 207 = .ok (.iload_n 3, 1) := by decide +kernel
theorem dL_law_208 : decode cL_law 208 = .ok (.iconst 3, 1) := by decide +kernel
theorem dL_law_209 : decode cL_law 209 = .ok (.iadd, 1) := by decide +kernel
theorem dL_law_210 : decode cL_law 210 = .ok (.iaload, 1) := by decide +kernel
theorem dL_law_211 : decode cL_law 211 = .ok (.invokevirtual 18, 3) := by decide +kernel
theorem dL_law_214 : decode cL_law 214 = .ok (.aload_n 2, 1) := by decide +kernel
theorem dL_law_215 : decode cL_law 215 = .ok (.aload_n 0, 1) := by decide +kernel
theorem dL_law_216 : decode cL_law 216 = .ok (.iload_n 3, 1) := by decide +kernel
theorem dL_law_217 : decode cL_law 217 = .ok (.iconst 1, 1) := by decide +kernel
theorem dL_law_218 : decode cL_law 218 = .ok (.iadd, 1) := by decide +kernel
theorem dL_law_219 : decode cL_law 219 = .ok (.iaload, 1) := by decide +kernel
theorem dL_law_220 : decode cL_law 220 = .ok (.aload_n 0, 1) := by decide +kernel
theorem dL_law_221 : decode cL_law 221 = .ok (.iload_n 3, 1) := by decide +kernel
theorem dL_law_222 : decode cL_law 222 = .ok (.iconst 2, 1) := by decide +kernel
theorem dL_law_223 : decode cL_law 223 = .ok (.iadd, 1) := by decide +kernel
theorem dL_law_224 : decode cL_law 224 = .ok (.iaload, 1) := by decide +kernel
theorem dL_law_225 : decode cL_law 225 = .ok (.aload_n 0, 1) := by decide +kernel
theorem dL_law_226 : decode cL_law 226 = .ok (.iload_n 3, 1) := by decide +kernel
theorem dL_law_227 : decode cL_law 227 = .ok (.iconst 3, 1) := by decide +kernel
theorem dL_law_228 : decode cL_law 228 = .ok (.iadd, 1) := by decide +kernel
theorem dL_law_229 : decode cL_law 229 = .ok (.iaload, 1) := by decide +kernel
theorem dL_law_230 : decode cL_law 230 = .ok (.invokevirtual 22, 3) := by decide +kernel
theorem dL_law_233 : decode cL_law 233 = .ok (.if_icmp .eq 512, 3) := by decide +kernel
theorem dL_law_236 : decode cL_law 236 = .ok (.iconst 0, 1) := by decide +kernel
theorem dL_law_237 : decode cL_law 237 = .ok (.ireturn, 1) := by decide +kernel
theorem dL_law_238 : decode cL_law 238 = .ok (.aload_n 1, 1) := by decide +kernel
theorem dL_law_239 : decode cL_law 239 = .ok (.aload_n 0, 1) := by decide +kernel
theorem dL_law_240 : decode cL_law 240 = .ok (.iload_n 3, 1) := by decide +kernel
theorem dL_law_241 : decode cL_law 241 = .ok (.iconst 1, 1) := by decide +kernel
theorem dL_law_242 : decode cL_law 242 = .ok (.iadd, 1) := by decide +kernel
theorem dL_law_243 : decode cL_law 243 = .ok (.iaload, 1) := by decide +kernel
theorem dL_law_244 : decode cL_law 244 = .ok (.aload_n 0, 1) := by decide +kernel
theorem dL_law_245 : decode cL_law 245 = .ok (.iload_n 3, 1) := by decide +kernel
theorem dL_law_246 : decode cL_law 246 = .ok (.iconst 2, 1) := by decide +kernel
theorem dL_law_247 : decode cL_law 247 = .ok (.iadd, 1) := by decide +kernel
theorem dL_law_248 : decode cL_law 248 = .ok (.iaload, 1) := by decide +kernel
theorem dL_law_249 : decode cL_law 249 = .ok (.invokevirtual 23, 3) := by decide +kernel
theorem dL_law_252 : decode cL_law 252 = .ok (.aload_n 2, 1) := by decide +kernel
theorem dL_law_253 : decode cL_law 253 = .ok (.aload_n 0, 1) := by decide +kernel
theorem dL_law_254 : decode cL_law 254 = .ok (.iload_n 3, 1) := by decide +kernel
theorem dL_law_255 : decode cL_law 255 = .ok (.iconst 1, 1) := by decide +kernel
theorem dL_law_256 : decode cL_law 256 = .ok (.iadd, 1) := by decide +kernel
theorem dL_law_257 : decode cL_law 257 = .ok (.iaload, 1) := by decide +kernel
theorem dL_law_258 : decode cL_law 258 = .ok (.aload_n 0, 1) := by decide +kernel
theorem dL_law_259 : decode cL_law 259 = .ok (.iload_n 3, 1) := by decide +kernel
theorem dL_law_260 : decode cL_law 260 = .ok (.iconst 2, 1) := by decide +kernel
theorem dL_law_261 : decode cL_law 261 = .ok (.iadd, 1) := by decide +kernel
theorem dL_law_262 : decode cL_law 262 = .ok (.iaload, 1) := by decide +kernel
theorem dL_law_263 : decode cL_law 263 = .ok (.invokevirtual 27, 3) := by decide +kernel
theorem dL_law_266 : decode cL_law 266 = .ok (.if_icmp .eq 479, 3) := by decide +kernel
theorem dL_law_269 : decode cL_law 269 = .ok (.iconst 0, 1) := by decide +kernel
theorem dL_law_270 : decode cL_law 270 = .ok (.ireturn, 1) := by decide +kernel
theorem dL_law_271 : decode cL_law 271 = .ok (.aload_n 1, 1) := by decide +kernel
theorem dL_law_272 : decode cL_law 272 = .ok (.aload_n 0, 1) := by decide +kernel
theorem dL_law_273 : decode cL_law 273 = .ok (.iload_n 3, 1) := by decide +kernel
theorem dL_law_274 : decode cL_law 274 = .ok (.iconst 1, 1) := by decide +kernel
theorem dL_law_275 : decode cL_law 275 = .ok (.iadd, 1) := by decide +kernel
theorem dL_law_276 : decode cL_law 276 = .ok (.iaload, 1) := by decide +kernel
theorem dL_law_277 : decode cL_law 277 = .ok (.invokevirtual 28, 3) := by decide +kernel
theorem dL_law_280 : decode cL_law 280 = .ok (.aload_n 2, 1) := by decide +kernel
theorem dL_law_281 : decode cL_law 281 = .ok (.aload_n 0, 1) := by decide +kernel
theorem dL_law_282 : decode cL_law 282 = .ok (.iload_n 3, 1) := by decide +kernel
theorem dL_law_283 : decode cL_law 283 = .ok (.iconst 1, 1) := by decide +kernel
theorem dL_law_284 : decode cL_law 284 = .ok (.iadd, 1) := by decide +kernel
theorem dL_law_285 : decode cL_law 285 = .ok (.iaload, 1) := by decide +kernel
theorem dL_law_286 : decode cL_law 286 = .ok (.invokevirtual 32, 3) := by decide +kernel
theorem dL_law_289 : decode cL_law 289 = .ok (.if_icmp .eq 456, 3) := by decide +kernel
theorem dL_law_292 : decode cL_law 292 = .ok (.iconst 0, 1) := by decide +kernel
theorem dL_law_293 : decode cL_law 293 = .ok (.ireturn, 1) := by decide +kernel
theorem dL_law_294 : decode cL_law 294 = .ok (.aload_n 1, 1) := by decide +kernel
theorem dL_law_295 : decode cL_law 295 = .ok (.aload_n 0, 1) := by decide +kernel
theorem dL_law_296 : decode cL_law 296 = .ok (.iload_n 3, 1) := by decide +kernel
theorem dL_law_297 : decode cL_law 297 = .ok (.iconst 1, 1) := by decide +kernel
theorem dL_law_298 : decode cL_law 298 = .ok (.iadd, 1) := by decide +kernel
theorem dL_law_299 : decode cL_law 299 = .ok (.iaload, 1) := by decide +kernel
theorem dL_law_300 : decode cL_law 300 = .ok (.invokevirtual 33, 3) := by decide +kernel
theorem dL_law_303 : decode cL_law 303 = .ok (.aload_n 2, 1) := by decide +kernel
theorem dL_law_304 : decode cL_law 304 = .ok (.aload_n 0, 1) := by decide +kernel
theorem dL_law_305 : decode cL_law 305 = .ok (.iload_n 3, 1) := by decide +kernel
theorem dL_law_306 : decode cL_law 306 = .ok (.iconst 1, 1) := by decide +kernel
theorem dL_law_307 : decode cL_law 307 = .ok (.iadd, 1) := by decide +kernel
theorem dL_law_308 : decode cL_law 308 = .ok (.iaload, 1) := by decide +kernel
theorem dL_law_309 : decode cL_law 309 = .ok (.invokevirtual 36, 3) := by decide +kernel
theorem dL_law_312 : decode cL_law 312 = .ok (.if_icmp .eq 433, 3) := by decide +kernel
theorem dL_law_315 : decode cL_law 315 = .ok (.iconst 0, 1) := by decide +kernel
theorem dL_law_316 : decode cL_law 316 = .ok (.ireturn, 1) := by decide +kernel
theorem dL_law_317 : decode cL_law 317 = .ok (.aload_n 1, 1) := by decide +kernel
theorem dL_law_318 : decode cL_law 318 = .ok (.invokevirtual 37, 3) := by decide +kernel
theorem dL_law_321 : decode cL_law 321 = .ok (.aload_n 2, 1) := by decide +kernel
theorem dL_law_322 : decode cL_law 322 = .ok (.invokevirtual 41, 3) := by decide +kernel
theorem dL_law_325 : decode cL_law 325 = .ok (.if_icmp .eq 420, 3) := by decide +kernel
theorem dL_law_328 : decode cL_law 328 = .ok (.iconst 0, 1) := by decide +kernel
theorem dL_law_329 : decode cL_law 329 = .ok (.ireturn, 1) := by decide +kernel
theorem dL_law_330 : decode cL_law 330 = .ok (.aload_n 1, 1) := by decide +kernel
theorem dL_law_331 : decode cL_law 331 = .ok (.invokevirtual 42, 3) := by decide +kernel
theorem dL_law_334 : decode cL_law 334 = .ok (.aload_n 2, 1) := by decide +kernel
theorem dL_law_335 : decode cL_law 335 = .ok (.invokevirtual 45, 3) := by decide +kernel
theorem dL_law_338 : decode cL_law 338 = .ok (.if_icmp .eq 407, 3) := by decide +kernel
theorem dL_law_341 : decode cL_law 341 = .ok (.iconst 0, 1) := by decide +kernel
theorem dL_law_342 : decode cL_law 342 = .ok (.ireturn, 1) := by decide +kernel
theorem dL_law_343 : decode cL_law 343 = .ok (.aload_n 1, 1) := by decide +kernel
theorem dL_law_344 : decode cL_law 344 = .ok (.aload_n 0, 1) := by decide +kernel
theorem dL_law_345 : decode cL_law 345 = .ok (.iload_n 3, 1) := by decide +kernel
theorem dL_law_346 : decode cL_law 346 = .ok (.iconst 1, 1) := by decide +kernel
theorem dL_law_347 : decode cL_law 347 = .ok (.iadd, 1) := by decide +kernel
theorem dL_law_348 : decode cL_law 348 = .ok (.iaload, 1) := by decide +kernel
theorem dL_law_349 : decode cL_law 349 = .ok (.aload_n 0, 1) := by decide +kernel
theorem dL_law_350 : decode cL_law 350 = .ok (.iload_n 3, 1) := by decide +kernel
theorem dL_law_351 : decode cL_law 351 = .ok (.iconst 2, 1) := by decide +kernel
theorem dL_law_352 : decode cL_law 352 = .ok (.iadd, 1) := by decide +kernel
theorem dL_law_353 : decode cL_law 353 = .ok (.iaload, 1) := by decide +kernel
theorem dL_law_354 : decode cL_law 354 = .ok (.invokevirtual 46, 3) := by decide +kernel
theorem dL_law_357 : decode cL_law 357 = .ok (.aload_n 2, 1) := by decide +kernel
theorem dL_law_358 : decode cL_law 358 = .ok (.aload_n 0, 1) := by decide +kernel
theorem dL_law_359 : decode cL_law 359 = .ok (.iload_n 3, 1) := by decide +kernel
theorem dL_law_360 : decode cL_law 360 = .ok (.iconst 1, 1) := by decide +kernel
theorem dL_law_361 : decode cL_law 361 = .ok (.iadd, 1) := by decide +kernel
theorem dL_law_362 : decode cL_law 362 = .ok (.iaload, 1) := by decide +kernel
theorem dL_law_363 : decode cL_law 363 = .ok (.aload_n 0, 1) := by decide +kernel
theorem dL_law_364 : decode cL_law 364 = .ok (.iload_n 3, 1) := by decide +kernel
theorem dL_law_365 : decode cL_law 365 = .ok (.iconst 2, 1) := by decide +kernel
theorem dL_law_366 : decode cL_law 366 = .ok (.iadd, 1) := by decide +kernel
theorem dL_law_367 : decode cL_law 367 = .ok (.iaload, 1) := by decide +kernel
theorem dL_law_368 : decode cL_law 368 = .ok (.invokevirtual 49, 3) := by decide +kernel
theorem dL_law_371 : decode cL_law 371 = .ok (.if_icmp .eq 374, 3) := by decide +kernel
theorem dL_law_374 : decode cL_law 374 = .ok (.iconst 0, 1) := by decide +kernel
theorem dL_law_375 : decode cL_law 375 = .ok (.ireturn, 1) := by decide +kernel
theorem dL_law_376 : decode cL_law 376 = .ok (.aload_n 1, 1) := by decide +kernel
theorem dL_law_377 : decode cL_law 377 = .ok (.aload_n 0, 1) := by decide +kernel
theorem dL_law_378 : decode cL_law 378 = .ok (.iload_n 3, 1) := by decide +kernel
theorem dL_law_379 : decode cL_law 379 = .ok (.iconst 1, 1) := by decide +kernel
theorem dL_law_380 : decode cL_law 380 = .ok (.iadd, 1) := by decide +kernel
theorem dL_law_381 : decode cL_law 381 = .ok (.iaload, 1) := by decide +kernel
theorem dL_law_382 : decode cL_law 382 = .ok (.aload_n 0, 1) := by decide +kernel
theorem dL_law_383 : decode cL_law 383 = .ok (.iload_n 3, 1) := by decide +kernel
theorem dL_law_384 : decode cL_law 384 = .ok (.iconst 2, 1) := by decide +kernel
theorem dL_law_385 : decode cL_law 385 = .ok (.iadd, 1) := by decide +kernel
theorem dL_law_386 : decode cL_law 386 = .ok (.iaload, 1) := by decide +kernel
theorem dL_law_387 : decode cL_law 387 = .ok (.invokevirtual 50, 3) := by decide +kernel
theorem dL_law_390 : decode cL_law 390 = .ok (.aload_n 2, 1) := by decide +kernel
theorem dL_law_391 : decode cL_law 391 = .ok (.aload_n 0, 1) := by decide +kernel
theorem dL_law_392 : decode cL_law 392 = .ok (.iload_n 3, 1) := by decide +kernel
theorem dL_law_393 : decode cL_law 393 = .ok (.iconst 1, 1) := by decide +kernel
theorem dL_law_394 : decode cL_law 394 = .ok (.iadd, 1) := by decide +kernel
theorem dL_law_395 : decode cL_law 395 = .ok (.iaload, 1) := by decide +kernel
theorem dL_law_396 : decode cL_law 396 = .ok (.aload_n 0, 1) := by decide +kernel
theorem dL_law_397 : decode cL_law 397 = .ok (.iload_n 3, 1) := by decide +kernel
theorem dL_law_398 : decode cL_law 398 = .ok (.iconst 2, 1) := by decide +kernel
theorem dL_law_399 : decode cL_law 399 = .ok (.iadd, 1) := by decide +kernel
theorem dL_law_400 : decode cL_law 400 = .ok (.iaload, 1) := by decide +kernel
theorem dL_law_401 : decode cL_law 401 = .ok (.invokevirtual 53, 3) := by decide +kernel
theorem dL_law_404 : decode cL_law 404 = .ok (.if_icmp .eq 341, 3) := by decide +kernel
theorem dL_law_407 : decode cL_law 407 = .ok (.iconst 0, 1) := by decide +kernel
theorem dL_law_408 : decode cL_law 408 = .ok (.ireturn, 1) := by decide +kernel
theorem dL_law_409 : decode cL_law 409 = .ok (.aload_n 1, 1) := by decide +kernel
theorem dL_law_410 : decode cL_law 410 = .ok (.aload_n 0, 1) := by decide +kernel
theorem dL_law_411 : decode cL_law 411 = .ok (.iload_n 3, 1) := by decide +kernel
theorem dL_law_412 : decode cL_law 412 = .ok (.iconst 1, 1) := by decide +kernel
theorem dL_law_413 : decode cL_law 413 = .ok (.iadd, 1) := by decide +kernel
theorem dL_law_414 : decode cL_law 414 = .ok (.iaload, 1) := by decide +kernel
theorem dL_law_415 : decode cL_law 415 = .ok (.aload_n 0, 1) := by decide +kernel
theorem dL_law_416 : decode cL_law 416 = .ok (.iload_n 3, 1) := by decide +kernel
theorem dL_law_417 : decode cL_law 417 = .ok (.iconst 2, 1) := by decide +kernel
theorem dL_law_418 : decode cL_law 418 = .ok (.iadd, 1) := by decide +kernel
theorem dL_law_419 : decode cL_law 419 = .ok (.iaload, 1) := by decide +kernel
theorem dL_law_420 : decode cL_law 420 = .ok (.aload_n 0, 1) := by decide +kernel
theorem dL_law_421 : decode cL_law 421 = .ok (.iload_n 3, 1) := by decide +kernel
theorem dL_law_422 : decode cL_law 422 = .ok (.iconst 3, 1) := by decide +kernel
theorem dL_law_423 : decode cL_law 423 = .ok (.iadd, 1) := by decide +kernel
theorem dL_law_424 : decode cL_law 424 = .ok (.iaload, 1) := by decide +kernel
theorem dL_law_425 : decode cL_law 425 = .ok (.invokevirtual 54, 3) := by decide +kernel
theorem dL_law_428 : decode cL_law 428 = .ok (.aload_n 2, 1) := by decide +kernel
theorem dL_law_429 : decode cL_law 429 = .ok (.aload_n 0, 1) := by decide +kernel
theorem dL_law_430 : decode cL_law 430 = .ok (.iload_n 3, 1) := by decide +kernel
theorem dL_law_431 : decode cL_law 431 = .ok (.iconst 1, 1) := by decide +kernel
theorem dL_law_432 : decode cL_law 432 = .ok (.iadd, 1) := by decide +kernel
theorem dL_law_433 : decode cL_law 433 = .ok (.iaload, 1) := by decide +kernel
theorem dL_law_434 : decode cL_law 434 = .ok (.aload_n 0, 1) := by decide +kernel
theorem dL_law_435 : decode cL_law 435 = .ok (.iload_n 3, 1) := by decide +kernel
theorem dL_law_436 : decode cL_law 436 = .ok (.iconst 2, 1) := by decide +kernel
theorem dL_law_437 : decode cL_law 437 = .ok (.iadd, 1) := by decide +kernel
theorem dL_law_438 : decode cL_law 438 = .ok (.iaload, 1) := by decide +kernel
theorem dL_law_439 : decode cL_law 439 = .ok (.aload_n 0, 1) := by decide +kernel
theorem dL_law_440 : decode cL_law 440 = .ok (.iload_n 3, 1) := by decide +kernel
theorem dL_law_441 : decode cL_law 441 = .ok (.iconst 3, 1) := by decide +kernel
theorem dL_law_442 : decode cL_law 442 = .ok (.iadd, 1) := by decide +kernel
theorem dL_law_443 : decode cL_law 443 = .ok (.iaload, 1) := by decide +kernel
theorem dL_law_444 : decode cL_law 444 = .ok (.invokevirtual 57, 3) := by decide +kernel
theorem dL_law_447 : decode cL_law 447 = .ok (.if_icmp .eq 298, 3) := by decide +kernel
theorem dL_law_450 : decode cL_law 450 = .ok (.iconst 0, 1) := by decide +kernel
theorem dL_law_451 : decode cL_law 451 = .ok (.ireturn, 1) := by decide +kernel
theorem dL_law_452 : decode cL_law 452 = .ok (.aload_n 1, 1) := by decide +kernel
theorem dL_law_453 : decode cL_law 453 = .ok (.aload_n 0, 1) := by decide +kernel
theorem dL_law_454 : decode cL_law 454 = .ok (.iload_n 3, 1) := by decide +kernel
theorem dL_law_455 : decode cL_law 455 = .ok (.iconst 1, 1) := by decide +kernel
theorem dL_law_456 : decode cL_law 456 = .ok (.iadd, 1) := by decide +kernel
theorem dL_law_457 : decode cL_law 457 = .ok (.iaload, 1) := by decide +kernel
theorem dL_law_458 : decode cL_law 458 = .ok (.invokevirtual 58, 3) := by decide +kernel
theorem dL_law_461 : decode cL_law 461 = .ok (.aload_n 2, 1) := by decide +kernel
theorem dL_law_462 : decode cL_law 462 = .ok (.aload_n 0, 1) := by decide +kernel
theorem dL_law_463 : decode cL_law 463 = .ok (.iload_n 3, 1) := by decide +kernel
theorem dL_law_464 : decode cL_law 464 = .ok (.iconst 1, 1) := by decide +kernel
theorem dL_law_465 : decode cL_law 465 = .ok (.iadd, 1) := by decide +kernel
theorem dL_law_466 : decode cL_law 466 = .ok (.iaload, 1) := by decide +kernel
theorem dL_law_467 : decode cL_law 467 = .ok (.invokevirtual 61, 3) := by decide +kernel
theorem dL_law_470 : decode cL_law 470 = .ok (.if_icmp .eq 275, 3) := by decide +kernel
theorem dL_law_473 : decode cL_law 473 = .ok (.iconst 0, 1) := by decide +kernel
theorem dL_law_474 : decode cL_law 474 = .ok (.ireturn, 1) := by decide +kernel
theorem dL_law_475 : decode cL_law 475 = .ok (.aload_n 1, 1) := by decide +kernel
theorem dL_law_476 : decode cL_law 476 = .ok (.aload_n 0, 1) := by decide +kernel
theorem dL_law_477 : decode cL_law 477 = .ok (.iload_n 3, 1) := by decide +kernel
theorem dL_law_478 : decode cL_law 478 = .ok (.iconst 1, 1) := by decide +kernel
theorem dL_law_479 : decode cL_law 479 = .ok (.iadd, 1) := by decide +kernel
theorem dL_law_480 : decode cL_law 480 = .ok (.iaload, 1) := by decide +kernel
theorem dL_law_481 : decode cL_law 481 = .ok (.aload_n 0, 1) := by decide +kernel
theorem dL_law_482 : decode cL_law 482 = .ok (.iload_n 3, 1) := by decide +kernel
theorem dL_law_483 : decode cL_law 483 = .ok (.iconst 2, 1) := by decide +kernel
theorem dL_law_484 : decode cL_law 484 = .ok (.iadd, 1) := by decide +kernel
theorem dL_law_485 : decode cL_law 485 = .ok (.iaload, 1) := by decide +kernel
theorem dL_law_486 : decode cL_law 486 = .ok (.invokevirtual 62, 3) := by decide +kernel
theorem dL_law_489 : decode cL_law 489 = .ok (.aload_n 2, 1) := by decide +kernel
theorem dL_law_490 : decode cL_law 490 = .ok (.aload_n 0, 1) := by decide +kernel
theorem dL_law_491 : decode cL_law 491 = .ok (.iload_n 3, 1) := by decide +kernel
theorem dL_law_492 : decode cL_law 492 = .ok (.iconst 1, 1) := by decide +kernel
theorem dL_law_493 : decode cL_law 493 = .ok (.iadd, 1) := by decide +kernel
theorem dL_law_494 : decode cL_law 494 = .ok (.iaload, 1) := by decide +kernel
theorem dL_law_495 : decode cL_law 495 = .ok (.aload_n 0, 1) := by decide +kernel
theorem dL_law_496 : decode cL_law 496 = .ok (.iload_n 3, 1) := by decide +kernel
theorem dL_law_497 : decode cL_law 497 = .ok (.iconst 2, 1) := by decide +kernel
theorem dL_law_498 : decode cL_law 498 = .ok (.iadd, 1) := by decide +kernel
theorem dL_law_499 : decode cL_law 499 = .ok (.iaload, 1) := by decide +kernel
theorem dL_law_500 : decode cL_law 500 = .ok (.invokevirtual 65, 3) := by decide +kernel
theorem dL_law_503 : decode cL_law 503 = .ok (.if_icmp .eq 242, 3) := by decide +kernel
theorem dL_law_506 : decode cL_law 506 = .ok (.iconst 0, 1) := by decide +kernel
theorem dL_law_507 : decode cL_law 507 = .ok (.ireturn, 1) := by decide +kernel
theorem dL_law_508 : decode cL_law 508 = .ok (.aload_n 1, 1) := by decide +kernel
theorem dL_law_509 : decode cL_law 509 = .ok (.aload_n 0, 1) := by decide +kernel
theorem dL_law_510 : decode cL_law 510 = .ok (.iload_n 3, 1) := by decide +kernel
theorem dL_law_511 : decode cL_law 511 = .ok (.iconst 1, 1) := by decide +kernel
theorem dL_law_512 : decode cL_law 512 = .ok (.iadd, 1) := by decide +kernel
theorem dL_law_513 : decode cL_law 513 = .ok (.iaload, 1) := by decide +kernel
theorem dL_law_514 : decode cL_law 514 = .ok (.invokevirtual 66, 3) := by decide +kernel
theorem dL_law_517 : decode cL_law 517 = .ok (.aload_n 2, 1) := by decide +kernel
theorem dL_law_518 : decode cL_law 518 = .ok (.aload_n 0, 1) := by decide +kernel
theorem dL_law_519 : decode cL_law 519 = .ok (.iload_n 3, 1) := by decide +kernel
theorem dL_law_520 : decode cL_law 520 = .ok (.iconst 1, 1) := by decide +kernel
theorem dL_law_521 : decode cL_law 521 = .ok (.iadd, 1) := by decide +kernel
theorem dL_law_522 : decode cL_law 522 = .ok (.iaload, 1) := by decide +kernel
theorem dL_law_523 : decode cL_law 523 = .ok (.invokevirtual 69, 3) := by decide +kernel
theorem dL_law_526 : decode cL_law 526 = .ok (.if_icmp .eq 219, 3) := by decide +kernel
theorem dL_law_529 : decode cL_law 529 = .ok (.iconst 0, 1) := by decide +kernel
theorem dL_law_530 : decode cL_law 530 = .ok (.ireturn, 1) := by decide +kernel
theorem dL_law_531 : decode cL_law 531 = .ok (.aload_n 1, 1) := by decide +kernel
theorem dL_law_532 : decode cL_law 532 = .ok (.aload_n 0, 1) := by decide +kernel
theorem dL_law_533 : decode cL_law 533 = .ok (.iload_n 3, 1) := by decide +kernel
theorem dL_law_534 : decode cL_law 534 = .ok (.iconst 1, 1) := by decide +kernel
theorem dL_law_535 : decode cL_law 535 = .ok (.iadd, 1) := by decide +kernel
theorem dL_law_536 : decode cL_law 536 = .ok (.iaload, 1) := by decide +kernel
theorem dL_law_537 : decode cL_law 537 = .ok (.aload_n 0, 1) := by decide +kernel
theorem dL_law_538 : decode cL_law 538 = .ok (.iload_n 3, 1) := by decide +kernel
theorem dL_law_539 : decode cL_law 539 = .ok (.iconst 2, 1) := by decide +kernel
theorem dL_law_540 : decode cL_law 540 = .ok (.iadd, 1) := by decide +kernel
theorem dL_law_541 : decode cL_law 541 = .ok (.iaload, 1) := by decide +kernel
theorem dL_law_542 : decode cL_law 542 = .ok (.invokevirtual 70, 3) := by decide +kernel
theorem dL_law_545 : decode cL_law 545 = .ok (.aload_n 2, 1) := by decide +kernel
theorem dL_law_546 : decode cL_law 546 = .ok (.aload_n 0, 1) := by decide +kernel
theorem dL_law_547 : decode cL_law 547 = .ok (.iload_n 3, 1) := by decide +kernel
theorem dL_law_548 : decode cL_law 548 = .ok (.iconst 1, 1) := by decide +kernel
theorem dL_law_549 : decode cL_law 549 = .ok (.iadd, 1) := by decide +kernel
theorem dL_law_550 : decode cL_law 550 = .ok (.iaload, 1) := by decide +kernel
theorem dL_law_551 : decode cL_law 551 = .ok (.aload_n 0, 1) := by decide +kernel
theorem dL_law_552 : decode cL_law 552 = .ok (.iload_n 3, 1) := by decide +kernel
theorem dL_law_553 : decode cL_law 553 = .ok (.iconst 2, 1) := by decide +kernel
theorem dL_law_554 : decode cL_law 554 = .ok (.iadd, 1) := by decide +kernel
theorem dL_law_555 : decode cL_law 555 = .ok (.iaload, 1) := by decide +kernel
theorem dL_law_556 : decode cL_law 556 = .ok (.invokevirtual 73, 3) := by decide +kernel
theorem dL_law_559 : decode cL_law 559 = .ok (.if_icmp .eq 186, 3) := by decide +kernel
theorem dL_law_562 : decode cL_law 562 = .ok (.iconst 0, 1) := by decide +kernel
theorem dL_law_563 : decode cL_law 563 = .ok (.ireturn, 1) := by decide +kernel
theorem dL_law_564 : decode cL_law 564 = .ok (.aload_n 1, 1) := by decide +kernel
theorem dL_law_565 : decode cL_law 565 = .ok (.aload_n 0, 1) := by decide +kernel
theorem dL_law_566 : decode cL_law 566 = .ok (.iload_n 3, 1) := by decide +kernel
theorem dL_law_567 : decode cL_law 567 = .ok (.iconst 1, 1) := by decide +kernel
theorem dL_law_568 : decode cL_law 568 = .ok (.iadd, 1) := by decide +kernel
theorem dL_law_569 : decode cL_law 569 = .ok (.iaload, 1) := by decide +kernel
theorem dL_law_570 : decode cL_law 570 = .ok (.aload_n 0, 1) := by decide +kernel
theorem dL_law_571 : decode cL_law 571 = .ok (.iload_n 3, 1) := by decide +kernel
theorem dL_law_572 : decode cL_law 572 = .ok (.iconst 2, 1) := by decide +kernel
theorem dL_law_573 : decode cL_law 573 = .ok (.iadd, 1) := by decide +kernel
theorem dL_law_574 : decode cL_law 574 = .ok (.iaload, 1) := by decide +kernel
theorem dL_law_575 : decode cL_law 575 = .ok (.aload_n 0, 1) := by decide +kernel
theorem dL_law_576 : decode cL_law 576 = .ok (.iload_n 3, 1) := by decide +kernel
theorem dL_law_577 : decode cL_law 577 = .ok (.iconst 3, 1) := by decide +kernel
theorem dL_law_578 : decode cL_law 578 = .ok (.iadd, 1) := by decide +kernel
theorem dL_law_579 : decode cL_law 579 = .ok (.iaload, 1) := by decide +kernel
theorem dL_law_580 : decode cL_law 580 = .ok (.invokevirtual 74, 3) := by decide +kernel
theorem dL_law_583 : decode cL_law 583 = .ok (.aload_n 2, 1) := by decide +kernel
theorem dL_law_584 : decode cL_law 584 = .ok (.aload_n 0, 1) := by decide +kernel
theorem dL_law_585 : decode cL_law 585 = .ok (.iload_n 3, 1) := by decide +kernel
theorem dL_law_586 : decode cL_law 586 = .ok (.iconst 1, 1) := by decide +kernel
theorem dL_law_587 : decode cL_law 587 = .ok (.iadd, 1) := by decide +kernel
theorem dL_law_588 : decode cL_law 588 = .ok (.iaload, 1) := by decide +kernel
theorem dL_law_589 : decode cL_law 589 = .ok (.aload_n 0, 1) := by decide +kernel
theorem dL_law_590 : decode cL_law 590 = .ok (.iload_n 3, 1) := by decide +kernel
theorem dL_law_591 : decode cL_law 591 = .ok (.iconst 2, 1) := by decide +kernel
theorem dL_law_592 : decode cL_law 592 = .ok (.iadd, 1) := by decide +kernel
theorem dL_law_593 : decode cL_law 593 = .ok (.iaload, 1) := by decide +kernel
theorem dL_law_594 : decode cL_law 594 = .ok (.aload_n 0, 1) := by decide +kernel
theorem dL_law_595 : decode cL_law 595 = .ok (.iload_n 3, 1) := by decide +kernel
theorem dL_law_596 : decode cL_law 596 = .ok (.iconst 3, 1) := by decide +kernel
theorem dL_law_597 : decode cL_law 597 = .ok (.iadd, 1) := by decide +kernel
theorem dL_law_598 : decode cL_law 598 = .ok (.iaload, 1) := by decide +kernel
theorem dL_law_599 : decode cL_law 599 = .ok (.invokevirtual 77, 3) := by decide +kernel
theorem dL_law_602 : decode cL_law 602 = .ok (.if_icmp .eq 143, 3) := by decide +kernel
theorem dL_law_605 : decode cL_law 605 = .ok (.iconst 0, 1) := by decide +kernel
theorem dL_law_606 : decode cL_law 606 = .ok (.ireturn, 1) := by decide +kernel
theorem dL_law_607 : decode cL_law 607 = .ok (.aload_n 1, 1) := by decide +kernel
theorem dL_law_608 : decode cL_law 608 = .ok (.aload_n 0, 1) := by decide +kernel
theorem dL_law_609 : decode cL_law 609 = .ok (.iload_n 3, 1) := by decide +kernel
theorem dL_law_610 : decode cL_law 610 = .ok (.iconst 1, 1) := by decide +kernel
theorem dL_law_611 : decode cL_law 611 = .ok (.iadd, 1) := by decide +kernel
theorem dL_law_612 : decode cL_law 612 = .ok (.iaload, 1) := by decide +kernel
theorem dL_law_613 : decode cL_law 613 = .ok (.i2l, 1) := by decide +kernel
theorem dL_law_614 : decode cL_law 614 = .ok (.bipush 32, 2) := by decide +kernel
theorem dL_law_616 : decode cL_law 616 = .ok (.lshl, 1) := by decide +kernel
theorem dL_law_617 : decode cL_law 617 = .ok (.aload_n 0, 1) := by decide +kernel
theorem dL_law_618 : decode cL_law 618 = .ok (.iload_n 3, 1) := by decide +kernel
theorem dL_law_619 : decode cL_law 619 = .ok (.iconst 2, 1) := by decide +kernel
theorem dL_law_620 : decode cL_law 620 = .ok (.iadd, 1) := by decide +kernel
theorem dL_law_621 : decode cL_law 621 = .ok (.iaload, 1) := by decide +kernel
theorem dL_law_622 : decode cL_law 622 = .ok (.i2l, 1) := by decide +kernel
theorem dL_law_623 : decode cL_law 623 = .ok (.ldc2_w 78, 3) := by decide +kernel
theorem dL_law_626 : decode cL_law 626 = .ok (.land, 1) := by decide +kernel
theorem dL_law_627 : decode cL_law 627 = .ok (.lor, 1) := by decide +kernel
theorem dL_law_628 : decode cL_law 628 = .ok (.invokevirtual 80, 3) := by decide +kernel
theorem dL_law_631 : decode cL_law 631 = .ok (.aload_n 2, 1) := by decide +kernel
theorem dL_law_632 : decode cL_law 632 = .ok (.aload_n 0, 1) := by decide +kernel
theorem dL_law_633 : decode cL_law 633 = .ok (.iload_n 3, 1) := by decide +kernel
theorem dL_law_634 : decode cL_law 634 = .ok (.iconst 1, 1) := by decide +kernel
theorem dL_law_635 : decode cL_law 635 = .ok (.iadd, 1) := by decide +kernel
theorem dL_law_636 : decode cL_law 636 = .ok (.iaload, 1) := by decide +kernel
theorem dL_law_637 : decode cL_law 637 = .ok (.i2l, 1) := by decide +kernel
theorem dL_law_638 : decode cL_law 638 = .ok (.bipush 32, 2) := by decide +kernel
theorem dL_law_640 : decode cL_law 640 = .ok (.lshl, 1) := by decide +kernel
theorem dL_law_641 : decode cL_law 641 = .ok (.aload_n 0, 1) := by decide +kernel
theorem dL_law_642 : decode cL_law 642 = .ok (.iload_n 3, 1) := by decide +kernel
theorem dL_law_643 : decode cL_law 643 = .ok (.iconst 2, 1) := by decide +kernel
theorem dL_law_644 : decode cL_law 644 = .ok (.iadd, 1) := by decide +kernel
theorem dL_law_645 : decode cL_law 645 = .ok (.iaload, 1) := by decide +kernel
theorem dL_law_646 : decode cL_law 646 = .ok (.i2l, 1) := by decide +kernel
theorem dL_law_647 : decode cL_law 647 = .ok (.ldc2_w 78, 3) := by decide +kernel
theorem dL_law_650 : decode cL_law 650 = .ok (.land, 1) := by decide +kernel
theorem dL_law_651 : decode cL_law 651 = .ok (.lor, 1) := by decide +kernel
theorem dL_law_652 : decode cL_law 652 = .ok (.invokevirtual 84, 3) := by decide +kernel
theorem dL_law_655 : decode cL_law 655 = .ok (.if_icmp .eq 90, 3) := by decide +kernel
theorem dL_law_658 : decode cL_law 658 = .ok (.iconst 0, 1) := by decide +kernel
theorem dL_law_659 : decode cL_law 659 = .ok (.ireturn, 1) := by decide +kernel
theorem dL_law_660 : decode cL_law 660 = .ok (.aload_n 1, 1) := by decide +kernel
theorem dL_law_661 : decode cL_law 661 = .ok (.invokevirtual 85, 3) := by decide +kernel
theorem dL_law_664 : decode cL_law 664 = .ok (.aload_n 2, 1) := by decide +kernel
theorem dL_law_665 : decode cL_law 665 = .ok (.invokevirtual 88, 3) := by decide +kernel
theorem dL_law_668 : decode cL_law 668 = .ok (.if_icmp .eq 77, 3) := by decide +kernel
theorem dL_law_671 : decode cL_law 671 = .ok (.iconst 0, 1) := by decide +kernel
theorem dL_law_672 : decode cL_law 672 = .ok (.ireturn, 1) := by decide +kernel
theorem dL_law_673 : decode cL_law 673 = .ok (.aload_n 1, 1) := by decide +kernel
theorem dL_law_674 : decode cL_law 674 = .ok (.invokevirtual 89, 3) := by decide +kernel
theorem dL_law_677 : decode cL_law 677 = .ok (.aload_n 2, 1) := by decide +kernel
theorem dL_law_678 : decode cL_law 678 = .ok (.invokevirtual 92, 3) := by decide +kernel
theorem dL_law_681 : decode cL_law 681 = .ok (.if_icmp .eq 64, 3) := by decide +kernel
theorem dL_law_684 : decode cL_law 684 = .ok (.iconst 0, 1) := by decide +kernel
theorem dL_law_685 : decode cL_law 685 = .ok (.ireturn, 1) := by decide +kernel
theorem dL_law_686 : decode cL_law 686 = .ok (.aload_n 1, 1) := by decide +kernel
theorem dL_law_687 : decode cL_law 687 = .ok (.invokevirtual 93, 3) := by decide +kernel
theorem dL_law_690 : decode cL_law 690 = .ok (.aload_n 2, 1) := by decide +kernel
theorem dL_law_691 : decode cL_law 691 = .ok (.invokevirtual 96, 3) := by decide +kernel
theorem dL_law_694 : decode cL_law 694 = .ok (.if_icmp .eq 51, 3) := by decide +kernel
theorem dL_law_697 : decode cL_law 697 = .ok (.iconst 0, 1) := by decide +kernel
theorem dL_law_698 : decode cL_law 698 = .ok (.ireturn, 1) := by decide +kernel
theorem dL_law_699 : decode cL_law 699 = .ok (.aload_n 1, 1) := by decide +kernel
theorem dL_law_700 : decode cL_law 700 = .ok (.aload_n 0, 1) := by decide +kernel
theorem dL_law_701 : decode cL_law 701 = .ok (.iload_n 3, 1) := by decide +kernel
theorem dL_law_702 : decode cL_law 702 = .ok (.iconst 1, 1) := by decide +kernel
theorem dL_law_703 : decode cL_law 703 = .ok (.iadd, 1) := by decide +kernel
theorem dL_law_704 : decode cL_law 704 = .ok (.iaload, 1) := by decide +kernel
theorem dL_law_705 : decode cL_law 705 = .ok (.invokevirtual 97, 3) := by decide +kernel
theorem dL_law_708 : decode cL_law 708 = .ok (.aload_n 2, 1) := by decide +kernel
theorem dL_law_709 : decode cL_law 709 = .ok (.aload_n 0, 1) := by decide +kernel
theorem dL_law_710 : decode cL_law 710 = .ok (.iload_n 3, 1) := by decide +kernel
theorem dL_law_711 : decode cL_law 711 = .ok (.iconst 1, 1) := by decide +kernel
theorem dL_law_712 : decode cL_law 712 = .ok (.iadd, 1) := by decide +kernel
theorem dL_law_713 : decode cL_law 713 = .ok (.iaload, 1) := by decide +kernel
theorem dL_law_714 : decode cL_law 714 = .ok (.invokevirtual 100, 3) := by decide +kernel
theorem dL_law_717 : decode cL_law 717 = .ok (.if_icmp .eq 28, 3) := by decide +kernel
theorem dL_law_720 : decode cL_law 720 = .ok (.iconst 0, 1) := by decide +kernel
theorem dL_law_721 : decode cL_law 721 = .ok (.ireturn, 1) := by decide +kernel
theorem dL_law_722 : decode cL_law 722 = .ok (.aload_n 1, 1) := by decide +kernel
theorem dL_law_723 : decode cL_law 723 = .ok (.aload_n 0, 1) := by decide +kernel
theorem dL_law_724 : decode cL_law 724 = .ok (.iload_n 3, 1) := by decide +kernel
theorem dL_law_725 : decode cL_law 725 = .ok (.iconst 1, 1) := by decide +kernel
theorem dL_law_726 : decode cL_law 726 = .ok (.iadd, 1) := by decide +kernel
theorem dL_law_727 : decode cL_law 727 = .ok (.iaload, 1) := by decide +kernel
theorem dL_law_728 : decode cL_law 728 = .ok (.invokevirtual 101, 3) := by decide +kernel
theorem dL_law_731 : decode cL_law 731 = .ok (.aload_n 2, 1) := by decide +kernel
theorem dL_law_732 : decode cL_law 732 = .ok (.aload_n 0, 1) := by decide +kernel
theorem dL_law_733 : decode cL_law 733 = .ok (.iload_n 3, 1) := by decide +kernel
theorem dL_law_734 : decode cL_law 734 = .ok (.iconst 1, 1) := by decide +kernel
theorem dL_law_735 : decode cL_law 735 = .ok (.iadd, 1) := by decide +kernel
theorem dL_law_736 : decode cL_law 736 = .ok (.iaload, 1) := by decide +kernel
theorem dL_law_737 : decode cL_law 737 = .ok (.invokevirtual 104, 3) := by decide +kernel
theorem dL_law_740 : decode cL_law 740 = .ok (.if_icmp .eq 5, 3) := by decide +kernel
theorem dL_law_743 : decode cL_law 743 = .ok (.iconst 0, 1) := by decide +kernel
theorem dL_law_744 : decode cL_law 744 = .ok (.ireturn, 1) := by decide +kernel
theorem dL_law_745 : decode cL_law 745 = .ok (.iinc 3 6, 3) := by decide +kernel
theorem dL_law_748 : decode cL_law 748 = .ok (.goto (-730), 3) := by decide +kernel
theorem dL_law_751 : decode cL_law 751 = .ok (.iconst 1, 1) := by decide +kernel
theorem dL_law_752 : decode cL_law 752 = .ok (.ireturn, 1) := by decide +kernel
/-! THE CLAIM OUT OF ONE WALK OF THE LAW'S BODY. Your part is whole_start (and what it stands on); all else here is the same for every law, but numbers. -/
def R_law : String := "KiteStringsLaw"
def lw_P (b : Addr) (xs : List Int32) (args : Array Value) (s : State) : Prop := args = #[.ref b] ∧ s.IntsAt b xs ∧ xs.length ≤ 3072 ∧ (Jvm.Cond.and given_1 narrow_1).before args s = true
def lw_Q (_ : Array Value) (s : State) (o : Outcome) (t : State) : Prop := o = .returned (some (.int 1)) ∧ Framed s o t [] 600000 7302250
def lw_Z (below : List Frame) (a : Array Value) (s : State) : State → Prop := fun t => ∃ o, t.status = .running ∧ Ended t below o ∧ lw_Q a s o t
/-- the law's own end, with 1 on the stack, nothing written that was there before, its room as the claim has it -/
theorem lw_ret {p : Program} {l : Launch} {e : Env} {s : State} {m : MethodId} {below : List Frame} {meth : Method} {c : Code} {b : Nat} (hx : p.tables.exec = Jvm.exec) (hb : c.code = code) (hr : meth.sig.returnType = ret) (hlocks : meth.locks = false) {pc : Nat} {H : Heap} {ls : Array Slot} (hdg : decode code pc = .ok (.ireturn, 1)) : W p l e room_1 s m #[Value.ref b] below meth c H [] 600000 7302250 (lw_Z below #[Value.ref b] s) (F0 m pc ls [.int 1]) := by
  intro T hT X
  obtain ⟨fs, hret, hrun, hended, hW, hframe⟩ := X.leave (v := some (.int 1)) (hlocks := hlocks) (fun h => by rw [hr] at h; cases h)
  have hmeth' : T.vm.method? m = some meth := X.method'
  refine ⟨T.setFrames fs, ?_, .returned (some (.int 1)), hrun, hended, rfl, ⟨_, rfl⟩, hW, hframe⟩
  jvm_step X.here [X.here.top, hx, hb, hdg, hmeth', hr, ret, narrow_b1]
  (try refine ⟨rfl, ?_⟩); (try refine ⟨rfl, ?_⟩)
  first | (intro acts; rw [hret _ acts rfl rfl rfl]) | rw [hret _ _ rfl rfl rfl]
  exact Steps.refl _
/-- what holds at the law's entry: the machine, the code, the tables' words (any of lw_tbl by 'hts w (by decide +kernel)'), the script of L ints xs at the cell b, what the Statement gives of the start (any of its parts by flat_of_before) -/
def lw_At (p : Program) (s : State) (m : MethodId) (meth : Method) (c : Code) (b L : Nat) (xs : Nat → Int32) : Prop :=
  p.tables.exec = Jvm.exec ∧ c.code = code ∧ meth.sig.returnType = ret ∧ c.maxLocals = 4 ∧ s.vm.findClass R_law = some m.cls ∧ (∀ w ∈ lw_tbl, w.before #[Value.ref b] s = true) ∧ va_X b L xs s s.heap ∧ b < s.heap.size ∧ meth.locks = false ∧ (Jvm.Cond.and given_1 narrow_1).before #[Value.ref b] s = true
-- ===== YOUR PART BEGINS =====
section ZLAW
variable {p : Program} {l : Launch} {e : Env} {s : State} {m : MethodId} {below : List Frame} {meth : Method} {c : Code} {H : Heap} {locs : List Loc} {cells slots : Nat} {Q : State → Prop} {pc : Nat} {ls : Array Slot} {rest : List Value} {g : zGeo} {M : zM} {b L : Nat} {xs : Nat → Int32} {x3 : Int32} {I : zM → Prop}
theorem z_gois {R : Room} {args : Array Value} {z : Nat} {st : List Value} {a : Array Value} {r : Int32} {M' : zM} (hS : va_S (zS z) s.heap H locs) (hr : va_Run p l e R s m args below meth c H locs cells slots 0 0 (F0 m pc ls st) rest (zQi g z r M' a) (zS z))
    (kk : ∀ (H1 : Heap) (locs1 : List Loc), zR g M' H1 → va_S (zS z) s.heap H1 locs1 → W p l e R s m args below meth c H1 locs1 cells slots Q (F0 m (pc + 3) ls (.int r :: rest))) : W p l e R s m args below meth c H locs cells slots Q (F0 m pc ls st) := by
  refine va_calli hr hS (fun q _ h => h) (fun q h => h) (fun r1 u t H1 locs1 ht _ hw hB _ _ hS => ?_)
  subst hw
  rw [ht] at hB
  exact kk _ _ hB hS
set_option maxRecDepth 100000 in
set_option maxHeartbeats 4000000 in
theorem lc_0 (S : CallFix p m c code 4 s #[Value.ref b] zT RL) (hg : zAd g s.heap.size) (hK : zK g s) (hX : va_X b L xs s s.heap) (hbl : b < s.heap.size) (hR : zR g M H) (hS : va_S (zS s.heap.size) s.heap H locs) (hl : lv_has ls 4 [(3, .int x3), (2, .ref (g.1 26 0)), (1, .ref (g.1 0 0)), (0, .ref b)]) (hcs : cells ≤ room_1.cells ∧ slots ≤ room_1.slots) (hop : ∃ r M1 M2, fX6_launch M (xs (x3 + 1).toNatClampNeg) (xs (x3 + 2).toNatClampNeg) (xs (x3 + 3).toNatClampNeg) (xs (x3 + 4).toNatClampNeg) (xs (x3 + 5).toNatClampNeg) = some (r, M1) ∧ fX7_launch M1 (xs (x3 + 1).toNatClampNeg) (xs (x3 + 2).toNatClampNeg) (xs (x3 + 3).toNatClampNeg) (xs (x3 + 4).toNatClampNeg) (xs (x3 + 5).toNatClampNeg) = some (r, M2) ∧ I M2) (h1 : vp_in (x3 + 1) L) (h2 : vp_in (x3 + 2) L) (h3 : vp_in (x3 + 3) L) (h4 : vp_in (x3 + 4) L) (h5 : vp_in (x3 + 5) L)
    (kk : ∀ (M2 : zM) (H : Heap) (locs : List Loc), I M2 → zR g M2 H → va_S (zS s.heap.size) s.heap H locs → W p l e room_1 s m #[Value.ref b] below meth c H locs cells slots Q (F0 m 745 ls [])) : W p l e room_1 s m #[Value.ref b] below meth c H locs cells slots Q (F0 m 132 ls []) := by
  have hbA : ¬ (zS s.heap.size) b := Nat.not_le.mpr hbl
  obtain ⟨r, M1, M2, ho1, ho2, hI⟩ := hop
  refine lv_aload_n S.1 S.2.1 dL_law_132 rfl (lv_at hl 2 rfl) ?_
  refine lv_aload_n S.1 S.2.1 dL_law_133 rfl (lv_at hl 3 rfl) ?_
  refine lv_iload_n S.1 S.2.1 dL_law_134 rfl (lv_at hl 0 rfl) ?_
  refine lv_iconst (v := 1) S.1 S.2.1 dL_law_135 (by decide) ?_
  refine lv_iadd S.1 S.2.1 dL_law_136 ?_
  refine va_sld S.1 S.2.1 hX hbl hbA hS h1 dL_law_137 ?_
  refine lv_aload_n S.1 S.2.1 dL_law_138 rfl (lv_at hl 3 rfl) ?_
  refine lv_iload_n S.1 S.2.1 dL_law_139 rfl (lv_at hl 0 rfl) ?_
  refine lv_iconst (v := 2) S.1 S.2.1 dL_law_140 (by decide) ?_
  refine lv_iadd S.1 S.2.1 dL_law_141 ?_
  refine va_sld S.1 S.2.1 hX hbl hbA hS h2 dL_law_142 ?_
  refine lv_aload_n S.1 S.2.1 dL_law_143 rfl (lv_at hl 3 rfl) ?_
  refine lv_iload_n S.1 S.2.1 dL_law_144 rfl (lv_at hl 0 rfl) ?_
  refine lv_iconst (v := 3) S.1 S.2.1 dL_law_145 (by decide) ?_
  refine lv_iadd S.1 S.2.1 dL_law_146 ?_
  refine va_sld S.1 S.2.1 hX hbl hbA hS h3 dL_law_147 ?_
  refine lv_aload_n S.1 S.2.1 dL_law_148 rfl (lv_at hl 3 rfl) ?_
  refine lv_iload_n S.1 S.2.1 dL_law_149 rfl (lv_at hl 0 rfl) ?_
  refine lv_iconst (v := 4) S.1 S.2.1 dL_law_150 (by decide) ?_
  refine lv_iadd S.1 S.2.1 dL_law_151 ?_
  refine va_sld S.1 S.2.1 hX hbl hbA hS h4 dL_law_152 ?_
  refine lv_aload_n S.1 S.2.1 dL_law_153 rfl (lv_at hl 3 rfl) ?_
  refine lv_iload_n S.1 S.2.1 dL_law_154 rfl (lv_at hl 0 rfl) ?_
  refine lv_iconst (v := 5) S.1 S.2.1 dL_law_155 (by decide) ?_
  refine lv_iadd S.1 S.2.1 dL_law_156 ?_
  refine va_sld S.1 S.2.1 hX hbl hbA hS h5 dL_law_157 ?_
  refine z_gois hS (va_runV (C := RX6) (n := 5) (As := [.int (xs (x3 + 1).toNatClampNeg), .int (xs (x3 + 2).toNatClampNeg), .int (xs (x3 + 3).toNatClampNeg), .int (xs (x3 + 4).toNatClampNeg), .int (xs (x3 + 5).toNatClampNeg)]) (rest := []) S (kX6_launch l hg ho1) (cwV 5 S.2.2.2.2 (zgV wm_L_13 oX6_launch) rfl rfl rfl hX6_launch ⟨Nat.le_of_ble_eq_true rfl, Nat.le_of_ble_eq_true rfl⟩) ⟨zPc_blind, z_recv hK hR (k := 0) (i := 0) (by decide) rfl rfl, z_pre hK hR⟩ rfl rfl hl.1 rfl (lv_room (Nat.le_of_ble_eq_true rfl)) dL_law_158 hcs) (fun H locs hR hS => ?_)
  refine lv_aload_n S.1 S.2.1 dL_law_161 rfl (lv_at hl 1 rfl) ?_
  refine lv_aload_n S.1 S.2.1 dL_law_162 rfl (lv_at hl 3 rfl) ?_
  refine lv_iload_n S.1 S.2.1 dL_law_163 rfl (lv_at hl 0 rfl) ?_
  refine lv_iconst (v := 1) S.1 S.2.1 dL_law_164 (by decide) ?_
  refine lv_iadd S.1 S.2.1 dL_law_165 ?_
  refine va_sld S.1 S.2.1 hX hbl hbA hS h1 dL_law_166 ?_
  refine lv_aload_n S.1 S.2.1 dL_law_167 rfl (lv_at hl 3 rfl) ?_
  refine lv_iload_n S.1 S.2.1 dL_law_168 rfl (lv_at hl 0 rfl) ?_
  refine lv_iconst (v := 2) S.1 S.2.1 dL_law_169 (by decide) ?_
  refine lv_iadd S.1 S.2.1 dL_law_170 ?_
  refine va_sld S.1 S.2.1 hX hbl hbA hS h2 dL_law_171 ?_
  refine lv_aload_n S.1 S.2.1 dL_law_172 rfl (lv_at hl 3 rfl) ?_
  refine lv_iload_n S.1 S.2.1 dL_law_173 rfl (lv_at hl 0 rfl) ?_
  refine lv_iconst (v := 3) S.1 S.2.1 dL_law_174 (by decide) ?_
  refine lv_iadd S.1 S.2.1 dL_law_175 ?_
  refine va_sld S.1 S.2.1 hX hbl hbA hS h3 dL_law_176 ?_
  refine lv_aload_n S.1 S.2.1 dL_law_177 rfl (lv_at hl 3 rfl) ?_
  refine lv_iload_n S.1 S.2.1 dL_law_178 rfl (lv_at hl 0 rfl) ?_
  refine lv_iconst (v := 4) S.1 S.2.1 dL_law_179 (by decide) ?_
  refine lv_iadd S.1 S.2.1 dL_law_180 ?_
  refine va_sld S.1 S.2.1 hX hbl hbA hS h4 dL_law_181 ?_
  refine lv_aload_n S.1 S.2.1 dL_law_182 rfl (lv_at hl 3 rfl) ?_
  refine lv_iload_n S.1 S.2.1 dL_law_183 rfl (lv_at hl 0 rfl) ?_
  refine lv_iconst (v := 5) S.1 S.2.1 dL_law_184 (by decide) ?_
  refine lv_iadd S.1 S.2.1 dL_law_185 ?_
  refine va_sld S.1 S.2.1 hX hbl hbA hS h5 dL_law_186 ?_
  refine z_gois hS (va_runV (C := RX7) (n := 5) (As := [.int (xs (x3 + 1).toNatClampNeg), .int (xs (x3 + 2).toNatClampNeg), .int (xs (x3 + 3).toNatClampNeg), .int (xs (x3 + 4).toNatClampNeg), .int (xs (x3 + 5).toNatClampNeg)]) (rest := [.int r]) S (kX7_launch l hg ho2) (cwV 5 S.2.2.2.2 (zgV wm_L_17 oX7_launch) rfl rfl rfl hX7_launch ⟨Nat.le_of_ble_eq_true rfl, Nat.le_of_ble_eq_true rfl⟩) ⟨zPc_blind, z_recv hK hR (k := 26) (i := 0) (by decide) rfl rfl, z_pre hK hR⟩ rfl rfl hl.1 rfl (lv_room (Nat.le_of_ble_eq_true rfl)) dL_law_187 hcs) (fun H locs hR hS => ?_)
  refine lv_icmp_eq (tgt := 745) S.1 S.2.1 dL_law_190 (by decide) (fun _ => ?_) (fun hc => absurd rfl hc)
  exact kk _ _ _ hI hR hS
set_option maxRecDepth 100000 in
set_option maxHeartbeats 4000000 in
theorem lc_1 (S : CallFix p m c code 4 s #[Value.ref b] zT RL) (hg : zAd g s.heap.size) (hK : zK g s) (hX : va_X b L xs s s.heap) (hbl : b < s.heap.size) (hR : zR g M H) (hS : va_S (zS s.heap.size) s.heap H locs) (hl : lv_has ls 4 [(3, .int x3), (2, .ref (g.1 26 0)), (1, .ref (g.1 0 0)), (0, .ref b)]) (hcs : cells ≤ room_1.cells ∧ slots ≤ room_1.slots) (hop : ∃ r M1 M2, fX6_order M (xs (x3 + 1).toNatClampNeg) (xs (x3 + 2).toNatClampNeg) (xs (x3 + 3).toNatClampNeg) = some (r, M1) ∧ fX7_order M1 (xs (x3 + 1).toNatClampNeg) (xs (x3 + 2).toNatClampNeg) (xs (x3 + 3).toNatClampNeg) = some (r, M2) ∧ I M2) (h1 : vp_in (x3 + 1) L) (h2 : vp_in (x3 + 2) L) (h3 : vp_in (x3 + 3) L)
    (kk : ∀ (M2 : zM) (H : Heap) (locs : List Loc), I M2 → zR g M2 H → va_S (zS s.heap.size) s.heap H locs → W p l e room_1 s m #[Value.ref b] below meth c H locs cells slots Q (F0 m 745 ls [])) : W p l e room_1 s m #[Value.ref b] below meth c H locs cells slots Q (F0 m 195 ls []) := by
  have hbA : ¬ (zS s.heap.size) b := Nat.not_le.mpr hbl
  obtain ⟨r, M1, M2, ho1, ho2, hI⟩ := hop
  refine lv_aload_n S.1 S.2.1 dL_law_195 rfl (lv_at hl 2 rfl) ?_
  refine lv_aload_n S.1 S.2.1 dL_law_196 rfl (lv_at hl 3 rfl) ?_
  refine lv_iload_n S.1 S.2.1 dL_law_197 rfl (lv_at hl 0 rfl) ?_
  refine lv_iconst (v := 1) S.1 S.2.1 dL_law_198 (by decide) ?_
  refine lv_iadd S.1 S.2.1 dL_law_199 ?_
  refine va_sld S.1 S.2.1 hX hbl hbA hS h1 dL_law_200 ?_
  refine lv_aload_n S.1 S.2.1 dL_law_201 rfl (lv_at hl 3 rfl) ?_
  refine lv_iload_n S.1 S.2.1 dL_law_202 rfl (lv_at hl 0 rfl) ?_
  refine lv_iconst (v := 2) S.1 S.2.1 dL_law_203 (by decide) ?_
  refine lv_iadd S.1 S.2.1 dL_law_204 ?_
  refine va_sld S.1 S.2.1 hX hbl hbA hS h2 dL_law_205 ?_
  refine lv_aload_n S.1 S.2.1 dL_law_206 rfl (lv_at hl 3 rfl) ?_
  refine lv_iload_n S.1 S.2.1 dL_law_207 rfl (lv_at hl 0 rfl) ?_
  refine lv_iconst (v := 3) S.1 S.2.1 dL_law_208 (by decide) ?_
  refine lv_iadd S.1 S.2.1 dL_law_209 ?_
  refine va_sld S.1 S.2.1 hX hbl hbA hS h3 dL_law_210 ?_
  refine z_gois hS (va_runV (C := RX6) (n := 3) (As := [.int (xs (x3 + 1).toNatClampNeg), .int (xs (x3 + 2).toNatClampNeg), .int (xs (x3 + 3).toNatClampNeg)]) (rest := []) S (kX6_order l hg ho1) (cwV 3 S.2.2.2.2 (zgV wm_L_18 oX6_order) rfl rfl rfl hX6_order ⟨Nat.le_of_ble_eq_true rfl, Nat.le_of_ble_eq_true rfl⟩) ⟨zPc_blind, z_recv hK hR (k := 0) (i := 0) (by decide) rfl rfl, z_pre hK hR⟩ rfl rfl hl.1 rfl (lv_room (Nat.le_of_ble_eq_true rfl)) dL_law_211 hcs) (fun H locs hR hS => ?_)
  refine lv_aload_n S.1 S.2.1 dL_law_214 rfl (lv_at hl 1 rfl) ?_
  refine lv_aload_n S.1 S.2.1 dL_law_215 rfl (lv_at hl 3 rfl) ?_
  refine lv_iload_n S.1 S.2.1 dL_law_216 rfl (lv_at hl 0 rfl) ?_
  refine lv_iconst (v := 1) S.1 S.2.1 dL_law_217 (by decide) ?_
  refine lv_iadd S.1 S.2.1 dL_law_218 ?_
  refine va_sld S.1 S.2.1 hX hbl hbA hS h1 dL_law_219 ?_
  refine lv_aload_n S.1 S.2.1 dL_law_220 rfl (lv_at hl 3 rfl) ?_
  refine lv_iload_n S.1 S.2.1 dL_law_221 rfl (lv_at hl 0 rfl) ?_
  refine lv_iconst (v := 2) S.1 S.2.1 dL_law_222 (by decide) ?_
  refine lv_iadd S.1 S.2.1 dL_law_223 ?_
  refine va_sld S.1 S.2.1 hX hbl hbA hS h2 dL_law_224 ?_
  refine lv_aload_n S.1 S.2.1 dL_law_225 rfl (lv_at hl 3 rfl) ?_
  refine lv_iload_n S.1 S.2.1 dL_law_226 rfl (lv_at hl 0 rfl) ?_
  refine lv_iconst (v := 3) S.1 S.2.1 dL_law_227 (by decide) ?_
  refine lv_iadd S.1 S.2.1 dL_law_228 ?_
  refine va_sld S.1 S.2.1 hX hbl hbA hS h3 dL_law_229 ?_
  refine z_gois hS (va_runV (C := RX7) (n := 3) (As := [.int (xs (x3 + 1).toNatClampNeg), .int (xs (x3 + 2).toNatClampNeg), .int (xs (x3 + 3).toNatClampNeg)]) (rest := [.int r]) S (kX7_order l hg ho2) (cwV 3 S.2.2.2.2 (zgV wm_L_22 oX7_order) rfl rfl rfl hX7_order ⟨Nat.le_of_ble_eq_true rfl, Nat.le_of_ble_eq_true rfl⟩) ⟨zPc_blind, z_recv hK hR (k := 26) (i := 0) (by decide) rfl rfl, z_pre hK hR⟩ rfl rfl hl.1 rfl (lv_room (Nat.le_of_ble_eq_true rfl)) dL_law_230 hcs) (fun H locs hR hS => ?_)
  refine lv_icmp_eq (tgt := 745) S.1 S.2.1 dL_law_233 (by decide) (fun _ => ?_) (fun hc => absurd rfl hc)
  exact kk _ _ _ hI hR hS
set_option maxRecDepth 100000 in
set_option maxHeartbeats 4000000 in
theorem lc_2 (S : CallFix p m c code 4 s #[Value.ref b] zT RL) (hg : zAd g s.heap.size) (hK : zK g s) (hX : va_X b L xs s s.heap) (hbl : b < s.heap.size) (hR : zR g M H) (hS : va_S (zS s.heap.size) s.heap H locs) (hl : lv_has ls 4 [(3, .int x3), (2, .ref (g.1 26 0)), (1, .ref (g.1 0 0)), (0, .ref b)]) (hcs : cells ≤ room_1.cells ∧ slots ≤ room_1.slots) (hop : ∃ r M1 M2, fX6_step M (xs (x3 + 1).toNatClampNeg) (xs (x3 + 2).toNatClampNeg) = some (r, M1) ∧ fX7_step M1 (xs (x3 + 1).toNatClampNeg) (xs (x3 + 2).toNatClampNeg) = some (r, M2) ∧ I M2) (h1 : vp_in (x3 + 1) L) (h2 : vp_in (x3 + 2) L)
    (kk : ∀ (M2 : zM) (H : Heap) (locs : List Loc), I M2 → zR g M2 H → va_S (zS s.heap.size) s.heap H locs → W p l e room_1 s m #[Value.ref b] below meth c H locs cells slots Q (F0 m 745 ls [])) : W p l e room_1 s m #[Value.ref b] below meth c H locs cells slots Q (F0 m 238 ls []) := by
  have hbA : ¬ (zS s.heap.size) b := Nat.not_le.mpr hbl
  obtain ⟨r, M1, M2, ho1, ho2, hI⟩ := hop
  refine lv_aload_n S.1 S.2.1 dL_law_238 rfl (lv_at hl 2 rfl) ?_
  refine lv_aload_n S.1 S.2.1 dL_law_239 rfl (lv_at hl 3 rfl) ?_
  refine lv_iload_n S.1 S.2.1 dL_law_240 rfl (lv_at hl 0 rfl) ?_
  refine lv_iconst (v := 1) S.1 S.2.1 dL_law_241 (by decide) ?_
  refine lv_iadd S.1 S.2.1 dL_law_242 ?_
  refine va_sld S.1 S.2.1 hX hbl hbA hS h1 dL_law_243 ?_
  refine lv_aload_n S.1 S.2.1 dL_law_244 rfl (lv_at hl 3 rfl) ?_
  refine lv_iload_n S.1 S.2.1 dL_law_245 rfl (lv_at hl 0 rfl) ?_
  refine lv_iconst (v := 2) S.1 S.2.1 dL_law_246 (by decide) ?_
  refine lv_iadd S.1 S.2.1 dL_law_247 ?_
  refine va_sld S.1 S.2.1 hX hbl hbA hS h2 dL_law_248 ?_
  refine z_gois hS (va_runV (C := RX6) (n := 2) (As := [.int (xs (x3 + 1).toNatClampNeg), .int (xs (x3 + 2).toNatClampNeg)]) (rest := []) S (kX6_step l hg ho1) (cwV 2 S.2.2.2.2 (zgV wm_L_23 oX6_step) rfl rfl rfl hX6_step ⟨Nat.le_of_ble_eq_true rfl, Nat.le_of_ble_eq_true rfl⟩) ⟨zPc_blind, z_recv hK hR (k := 0) (i := 0) (by decide) rfl rfl, z_pre hK hR⟩ rfl rfl hl.1 rfl (lv_room (Nat.le_of_ble_eq_true rfl)) dL_law_249 hcs) (fun H locs hR hS => ?_)
  refine lv_aload_n S.1 S.2.1 dL_law_252 rfl (lv_at hl 1 rfl) ?_
  refine lv_aload_n S.1 S.2.1 dL_law_253 rfl (lv_at hl 3 rfl) ?_
  refine lv_iload_n S.1 S.2.1 dL_law_254 rfl (lv_at hl 0 rfl) ?_
  refine lv_iconst (v := 1) S.1 S.2.1 dL_law_255 (by decide) ?_
  refine lv_iadd S.1 S.2.1 dL_law_256 ?_
  refine va_sld S.1 S.2.1 hX hbl hbA hS h1 dL_law_257 ?_
  refine lv_aload_n S.1 S.2.1 dL_law_258 rfl (lv_at hl 3 rfl) ?_
  refine lv_iload_n S.1 S.2.1 dL_law_259 rfl (lv_at hl 0 rfl) ?_
  refine lv_iconst (v := 2) S.1 S.2.1 dL_law_260 (by decide) ?_
  refine lv_iadd S.1 S.2.1 dL_law_261 ?_
  refine va_sld S.1 S.2.1 hX hbl hbA hS h2 dL_law_262 ?_
  refine z_gois hS (va_runV (C := RX7) (n := 2) (As := [.int (xs (x3 + 1).toNatClampNeg), .int (xs (x3 + 2).toNatClampNeg)]) (rest := [.int r]) S (kX7_step l hg ho2) (cwV 2 S.2.2.2.2 (zgV wm_L_27 oX7_step) rfl rfl rfl hX7_step ⟨Nat.le_of_ble_eq_true rfl, Nat.le_of_ble_eq_true rfl⟩) ⟨zPc_blind, z_recv hK hR (k := 26) (i := 0) (by decide) rfl rfl, z_pre hK hR⟩ rfl rfl hl.1 rfl (lv_room (Nat.le_of_ble_eq_true rfl)) dL_law_263 hcs) (fun H locs hR hS => ?_)
  refine lv_icmp_eq (tgt := 745) S.1 S.2.1 dL_law_266 (by decide) (fun _ => ?_) (fun hc => absurd rfl hc)
  exact kk _ _ _ hI hR hS
set_option maxRecDepth 100000 in
set_option maxHeartbeats 4000000 in
theorem lc_3 (S : CallFix p m c code 4 s #[Value.ref b] zT RL) (hg : zAd g s.heap.size) (hK : zK g s) (hX : va_X b L xs s s.heap) (hbl : b < s.heap.size) (hR : zR g M H) (hS : va_S (zS s.heap.size) s.heap H locs) (hl : lv_has ls 4 [(3, .int x3), (2, .ref (g.1 26 0)), (1, .ref (g.1 0 0)), (0, .ref b)]) (hcs : cells ≤ room_1.cells ∧ slots ≤ room_1.slots) (hop : ∃ r M1 M2, fX6_land M (xs (x3 + 1).toNatClampNeg) = some (r, M1) ∧ fX7_land M1 (xs (x3 + 1).toNatClampNeg) = some (r, M2) ∧ I M2) (h1 : vp_in (x3 + 1) L)
    (kk : ∀ (M2 : zM) (H : Heap) (locs : List Loc), I M2 → zR g M2 H → va_S (zS s.heap.size) s.heap H locs → W p l e room_1 s m #[Value.ref b] below meth c H locs cells slots Q (F0 m 745 ls [])) : W p l e room_1 s m #[Value.ref b] below meth c H locs cells slots Q (F0 m 271 ls []) := by
  have hbA : ¬ (zS s.heap.size) b := Nat.not_le.mpr hbl
  obtain ⟨r, M1, M2, ho1, ho2, hI⟩ := hop
  refine lv_aload_n S.1 S.2.1 dL_law_271 rfl (lv_at hl 2 rfl) ?_
  refine lv_aload_n S.1 S.2.1 dL_law_272 rfl (lv_at hl 3 rfl) ?_
  refine lv_iload_n S.1 S.2.1 dL_law_273 rfl (lv_at hl 0 rfl) ?_
  refine lv_iconst (v := 1) S.1 S.2.1 dL_law_274 (by decide) ?_
  refine lv_iadd S.1 S.2.1 dL_law_275 ?_
  refine va_sld S.1 S.2.1 hX hbl hbA hS h1 dL_law_276 ?_
  refine z_gois hS (va_runV (C := RX6) (n := 1) (As := [.int (xs (x3 + 1).toNatClampNeg)]) (rest := []) S (kX6_land l hg ho1) (cwV 1 S.2.2.2.2 (zgV wm_L_28 oX6_land) rfl rfl rfl hX6_land ⟨Nat.le_of_ble_eq_true rfl, Nat.le_of_ble_eq_true rfl⟩) ⟨zPc_blind, z_recv hK hR (k := 0) (i := 0) (by decide) rfl rfl, z_pre hK hR⟩ rfl rfl hl.1 rfl (lv_room (Nat.le_of_ble_eq_true rfl)) dL_law_277 hcs) (fun H locs hR hS => ?_)
  refine lv_aload_n S.1 S.2.1 dL_law_280 rfl (lv_at hl 1 rfl) ?_
  refine lv_aload_n S.1 S.2.1 dL_law_281 rfl (lv_at hl 3 rfl) ?_
  refine lv_iload_n S.1 S.2.1 dL_law_282 rfl (lv_at hl 0 rfl) ?_
  refine lv_iconst (v := 1) S.1 S.2.1 dL_law_283 (by decide) ?_
  refine lv_iadd S.1 S.2.1 dL_law_284 ?_
  refine va_sld S.1 S.2.1 hX hbl hbA hS h1 dL_law_285 ?_
  refine z_gois hS (va_runV (C := RX7) (n := 1) (As := [.int (xs (x3 + 1).toNatClampNeg)]) (rest := [.int r]) S (kX7_land l hg ho2) (cwV 1 S.2.2.2.2 (zgV wm_L_32 oX7_land) rfl rfl rfl hX7_land ⟨Nat.le_of_ble_eq_true rfl, Nat.le_of_ble_eq_true rfl⟩) ⟨zPc_blind, z_recv hK hR (k := 26) (i := 0) (by decide) rfl rfl, z_pre hK hR⟩ rfl rfl hl.1 rfl (lv_room (Nat.le_of_ble_eq_true rfl)) dL_law_286 hcs) (fun H locs hR hS => ?_)
  refine lv_icmp_eq (tgt := 745) S.1 S.2.1 dL_law_289 (by decide) (fun _ => ?_) (fun hc => absurd rfl hc)
  exact kk _ _ _ hI hR hS
set_option maxRecDepth 100000 in
set_option maxHeartbeats 4000000 in
theorem lc_4 (S : CallFix p m c code 4 s #[Value.ref b] zT RL) (hg : zAd g s.heap.size) (hK : zK g s) (hX : va_X b L xs s s.heap) (hbl : b < s.heap.size) (hR : zR g M H) (hS : va_S (zS s.heap.size) s.heap H locs) (hl : lv_has ls 4 [(3, .int x3), (2, .ref (g.1 26 0)), (1, .ref (g.1 0 0)), (0, .ref b)]) (hcs : cells ≤ room_1.cells ∧ slots ≤ room_1.slots) (hop : ∃ r M1 M2, fX6_pass M (xs (x3 + 1).toNatClampNeg) = some (r, M1) ∧ fX7_pass M1 (xs (x3 + 1).toNatClampNeg) = some (r, M2) ∧ I M2) (h1 : vp_in (x3 + 1) L)
    (kk : ∀ (M2 : zM) (H : Heap) (locs : List Loc), I M2 → zR g M2 H → va_S (zS s.heap.size) s.heap H locs → W p l e room_1 s m #[Value.ref b] below meth c H locs cells slots Q (F0 m 745 ls [])) : W p l e room_1 s m #[Value.ref b] below meth c H locs cells slots Q (F0 m 294 ls []) := by
  have hbA : ¬ (zS s.heap.size) b := Nat.not_le.mpr hbl
  obtain ⟨r, M1, M2, ho1, ho2, hI⟩ := hop
  refine lv_aload_n S.1 S.2.1 dL_law_294 rfl (lv_at hl 2 rfl) ?_
  refine lv_aload_n S.1 S.2.1 dL_law_295 rfl (lv_at hl 3 rfl) ?_
  refine lv_iload_n S.1 S.2.1 dL_law_296 rfl (lv_at hl 0 rfl) ?_
  refine lv_iconst (v := 1) S.1 S.2.1 dL_law_297 (by decide) ?_
  refine lv_iadd S.1 S.2.1 dL_law_298 ?_
  refine va_sld S.1 S.2.1 hX hbl hbA hS h1 dL_law_299 ?_
  refine z_gois hS (va_runV (C := RX6) (n := 1) (As := [.int (xs (x3 + 1).toNatClampNeg)]) (rest := []) S (kX6_pass l hg ho1) (cwV 1 S.2.2.2.2 (zgV wm_L_33 oX6_pass) rfl rfl rfl hX6_pass ⟨Nat.le_of_ble_eq_true rfl, Nat.le_of_ble_eq_true rfl⟩) ⟨zPc_blind, z_recv hK hR (k := 0) (i := 0) (by decide) rfl rfl, z_pre hK hR⟩ rfl rfl hl.1 rfl (lv_room (Nat.le_of_ble_eq_true rfl)) dL_law_300 hcs) (fun H locs hR hS => ?_)
  refine lv_aload_n S.1 S.2.1 dL_law_303 rfl (lv_at hl 1 rfl) ?_
  refine lv_aload_n S.1 S.2.1 dL_law_304 rfl (lv_at hl 3 rfl) ?_
  refine lv_iload_n S.1 S.2.1 dL_law_305 rfl (lv_at hl 0 rfl) ?_
  refine lv_iconst (v := 1) S.1 S.2.1 dL_law_306 (by decide) ?_
  refine lv_iadd S.1 S.2.1 dL_law_307 ?_
  refine va_sld S.1 S.2.1 hX hbl hbA hS h1 dL_law_308 ?_
  refine z_gois hS (va_runV (C := RX7) (n := 1) (As := [.int (xs (x3 + 1).toNatClampNeg)]) (rest := [.int r]) S (kX7_pass l hg ho2) (cwV 1 S.2.2.2.2 (zgV wm_L_36 oX7_pass) rfl rfl rfl hX7_pass ⟨Nat.le_of_ble_eq_true rfl, Nat.le_of_ble_eq_true rfl⟩) ⟨zPc_blind, z_recv hK hR (k := 26) (i := 0) (by decide) rfl rfl, z_pre hK hR⟩ rfl rfl hl.1 rfl (lv_room (Nat.le_of_ble_eq_true rfl)) dL_law_309 hcs) (fun H locs hR hS => ?_)
  refine lv_icmp_eq (tgt := 745) S.1 S.2.1 dL_law_312 (by decide) (fun _ => ?_) (fun hc => absurd rfl hc)
  exact kk _ _ _ hI hR hS
set_option maxRecDepth 100000 in
set_option maxHeartbeats 4000000 in
theorem lc_5 (S : CallFix p m c code 4 s #[Value.ref b] zT RL) (hg : zAd g s.heap.size) (hK : zK g s) (hX : va_X b L xs s s.heap) (hbl : b < s.heap.size) (hR : zR g M H) (hS : va_S (zS s.heap.size) s.heap H locs) (hl : lv_has ls 4 [(3, .int x3), (2, .ref (g.1 26 0)), (1, .ref (g.1 0 0)), (0, .ref b)]) (hcs : cells ≤ room_1.cells ∧ slots ≤ room_1.slots) (hop : ∃ r M1 M2, fX6_round M  = some (r, M1) ∧ fX7_round M1  = some (r, M2) ∧ I M2) 
    (kk : ∀ (M2 : zM) (H : Heap) (locs : List Loc), I M2 → zR g M2 H → va_S (zS s.heap.size) s.heap H locs → W p l e room_1 s m #[Value.ref b] below meth c H locs cells slots Q (F0 m 745 ls [])) : W p l e room_1 s m #[Value.ref b] below meth c H locs cells slots Q (F0 m 317 ls []) := by
  have hbA : ¬ (zS s.heap.size) b := Nat.not_le.mpr hbl
  obtain ⟨r, M1, M2, ho1, ho2, hI⟩ := hop
  refine lv_aload_n S.1 S.2.1 dL_law_317 rfl (lv_at hl 2 rfl) ?_
  refine z_gois hS (va_runV (C := RX6) (n := 0) (As := []) (rest := []) S (kX6_round l hg ho1) (cwV 0 S.2.2.2.2 (zgV wm_L_37 oX6_round) rfl rfl rfl hX6_round ⟨Nat.le_of_ble_eq_true rfl, Nat.le_of_ble_eq_true rfl⟩) ⟨zPc_blind, z_recv hK hR (k := 0) (i := 0) (by decide) rfl rfl, z_pre hK hR⟩ rfl rfl hl.1 rfl (lv_room (Nat.le_of_ble_eq_true rfl)) dL_law_318 hcs) (fun H locs hR hS => ?_)
  refine lv_aload_n S.1 S.2.1 dL_law_321 rfl (lv_at hl 1 rfl) ?_
  refine z_gois hS (va_runV (C := RX7) (n := 0) (As := []) (rest := [.int r]) S (kX7_round l hg ho2) (cwV 0 S.2.2.2.2 (zgV wm_L_41 oX7_round) rfl rfl rfl hX7_round ⟨Nat.le_of_ble_eq_true rfl, Nat.le_of_ble_eq_true rfl⟩) ⟨zPc_blind, z_recv hK hR (k := 26) (i := 0) (by decide) rfl rfl, z_pre hK hR⟩ rfl rfl hl.1 rfl (lv_room (Nat.le_of_ble_eq_true rfl)) dL_law_322 hcs) (fun H locs hR hS => ?_)
  refine lv_icmp_eq (tgt := 745) S.1 S.2.1 dL_law_325 (by decide) (fun _ => ?_) (fun hc => absurd rfl hc)
  exact kk _ _ _ hI hR hS
set_option maxRecDepth 100000 in
set_option maxHeartbeats 4000000 in
theorem lc_6 (S : CallFix p m c code 4 s #[Value.ref b] zT RL) (hg : zAd g s.heap.size) (hK : zK g s) (hX : va_X b L xs s s.heap) (hbl : b < s.heap.size) (hR : zR g M H) (hS : va_S (zS s.heap.size) s.heap H locs) (hl : lv_has ls 4 [(3, .int x3), (2, .ref (g.1 26 0)), (1, .ref (g.1 0 0)), (0, .ref b)]) (hcs : cells ≤ room_1.cells ∧ slots ≤ room_1.slots) (hop : ∃ r M1 M2, fX6_carryOut M  = some (r, M1) ∧ fX7_carryOut M1  = some (r, M2) ∧ I M2) 
    (kk : ∀ (M2 : zM) (H : Heap) (locs : List Loc), I M2 → zR g M2 H → va_S (zS s.heap.size) s.heap H locs → W p l e room_1 s m #[Value.ref b] below meth c H locs cells slots Q (F0 m 745 ls [])) : W p l e room_1 s m #[Value.ref b] below meth c H locs cells slots Q (F0 m 330 ls []) := by
  have hbA : ¬ (zS s.heap.size) b := Nat.not_le.mpr hbl
  obtain ⟨r, M1, M2, ho1, ho2, hI⟩ := hop
  refine lv_aload_n S.1 S.2.1 dL_law_330 rfl (lv_at hl 2 rfl) ?_
  refine z_gois hS (va_runV (C := RX6) (n := 0) (As := []) (rest := []) S (kX6_carryOut l hg ho1) (cwV 0 S.2.2.2.2 (zgV wm_L_42 oX6_carryOut) rfl rfl rfl hX6_carryOut ⟨Nat.le_of_ble_eq_true rfl, Nat.le_of_ble_eq_true rfl⟩) ⟨zPc_blind, z_recv hK hR (k := 0) (i := 0) (by decide) rfl rfl, z_pre hK hR⟩ rfl rfl hl.1 rfl (lv_room (Nat.le_of_ble_eq_true rfl)) dL_law_331 hcs) (fun H locs hR hS => ?_)
  refine lv_aload_n S.1 S.2.1 dL_law_334 rfl (lv_at hl 1 rfl) ?_
  refine z_gois hS (va_runV (C := RX7) (n := 0) (As := []) (rest := [.int r]) S (kX7_carryOut l hg ho2) (cwV 0 S.2.2.2.2 (zgV wm_L_45 oX7_carryOut) rfl rfl rfl hX7_carryOut ⟨Nat.le_of_ble_eq_true rfl, Nat.le_of_ble_eq_true rfl⟩) ⟨zPc_blind, z_recv hK hR (k := 26) (i := 0) (by decide) rfl rfl, z_pre hK hR⟩ rfl rfl hl.1 rfl (lv_room (Nat.le_of_ble_eq_true rfl)) dL_law_335 hcs) (fun H locs hR hS => ?_)
  refine lv_icmp_eq (tgt := 745) S.1 S.2.1 dL_law_338 (by decide) (fun _ => ?_) (fun hc => absurd rfl hc)
  exact kk _ _ _ hI hR hS
set_option maxRecDepth 100000 in
set_option maxHeartbeats 4000000 in
theorem lc_7 (S : CallFix p m c code 4 s #[Value.ref b] zT RL) (hg : zAd g s.heap.size) (hK : zK g s) (hX : va_X b L xs s s.heap) (hbl : b < s.heap.size) (hR : zR g M H) (hS : va_S (zS s.heap.size) s.heap H locs) (hl : lv_has ls 4 [(3, .int x3), (2, .ref (g.1 26 0)), (1, .ref (g.1 0 0)), (0, .ref b)]) (hcs : cells ≤ room_1.cells ∧ slots ≤ room_1.slots) (hop : ∃ r M1 M2, fX6_kite M (xs (x3 + 1).toNatClampNeg) (xs (x3 + 2).toNatClampNeg) = some (r, M1) ∧ fX7_kite M1 (xs (x3 + 1).toNatClampNeg) (xs (x3 + 2).toNatClampNeg) = some (r, M2) ∧ I M2) (h1 : vp_in (x3 + 1) L) (h2 : vp_in (x3 + 2) L)
    (kk : ∀ (M2 : zM) (H : Heap) (locs : List Loc), I M2 → zR g M2 H → va_S (zS s.heap.size) s.heap H locs → W p l e room_1 s m #[Value.ref b] below meth c H locs cells slots Q (F0 m 745 ls [])) : W p l e room_1 s m #[Value.ref b] below meth c H locs cells slots Q (F0 m 343 ls []) := by
  have hbA : ¬ (zS s.heap.size) b := Nat.not_le.mpr hbl
  obtain ⟨r, M1, M2, ho1, ho2, hI⟩ := hop
  refine lv_aload_n S.1 S.2.1 dL_law_343 rfl (lv_at hl 2 rfl) ?_
  refine lv_aload_n S.1 S.2.1 dL_law_344 rfl (lv_at hl 3 rfl) ?_
  refine lv_iload_n S.1 S.2.1 dL_law_345 rfl (lv_at hl 0 rfl) ?_
  refine lv_iconst (v := 1) S.1 S.2.1 dL_law_346 (by decide) ?_
  refine lv_iadd S.1 S.2.1 dL_law_347 ?_
  refine va_sld S.1 S.2.1 hX hbl hbA hS h1 dL_law_348 ?_
  refine lv_aload_n S.1 S.2.1 dL_law_349 rfl (lv_at hl 3 rfl) ?_
  refine lv_iload_n S.1 S.2.1 dL_law_350 rfl (lv_at hl 0 rfl) ?_
  refine lv_iconst (v := 2) S.1 S.2.1 dL_law_351 (by decide) ?_
  refine lv_iadd S.1 S.2.1 dL_law_352 ?_
  refine va_sld S.1 S.2.1 hX hbl hbA hS h2 dL_law_353 ?_
  refine z_gois hS (va_runV (C := RX6) (n := 2) (As := [.int (xs (x3 + 1).toNatClampNeg), .int (xs (x3 + 2).toNatClampNeg)]) (rest := []) S (kX6_kite l hg ho1) (cwV 2 S.2.2.2.2 (zgV wm_L_46 oX6_kite) rfl rfl rfl hX6_kite ⟨Nat.le_of_ble_eq_true rfl, Nat.le_of_ble_eq_true rfl⟩) ⟨zPc_blind, z_recv hK hR (k := 0) (i := 0) (by decide) rfl rfl, z_pre hK hR⟩ rfl rfl hl.1 rfl (lv_room (Nat.le_of_ble_eq_true rfl)) dL_law_354 hcs) (fun H locs hR hS => ?_)
  refine lv_aload_n S.1 S.2.1 dL_law_357 rfl (lv_at hl 1 rfl) ?_
  refine lv_aload_n S.1 S.2.1 dL_law_358 rfl (lv_at hl 3 rfl) ?_
  refine lv_iload_n S.1 S.2.1 dL_law_359 rfl (lv_at hl 0 rfl) ?_
  refine lv_iconst (v := 1) S.1 S.2.1 dL_law_360 (by decide) ?_
  refine lv_iadd S.1 S.2.1 dL_law_361 ?_
  refine va_sld S.1 S.2.1 hX hbl hbA hS h1 dL_law_362 ?_
  refine lv_aload_n S.1 S.2.1 dL_law_363 rfl (lv_at hl 3 rfl) ?_
  refine lv_iload_n S.1 S.2.1 dL_law_364 rfl (lv_at hl 0 rfl) ?_
  refine lv_iconst (v := 2) S.1 S.2.1 dL_law_365 (by decide) ?_
  refine lv_iadd S.1 S.2.1 dL_law_366 ?_
  refine va_sld S.1 S.2.1 hX hbl hbA hS h2 dL_law_367 ?_
  refine z_gois hS (va_runV (C := RX7) (n := 2) (As := [.int (xs (x3 + 1).toNatClampNeg), .int (xs (x3 + 2).toNatClampNeg)]) (rest := [.int r]) S (kX7_kite l hg ho2) (cwV 2 S.2.2.2.2 (zgV wm_L_49 oX7_kite) rfl rfl rfl hX7_kite ⟨Nat.le_of_ble_eq_true rfl, Nat.le_of_ble_eq_true rfl⟩) ⟨zPc_blind, z_recv hK hR (k := 26) (i := 0) (by decide) rfl rfl, z_pre hK hR⟩ rfl rfl hl.1 rfl (lv_room (Nat.le_of_ble_eq_true rfl)) dL_law_368 hcs) (fun H locs hR hS => ?_)
  refine lv_icmp_eq (tgt := 745) S.1 S.2.1 dL_law_371 (by decide) (fun _ => ?_) (fun hc => absurd rfl hc)
  exact kk _ _ _ hI hR hS
set_option maxRecDepth 100000 in
set_option maxHeartbeats 4000000 in
theorem lc_8 (S : CallFix p m c code 4 s #[Value.ref b] zT RL) (hg : zAd g s.heap.size) (hK : zK g s) (hX : va_X b L xs s s.heap) (hbl : b < s.heap.size) (hR : zR g M H) (hS : va_S (zS s.heap.size) s.heap H locs) (hl : lv_has ls 4 [(3, .int x3), (2, .ref (g.1 26 0)), (1, .ref (g.1 0 0)), (0, .ref b)]) (hcs : cells ≤ room_1.cells ∧ slots ≤ room_1.slots) (hop : ∃ r M1 M2, fX6_wear M (xs (x3 + 1).toNatClampNeg) (xs (x3 + 2).toNatClampNeg) = some (r, M1) ∧ fX7_wear M1 (xs (x3 + 1).toNatClampNeg) (xs (x3 + 2).toNatClampNeg) = some (r, M2) ∧ I M2) (h1 : vp_in (x3 + 1) L) (h2 : vp_in (x3 + 2) L)
    (kk : ∀ (M2 : zM) (H : Heap) (locs : List Loc), I M2 → zR g M2 H → va_S (zS s.heap.size) s.heap H locs → W p l e room_1 s m #[Value.ref b] below meth c H locs cells slots Q (F0 m 745 ls [])) : W p l e room_1 s m #[Value.ref b] below meth c H locs cells slots Q (F0 m 376 ls []) := by
  have hbA : ¬ (zS s.heap.size) b := Nat.not_le.mpr hbl
  obtain ⟨r, M1, M2, ho1, ho2, hI⟩ := hop
  refine lv_aload_n S.1 S.2.1 dL_law_376 rfl (lv_at hl 2 rfl) ?_
  refine lv_aload_n S.1 S.2.1 dL_law_377 rfl (lv_at hl 3 rfl) ?_
  refine lv_iload_n S.1 S.2.1 dL_law_378 rfl (lv_at hl 0 rfl) ?_
  refine lv_iconst (v := 1) S.1 S.2.1 dL_law_379 (by decide) ?_
  refine lv_iadd S.1 S.2.1 dL_law_380 ?_
  refine va_sld S.1 S.2.1 hX hbl hbA hS h1 dL_law_381 ?_
  refine lv_aload_n S.1 S.2.1 dL_law_382 rfl (lv_at hl 3 rfl) ?_
  refine lv_iload_n S.1 S.2.1 dL_law_383 rfl (lv_at hl 0 rfl) ?_
  refine lv_iconst (v := 2) S.1 S.2.1 dL_law_384 (by decide) ?_
  refine lv_iadd S.1 S.2.1 dL_law_385 ?_
  refine va_sld S.1 S.2.1 hX hbl hbA hS h2 dL_law_386 ?_
  refine z_gois hS (va_runV (C := RX6) (n := 2) (As := [.int (xs (x3 + 1).toNatClampNeg), .int (xs (x3 + 2).toNatClampNeg)]) (rest := []) S (kX6_wear l hg ho1) (cwV 2 S.2.2.2.2 (zgV wm_L_50 oX6_wear) rfl rfl rfl hX6_wear ⟨Nat.le_of_ble_eq_true rfl, Nat.le_of_ble_eq_true rfl⟩) ⟨zPc_blind, z_recv hK hR (k := 0) (i := 0) (by decide) rfl rfl, z_pre hK hR⟩ rfl rfl hl.1 rfl (lv_room (Nat.le_of_ble_eq_true rfl)) dL_law_387 hcs) (fun H locs hR hS => ?_)
  refine lv_aload_n S.1 S.2.1 dL_law_390 rfl (lv_at hl 1 rfl) ?_
  refine lv_aload_n S.1 S.2.1 dL_law_391 rfl (lv_at hl 3 rfl) ?_
  refine lv_iload_n S.1 S.2.1 dL_law_392 rfl (lv_at hl 0 rfl) ?_
  refine lv_iconst (v := 1) S.1 S.2.1 dL_law_393 (by decide) ?_
  refine lv_iadd S.1 S.2.1 dL_law_394 ?_
  refine va_sld S.1 S.2.1 hX hbl hbA hS h1 dL_law_395 ?_
  refine lv_aload_n S.1 S.2.1 dL_law_396 rfl (lv_at hl 3 rfl) ?_
  refine lv_iload_n S.1 S.2.1 dL_law_397 rfl (lv_at hl 0 rfl) ?_
  refine lv_iconst (v := 2) S.1 S.2.1 dL_law_398 (by decide) ?_
  refine lv_iadd S.1 S.2.1 dL_law_399 ?_
  refine va_sld S.1 S.2.1 hX hbl hbA hS h2 dL_law_400 ?_
  refine z_gois hS (va_runV (C := RX7) (n := 2) (As := [.int (xs (x3 + 1).toNatClampNeg), .int (xs (x3 + 2).toNatClampNeg)]) (rest := [.int r]) S (kX7_wear l hg ho2) (cwV 2 S.2.2.2.2 (zgV wm_L_53 oX7_wear) rfl rfl rfl hX7_wear ⟨Nat.le_of_ble_eq_true rfl, Nat.le_of_ble_eq_true rfl⟩) ⟨zPc_blind, z_recv hK hR (k := 26) (i := 0) (by decide) rfl rfl, z_pre hK hR⟩ rfl rfl hl.1 rfl (lv_room (Nat.le_of_ble_eq_true rfl)) dL_law_401 hcs) (fun H locs hR hS => ?_)
  refine lv_icmp_eq (tgt := 745) S.1 S.2.1 dL_law_404 (by decide) (fun _ => ?_) (fun hc => absurd rfl hc)
  exact kk _ _ _ hI hR hS
set_option maxRecDepth 100000 in
set_option maxHeartbeats 4000000 in
theorem lc_9 (S : CallFix p m c code 4 s #[Value.ref b] zT RL) (hg : zAd g s.heap.size) (hK : zK g s) (hX : va_X b L xs s s.heap) (hbl : b < s.heap.size) (hR : zR g M H) (hS : va_S (zS s.heap.size) s.heap H locs) (hl : lv_has ls 4 [(3, .int x3), (2, .ref (g.1 26 0)), (1, .ref (g.1 0 0)), (0, .ref b)]) (hcs : cells ≤ room_1.cells ∧ slots ≤ room_1.slots) (hop : ∃ r M1 M2, fX6_crossing M (xs (x3 + 1).toNatClampNeg) (xs (x3 + 2).toNatClampNeg) (xs (x3 + 3).toNatClampNeg) = some (r, M1) ∧ fX7_crossing M1 (xs (x3 + 1).toNatClampNeg) (xs (x3 + 2).toNatClampNeg) (xs (x3 + 3).toNatClampNeg) = some (r, M2) ∧ I M2) (h1 : vp_in (x3 + 1) L) (h2 : vp_in (x3 + 2) L) (h3 : vp_in (x3 + 3) L)
    (kk : ∀ (M2 : zM) (H : Heap) (locs : List Loc), I M2 → zR g M2 H → va_S (zS s.heap.size) s.heap H locs → W p l e room_1 s m #[Value.ref b] below meth c H locs cells slots Q (F0 m 745 ls [])) : W p l e room_1 s m #[Value.ref b] below meth c H locs cells slots Q (F0 m 409 ls []) := by
  have hbA : ¬ (zS s.heap.size) b := Nat.not_le.mpr hbl
  obtain ⟨r, M1, M2, ho1, ho2, hI⟩ := hop
  refine lv_aload_n S.1 S.2.1 dL_law_409 rfl (lv_at hl 2 rfl) ?_
  refine lv_aload_n S.1 S.2.1 dL_law_410 rfl (lv_at hl 3 rfl) ?_
  refine lv_iload_n S.1 S.2.1 dL_law_411 rfl (lv_at hl 0 rfl) ?_
  refine lv_iconst (v := 1) S.1 S.2.1 dL_law_412 (by decide) ?_
  refine lv_iadd S.1 S.2.1 dL_law_413 ?_
  refine va_sld S.1 S.2.1 hX hbl hbA hS h1 dL_law_414 ?_
  refine lv_aload_n S.1 S.2.1 dL_law_415 rfl (lv_at hl 3 rfl) ?_
  refine lv_iload_n S.1 S.2.1 dL_law_416 rfl (lv_at hl 0 rfl) ?_
  refine lv_iconst (v := 2) S.1 S.2.1 dL_law_417 (by decide) ?_
  refine lv_iadd S.1 S.2.1 dL_law_418 ?_
  refine va_sld S.1 S.2.1 hX hbl hbA hS h2 dL_law_419 ?_
  refine lv_aload_n S.1 S.2.1 dL_law_420 rfl (lv_at hl 3 rfl) ?_
  refine lv_iload_n S.1 S.2.1 dL_law_421 rfl (lv_at hl 0 rfl) ?_
  refine lv_iconst (v := 3) S.1 S.2.1 dL_law_422 (by decide) ?_
  refine lv_iadd S.1 S.2.1 dL_law_423 ?_
  refine va_sld S.1 S.2.1 hX hbl hbA hS h3 dL_law_424 ?_
  refine z_gois hS (va_runV (C := RX6) (n := 3) (As := [.int (xs (x3 + 1).toNatClampNeg), .int (xs (x3 + 2).toNatClampNeg), .int (xs (x3 + 3).toNatClampNeg)]) (rest := []) S (kX6_crossing l hg ho1) (cwV 3 S.2.2.2.2 (zgV wm_L_54 oX6_crossing) rfl rfl rfl hX6_crossing ⟨Nat.le_of_ble_eq_true rfl, Nat.le_of_ble_eq_true rfl⟩) ⟨zPc_blind, z_recv hK hR (k := 0) (i := 0) (by decide) rfl rfl, z_pre hK hR⟩ rfl rfl hl.1 rfl (lv_room (Nat.le_of_ble_eq_true rfl)) dL_law_425 hcs) (fun H locs hR hS => ?_)
  refine lv_aload_n S.1 S.2.1 dL_law_428 rfl (lv_at hl 1 rfl) ?_
  refine lv_aload_n S.1 S.2.1 dL_law_429 rfl (lv_at hl 3 rfl) ?_
  refine lv_iload_n S.1 S.2.1 dL_law_430 rfl (lv_at hl 0 rfl) ?_
  refine lv_iconst (v := 1) S.1 S.2.1 dL_law_431 (by decide) ?_
  refine lv_iadd S.1 S.2.1 dL_law_432 ?_
  refine va_sld S.1 S.2.1 hX hbl hbA hS h1 dL_law_433 ?_
  refine lv_aload_n S.1 S.2.1 dL_law_434 rfl (lv_at hl 3 rfl) ?_
  refine lv_iload_n S.1 S.2.1 dL_law_435 rfl (lv_at hl 0 rfl) ?_
  refine lv_iconst (v := 2) S.1 S.2.1 dL_law_436 (by decide) ?_
  refine lv_iadd S.1 S.2.1 dL_law_437 ?_
  refine va_sld S.1 S.2.1 hX hbl hbA hS h2 dL_law_438 ?_
  refine lv_aload_n S.1 S.2.1 dL_law_439 rfl (lv_at hl 3 rfl) ?_
  refine lv_iload_n S.1 S.2.1 dL_law_440 rfl (lv_at hl 0 rfl) ?_
  refine lv_iconst (v := 3) S.1 S.2.1 dL_law_441 (by decide) ?_
  refine lv_iadd S.1 S.2.1 dL_law_442 ?_
  refine va_sld S.1 S.2.1 hX hbl hbA hS h3 dL_law_443 ?_
  refine z_gois hS (va_runV (C := RX7) (n := 3) (As := [.int (xs (x3 + 1).toNatClampNeg), .int (xs (x3 + 2).toNatClampNeg), .int (xs (x3 + 3).toNatClampNeg)]) (rest := [.int r]) S (kX7_crossing l hg ho2) (cwV 3 S.2.2.2.2 (zgV wm_L_57 oX7_crossing) rfl rfl rfl hX7_crossing ⟨Nat.le_of_ble_eq_true rfl, Nat.le_of_ble_eq_true rfl⟩) ⟨zPc_blind, z_recv hK hR (k := 26) (i := 0) (by decide) rfl rfl, z_pre hK hR⟩ rfl rfl hl.1 rfl (lv_room (Nat.le_of_ble_eq_true rfl)) dL_law_444 hcs) (fun H locs hR hS => ?_)
  refine lv_icmp_eq (tgt := 745) S.1 S.2.1 dL_law_447 (by decide) (fun _ => ?_) (fun hc => absurd rfl hc)
  exact kk _ _ _ hI hR hS
set_option maxRecDepth 100000 in
set_option maxHeartbeats 4000000 in
theorem lc_10 (S : CallFix p m c code 4 s #[Value.ref b] zT RL) (hg : zAd g s.heap.size) (hK : zK g s) (hX : va_X b L xs s s.heap) (hbl : b < s.heap.size) (hR : zR g M H) (hS : va_S (zS s.heap.size) s.heap H locs) (hl : lv_has ls 4 [(3, .int x3), (2, .ref (g.1 26 0)), (1, .ref (g.1 0 0)), (0, .ref b)]) (hcs : cells ≤ room_1.cells ∧ slots ≤ room_1.slots) (hop : ∃ r M1 M2, fX6_count M (xs (x3 + 1).toNatClampNeg) = some (r, M1) ∧ fX7_count M1 (xs (x3 + 1).toNatClampNeg) = some (r, M2) ∧ I M2) (h1 : vp_in (x3 + 1) L)
    (kk : ∀ (M2 : zM) (H : Heap) (locs : List Loc), I M2 → zR g M2 H → va_S (zS s.heap.size) s.heap H locs → W p l e room_1 s m #[Value.ref b] below meth c H locs cells slots Q (F0 m 745 ls [])) : W p l e room_1 s m #[Value.ref b] below meth c H locs cells slots Q (F0 m 452 ls []) := by
  have hbA : ¬ (zS s.heap.size) b := Nat.not_le.mpr hbl
  obtain ⟨r, M1, M2, ho1, ho2, hI⟩ := hop
  refine lv_aload_n S.1 S.2.1 dL_law_452 rfl (lv_at hl 2 rfl) ?_
  refine lv_aload_n S.1 S.2.1 dL_law_453 rfl (lv_at hl 3 rfl) ?_
  refine lv_iload_n S.1 S.2.1 dL_law_454 rfl (lv_at hl 0 rfl) ?_
  refine lv_iconst (v := 1) S.1 S.2.1 dL_law_455 (by decide) ?_
  refine lv_iadd S.1 S.2.1 dL_law_456 ?_
  refine va_sld S.1 S.2.1 hX hbl hbA hS h1 dL_law_457 ?_
  refine z_gois hS (va_runV (C := RX6) (n := 1) (As := [.int (xs (x3 + 1).toNatClampNeg)]) (rest := []) S (kX6_count l hg ho1) (cwV 1 S.2.2.2.2 (zgV wm_L_58 oX6_count) rfl rfl rfl hX6_count ⟨Nat.le_of_ble_eq_true rfl, Nat.le_of_ble_eq_true rfl⟩) ⟨zPc_blind, z_recv hK hR (k := 0) (i := 0) (by decide) rfl rfl, z_pre hK hR⟩ rfl rfl hl.1 rfl (lv_room (Nat.le_of_ble_eq_true rfl)) dL_law_458 hcs) (fun H locs hR hS => ?_)
  refine lv_aload_n S.1 S.2.1 dL_law_461 rfl (lv_at hl 1 rfl) ?_
  refine lv_aload_n S.1 S.2.1 dL_law_462 rfl (lv_at hl 3 rfl) ?_
  refine lv_iload_n S.1 S.2.1 dL_law_463 rfl (lv_at hl 0 rfl) ?_
  refine lv_iconst (v := 1) S.1 S.2.1 dL_law_464 (by decide) ?_
  refine lv_iadd S.1 S.2.1 dL_law_465 ?_
  refine va_sld S.1 S.2.1 hX hbl hbA hS h1 dL_law_466 ?_
  refine z_gois hS (va_runV (C := RX7) (n := 1) (As := [.int (xs (x3 + 1).toNatClampNeg)]) (rest := [.int r]) S (kX7_count l hg ho2) (cwV 1 S.2.2.2.2 (zgV wm_L_61 oX7_count) rfl rfl rfl hX7_count ⟨Nat.le_of_ble_eq_true rfl, Nat.le_of_ble_eq_true rfl⟩) ⟨zPc_blind, z_recv hK hR (k := 26) (i := 0) (by decide) rfl rfl, z_pre hK hR⟩ rfl rfl hl.1 rfl (lv_room (Nat.le_of_ble_eq_true rfl)) dL_law_467 hcs) (fun H locs hR hS => ?_)
  refine lv_icmp_eq (tgt := 745) S.1 S.2.1 dL_law_470 (by decide) (fun _ => ?_) (fun hc => absurd rfl hc)
  exact kk _ _ _ hI hR hS
set_option maxRecDepth 100000 in
set_option maxHeartbeats 4000000 in
theorem lc_11 (S : CallFix p m c code 4 s #[Value.ref b] zT RL) (hg : zAd g s.heap.size) (hK : zK g s) (hX : va_X b L xs s s.heap) (hbl : b < s.heap.size) (hR : zR g M H) (hS : va_S (zS s.heap.size) s.heap H locs) (hl : lv_has ls 4 [(3, .int x3), (2, .ref (g.1 26 0)), (1, .ref (g.1 0 0)), (0, .ref b)]) (hcs : cells ≤ room_1.cells ∧ slots ≤ room_1.slots) (hop : ∃ r M1 M2, fX6_ifPassed M (xs (x3 + 1).toNatClampNeg) (xs (x3 + 2).toNatClampNeg) = some (r, M1) ∧ fX7_ifPassed M1 (xs (x3 + 1).toNatClampNeg) (xs (x3 + 2).toNatClampNeg) = some (r, M2) ∧ I M2) (h1 : vp_in (x3 + 1) L) (h2 : vp_in (x3 + 2) L)
    (kk : ∀ (M2 : zM) (H : Heap) (locs : List Loc), I M2 → zR g M2 H → va_S (zS s.heap.size) s.heap H locs → W p l e room_1 s m #[Value.ref b] below meth c H locs cells slots Q (F0 m 745 ls [])) : W p l e room_1 s m #[Value.ref b] below meth c H locs cells slots Q (F0 m 475 ls []) := by
  have hbA : ¬ (zS s.heap.size) b := Nat.not_le.mpr hbl
  obtain ⟨r, M1, M2, ho1, ho2, hI⟩ := hop
  refine lv_aload_n S.1 S.2.1 dL_law_475 rfl (lv_at hl 2 rfl) ?_
  refine lv_aload_n S.1 S.2.1 dL_law_476 rfl (lv_at hl 3 rfl) ?_
  refine lv_iload_n S.1 S.2.1 dL_law_477 rfl (lv_at hl 0 rfl) ?_
  refine lv_iconst (v := 1) S.1 S.2.1 dL_law_478 (by decide) ?_
  refine lv_iadd S.1 S.2.1 dL_law_479 ?_
  refine va_sld S.1 S.2.1 hX hbl hbA hS h1 dL_law_480 ?_
  refine lv_aload_n S.1 S.2.1 dL_law_481 rfl (lv_at hl 3 rfl) ?_
  refine lv_iload_n S.1 S.2.1 dL_law_482 rfl (lv_at hl 0 rfl) ?_
  refine lv_iconst (v := 2) S.1 S.2.1 dL_law_483 (by decide) ?_
  refine lv_iadd S.1 S.2.1 dL_law_484 ?_
  refine va_sld S.1 S.2.1 hX hbl hbA hS h2 dL_law_485 ?_
  refine z_gois hS (va_runV (C := RX6) (n := 2) (As := [.int (xs (x3 + 1).toNatClampNeg), .int (xs (x3 + 2).toNatClampNeg)]) (rest := []) S (kX6_ifPassed l hg ho1) (cwV 2 S.2.2.2.2 (zgV wm_L_62 oX6_ifPassed) rfl rfl rfl hX6_ifPassed ⟨Nat.le_of_ble_eq_true rfl, Nat.le_of_ble_eq_true rfl⟩) ⟨zPc_blind, z_recv hK hR (k := 0) (i := 0) (by decide) rfl rfl, z_pre hK hR⟩ rfl rfl hl.1 rfl (lv_room (Nat.le_of_ble_eq_true rfl)) dL_law_486 hcs) (fun H locs hR hS => ?_)
  refine lv_aload_n S.1 S.2.1 dL_law_489 rfl (lv_at hl 1 rfl) ?_
  refine lv_aload_n S.1 S.2.1 dL_law_490 rfl (lv_at hl 3 rfl) ?_
  refine lv_iload_n S.1 S.2.1 dL_law_491 rfl (lv_at hl 0 rfl) ?_
  refine lv_iconst (v := 1) S.1 S.2.1 dL_law_492 (by decide) ?_
  refine lv_iadd S.1 S.2.1 dL_law_493 ?_
  refine va_sld S.1 S.2.1 hX hbl hbA hS h1 dL_law_494 ?_
  refine lv_aload_n S.1 S.2.1 dL_law_495 rfl (lv_at hl 3 rfl) ?_
  refine lv_iload_n S.1 S.2.1 dL_law_496 rfl (lv_at hl 0 rfl) ?_
  refine lv_iconst (v := 2) S.1 S.2.1 dL_law_497 (by decide) ?_
  refine lv_iadd S.1 S.2.1 dL_law_498 ?_
  refine va_sld S.1 S.2.1 hX hbl hbA hS h2 dL_law_499 ?_
  refine z_gois hS (va_runV (C := RX7) (n := 2) (As := [.int (xs (x3 + 1).toNatClampNeg), .int (xs (x3 + 2).toNatClampNeg)]) (rest := [.int r]) S (kX7_ifPassed l hg ho2) (cwV 2 S.2.2.2.2 (zgV wm_L_65 oX7_ifPassed) rfl rfl rfl hX7_ifPassed ⟨Nat.le_of_ble_eq_true rfl, Nat.le_of_ble_eq_true rfl⟩) ⟨zPc_blind, z_recv hK hR (k := 26) (i := 0) (by decide) rfl rfl, z_pre hK hR⟩ rfl rfl hl.1 rfl (lv_room (Nat.le_of_ble_eq_true rfl)) dL_law_500 hcs) (fun H locs hR hS => ?_)
  refine lv_icmp_eq (tgt := 745) S.1 S.2.1 dL_law_503 (by decide) (fun _ => ?_) (fun hc => absurd rfl hc)
  exact kk _ _ _ hI hR hS
set_option maxRecDepth 100000 in
set_option maxHeartbeats 4000000 in
theorem lc_12 (S : CallFix p m c code 4 s #[Value.ref b] zT RL) (hg : zAd g s.heap.size) (hK : zK g s) (hX : va_X b L xs s s.heap) (hbl : b < s.heap.size) (hR : zR g M H) (hS : va_S (zS s.heap.size) s.heap H locs) (hl : lv_has ls 4 [(3, .int x3), (2, .ref (g.1 26 0)), (1, .ref (g.1 0 0)), (0, .ref b)]) (hcs : cells ≤ room_1.cells ∧ slots ≤ room_1.slots) (hop : ∃ r M1 M2, fX6_firstCut M (xs (x3 + 1).toNatClampNeg) = some (r, M1) ∧ fX7_firstCut M1 (xs (x3 + 1).toNatClampNeg) = some (r, M2) ∧ I M2) (h1 : vp_in (x3 + 1) L)
    (kk : ∀ (M2 : zM) (H : Heap) (locs : List Loc), I M2 → zR g M2 H → va_S (zS s.heap.size) s.heap H locs → W p l e room_1 s m #[Value.ref b] below meth c H locs cells slots Q (F0 m 745 ls [])) : W p l e room_1 s m #[Value.ref b] below meth c H locs cells slots Q (F0 m 508 ls []) := by
  have hbA : ¬ (zS s.heap.size) b := Nat.not_le.mpr hbl
  obtain ⟨r, M1, M2, ho1, ho2, hI⟩ := hop
  refine lv_aload_n S.1 S.2.1 dL_law_508 rfl (lv_at hl 2 rfl) ?_
  refine lv_aload_n S.1 S.2.1 dL_law_509 rfl (lv_at hl 3 rfl) ?_
  refine lv_iload_n S.1 S.2.1 dL_law_510 rfl (lv_at hl 0 rfl) ?_
  refine lv_iconst (v := 1) S.1 S.2.1 dL_law_511 (by decide) ?_
  refine lv_iadd S.1 S.2.1 dL_law_512 ?_
  refine va_sld S.1 S.2.1 hX hbl hbA hS h1 dL_law_513 ?_
  refine z_gois hS (va_runV (C := RX6) (n := 1) (As := [.int (xs (x3 + 1).toNatClampNeg)]) (rest := []) S (kX6_firstCut l hg ho1) (cwV 1 S.2.2.2.2 (zgV wm_L_66 oX6_firstCut) rfl rfl rfl hX6_firstCut ⟨Nat.le_of_ble_eq_true rfl, Nat.le_of_ble_eq_true rfl⟩) ⟨zPc_blind, z_recv hK hR (k := 0) (i := 0) (by decide) rfl rfl, z_pre hK hR⟩ rfl rfl hl.1 rfl (lv_room (Nat.le_of_ble_eq_true rfl)) dL_law_514 hcs) (fun H locs hR hS => ?_)
  refine lv_aload_n S.1 S.2.1 dL_law_517 rfl (lv_at hl 1 rfl) ?_
  refine lv_aload_n S.1 S.2.1 dL_law_518 rfl (lv_at hl 3 rfl) ?_
  refine lv_iload_n S.1 S.2.1 dL_law_519 rfl (lv_at hl 0 rfl) ?_
  refine lv_iconst (v := 1) S.1 S.2.1 dL_law_520 (by decide) ?_
  refine lv_iadd S.1 S.2.1 dL_law_521 ?_
  refine va_sld S.1 S.2.1 hX hbl hbA hS h1 dL_law_522 ?_
  refine z_gois hS (va_runV (C := RX7) (n := 1) (As := [.int (xs (x3 + 1).toNatClampNeg)]) (rest := [.int r]) S (kX7_firstCut l hg ho2) (cwV 1 S.2.2.2.2 (zgV wm_L_69 oX7_firstCut) rfl rfl rfl hX7_firstCut ⟨Nat.le_of_ble_eq_true rfl, Nat.le_of_ble_eq_true rfl⟩) ⟨zPc_blind, z_recv hK hR (k := 26) (i := 0) (by decide) rfl rfl, z_pre hK hR⟩ rfl rfl hl.1 rfl (lv_room (Nat.le_of_ble_eq_true rfl)) dL_law_523 hcs) (fun H locs hR hS => ?_)
  refine lv_icmp_eq (tgt := 745) S.1 S.2.1 dL_law_526 (by decide) (fun _ => ?_) (fun hc => absurd rfl hc)
  exact kk _ _ _ hI hR hS
set_option maxRecDepth 100000 in
set_option maxHeartbeats 4000000 in
theorem lc_13 (S : CallFix p m c code 4 s #[Value.ref b] zT RL) (hg : zAd g s.heap.size) (hK : zK g s) (hX : va_X b L xs s s.heap) (hbl : b < s.heap.size) (hR : zR g M H) (hS : va_S (zS s.heap.size) s.heap H locs) (hl : lv_has ls 4 [(3, .int x3), (2, .ref (g.1 26 0)), (1, .ref (g.1 0 0)), (0, .ref b)]) (hcs : cells ≤ room_1.cells ∧ slots ≤ room_1.slots) (hop : ∃ r M1 M2, fX6_meets M (xs (x3 + 1).toNatClampNeg) (xs (x3 + 2).toNatClampNeg) = some (r, M1) ∧ fX7_meets M1 (xs (x3 + 1).toNatClampNeg) (xs (x3 + 2).toNatClampNeg) = some (r, M2) ∧ I M2) (h1 : vp_in (x3 + 1) L) (h2 : vp_in (x3 + 2) L)
    (kk : ∀ (M2 : zM) (H : Heap) (locs : List Loc), I M2 → zR g M2 H → va_S (zS s.heap.size) s.heap H locs → W p l e room_1 s m #[Value.ref b] below meth c H locs cells slots Q (F0 m 745 ls [])) : W p l e room_1 s m #[Value.ref b] below meth c H locs cells slots Q (F0 m 531 ls []) := by
  have hbA : ¬ (zS s.heap.size) b := Nat.not_le.mpr hbl
  obtain ⟨r, M1, M2, ho1, ho2, hI⟩ := hop
  refine lv_aload_n S.1 S.2.1 dL_law_531 rfl (lv_at hl 2 rfl) ?_
  refine lv_aload_n S.1 S.2.1 dL_law_532 rfl (lv_at hl 3 rfl) ?_
  refine lv_iload_n S.1 S.2.1 dL_law_533 rfl (lv_at hl 0 rfl) ?_
  refine lv_iconst (v := 1) S.1 S.2.1 dL_law_534 (by decide) ?_
  refine lv_iadd S.1 S.2.1 dL_law_535 ?_
  refine va_sld S.1 S.2.1 hX hbl hbA hS h1 dL_law_536 ?_
  refine lv_aload_n S.1 S.2.1 dL_law_537 rfl (lv_at hl 3 rfl) ?_
  refine lv_iload_n S.1 S.2.1 dL_law_538 rfl (lv_at hl 0 rfl) ?_
  refine lv_iconst (v := 2) S.1 S.2.1 dL_law_539 (by decide) ?_
  refine lv_iadd S.1 S.2.1 dL_law_540 ?_
  refine va_sld S.1 S.2.1 hX hbl hbA hS h2 dL_law_541 ?_
  refine z_gois hS (va_runV (C := RX6) (n := 2) (As := [.int (xs (x3 + 1).toNatClampNeg), .int (xs (x3 + 2).toNatClampNeg)]) (rest := []) S (kX6_meets l hg ho1) (cwV 2 S.2.2.2.2 (zgV wm_L_70 oX6_meets) rfl rfl rfl hX6_meets ⟨Nat.le_of_ble_eq_true rfl, Nat.le_of_ble_eq_true rfl⟩) ⟨zPc_blind, z_recv hK hR (k := 0) (i := 0) (by decide) rfl rfl, z_pre hK hR⟩ rfl rfl hl.1 rfl (lv_room (Nat.le_of_ble_eq_true rfl)) dL_law_542 hcs) (fun H locs hR hS => ?_)
  refine lv_aload_n S.1 S.2.1 dL_law_545 rfl (lv_at hl 1 rfl) ?_
  refine lv_aload_n S.1 S.2.1 dL_law_546 rfl (lv_at hl 3 rfl) ?_
  refine lv_iload_n S.1 S.2.1 dL_law_547 rfl (lv_at hl 0 rfl) ?_
  refine lv_iconst (v := 1) S.1 S.2.1 dL_law_548 (by decide) ?_
  refine lv_iadd S.1 S.2.1 dL_law_549 ?_
  refine va_sld S.1 S.2.1 hX hbl hbA hS h1 dL_law_550 ?_
  refine lv_aload_n S.1 S.2.1 dL_law_551 rfl (lv_at hl 3 rfl) ?_
  refine lv_iload_n S.1 S.2.1 dL_law_552 rfl (lv_at hl 0 rfl) ?_
  refine lv_iconst (v := 2) S.1 S.2.1 dL_law_553 (by decide) ?_
  refine lv_iadd S.1 S.2.1 dL_law_554 ?_
  refine va_sld S.1 S.2.1 hX hbl hbA hS h2 dL_law_555 ?_
  refine z_gois hS (va_runV (C := RX7) (n := 2) (As := [.int (xs (x3 + 1).toNatClampNeg), .int (xs (x3 + 2).toNatClampNeg)]) (rest := [.int r]) S (kX7_meets l hg ho2) (cwV 2 S.2.2.2.2 (zgV wm_L_73 oX7_meets) rfl rfl rfl hX7_meets ⟨Nat.le_of_ble_eq_true rfl, Nat.le_of_ble_eq_true rfl⟩) ⟨zPc_blind, z_recv hK hR (k := 26) (i := 0) (by decide) rfl rfl, z_pre hK hR⟩ rfl rfl hl.1 rfl (lv_room (Nat.le_of_ble_eq_true rfl)) dL_law_556 hcs) (fun H locs hR hS => ?_)
  refine lv_icmp_eq (tgt := 745) S.1 S.2.1 dL_law_559 (by decide) (fun _ => ?_) (fun hc => absurd rfl hc)
  exact kk _ _ _ hI hR hS
set_option maxRecDepth 100000 in
set_option maxHeartbeats 4000000 in
theorem lc_14 (S : CallFix p m c code 4 s #[Value.ref b] zT RL) (hg : zAd g s.heap.size) (hK : zK g s) (hX : va_X b L xs s s.heap) (hbl : b < s.heap.size) (hR : zR g M H) (hS : va_S (zS s.heap.size) s.heap H locs) (hl : lv_has ls 4 [(3, .int x3), (2, .ref (g.1 26 0)), (1, .ref (g.1 0 0)), (0, .ref b)]) (hcs : cells ≤ room_1.cells ∧ slots ≤ room_1.slots) (hop : ∃ r M1 M2, fX6_bestOrder M (xs (x3 + 1).toNatClampNeg) (xs (x3 + 2).toNatClampNeg) (xs (x3 + 3).toNatClampNeg) = some (r, M1) ∧ fX7_bestOrder M1 (xs (x3 + 1).toNatClampNeg) (xs (x3 + 2).toNatClampNeg) (xs (x3 + 3).toNatClampNeg) = some (r, M2) ∧ I M2) (h1 : vp_in (x3 + 1) L) (h2 : vp_in (x3 + 2) L) (h3 : vp_in (x3 + 3) L)
    (kk : ∀ (M2 : zM) (H : Heap) (locs : List Loc), I M2 → zR g M2 H → va_S (zS s.heap.size) s.heap H locs → W p l e room_1 s m #[Value.ref b] below meth c H locs cells slots Q (F0 m 745 ls [])) : W p l e room_1 s m #[Value.ref b] below meth c H locs cells slots Q (F0 m 564 ls []) := by
  have hbA : ¬ (zS s.heap.size) b := Nat.not_le.mpr hbl
  obtain ⟨r, M1, M2, ho1, ho2, hI⟩ := hop
  refine lv_aload_n S.1 S.2.1 dL_law_564 rfl (lv_at hl 2 rfl) ?_
  refine lv_aload_n S.1 S.2.1 dL_law_565 rfl (lv_at hl 3 rfl) ?_
  refine lv_iload_n S.1 S.2.1 dL_law_566 rfl (lv_at hl 0 rfl) ?_
  refine lv_iconst (v := 1) S.1 S.2.1 dL_law_567 (by decide) ?_
  refine lv_iadd S.1 S.2.1 dL_law_568 ?_
  refine va_sld S.1 S.2.1 hX hbl hbA hS h1 dL_law_569 ?_
  refine lv_aload_n S.1 S.2.1 dL_law_570 rfl (lv_at hl 3 rfl) ?_
  refine lv_iload_n S.1 S.2.1 dL_law_571 rfl (lv_at hl 0 rfl) ?_
  refine lv_iconst (v := 2) S.1 S.2.1 dL_law_572 (by decide) ?_
  refine lv_iadd S.1 S.2.1 dL_law_573 ?_
  refine va_sld S.1 S.2.1 hX hbl hbA hS h2 dL_law_574 ?_
  refine lv_aload_n S.1 S.2.1 dL_law_575 rfl (lv_at hl 3 rfl) ?_
  refine lv_iload_n S.1 S.2.1 dL_law_576 rfl (lv_at hl 0 rfl) ?_
  refine lv_iconst (v := 3) S.1 S.2.1 dL_law_577 (by decide) ?_
  refine lv_iadd S.1 S.2.1 dL_law_578 ?_
  refine va_sld S.1 S.2.1 hX hbl hbA hS h3 dL_law_579 ?_
  refine z_gois hS (va_runV (C := RX6) (n := 3) (As := [.int (xs (x3 + 1).toNatClampNeg), .int (xs (x3 + 2).toNatClampNeg), .int (xs (x3 + 3).toNatClampNeg)]) (rest := []) S (kX6_bestOrder l hg ho1) (cwV 3 S.2.2.2.2 (zgV wm_L_74 oX6_bestOrder) rfl rfl rfl hX6_bestOrder ⟨Nat.le_of_ble_eq_true rfl, Nat.le_of_ble_eq_true rfl⟩) ⟨zPc_blind, z_recv hK hR (k := 0) (i := 0) (by decide) rfl rfl, z_pre hK hR⟩ rfl rfl hl.1 rfl (lv_room (Nat.le_of_ble_eq_true rfl)) dL_law_580 hcs) (fun H locs hR hS => ?_)
  refine lv_aload_n S.1 S.2.1 dL_law_583 rfl (lv_at hl 1 rfl) ?_
  refine lv_aload_n S.1 S.2.1 dL_law_584 rfl (lv_at hl 3 rfl) ?_
  refine lv_iload_n S.1 S.2.1 dL_law_585 rfl (lv_at hl 0 rfl) ?_
  refine lv_iconst (v := 1) S.1 S.2.1 dL_law_586 (by decide) ?_
  refine lv_iadd S.1 S.2.1 dL_law_587 ?_
  refine va_sld S.1 S.2.1 hX hbl hbA hS h1 dL_law_588 ?_
  refine lv_aload_n S.1 S.2.1 dL_law_589 rfl (lv_at hl 3 rfl) ?_
  refine lv_iload_n S.1 S.2.1 dL_law_590 rfl (lv_at hl 0 rfl) ?_
  refine lv_iconst (v := 2) S.1 S.2.1 dL_law_591 (by decide) ?_
  refine lv_iadd S.1 S.2.1 dL_law_592 ?_
  refine va_sld S.1 S.2.1 hX hbl hbA hS h2 dL_law_593 ?_
  refine lv_aload_n S.1 S.2.1 dL_law_594 rfl (lv_at hl 3 rfl) ?_
  refine lv_iload_n S.1 S.2.1 dL_law_595 rfl (lv_at hl 0 rfl) ?_
  refine lv_iconst (v := 3) S.1 S.2.1 dL_law_596 (by decide) ?_
  refine lv_iadd S.1 S.2.1 dL_law_597 ?_
  refine va_sld S.1 S.2.1 hX hbl hbA hS h3 dL_law_598 ?_
  refine z_gois hS (va_runV (C := RX7) (n := 3) (As := [.int (xs (x3 + 1).toNatClampNeg), .int (xs (x3 + 2).toNatClampNeg), .int (xs (x3 + 3).toNatClampNeg)]) (rest := [.int r]) S (kX7_bestOrder l hg ho2) (cwV 3 S.2.2.2.2 (zgV wm_L_77 oX7_bestOrder) rfl rfl rfl hX7_bestOrder ⟨Nat.le_of_ble_eq_true rfl, Nat.le_of_ble_eq_true rfl⟩) ⟨zPc_blind, z_recv hK hR (k := 26) (i := 0) (by decide) rfl rfl, z_pre hK hR⟩ rfl rfl hl.1 rfl (lv_room (Nat.le_of_ble_eq_true rfl)) dL_law_599 hcs) (fun H locs hR hS => ?_)
  refine lv_icmp_eq (tgt := 745) S.1 S.2.1 dL_law_602 (by decide) (fun _ => ?_) (fun hc => absurd rfl hc)
  exact kk _ _ _ hI hR hS
set_option maxRecDepth 100000 in
set_option maxHeartbeats 4000000 in
theorem lc_15 (S : CallFix p m c code 4 s #[Value.ref b] zT RL) (hg : zAd g s.heap.size) (hK : zK g s) (hX : va_X b L xs s s.heap) (hbl : b < s.heap.size) (hR : zR g M H) (hS : va_S (zS s.heap.size) s.heap H locs) (hl : lv_has ls 4 [(3, .int x3), (2, .ref (g.1 26 0)), (1, .ref (g.1 0 0)), (0, .ref b)]) (hcs : cells ≤ room_1.cells ∧ slots ≤ room_1.slots) (hop : ∃ r M1 M2, fX6_put M (((xs (x3 + 1).toNatClampNeg).toInt64 <<< ((32 : Int32).toInt64 &&& 63)) ||| ((xs (x3 + 2).toNatClampNeg).toInt64 &&& 4294967295)) = some (r, M1) ∧ fX7_put M1 (((xs (x3 + 1).toNatClampNeg).toInt64 <<< ((32 : Int32).toInt64 &&& 63)) ||| ((xs (x3 + 2).toNatClampNeg).toInt64 &&& 4294967295)) = some (r, M2) ∧ I M2) (h1 : vp_in (x3 + 1) L) (h2 : vp_in (x3 + 2) L)
    (kk : ∀ (M2 : zM) (H : Heap) (locs : List Loc), I M2 → zR g M2 H → va_S (zS s.heap.size) s.heap H locs → W p l e room_1 s m #[Value.ref b] below meth c H locs cells slots Q (F0 m 745 ls [])) : W p l e room_1 s m #[Value.ref b] below meth c H locs cells slots Q (F0 m 607 ls []) := by
  have hbA : ¬ (zS s.heap.size) b := Nat.not_le.mpr hbl
  obtain ⟨r, M1, M2, ho1, ho2, hI⟩ := hop
  refine lv_aload_n S.1 S.2.1 dL_law_607 rfl (lv_at hl 2 rfl) ?_
  refine lv_aload_n S.1 S.2.1 dL_law_608 rfl (lv_at hl 3 rfl) ?_
  refine lv_iload_n S.1 S.2.1 dL_law_609 rfl (lv_at hl 0 rfl) ?_
  refine lv_iconst (v := 1) S.1 S.2.1 dL_law_610 (by decide) ?_
  refine lv_iadd S.1 S.2.1 dL_law_611 ?_
  refine va_sld S.1 S.2.1 hX hbl hbA hS h1 dL_law_612 ?_
  refine lv_i2l (v := (xs (x3 + 1).toNatClampNeg).toInt64) S.1 S.2.1 dL_law_613 rfl ?_
  refine lv_bipush (v := 32) S.1 S.2.1 dL_law_614 (by decide) ?_
  refine lv_lshl (v := ((xs (x3 + 1).toNatClampNeg).toInt64 <<< ((32 : Int32).toInt64 &&& 63))) S.1 S.2.1 dL_law_616 rfl ?_
  refine lv_aload_n S.1 S.2.1 dL_law_617 rfl (lv_at hl 3 rfl) ?_
  refine lv_iload_n S.1 S.2.1 dL_law_618 rfl (lv_at hl 0 rfl) ?_
  refine lv_iconst (v := 2) S.1 S.2.1 dL_law_619 (by decide) ?_
  refine lv_iadd S.1 S.2.1 dL_law_620 ?_
  refine va_sld S.1 S.2.1 hX hbl hbA hS h2 dL_law_621 ?_
  refine lv_i2l (v := (xs (x3 + 2).toNatClampNeg).toInt64) S.1 S.2.1 dL_law_622 rfl ?_
  refine lv_ldc2 (v := 4294967295) S.1 S.2.1 S.2.2.2.1 (S.2.2.2.2 _ wl_L_78) dL_law_623 ?_
  refine lv_land S.1 S.2.1 dL_law_626 ?_
  refine lv_lor S.1 S.2.1 dL_law_627 ?_
  refine z_gois hS (va_runV (C := RX6) (n := 1) (As := [.long (((xs (x3 + 1).toNatClampNeg).toInt64 <<< ((32 : Int32).toInt64 &&& 63)) ||| ((xs (x3 + 2).toNatClampNeg).toInt64 &&& 4294967295))]) (rest := []) S (kX6_put l hg ho1) (cwV 1 S.2.2.2.2 (zgV wm_L_80 oX6_put) rfl rfl rfl hX6_put ⟨Nat.le_of_ble_eq_true rfl, Nat.le_of_ble_eq_true rfl⟩) ⟨zPc_blind, z_recv hK hR (k := 0) (i := 0) (by decide) rfl rfl, z_pre hK hR⟩ rfl rfl hl.1 rfl (lv_room (Nat.le_of_ble_eq_true rfl)) dL_law_628 hcs) (fun H locs hR hS => ?_)
  refine lv_aload_n S.1 S.2.1 dL_law_631 rfl (lv_at hl 1 rfl) ?_
  refine lv_aload_n S.1 S.2.1 dL_law_632 rfl (lv_at hl 3 rfl) ?_
  refine lv_iload_n S.1 S.2.1 dL_law_633 rfl (lv_at hl 0 rfl) ?_
  refine lv_iconst (v := 1) S.1 S.2.1 dL_law_634 (by decide) ?_
  refine lv_iadd S.1 S.2.1 dL_law_635 ?_
  refine va_sld S.1 S.2.1 hX hbl hbA hS h1 dL_law_636 ?_
  refine lv_i2l (v := (xs (x3 + 1).toNatClampNeg).toInt64) S.1 S.2.1 dL_law_637 rfl ?_
  refine lv_bipush (v := 32) S.1 S.2.1 dL_law_638 (by decide) ?_
  refine lv_lshl (v := ((xs (x3 + 1).toNatClampNeg).toInt64 <<< ((32 : Int32).toInt64 &&& 63))) S.1 S.2.1 dL_law_640 rfl ?_
  refine lv_aload_n S.1 S.2.1 dL_law_641 rfl (lv_at hl 3 rfl) ?_
  refine lv_iload_n S.1 S.2.1 dL_law_642 rfl (lv_at hl 0 rfl) ?_
  refine lv_iconst (v := 2) S.1 S.2.1 dL_law_643 (by decide) ?_
  refine lv_iadd S.1 S.2.1 dL_law_644 ?_
  refine va_sld S.1 S.2.1 hX hbl hbA hS h2 dL_law_645 ?_
  refine lv_i2l (v := (xs (x3 + 2).toNatClampNeg).toInt64) S.1 S.2.1 dL_law_646 rfl ?_
  refine lv_ldc2 (v := 4294967295) S.1 S.2.1 S.2.2.2.1 (S.2.2.2.2 _ wl_L_78) dL_law_647 ?_
  refine lv_land S.1 S.2.1 dL_law_650 ?_
  refine lv_lor S.1 S.2.1 dL_law_651 ?_
  refine z_gois hS (va_runV (C := RX7) (n := 1) (As := [.long (((xs (x3 + 1).toNatClampNeg).toInt64 <<< ((32 : Int32).toInt64 &&& 63)) ||| ((xs (x3 + 2).toNatClampNeg).toInt64 &&& 4294967295))]) (rest := [.int r]) S (kX7_put l hg ho2) (cwV 1 S.2.2.2.2 (zgV wm_L_84 oX7_put) rfl rfl rfl hX7_put ⟨Nat.le_of_ble_eq_true rfl, Nat.le_of_ble_eq_true rfl⟩) ⟨zPc_blind, z_recv hK hR (k := 26) (i := 0) (by decide) rfl rfl, z_pre hK hR⟩ rfl rfl hl.1 rfl (lv_room (Nat.le_of_ble_eq_true rfl)) dL_law_652 hcs) (fun H locs hR hS => ?_)
  refine lv_icmp_eq (tgt := 745) S.1 S.2.1 dL_law_655 (by decide) (fun _ => ?_) (fun hc => absurd rfl hc)
  exact kk _ _ _ hI hR hS
set_option maxRecDepth 100000 in
set_option maxHeartbeats 4000000 in
theorem lc_16 (S : CallFix p m c code 4 s #[Value.ref b] zT RL) (hg : zAd g s.heap.size) (hK : zK g s) (hX : va_X b L xs s s.heap) (hbl : b < s.heap.size) (hR : zR g M H) (hS : va_S (zS s.heap.size) s.heap H locs) (hl : lv_has ls 4 [(3, .int x3), (2, .ref (g.1 26 0)), (1, .ref (g.1 0 0)), (0, .ref b)]) (hcs : cells ≤ room_1.cells ∧ slots ≤ room_1.slots) (hop : ∃ r M1 M2, fX6_wipe M  = some (r, M1) ∧ fX7_wipe M1  = some (r, M2) ∧ I M2) 
    (kk : ∀ (M2 : zM) (H : Heap) (locs : List Loc), I M2 → zR g M2 H → va_S (zS s.heap.size) s.heap H locs → W p l e room_1 s m #[Value.ref b] below meth c H locs cells slots Q (F0 m 745 ls [])) : W p l e room_1 s m #[Value.ref b] below meth c H locs cells slots Q (F0 m 660 ls []) := by
  have hbA : ¬ (zS s.heap.size) b := Nat.not_le.mpr hbl
  obtain ⟨r, M1, M2, ho1, ho2, hI⟩ := hop
  refine lv_aload_n S.1 S.2.1 dL_law_660 rfl (lv_at hl 2 rfl) ?_
  refine z_gois hS (va_runV (C := RX6) (n := 0) (As := []) (rest := []) S (kX6_wipe l hg ho1) (cwV 0 S.2.2.2.2 (zgV wm_L_85 oX6_wipe) rfl rfl rfl hX6_wipe ⟨Nat.le_of_ble_eq_true rfl, Nat.le_of_ble_eq_true rfl⟩) ⟨zPc_blind, z_recv hK hR (k := 0) (i := 0) (by decide) rfl rfl, z_pre hK hR⟩ rfl rfl hl.1 rfl (lv_room (Nat.le_of_ble_eq_true rfl)) dL_law_661 hcs) (fun H locs hR hS => ?_)
  refine lv_aload_n S.1 S.2.1 dL_law_664 rfl (lv_at hl 1 rfl) ?_
  refine z_gois hS (va_runV (C := RX7) (n := 0) (As := []) (rest := [.int r]) S (kX7_wipe l hg ho2) (cwV 0 S.2.2.2.2 (zgV wm_L_88 oX7_wipe) rfl rfl rfl hX7_wipe ⟨Nat.le_of_ble_eq_true rfl, Nat.le_of_ble_eq_true rfl⟩) ⟨zPc_blind, z_recv hK hR (k := 26) (i := 0) (by decide) rfl rfl, z_pre hK hR⟩ rfl rfl hl.1 rfl (lv_room (Nat.le_of_ble_eq_true rfl)) dL_law_665 hcs) (fun H locs hR hS => ?_)
  refine lv_icmp_eq (tgt := 745) S.1 S.2.1 dL_law_668 (by decide) (fun _ => ?_) (fun hc => absurd rfl hc)
  exact kk _ _ _ hI hR hS
set_option maxRecDepth 100000 in
set_option maxHeartbeats 4000000 in
theorem lc_17 (S : CallFix p m c code 4 s #[Value.ref b] zT RL) (hg : zAd g s.heap.size) (hK : zK g s) (hX : va_X b L xs s s.heap) (hbl : b < s.heap.size) (hR : zR g M H) (hS : va_S (zS s.heap.size) s.heap H locs) (hl : lv_has ls 4 [(3, .int x3), (2, .ref (g.1 26 0)), (1, .ref (g.1 0 0)), (0, .ref b)]) (hcs : cells ≤ room_1.cells ∧ slots ≤ room_1.slots) (hop : ∃ r M1 M2, fX6_fault M  = some (r, M1) ∧ fX7_fault M1  = some (r, M2) ∧ I M2) 
    (kk : ∀ (M2 : zM) (H : Heap) (locs : List Loc), I M2 → zR g M2 H → va_S (zS s.heap.size) s.heap H locs → W p l e room_1 s m #[Value.ref b] below meth c H locs cells slots Q (F0 m 745 ls [])) : W p l e room_1 s m #[Value.ref b] below meth c H locs cells slots Q (F0 m 673 ls []) := by
  have hbA : ¬ (zS s.heap.size) b := Nat.not_le.mpr hbl
  obtain ⟨r, M1, M2, ho1, ho2, hI⟩ := hop
  refine lv_aload_n S.1 S.2.1 dL_law_673 rfl (lv_at hl 2 rfl) ?_
  refine z_gois hS (va_runV (C := RX6) (n := 0) (As := []) (rest := []) S (kX6_fault l hg ho1) (cwV 0 S.2.2.2.2 (zgV wm_L_89 oX6_fault) rfl rfl rfl hX6_fault ⟨Nat.le_of_ble_eq_true rfl, Nat.le_of_ble_eq_true rfl⟩) ⟨zPc_blind, z_recv hK hR (k := 0) (i := 0) (by decide) rfl rfl, z_pre hK hR⟩ rfl rfl hl.1 rfl (lv_room (Nat.le_of_ble_eq_true rfl)) dL_law_674 hcs) (fun H locs hR hS => ?_)
  refine lv_aload_n S.1 S.2.1 dL_law_677 rfl (lv_at hl 1 rfl) ?_
  refine z_gois hS (va_runV (C := RX7) (n := 0) (As := []) (rest := [.int r]) S (kX7_fault l hg ho2) (cwV 0 S.2.2.2.2 (zgV wm_L_92 oX7_fault) rfl rfl rfl hX7_fault ⟨Nat.le_of_ble_eq_true rfl, Nat.le_of_ble_eq_true rfl⟩) ⟨zPc_blind, z_recv hK hR (k := 26) (i := 0) (by decide) rfl rfl, z_pre hK hR⟩ rfl rfl hl.1 rfl (lv_room (Nat.le_of_ble_eq_true rfl)) dL_law_678 hcs) (fun H locs hR hS => ?_)
  refine lv_icmp_eq (tgt := 745) S.1 S.2.1 dL_law_681 (by decide) (fun _ => ?_) (fun hc => absurd rfl hc)
  exact kk _ _ _ hI hR hS
set_option maxRecDepth 100000 in
set_option maxHeartbeats 4000000 in
theorem lc_18 (S : CallFix p m c code 4 s #[Value.ref b] zT RL) (hg : zAd g s.heap.size) (hK : zK g s) (hX : va_X b L xs s s.heap) (hbl : b < s.heap.size) (hR : zR g M H) (hS : va_S (zS s.heap.size) s.heap H locs) (hl : lv_has ls 4 [(3, .int x3), (2, .ref (g.1 26 0)), (1, .ref (g.1 0 0)), (0, .ref b)]) (hcs : cells ≤ room_1.cells ∧ slots ≤ room_1.slots) (hop : ∃ r M1 M2, fX6_undo M  = some (r, M1) ∧ fX7_undo M1  = some (r, M2) ∧ I M2) 
    (kk : ∀ (M2 : zM) (H : Heap) (locs : List Loc), I M2 → zR g M2 H → va_S (zS s.heap.size) s.heap H locs → W p l e room_1 s m #[Value.ref b] below meth c H locs cells slots Q (F0 m 745 ls [])) : W p l e room_1 s m #[Value.ref b] below meth c H locs cells slots Q (F0 m 686 ls []) := by
  have hbA : ¬ (zS s.heap.size) b := Nat.not_le.mpr hbl
  obtain ⟨r, M1, M2, ho1, ho2, hI⟩ := hop
  refine lv_aload_n S.1 S.2.1 dL_law_686 rfl (lv_at hl 2 rfl) ?_
  refine z_gois hS (va_runV (C := RX6) (n := 0) (As := []) (rest := []) S (kX6_undo l hg ho1) (cwV 0 S.2.2.2.2 (zgV wm_L_93 oX6_undo) rfl rfl rfl hX6_undo ⟨Nat.le_of_ble_eq_true rfl, Nat.le_of_ble_eq_true rfl⟩) ⟨zPc_blind, z_recv hK hR (k := 0) (i := 0) (by decide) rfl rfl, z_pre hK hR⟩ rfl rfl hl.1 rfl (lv_room (Nat.le_of_ble_eq_true rfl)) dL_law_687 hcs) (fun H locs hR hS => ?_)
  refine lv_aload_n S.1 S.2.1 dL_law_690 rfl (lv_at hl 1 rfl) ?_
  refine z_gois hS (va_runV (C := RX7) (n := 0) (As := []) (rest := [.int r]) S (kX7_undo l hg ho2) (cwV 0 S.2.2.2.2 (zgV wm_L_96 oX7_undo) rfl rfl rfl hX7_undo ⟨Nat.le_of_ble_eq_true rfl, Nat.le_of_ble_eq_true rfl⟩) ⟨zPc_blind, z_recv hK hR (k := 26) (i := 0) (by decide) rfl rfl, z_pre hK hR⟩ rfl rfl hl.1 rfl (lv_room (Nat.le_of_ble_eq_true rfl)) dL_law_691 hcs) (fun H locs hR hS => ?_)
  refine lv_icmp_eq (tgt := 745) S.1 S.2.1 dL_law_694 (by decide) (fun _ => ?_) (fun hc => absurd rfl hc)
  exact kk _ _ _ hI hR hS
set_option maxRecDepth 100000 in
set_option maxHeartbeats 4000000 in
theorem lc_19 (S : CallFix p m c code 4 s #[Value.ref b] zT RL) (hg : zAd g s.heap.size) (hK : zK g s) (hX : va_X b L xs s s.heap) (hbl : b < s.heap.size) (hR : zR g M H) (hS : va_S (zS s.heap.size) s.heap H locs) (hl : lv_has ls 4 [(3, .int x3), (2, .ref (g.1 26 0)), (1, .ref (g.1 0 0)), (0, .ref b)]) (hcs : cells ≤ room_1.cells ∧ slots ≤ room_1.slots) (hop : ∃ r M1 M2, fX6_save M (xs (x3 + 1).toNatClampNeg) = some (r, M1) ∧ fX7_save M1 (xs (x3 + 1).toNatClampNeg) = some (r, M2) ∧ I M2) (h1 : vp_in (x3 + 1) L)
    (kk : ∀ (M2 : zM) (H : Heap) (locs : List Loc), I M2 → zR g M2 H → va_S (zS s.heap.size) s.heap H locs → W p l e room_1 s m #[Value.ref b] below meth c H locs cells slots Q (F0 m 745 ls [])) : W p l e room_1 s m #[Value.ref b] below meth c H locs cells slots Q (F0 m 699 ls []) := by
  have hbA : ¬ (zS s.heap.size) b := Nat.not_le.mpr hbl
  obtain ⟨r, M1, M2, ho1, ho2, hI⟩ := hop
  refine lv_aload_n S.1 S.2.1 dL_law_699 rfl (lv_at hl 2 rfl) ?_
  refine lv_aload_n S.1 S.2.1 dL_law_700 rfl (lv_at hl 3 rfl) ?_
  refine lv_iload_n S.1 S.2.1 dL_law_701 rfl (lv_at hl 0 rfl) ?_
  refine lv_iconst (v := 1) S.1 S.2.1 dL_law_702 (by decide) ?_
  refine lv_iadd S.1 S.2.1 dL_law_703 ?_
  refine va_sld S.1 S.2.1 hX hbl hbA hS h1 dL_law_704 ?_
  refine z_gois hS (va_runV (C := RX6) (n := 1) (As := [.int (xs (x3 + 1).toNatClampNeg)]) (rest := []) S (kX6_save l hg ho1) (cwV 1 S.2.2.2.2 (zgV wm_L_97 oX6_save) rfl rfl rfl hX6_save ⟨Nat.le_of_ble_eq_true rfl, Nat.le_of_ble_eq_true rfl⟩) ⟨zPc_blind, z_recv hK hR (k := 0) (i := 0) (by decide) rfl rfl, z_pre hK hR⟩ rfl rfl hl.1 rfl (lv_room (Nat.le_of_ble_eq_true rfl)) dL_law_705 hcs) (fun H locs hR hS => ?_)
  refine lv_aload_n S.1 S.2.1 dL_law_708 rfl (lv_at hl 1 rfl) ?_
  refine lv_aload_n S.1 S.2.1 dL_law_709 rfl (lv_at hl 3 rfl) ?_
  refine lv_iload_n S.1 S.2.1 dL_law_710 rfl (lv_at hl 0 rfl) ?_
  refine lv_iconst (v := 1) S.1 S.2.1 dL_law_711 (by decide) ?_
  refine lv_iadd S.1 S.2.1 dL_law_712 ?_
  refine va_sld S.1 S.2.1 hX hbl hbA hS h1 dL_law_713 ?_
  refine z_gois hS (va_runV (C := RX7) (n := 1) (As := [.int (xs (x3 + 1).toNatClampNeg)]) (rest := [.int r]) S (kX7_save l hg ho2) (cwV 1 S.2.2.2.2 (zgV wm_L_100 oX7_save) rfl rfl rfl hX7_save ⟨Nat.le_of_ble_eq_true rfl, Nat.le_of_ble_eq_true rfl⟩) ⟨zPc_blind, z_recv hK hR (k := 26) (i := 0) (by decide) rfl rfl, z_pre hK hR⟩ rfl rfl hl.1 rfl (lv_room (Nat.le_of_ble_eq_true rfl)) dL_law_714 hcs) (fun H locs hR hS => ?_)
  refine lv_icmp_eq (tgt := 745) S.1 S.2.1 dL_law_717 (by decide) (fun _ => ?_) (fun hc => absurd rfl hc)
  exact kk _ _ _ hI hR hS
set_option maxRecDepth 100000 in
set_option maxHeartbeats 4000000 in
theorem lc_20 (S : CallFix p m c code 4 s #[Value.ref b] zT RL) (hg : zAd g s.heap.size) (hK : zK g s) (hX : va_X b L xs s s.heap) (hbl : b < s.heap.size) (hR : zR g M H) (hS : va_S (zS s.heap.size) s.heap H locs) (hl : lv_has ls 4 [(3, .int x3), (2, .ref (g.1 26 0)), (1, .ref (g.1 0 0)), (0, .ref b)]) (hcs : cells ≤ room_1.cells ∧ slots ≤ room_1.slots) (hop : ∃ r M1 M2, fX6_restore M (xs (x3 + 1).toNatClampNeg) = some (r, M1) ∧ fX7_restore M1 (xs (x3 + 1).toNatClampNeg) = some (r, M2) ∧ I M2) (h1 : vp_in (x3 + 1) L)
    (kk : ∀ (M2 : zM) (H : Heap) (locs : List Loc), I M2 → zR g M2 H → va_S (zS s.heap.size) s.heap H locs → W p l e room_1 s m #[Value.ref b] below meth c H locs cells slots Q (F0 m 745 ls [])) : W p l e room_1 s m #[Value.ref b] below meth c H locs cells slots Q (F0 m 722 ls []) := by
  have hbA : ¬ (zS s.heap.size) b := Nat.not_le.mpr hbl
  obtain ⟨r, M1, M2, ho1, ho2, hI⟩ := hop
  refine lv_aload_n S.1 S.2.1 dL_law_722 rfl (lv_at hl 2 rfl) ?_
  refine lv_aload_n S.1 S.2.1 dL_law_723 rfl (lv_at hl 3 rfl) ?_
  refine lv_iload_n S.1 S.2.1 dL_law_724 rfl (lv_at hl 0 rfl) ?_
  refine lv_iconst (v := 1) S.1 S.2.1 dL_law_725 (by decide) ?_
  refine lv_iadd S.1 S.2.1 dL_law_726 ?_
  refine va_sld S.1 S.2.1 hX hbl hbA hS h1 dL_law_727 ?_
  refine z_gois hS (va_runV (C := RX6) (n := 1) (As := [.int (xs (x3 + 1).toNatClampNeg)]) (rest := []) S (kX6_restore l hg ho1) (cwV 1 S.2.2.2.2 (zgV wm_L_101 oX6_restore) rfl rfl rfl hX6_restore ⟨Nat.le_of_ble_eq_true rfl, Nat.le_of_ble_eq_true rfl⟩) ⟨zPc_blind, z_recv hK hR (k := 0) (i := 0) (by decide) rfl rfl, z_pre hK hR⟩ rfl rfl hl.1 rfl (lv_room (Nat.le_of_ble_eq_true rfl)) dL_law_728 hcs) (fun H locs hR hS => ?_)
  refine lv_aload_n S.1 S.2.1 dL_law_731 rfl (lv_at hl 1 rfl) ?_
  refine lv_aload_n S.1 S.2.1 dL_law_732 rfl (lv_at hl 3 rfl) ?_
  refine lv_iload_n S.1 S.2.1 dL_law_733 rfl (lv_at hl 0 rfl) ?_
  refine lv_iconst (v := 1) S.1 S.2.1 dL_law_734 (by decide) ?_
  refine lv_iadd S.1 S.2.1 dL_law_735 ?_
  refine va_sld S.1 S.2.1 hX hbl hbA hS h1 dL_law_736 ?_
  refine z_gois hS (va_runV (C := RX7) (n := 1) (As := [.int (xs (x3 + 1).toNatClampNeg)]) (rest := [.int r]) S (kX7_restore l hg ho2) (cwV 1 S.2.2.2.2 (zgV wm_L_104 oX7_restore) rfl rfl rfl hX7_restore ⟨Nat.le_of_ble_eq_true rfl, Nat.le_of_ble_eq_true rfl⟩) ⟨zPc_blind, z_recv hK hR (k := 26) (i := 0) (by decide) rfl rfl, z_pre hK hR⟩ rfl rfl hl.1 rfl (lv_room (Nat.le_of_ble_eq_true rfl)) dL_law_737 hcs) (fun H locs hR hS => ?_)
  refine lv_icmp_eq (tgt := 745) S.1 S.2.1 dL_law_740 (by decide) (fun _ => ?_) (fun hc => absurd rfl hc)
  exact kk _ _ _ hI hR hS
def zOps (I : zM → Prop) : Prop := (∀ (M : zM) (a0 : Int32) (a1 : Int32) (a2 : Int32) (a3 : Int32) (a4 : Int32), I M → ∃ r M1 M2, fX6_launch M a0 a1 a2 a3 a4 = some (r, M1) ∧ fX7_launch M1 a0 a1 a2 a3 a4 = some (r, M2) ∧ I M2) ∧
  (∀ (M : zM) (a0 : Int32) (a1 : Int32) (a2 : Int32), I M → ∃ r M1 M2, fX6_order M a0 a1 a2 = some (r, M1) ∧ fX7_order M1 a0 a1 a2 = some (r, M2) ∧ I M2) ∧
  (∀ (M : zM) (a0 : Int32) (a1 : Int32), I M → ∃ r M1 M2, fX6_step M a0 a1 = some (r, M1) ∧ fX7_step M1 a0 a1 = some (r, M2) ∧ I M2) ∧
  (∀ (M : zM) (a0 : Int32), I M → ∃ r M1 M2, fX6_land M a0 = some (r, M1) ∧ fX7_land M1 a0 = some (r, M2) ∧ I M2) ∧
  (∀ (M : zM) (a0 : Int32), I M → ∃ r M1 M2, fX6_pass M a0 = some (r, M1) ∧ fX7_pass M1 a0 = some (r, M2) ∧ I M2) ∧
  (∀ (M : zM) , I M → ∃ r M1 M2, fX6_round M  = some (r, M1) ∧ fX7_round M1  = some (r, M2) ∧ I M2) ∧
  (∀ (M : zM) , I M → ∃ r M1 M2, fX6_carryOut M  = some (r, M1) ∧ fX7_carryOut M1  = some (r, M2) ∧ I M2) ∧
  (∀ (M : zM) (a0 : Int32) (a1 : Int32), I M → ∃ r M1 M2, fX6_kite M a0 a1 = some (r, M1) ∧ fX7_kite M1 a0 a1 = some (r, M2) ∧ I M2) ∧
  (∀ (M : zM) (a0 : Int32) (a1 : Int32), I M → ∃ r M1 M2, fX6_wear M a0 a1 = some (r, M1) ∧ fX7_wear M1 a0 a1 = some (r, M2) ∧ I M2) ∧
  (∀ (M : zM) (a0 : Int32) (a1 : Int32) (a2 : Int32), I M → ∃ r M1 M2, fX6_crossing M a0 a1 a2 = some (r, M1) ∧ fX7_crossing M1 a0 a1 a2 = some (r, M2) ∧ I M2) ∧
  (∀ (M : zM) (a0 : Int32), I M → ∃ r M1 M2, fX6_count M a0 = some (r, M1) ∧ fX7_count M1 a0 = some (r, M2) ∧ I M2) ∧
  (∀ (M : zM) (a0 : Int32) (a1 : Int32), I M → ∃ r M1 M2, fX6_ifPassed M a0 a1 = some (r, M1) ∧ fX7_ifPassed M1 a0 a1 = some (r, M2) ∧ I M2) ∧
  (∀ (M : zM) (a0 : Int32), I M → ∃ r M1 M2, fX6_firstCut M a0 = some (r, M1) ∧ fX7_firstCut M1 a0 = some (r, M2) ∧ I M2) ∧
  (∀ (M : zM) (a0 : Int32) (a1 : Int32), I M → ∃ r M1 M2, fX6_meets M a0 a1 = some (r, M1) ∧ fX7_meets M1 a0 a1 = some (r, M2) ∧ I M2) ∧
  (∀ (M : zM) (a0 : Int32) (a1 : Int32) (a2 : Int32), I M → ∃ r M1 M2, fX6_bestOrder M a0 a1 a2 = some (r, M1) ∧ fX7_bestOrder M1 a0 a1 a2 = some (r, M2) ∧ I M2) ∧
  (∀ (M : zM) (a0 : Int64), I M → ∃ r M1 M2, fX6_put M a0 = some (r, M1) ∧ fX7_put M1 a0 = some (r, M2) ∧ I M2) ∧
  (∀ (M : zM) , I M → ∃ r M1 M2, fX6_wipe M  = some (r, M1) ∧ fX7_wipe M1  = some (r, M2) ∧ I M2) ∧
  (∀ (M : zM) , I M → ∃ r M1 M2, fX6_fault M  = some (r, M1) ∧ fX7_fault M1  = some (r, M2) ∧ I M2) ∧
  (∀ (M : zM) , I M → ∃ r M1 M2, fX6_undo M  = some (r, M1) ∧ fX7_undo M1  = some (r, M2) ∧ I M2) ∧
  (∀ (M : zM) (a0 : Int32), I M → ∃ r M1 M2, fX6_save M a0 = some (r, M1) ∧ fX7_save M1 a0 = some (r, M2) ∧ I M2) ∧
  (∀ (M : zM) (a0 : Int32), I M → ∃ r M1 M2, fX6_restore M a0 = some (r, M1) ∧ fX7_restore M1 a0 = some (r, M2) ∧ I M2)
set_option maxRecDepth 100000 in
set_option maxHeartbeats 8000000 in
theorem law_loop (hops : zOps I) (hL : L ≤ 3072) (S : CallFix p m c code 4 s #[Value.ref b] zT RL) (hr : meth.sig.returnType = ret) (hlocks : meth.locks = false) (hg : zAd g s.heap.size) (hK : zK g s) (hX : va_X b L xs s s.heap) (hbl : b < s.heap.size) :
    ∀ (n i : Nat) (x3 : Int32) (M : zM) (H : Heap) (locs : List Loc), x3 = nI i → i ≤ L + 6 → L + 7 ≤ i + n → I M → zR g M H → va_S (zS s.heap.size) s.heap H locs → ∀ ls : Array Slot, lv_has ls 4 [(3, .int x3), (2, .ref (g.1 26 0)), (1, .ref (g.1 0 0)), (0, .ref b)] → W p l e room_1 s m #[Value.ref b] below meth c H locs 166 5942 (lw_Z below #[Value.ref b] s) (F0 m 18 ls []) := by
  have hbA : ¬ (zS s.heap.size) b := Nat.not_le.mpr hbl
  intro n
  induction n with
  | zero => intro i x3 M H locs _ h1 h2; exact absurd h2 (by omega)
  | succ n ih =>
    intro i x3 M H locs ex hi hn hI hR hS ls hl
    refine lv_iload_n S.1 S.2.1 dL_law_18 rfl (lv_at hl 0 rfl) ?_
    refine lv_aload_n S.1 S.2.1 dL_law_19 rfl (lv_at hl 3 rfl) ?_
    refine va_slen S.1 S.2.1 hX hbl hbA hS dL_law_20 ?_
    refine lv_bipush (v := 6) S.1 S.2.1 dL_law_21 (by decide) ?_
    refine lv_isub S.1 S.2.1 dL_law_23 ?_
    have hlen : (Int32.ofNat L - 6).toInt = (L : Int) - 6 := by
      have e : Int32.ofNat L = nI L := rfl
      have e6 : (6 : Int32) = nI 6 := rfl
      rw [e, e6]
      exact pk_sub_toInt (by omega) (by omega)
    have hx3 : x3.toInt = (i : Int) := by rw [ex]; exact nI_toInt (by omega)
    refine lv_icmp_gt (tgt := 751) S.1 S.2.1 dL_law_24 (by decide) (fun hc => ?_) (fun hc => ?_)
    · refine lv_iconst (v := 1) S.1 S.2.1 dL_law_751 (by decide) ?_
      refine va_forget (fun q hq => hS.2.2 q hq) ?_
      refine W.widen (k := 600000) (n := 7302250) (by omega) (by omega) ?_
      exact lw_ret S.1 S.2.1 hr hlocks dL_law_752
    · have hle : i + 6 ≤ L := by
        have h1 : ¬ ((L : Int) - 6 < (i : Int)) := fun q => hc (Int32.lt_iff_toInt_lt.mpr (by rw [hlen, hx3]; exact q))
        omega
      have hin : ∀ k : Nat, k < 6 → vp_in (x3 + nI k) L := fun k hk => by
        rw [ex, nI_add]
        exact vp_in_nI (by omega) (by omega)
      have h0 : vp_in x3 L := by rw [ex]; exact vp_in_nI (by omega) (by omega)
      have h1 : vp_in (x3 + 1) L := hin 1 (by omega)
      have h2 : vp_in (x3 + 2) L := hin 2 (by omega)
      have h3 : vp_in (x3 + 3) L := hin 3 (by omega)
      have h4 : vp_in (x3 + 4) L := hin 4 (by omega)
      have h5 : vp_in (x3 + 5) L := hin 5 (by omega)
      have hcs : (166 : Nat) ≤ room_1.cells ∧ (5942 : Nat) ≤ room_1.slots := ⟨Nat.le_of_ble_eq_true rfl, Nat.le_of_ble_eq_true rfl⟩
      have kk : ∀ (M2 : zM) (H : Heap) (locs : List Loc), I M2 → zR g M2 H → va_S (zS s.heap.size) s.heap H locs → W p l e room_1 s m #[Value.ref b] below meth c H locs 166 5942 (lw_Z below #[Value.ref b] s) (F0 m 745 ls []) := by
        intro M2 H locs hI hR hS
        obtain ⟨y3, ey⟩ : ∃ y : Int32, y = x3 + 6 := ⟨_, rfl⟩
        refine lv_iinc (v := y3) (lv' := [(3, .int y3), (2, .ref (g.1 26 0)), (1, .ref (g.1 0 0)), (0, .ref b)]) S.1 S.2.1 dL_law_745 hl (k := 0) rfl (by rw [ey]; rfl) (by decide) rfl (fun ls hl => ?_)
        refine lv_goto (tgt := 18) S.1 S.2.1 dL_law_748 (by decide) ?_
        exact ih (i + 6) y3 M2 H locs (by rw [ey, ex, show (6 : Int32) = nI 6 from rfl, nI_add]) (by omega) (by omega) hI hR hS ls hl
      refine lv_aload_n S.1 S.2.1 dL_law_27 rfl (lv_at hl 3 rfl) ?_
      refine lv_iload_n S.1 S.2.1 dL_law_28 rfl (lv_at hl 0 rfl) ?_
      refine va_sld S.1 S.2.1 hX hbl hbA hS h0 dL_law_29 ?_
      refine lv_bipush (v := 31) S.1 S.2.1 dL_law_30 (by decide) ?_
      refine lv_iand S.1 S.2.1 dL_law_32 ?_
      refine lv_topi (fun t et => ?_)
      obtain ⟨o0, o1, o2, o3, o4, o5, o6, o7, o8, o9, o10, o11, o12, o13, o14, o15, o16, o17, o18, o19, o20⟩ := hops
      by_cases hc0 : t = 0
      · refine lv_tableIn (tgt := 132) S.1 S.2.1 dL_law_33 (by rw [hc0]; decide) (by rw [hc0]; decide) (by rw [hc0]; rfl) (by decide) ?_
        exact lc_0 S hg hK hX hbl hR hS hl hcs (o0 M _ _ _ _ _ hI) h1 h2 h3 h4 h5 kk
      by_cases hc1 : t = 1
      · refine lv_tableIn (tgt := 195) S.1 S.2.1 dL_law_33 (by rw [hc1]; decide) (by rw [hc1]; decide) (by rw [hc1]; rfl) (by decide) ?_
        exact lc_1 S hg hK hX hbl hR hS hl hcs (o1 M _ _ _ hI) h1 h2 h3 kk
      by_cases hc2 : t = 2
      · refine lv_tableIn (tgt := 238) S.1 S.2.1 dL_law_33 (by rw [hc2]; decide) (by rw [hc2]; decide) (by rw [hc2]; rfl) (by decide) ?_
        exact lc_2 S hg hK hX hbl hR hS hl hcs (o2 M _ _ hI) h1 h2 kk
      by_cases hc3 : t = 3
      · refine lv_tableIn (tgt := 271) S.1 S.2.1 dL_law_33 (by rw [hc3]; decide) (by rw [hc3]; decide) (by rw [hc3]; rfl) (by decide) ?_
        exact lc_3 S hg hK hX hbl hR hS hl hcs (o3 M _ hI) h1 kk
      by_cases hc4 : t = 4
      · refine lv_tableIn (tgt := 294) S.1 S.2.1 dL_law_33 (by rw [hc4]; decide) (by rw [hc4]; decide) (by rw [hc4]; rfl) (by decide) ?_
        exact lc_4 S hg hK hX hbl hR hS hl hcs (o4 M _ hI) h1 kk
      by_cases hc5 : t = 5
      · refine lv_tableIn (tgt := 317) S.1 S.2.1 dL_law_33 (by rw [hc5]; decide) (by rw [hc5]; decide) (by rw [hc5]; rfl) (by decide) ?_
        exact lc_5 S hg hK hX hbl hR hS hl hcs (o5 M  hI)  kk
      by_cases hc6 : t = 6
      · refine lv_tableIn (tgt := 330) S.1 S.2.1 dL_law_33 (by rw [hc6]; decide) (by rw [hc6]; decide) (by rw [hc6]; rfl) (by decide) ?_
        exact lc_6 S hg hK hX hbl hR hS hl hcs (o6 M  hI)  kk
      by_cases hc7 : t = 7
      · refine lv_tableIn (tgt := 343) S.1 S.2.1 dL_law_33 (by rw [hc7]; decide) (by rw [hc7]; decide) (by rw [hc7]; rfl) (by decide) ?_
        exact lc_7 S hg hK hX hbl hR hS hl hcs (o7 M _ _ hI) h1 h2 kk
      by_cases hc8 : t = 8
      · refine lv_tableIn (tgt := 376) S.1 S.2.1 dL_law_33 (by rw [hc8]; decide) (by rw [hc8]; decide) (by rw [hc8]; rfl) (by decide) ?_
        exact lc_8 S hg hK hX hbl hR hS hl hcs (o8 M _ _ hI) h1 h2 kk
      by_cases hc9 : t = 9
      · refine lv_tableIn (tgt := 409) S.1 S.2.1 dL_law_33 (by rw [hc9]; decide) (by rw [hc9]; decide) (by rw [hc9]; rfl) (by decide) ?_
        exact lc_9 S hg hK hX hbl hR hS hl hcs (o9 M _ _ _ hI) h1 h2 h3 kk
      by_cases hc10 : t = 10
      · refine lv_tableIn (tgt := 452) S.1 S.2.1 dL_law_33 (by rw [hc10]; decide) (by rw [hc10]; decide) (by rw [hc10]; rfl) (by decide) ?_
        exact lc_10 S hg hK hX hbl hR hS hl hcs (o10 M _ hI) h1 kk
      by_cases hc11 : t = 11
      · refine lv_tableIn (tgt := 475) S.1 S.2.1 dL_law_33 (by rw [hc11]; decide) (by rw [hc11]; decide) (by rw [hc11]; rfl) (by decide) ?_
        exact lc_11 S hg hK hX hbl hR hS hl hcs (o11 M _ _ hI) h1 h2 kk
      by_cases hc12 : t = 12
      · refine lv_tableIn (tgt := 508) S.1 S.2.1 dL_law_33 (by rw [hc12]; decide) (by rw [hc12]; decide) (by rw [hc12]; rfl) (by decide) ?_
        exact lc_12 S hg hK hX hbl hR hS hl hcs (o12 M _ hI) h1 kk
      by_cases hc13 : t = 13
      · refine lv_tableIn (tgt := 531) S.1 S.2.1 dL_law_33 (by rw [hc13]; decide) (by rw [hc13]; decide) (by rw [hc13]; rfl) (by decide) ?_
        exact lc_13 S hg hK hX hbl hR hS hl hcs (o13 M _ _ hI) h1 h2 kk
      by_cases hc14 : t = 14
      · refine lv_tableIn (tgt := 564) S.1 S.2.1 dL_law_33 (by rw [hc14]; decide) (by rw [hc14]; decide) (by rw [hc14]; rfl) (by decide) ?_
        exact lc_14 S hg hK hX hbl hR hS hl hcs (o14 M _ _ _ hI) h1 h2 h3 kk
      by_cases hc15 : t = 15
      · refine lv_tableIn (tgt := 607) S.1 S.2.1 dL_law_33 (by rw [hc15]; decide) (by rw [hc15]; decide) (by rw [hc15]; rfl) (by decide) ?_
        exact lc_15 S hg hK hX hbl hR hS hl hcs (o15 M _ hI) h1 h2 kk
      by_cases hc16 : t = 16
      · refine lv_tableIn (tgt := 660) S.1 S.2.1 dL_law_33 (by rw [hc16]; decide) (by rw [hc16]; decide) (by rw [hc16]; rfl) (by decide) ?_
        exact lc_16 S hg hK hX hbl hR hS hl hcs (o16 M  hI)  kk
      by_cases hc17 : t = 17
      · refine lv_tableIn (tgt := 673) S.1 S.2.1 dL_law_33 (by rw [hc17]; decide) (by rw [hc17]; decide) (by rw [hc17]; rfl) (by decide) ?_
        exact lc_17 S hg hK hX hbl hR hS hl hcs (o17 M  hI)  kk
      by_cases hc18 : t = 18
      · refine lv_tableIn (tgt := 686) S.1 S.2.1 dL_law_33 (by rw [hc18]; decide) (by rw [hc18]; decide) (by rw [hc18]; rfl) (by decide) ?_
        exact lc_18 S hg hK hX hbl hR hS hl hcs (o18 M  hI)  kk
      by_cases hc19 : t = 19
      · refine lv_tableIn (tgt := 699) S.1 S.2.1 dL_law_33 (by rw [hc19]; decide) (by rw [hc19]; decide) (by rw [hc19]; rfl) (by decide) ?_
        exact lc_19 S hg hK hX hbl hR hS hl hcs (o19 M _ hI) h1 kk
      by_cases hc20 : t = 20
      · refine lv_tableIn (tgt := 722) S.1 S.2.1 dL_law_33 (by rw [hc20]; decide) (by rw [hc20]; decide) (by rw [hc20]; rfl) (by decide) ?_
        exact lc_20 S hg hK hX hbl hR hS hl hcs (o20 M _ hI) h1 kk
      refine lv_tableOut (tgt := 745) S.1 S.2.1 dL_law_33 (by have hn0 := z_ne hc0 (n := 0) rfl; have hn1 := z_ne hc1 (n := 1) rfl; have hn2 := z_ne hc2 (n := 2) rfl; have hn3 := z_ne hc3 (n := 3) rfl; have hn4 := z_ne hc4 (n := 4) rfl; have hn5 := z_ne hc5 (n := 5) rfl; have hn6 := z_ne hc6 (n := 6) rfl; have hn7 := z_ne hc7 (n := 7) rfl; have hn8 := z_ne hc8 (n := 8) rfl; have hn9 := z_ne hc9 (n := 9) rfl; have hn10 := z_ne hc10 (n := 10) rfl; have hn11 := z_ne hc11 (n := 11) rfl; have hn12 := z_ne hc12 (n := 12) rfl; have hn13 := z_ne hc13 (n := 13) rfl; have hn14 := z_ne hc14 (n := 14) rfl; have hn15 := z_ne hc15 (n := 15) rfl; have hn16 := z_ne hc16 (n := 16) rfl; have hn17 := z_ne hc17 (n := 17) rfl; have hn18 := z_ne hc18 (n := 18) rfl; have hn19 := z_ne hc19 (n := 19) rfl; have hn20 := z_ne hc20 (n := 20) rfl; omega) (by decide) ?_
      exact kk M H locs hI hR hS
end ZLAW
