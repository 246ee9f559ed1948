theorem d_L_0 : decode code 0 = .ok (.new 7, 3) := by decide +kernel
theorem d_L_3 : decode code 3 = .ok (.dup, 1) := by decide +kernel
theorem d_L_4 : decode code 4 = .ok (.invokespecial 9, 3) := by decide +kernel
theorem d_L_7 : decode code 7 = .ok (.astore_n 1, 1) := by decide +kernel
theorem d_L_8 : decode code 8 = .ok (.new 10, 3) := by decide +kernel
theorem d_L_11 : decode code 11 = .ok (.dup, 1) := by decide +kernel
theorem d_L_12 : decode code 12 = .ok (.invokespecial 12, 3) := by decide +kernel
theorem d_L_15 : decode code 15 = .ok (.astore_n 2, 1) := by decide +kernel
theorem d_L_16 : decode code 16 = .ok (.iconst 0, 1) := by decide +kernel
theorem d_L_17 : decode code 17 = .ok (.istore_n 3, 1) := by decide +kernel
theorem d_L_18 : decode code 18 = .ok (.iload_n 3, 1) := by decide +kernel
theorem d_L_19 : decode code 19 = .ok (.aload_n 0, 1) := by decide +kernel
theorem d_L_20 : decode code 20 = .ok (.arraylength, 1) := by decide +kernel
theorem d_L_21 : decode code 21 = .ok (.bipush 6, 2) := by decide +kernel
theorem d_L_23 : decode code 23 = .ok (.isub, 1) := by decide +kernel
theorem d_L_24 : decode code 24 = .ok (.if_icmp .gt 619, 3) := by decide +kernel
theorem d_L_27 : decode code 27 = .ok (.aload_n 0, 1) := by decide +kernel
theorem d_L_28 : decode code 28 = .ok (.iload_n 3, 1) := by decide +kernel
theorem d_L_29 : decode code 29 = .ok (.iaload, 1) := by decide +kernel
theorem d_L_30 : decode code 30 = .ok (.bipush 31, 2) := by decide +kernel
theorem d_L_32 : decode code 32 = .ok (.iand, 1) := by decide +kernel
theorem d_L_33 : decode code 33 = .ok (.tableswitch 604 0 16 #[83, 146, 169, 202, 245, 278, 301, 324, 337, 370, 423, 446, 479, 512, 545, 558, 591], 83) := by decide +kernel
theorem d_L_116 : decode code 116 = .ok (.aload_n 1, 1) := by decide +kernel
theorem d_L_117 : decode code 117 = .ok (.aload_n 0, 1) := by decide +kernel
theorem d_L_118 : decode code 118 = .ok (.iload_n 3, 1) := by decide +kernel
theorem d_L_119 : decode code 119 = .ok (.iconst 1, 1) := by decide +kernel
theorem d_L_120 : decode code 120 = .ok (.iadd, 1) := by decide +kernel
theorem d_L_121 : decode code 121 = .ok (.iaload, 1) := by decide +kernel
theorem d_L_122 : decode code 122 = .ok (.aload_n 0, 1) := by decide +kernel
theorem d_L_123 : decode code 123 = .ok (.iload_n 3, 1) := by decide +kernel
theorem d_L_124 : decode code 124 = .ok (.iconst 2, 1) := by decide +kernel
theorem d_L_125 : decode code 125 = .ok (.iadd, 1) := by decide +kernel
theorem d_L_126 : decode code 126 = .ok (.iaload, 1) := by decide +kernel
theorem d_L_127 : decode code 127 = .ok (.aload_n 0, 1) := by decide +kernel
theorem d_L_128 : decode code 128 = .ok (.iload_n 3, 1) := by decide +kernel
theorem d_L_129 : decode code 129 = .ok (.iconst 3, 1) := by decide +kernel
theorem d_L_130 : decode code 130 = .ok (.iadd, 1) := by decide +kernel
theorem d_L_131 : decode code 131 = .ok (.iaload, 1) := by decide +kernel
theorem d_L_132 : decode code 132 = .ok (.aload_n 0, 1) := by decide +kernel
theorem d_L_133 : decode code 133 = .ok (.iload_n 3, 1) := by decide +kernel
theorem d_L_134 : decode code 134 = .ok (.iconst 4, 1) := by decide +kernel
theorem d_L_135 : decode code 135 = .ok (.iadd, 1) := by decide +kernel
theorem d_L_136 : decode code 136 = .ok (.iaload, 1) := by decide +kernel
theorem d_L_137 : decode code 137 = .ok (.aload_n 0, 1) := by decide +kernel
theorem d_L_138 : decode code 138 = .ok (.iload_n 3, 1) := by decide +kernel
theorem d_L_139 : decode code 139 = .ok (.iconst 5, 1) := by decide +kernel
theorem d_L_140 : decode code 140 = .ok (.iadd, 1) := by decide +kernel
theorem d_L_141 : decode code 141 = .ok (.iaload, 1) := by decide +kernel
theorem d_L_142 : decode code 142 = .ok (.invokevirtual 13, 3) := by decide +kernel
theorem d_L_145 : decode code 145 = .ok (.aload_n 2, 1) := by decide +kernel
theorem d_L_146 : decode code 146 = .ok (.aload_n 0, 1) := by decide +kernel
theorem d_L_147 : decode code 147 = .ok (.iload_n 3, 1) := by decide +kernel
theorem d_L_148 : decode code 148 = .ok (.iconst 1, 1) := by decide +kernel
theorem d_L_149 : decode code 149 = .ok (.iadd, 1) := by decide +kernel
theorem d_L_150 : decode code 150 = .ok (.iaload, 1) := by decide +kernel
theorem d_L_151 : decode code 151 = .ok (.aload_n 0, 1) := by decide +kernel
theorem d_L_152 : decode code 152 = .ok (.iload_n 3, 1) := by decide +kernel
theorem d_L_153 : decode code 153 = .ok (.iconst 2, 1) := by decide +kernel
theorem d_L_154 : decode code 154 = .ok (.iadd, 1) := by decide +kernel
theorem d_L_155 : decode code 155 = .ok (.iaload, 1) := by decide +kernel
theorem d_L_156 : decode code 156 = .ok (.aload_n 0, 1) := by decide +kernel
theorem d_L_157 : decode code 157 = .ok (.iload_n 3, 1) := by decide +kernel
theorem d_L_158 : decode code 158 = .ok (.iconst 3, 1) := by decide +kernel
theorem d_L_159 : decode code 159 = .ok (.iadd, 1) := by decide +kernel
theorem d_L_160 : decode code 160 = .ok (.iaload, 1) := by decide +kernel
theorem d_L_161 : decode code 161 = .ok (.aload_n 0, 1) := by decide +kernel
theorem d_L_162 : decode code 162 = .ok (.iload_n 3, 1) := by decide +kernel
theorem d_L_163 : decode code 163 = .ok (.iconst 4, 1) := by decide +kernel
theorem d_L_164 : decode code 164 = .ok (.iadd, 1) := by decide +kernel
theorem d_L_165 : decode code 165 = .ok (.iaload, 1) := by decide +kernel
theorem d_L_166 : decode code 166 = .ok (.aload_n 0, 1) := by decide +kernel
theorem d_L_167 : decode code 167 = .ok (.iload_n 3, 1) := by decide +kernel
theorem d_L_168 : decode code 168 = .ok (.iconst 5, 1) := by decide +kernel
theorem d_L_169 : decode code 169 = .ok (.iadd, 1) := by decide +kernel
theorem d_L_170 : decode code 170 = .ok (.iaload, 1) := by decide +kernel
theorem d_L_171 : decode code 171 = .ok (.invokevirtual 17, 3) := by decide +kernel
theorem d_L_174 : decode code 174 = .ok (.if_icmp .eq 463, 3) := by decide +kernel
theorem d_L_177 : decode code 177 = .ok (.iconst 0, 1) := by decide +kernel
theorem d_L_178 : decode code 178 = .ok (.ireturn, 1) := by decide +kernel
theorem d_L_179 : decode code 179 = .ok (.aload_n 1, 1) := by decide +kernel
theorem d_L_180 : decode code 180 = .ok (.aload_n 0, 1) := by decide +kernel
theorem d_L_181 : decode code 181 = .ok (.iload_n 3, 1) := by decide +kernel
theorem d_L_182 : decode code 182 = .ok (.iconst 1, 1) := by decide +kernel
theorem d_L_183 : decode code 183 = .ok (.iadd, 1) := by decide +kernel
theorem d_L_184 : decode code 184 = .ok (.iaload, 1) := by decide +kernel
theorem d_L_185 : decode code 185 = .ok (.invokevirtual 18, 3) := by decide +kernel
theorem d_L_188 : decode code 188 = .ok (.aload_n 2, 1) := by decide +kernel
theorem d_L_189 : decode code 189 = .ok (.aload_n 0, 1) := by decide +kernel
theorem d_L_190 : decode code 190 = .ok (.iload_n 3, 1) := by decide +kernel
theorem d_L_191 : decode code 191 = .ok (.iconst 1, 1) := by decide +kernel
theorem d_L_192 : decode code 192 = .ok (.iadd, 1) := by decide +kernel
theorem d_L_193 : decode code 193 = .ok (.iaload, 1) := by decide +kernel
theorem d_L_194 : decode code 194 = .ok (.invokevirtual 22, 3) := by decide +kernel
theorem d_L_197 : decode code 197 = .ok (.if_icmp .eq 440, 3) := by decide +kernel
theorem d_L_200 : decode code 200 = .ok (.iconst 0, 1) := by decide +kernel
theorem d_L_201 : decode code 201 = .ok (.ireturn, 1) := by decide +kernel
theorem d_L_202 : decode code 202 = .ok (.aload_n 1, 1) := by decide +kernel
theorem d_L_203 : decode code 203 = .ok (.aload_n 0, 1) := by decide +kernel
theorem d_L_204 : decode code 204 = .ok (.iload_n 3, 1) := by decide +kernel
theorem d_L_205 : decode code 205 = .ok (.iconst 1, 1) := by decide +kernel
theorem d_L_206 : decode code 206 = .ok (.iadd, 1) := by decide +kernel
theorem d_L_207 : decode code 207 = .ok (.iaload, 1) := by decide +kernel
theorem d_L_208 : decode code 208 = .ok (.aload_n 0, 1) := by decide +kernel
theorem d_L_209 : decode code 209 = .ok (.iload_n 3, 1) := by decide +kernel
theorem d_L_210 : decode code 210 = .ok (.iconst 2, 1) := by decide +kernel
theorem d_L_211 : decode code 211 = .ok (.iadd, 1) := by decide +kernel
theorem d_L_212 : decode code 212 = .ok (.iaload, 1) := by decide +kernel
theorem d_L_213 : decode code 213 = .ok (.invokevirtual 23, 3) := by decide +kernel
theorem d_L_216 : decode code 216 = .ok (.aload_n 2, 1) := by decide +kernel
theorem d_L_217 : decode code 217 = .ok (.aload_n 0, 1) := by decide +kernel
theorem d_L_218 : decode code 218 = .ok (.iload_n 3, 1) := by decide +kernel
theorem d_L_219 : decode code 219 = .ok (.iconst 1, 1) := by decide +kernel
theorem d_L_220 : decode code 220 = .ok (.iadd, 1) := by decide +kernel
theorem d_L_221 : decode code 221 = .ok (.iaload, 1) := by decide +kernel
theorem d_L_222 : decode code 222 = .ok (.aload_n 0, 1) := by decide +kernel
theorem d_L_223 : decode code 223 = .ok (.iload_n 3, 1) := by decide +kernel
theorem d_L_224 : decode code 224 = .ok (.iconst 2, 1) := by decide +kernel
theorem d_L_225 : decode code 225 = .ok (.iadd, 1) := by decide +kernel
theorem d_L_226 : decode code 226 = .ok (.iaload, 1) := by decide +kernel
theorem d_L_227 : decode code 227 = .ok (.invokevirtual 27, 3) := by decide +kernel
theorem d_L_230 : decode code 230 = .ok (.if_icmp .eq 407, 3) := by decide +kernel
theorem d_L_233 : decode code 233 = .ok (.iconst 0, 1) := by decide +kernel
theorem d_L_234 : decode code 234 = .ok (.ireturn, 1) := by decide +kernel
theorem d_L_235 : decode code 235 = .ok (.aload_n 1, 1) := by decide +kernel
theorem d_L_236 : decode code 236 = .ok (.aload_n 0, 1) := by decide +kernel
theorem d_L_237 : decode code 237 = .ok (.iload_n 3, 1) := by decide +kernel
theorem d_L_238 : decode code 238 = .ok (.iconst 1, 1) := by decide +kernel
theorem d_L_239 : decode code 239 = .ok (.iadd, 1) := by decide +kernel
theorem d_L_240 : decode code 240 = .ok (.iaload, 1) := by decide +kernel
theorem d_L_241 : decode code 241 = .ok (.aload_n 0, 1) := by decide +kernel
theorem d_L_242 : decode code 242 = .ok (.iload_n 3, 1) := by decide +kernel
theorem d_L_243 : decode code 243 = .ok (.iconst 2, 1) := by decide +kernel
theorem d_L_244 : decode code 244 = .ok (.iadd, 1) := by decide +kernel
theorem d_L_245 : decode code 245 = .ok (.iaload, 1) := by decide +kernel
theorem d_L_246 : decode code 246 = .ok (.aload_n 0, 1) := by decide +kernel
theorem d_L_247 : decode code 247 = .ok (.iload_n 3, 1) := by decide +kernel
theorem d_L_248 : decode code 248 = .ok (.iconst 3, 1) := by decide +kernel
theorem d_L_249 : decode code 249 = .ok (.iadd, 1) := by decide +kernel
theorem d_L_250 : decode code 250 = .ok (.iaload, 1) := by decide +kernel
theorem d_L_251 : decode code 251 = .ok (.invokevirtual 28, 3) := by decide +kernel
theorem d_L_254 : decode code 254 = .ok (.aload_n 2, 1) := by decide +kernel
theorem d_L_255 : decode code 255 = .ok (.aload_n 0, 1) := by decide +kernel
theorem d_L_256 : decode code 256 = .ok (.iload_n 3, 1) := by decide +kernel
theorem d_L_257 : decode code 257 = .ok (.iconst 1, 1) := by decide +kernel
theorem d_L_258 : decode code 258 = .ok (.iadd, 1) := by decide +kernel
theorem d_L_259 : decode code 259 = .ok (.iaload, 1) := by decide +kernel
theorem d_L_260 : decode code 260 = .ok (.aload_n 0, 1) := by decide +kernel
theorem d_L_261 : decode code 261 = .ok (.iload_n 3, 1) := by decide +kernel
theorem d_L_262 : decode code 262 = .ok (.iconst 2, 1) := by decide +kernel
theorem d_L_263 : decode code 263 = .ok (.iadd, 1) := by decide +kernel
theorem d_L_264 : decode code 264 = .ok (.iaload, 1) := by decide +kernel
theorem d_L_265 : decode code 265 = .ok (.aload_n 0, 1) := by decide +kernel
theorem d_L_266 : decode code 266 = .ok (.iload_n 3, 1) := by decide +kernel
theorem d_L_267 : decode code 267 = .ok (.iconst 3, 1) := by decide +kernel
theorem d_L_268 : decode code 268 = .ok (.iadd, 1) := by decide +kernel
theorem d_L_269 : decode code 269 = .ok (.iaload, 1) := by decide +kernel
theorem d_L_270 : decode code 270 = .ok (.invokevirtual 32, 3) := by decide +kernel
theorem d_L_273 : decode code 273 = .ok (.if_icmp .eq 364, 3) := by decide +kernel
theorem d_L_276 : decode code 276 = .ok (.iconst 0, 1) := by decide +kernel
theorem d_L_277 : decode code 277 = .ok (.ireturn, 1) := by decide +kernel
theorem d_L_278 : decode code 278 = .ok (.aload_n 1, 1) := by decide +kernel
theorem d_L_279 : decode code 279 = .ok (.aload_n 0, 1) := by decide +kernel
theorem d_L_280 : decode code 280 = .ok (.iload_n 3, 1) := by decide +kernel
theorem d_L_281 : decode code 281 = .ok (.iconst 1, 1) := by decide +kernel
theorem d_L_282 : decode code 282 = .ok (.iadd, 1) := by decide +kernel
theorem d_L_283 : decode code 283 = .ok (.iaload, 1) := by decide +kernel
theorem d_L_284 : decode code 284 = .ok (.aload_n 0, 1) := by decide +kernel
theorem d_L_285 : decode code 285 = .ok (.iload_n 3, 1) := by decide +kernel
theorem d_L_286 : decode code 286 = .ok (.iconst 2, 1) := by decide +kernel
theorem d_L_287 : decode code 287 = .ok (.iadd, 1) := by decide +kernel
theorem d_L_288 : decode code 288 = .ok (.iaload, 1) := by decide +kernel
theorem d_L_289 : decode code 289 = .ok (.invokevirtual 33, 3) := by decide +kernel
theorem d_L_292 : decode code 292 = .ok (.aload_n 2, 1) := by decide +kernel
theorem d_L_293 : decode code 293 = .ok (.aload_n 0, 1) := by decide +kernel
theorem d_L_294 : decode code 294 = .ok (.iload_n 3, 1) := by decide +kernel
theorem d_L_295 : decode code 295 = .ok (.iconst 1, 1) := by decide +kernel
theorem d_L_296 : decode code 296 = .ok (.iadd, 1) := by decide +kernel
theorem d_L_297 : decode code 297 = .ok (.iaload, 1) := by decide +kernel
theorem d_L_298 : decode code 298 = .ok (.aload_n 0, 1) := by decide +kernel
theorem d_L_299 : decode code 299 = .ok (.iload_n 3, 1) := by decide +kernel
theorem d_L_300 : decode code 300 = .ok (.iconst 2, 1) := by decide +kernel
theorem d_L_301 : decode code 301 = .ok (.iadd, 1) := by decide +kernel
theorem d_L_302 : decode code 302 = .ok (.iaload, 1) := by decide +kernel
theorem d_L_303 : decode code 303 = .ok (.invokevirtual 37, 3) := by decide +kernel
theorem d_L_306 : decode code 306 = .ok (.if_icmp .eq 331, 3) := by decide +kernel
theorem d_L_309 : decode code 309 = .ok (.iconst 0, 1) := by decide +kernel
theorem d_L_310 : decode code 310 = .ok (.ireturn, 1) := by decide +kernel
theorem d_L_311 : decode code 311 = .ok (.aload_n 1, 1) := by decide +kernel
theorem d_L_312 : decode code 312 = .ok (.aload_n 0, 1) := by decide +kernel
theorem d_L_313 : decode code 313 = .ok (.iload_n 3, 1) := by decide +kernel
theorem d_L_314 : decode code 314 = .ok (.iconst 1, 1) := by decide +kernel
theorem d_L_315 : decode code 315 = .ok (.iadd, 1) := by decide +kernel
theorem d_L_316 : decode code 316 = .ok (.iaload, 1) := by decide +kernel
theorem d_L_317 : decode code 317 = .ok (.invokevirtual 38, 3) := by decide +kernel
theorem d_L_320 : decode code 320 = .ok (.aload_n 2, 1) := by decide +kernel
theorem d_L_321 : decode code 321 = .ok (.aload_n 0, 1) := by decide +kernel
theorem d_L_322 : decode code 322 = .ok (.iload_n 3, 1) := by decide +kernel
theorem d_L_323 : decode code 323 = .ok (.iconst 1, 1) := by decide +kernel
theorem d_L_324 : decode code 324 = .ok (.iadd, 1) := by decide +kernel
theorem d_L_325 : decode code 325 = .ok (.iaload, 1) := by decide +kernel
theorem d_L_326 : decode code 326 = .ok (.invokevirtual 42, 3) := by decide +kernel
theorem d_L_329 : decode code 329 = .ok (.if_icmp .eq 308, 3) := by decide +kernel
theorem d_L_332 : decode code 332 = .ok (.iconst 0, 1) := by decide +kernel
theorem d_L_333 : decode code 333 = .ok (.ireturn, 1) := by decide +kernel
theorem d_L_334 : decode code 334 = .ok (.aload_n 1, 1) := by decide +kernel
theorem d_L_335 : decode code 335 = .ok (.aload_n 0, 1) := by decide +kernel
theorem d_L_336 : decode code 336 = .ok (.iload_n 3, 1) := by decide +kernel
theorem d_L_337 : decode code 337 = .ok (.iconst 1, 1) := by decide +kernel
theorem d_L_338 : decode code 338 = .ok (.iadd, 1) := by decide +kernel
theorem d_L_339 : decode code 339 = .ok (.iaload, 1) := by decide +kernel
theorem d_L_340 : decode code 340 = .ok (.invokevirtual 43, 3) := by decide +kernel
theorem d_L_343 : decode code 343 = .ok (.aload_n 2, 1) := by decide +kernel
theorem d_L_344 : decode code 344 = .ok (.aload_n 0, 1) := by decide +kernel
theorem d_L_345 : decode code 345 = .ok (.iload_n 3, 1) := by decide +kernel
theorem d_L_346 : decode code 346 = .ok (.iconst 1, 1) := by decide +kernel
theorem d_L_347 : decode code 347 = .ok (.iadd, 1) := by decide +kernel
theorem d_L_348 : decode code 348 = .ok (.iaload, 1) := by decide +kernel
theorem d_L_349 : decode code 349 = .ok (.invokevirtual 46, 3) := by decide +kernel
theorem d_L_352 : decode code 352 = .ok (.if_icmp .eq 285, 3) := by decide +kernel
theorem d_L_355 : decode code 355 = .ok (.iconst 0, 1) := by decide +kernel
theorem d_L_356 : decode code 356 = .ok (.ireturn, 1) := by decide +kernel
theorem d_L_357 : decode code 357 = .ok (.aload_n 1, 1) := by decide +kernel
theorem d_L_358 : decode code 358 = .ok (.invokevirtual 47, 3) := by decide +kernel
theorem d_L_361 : decode code 361 = .ok (.aload_n 2, 1) := by decide +kernel
theorem d_L_362 : decode code 362 = .ok (.invokevirtual 51, 3) := by decide +kernel
theorem d_L_365 : decode code 365 = .ok (.if_icmp .eq 272, 3) := by decide +kernel
theorem d_L_368 : decode code 368 = .ok (.iconst 0, 1) := by decide +kernel
theorem d_L_369 : decode code 369 = .ok (.ireturn, 1) := by decide +kernel
theorem d_L_370 : decode code 370 = .ok (.aload_n 1, 1) := by decide +kernel
theorem d_L_371 : decode code 371 = .ok (.aload_n 0, 1) := by decide +kernel
theorem d_L_372 : decode code 372 = .ok (.iload_n 3, 1) := by decide +kernel
theorem d_L_373 : decode code 373 = .ok (.iconst 1, 1) := by decide +kernel
theorem d_L_374 : decode code 374 = .ok (.iadd, 1) := by decide +kernel
theorem d_L_375 : decode code 375 = .ok (.iaload, 1) := by decide +kernel
theorem d_L_376 : decode code 376 = .ok (.aload_n 0, 1) := by decide +kernel
theorem d_L_377 : decode code 377 = .ok (.iload_n 3, 1) := by decide +kernel
theorem d_L_378 : decode code 378 = .ok (.iconst 2, 1) := by decide +kernel
theorem d_L_379 : decode code 379 = .ok (.iadd, 1) := by decide +kernel
theorem d_L_380 : decode code 380 = .ok (.iaload, 1) := by decide +kernel
theorem d_L_381 : decode code 381 = .ok (.invokevirtual 52, 3) := by decide +kernel
theorem d_L_384 : decode code 384 = .ok (.aload_n 2, 1) := by decide +kernel
theorem d_L_385 : decode code 385 = .ok (.aload_n 0, 1) := by decide +kernel
theorem d_L_386 : decode code 386 = .ok (.iload_n 3, 1) := by decide +kernel
theorem d_L_387 : decode code 387 = .ok (.iconst 1, 1) := by decide +kernel
theorem d_L_388 : decode code 388 = .ok (.iadd, 1) := by decide +kernel
theorem d_L_389 : decode code 389 = .ok (.iaload, 1) := by decide +kernel
theorem d_L_390 : decode code 390 = .ok (.aload_n 0, 1) := by decide +kernel
theorem d_L_391 : decode code 391 = .ok (.iload_n 3, 1) := by decide +kernel
theorem d_L_392 : decode code 392 = .ok (.iconst 2, 1) := by decide +kernel
theorem d_L_393 : decode code 393 = .ok (.iadd, 1) := by decide +kernel
theorem d_L_394 : decode code 394 = .ok (.iaload, 1) := by decide +kernel
theorem d_L_395 : decode code 395 = .ok (.invokevirtual 55, 3) := by decide +kernel
theorem d_L_398 : decode code 398 = .ok (.if_icmp .eq 239, 3) := by decide +kernel
theorem d_L_401 : decode code 401 = .ok (.iconst 0, 1) := by decide +kernel
theorem d_L_402 : decode code 402 = .ok (.ireturn, 1) := by decide +kernel
theorem d_L_403 : decode code 403 = .ok (.aload_n 1, 1) := by decide +kernel
theorem d_L_404 : decode code 404 = .ok (.aload_n 0, 1) := by decide +kernel
theorem d_L_405 : decode code 405 = .ok (.iload_n 3, 1) := by decide +kernel
theorem d_L_406 : decode code 406 = .ok (.iconst 1, 1) := by decide +kernel
theorem d_L_407 : decode code 407 = .ok (.iadd, 1) := by decide +kernel
theorem d_L_408 : decode code 408 = .ok (.iaload, 1) := by decide +kernel
theorem d_L_409 : decode code 409 = .ok (.aload_n 0, 1) := by decide +kernel
theorem d_L_410 : decode code 410 = .ok (.iload_n 3, 1) := by decide +kernel
theorem d_L_411 : decode code 411 = .ok (.iconst 2, 1) := by decide +kernel
theorem d_L_412 : decode code 412 = .ok (.iadd, 1) := by decide +kernel
theorem d_L_413 : decode code 413 = .ok (.iaload, 1) := by decide +kernel
theorem d_L_414 : decode code 414 = .ok (.aload_n 0, 1) := by decide +kernel
theorem d_L_415 : decode code 415 = .ok (.iload_n 3, 1) := by decide +kernel
theorem d_L_416 : decode code 416 = .ok (.iconst 3, 1) := by decide +kernel
theorem d_L_417 : decode code 417 = .ok (.iadd, 1) := by decide +kernel
theorem d_L_418 : decode code 418 = .ok (.iaload, 1) := by decide +kernel
theorem d_L_419 : decode code 419 = .ok (.aload_n 0, 1) := by decide +kernel
theorem d_L_420 : decode code 420 = .ok (.iload_n 3, 1) := by decide +kernel
theorem d_L_421 : decode code 421 = .ok (.iconst 4, 1) := by decide +kernel
theorem d_L_422 : decode code 422 = .ok (.iadd, 1) := by decide +kernel
theorem d_L_423 : decode code 423 = .ok (.iaload, 1) := by decide +kernel
theorem d_L_424 : decode code 424 = .ok (.invokevirtual 56, 3) := by decide +kernel
theorem d_L_427 : decode code 427 = .ok (.aload_n 2, 1) := by decide +kernel
theorem d_L_428 : decode code 428 = .ok (.aload_n 0, 1) := by decide +kernel
theorem d_L_429 : decode code 429 = .ok (.iload_n 3, 1) := by decide +kernel
theorem d_L_430 : decode code 430 = .ok (.iconst 1, 1) := by decide +kernel
theorem d_L_431 : decode code 431 = .ok (.iadd, 1) := by decide +kernel
theorem d_L_432 : decode code 432 = .ok (.iaload, 1) := by decide +kernel
theorem d_L_433 : decode code 433 = .ok (.aload_n 0, 1) := by decide +kernel
theorem d_L_434 : decode code 434 = .ok (.iload_n 3, 1) := by decide +kernel
theorem d_L_435 : decode code 435 = .ok (.iconst 2, 1) := by decide +kernel
theorem d_L_436 : decode code 436 = .ok (.iadd, 1) := by decide +kernel
theorem d_L_437 : decode code 437 = .ok (.iaload, 1) := by decide +kernel
theorem d_L_438 : decode code 438 = .ok (.aload_n 0, 1) := by decide +kernel
theorem d_L_439 : decode code 439 = .ok (.iload_n 3, 1) := by decide +kernel
theorem d_L_440 : decode code 440 = .ok (.iconst 3, 1) := by decide +kernel
theorem d_L_441 : decode code 441 = .ok (.iadd, 1) := by decide +kernel
theorem d_L_442 : decode code 442 = .ok (.iaload, 1) := by decide +kernel
theorem d_L_443 : decode code 443 = .ok (.aload_n 0, 1) := by decide +kernel
theorem d_L_444 : decode code 444 = .ok (.iload_n 3, 1) := by decide +kernel
theorem d_L_445 : decode code 445 = .ok (.iconst 4, 1) := by decide +kernel
theorem d_L_446 : decode code 446 = .ok (.iadd, 1) := by decide +kernel
theorem d_L_447 : decode code 447 = .ok (.iaload, 1) := by decide +kernel
theorem d_L_448 : decode code 448 = .ok (.invokevirtual 60, 3) := by decide +kernel
theorem d_L_451 : decode code 451 = .ok (.if_icmp .eq 186, 3) := by decide +kernel
theorem d_L_454 : decode code 454 = .ok (.iconst 0, 1) := by decide +kernel
theorem d_L_455 : decode code 455 = .ok (.ireturn, 1) := by decide +kernel
theorem d_L_456 : decode code 456 = .ok (.aload_n 1, 1) := by decide +kernel
theorem d_L_457 : decode code 457 = .ok (.aload_n 0, 1) := by decide +kernel
theorem d_L_458 : decode code 458 = .ok (.iload_n 3, 1) := by decide +kernel
theorem d_L_459 : decode code 459 = .ok (.iconst 1, 1) := by decide +kernel
theorem d_L_460 : decode code 460 = .ok (.iadd, 1) := by decide +kernel
theorem d_L_461 : decode code 461 = .ok (.iaload, 1) := by decide +kernel
theorem d_L_462 : decode code 462 = .ok (.invokevirtual 61, 3) := by decide +kernel
theorem d_L_465 : decode code 465 = .ok (.aload_n 2, 1) := by decide +kernel
theorem d_L_466 : decode code 466 = .ok (.aload_n 0, 1) := by decide +kernel
theorem d_L_467 : decode code 467 = .ok (.iload_n 3, 1) := by decide +kernel
theorem d_L_468 : decode code 468 = .ok (.iconst 1, 1) := by decide +kernel
theorem d_L_469 : decode code 469 = .ok (.iadd, 1) := by decide +kernel
theorem d_L_470 : decode code 470 = .ok (.iaload, 1) := by decide +kernel
theorem d_L_471 : decode code 471 = .ok (.invokevirtual 64, 3) := by decide +kernel
theorem d_L_474 : decode code 474 = .ok (.if_icmp .eq 163, 3) := by decide +kernel
theorem d_L_477 : decode code 477 = .ok (.iconst 0, 1) := by decide +kernel
theorem d_L_478 : decode code 478 = .ok (.ireturn, 1) := by decide +kernel
theorem d_L_479 : decode code 479 = .ok (.aload_n 1, 1) := by decide +kernel
theorem d_L_480 : decode code 480 = .ok (.aload_n 0, 1) := by decide +kernel
theorem d_L_481 : decode code 481 = .ok (.iload_n 3, 1) := by decide +kernel
theorem d_L_482 : decode code 482 = .ok (.iconst 1, 1) := by decide +kernel
theorem d_L_483 : decode code 483 = .ok (.iadd, 1) := by decide +kernel
theorem d_L_484 : decode code 484 = .ok (.iaload, 1) := by decide +kernel
theorem d_L_485 : decode code 485 = .ok (.aload_n 0, 1) := by decide +kernel
theorem d_L_486 : decode code 486 = .ok (.iload_n 3, 1) := by decide +kernel
theorem d_L_487 : decode code 487 = .ok (.iconst 2, 1) := by decide +kernel
theorem d_L_488 : decode code 488 = .ok (.iadd, 1) := by decide +kernel
theorem d_L_489 : decode code 489 = .ok (.iaload, 1) := by decide +kernel
theorem d_L_490 : decode code 490 = .ok (.invokevirtual 65, 3) := by decide +kernel
theorem d_L_493 : decode code 493 = .ok (.aload_n 2, 1) := by decide +kernel
theorem d_L_494 : decode code 494 = .ok (.aload_n 0, 1) := by decide +kernel
theorem d_L_495 : decode code 495 = .ok (.iload_n 3, 1) := by decide +kernel
theorem d_L_496 : decode code 496 = .ok (.iconst 1, 1) := by decide +kernel
theorem d_L_497 : decode code 497 = .ok (.iadd, 1) := by decide +kernel
theorem d_L_498 : decode code 498 = .ok (.iaload, 1) := by decide +kernel
theorem d_L_499 : decode code 499 = .ok (.aload_n 0, 1) := by decide +kernel
theorem d_L_500 : decode code 500 = .ok (.iload_n 3, 1) := by decide +kernel
theorem d_L_501 : decode code 501 = .ok (.iconst 2, 1) := by decide +kernel
theorem d_L_502 : decode code 502 = .ok (.iadd, 1) := by decide +kernel
theorem d_L_503 : decode code 503 = .ok (.iaload, 1) := by decide +kernel
theorem d_L_504 : decode code 504 = .ok (.invokevirtual 68, 3) := by decide +kernel
theorem d_L_507 : decode code 507 = .ok (.if_icmp .eq 130, 3) := by decide +kernel
theorem d_L_510 : decode code 510 = .ok (.iconst 0, 1) := by decide +kernel
theorem d_L_511 : decode code 511 = .ok (.ireturn, 1) := by decide +kernel
theorem d_L_512 : decode code 512 = .ok (.aload_n 1, 1) := by decide +kernel
theorem d_L_513 : decode code 513 = .ok (.aload_n 0, 1) := by decide +kernel
theorem d_L_514 : decode code 514 = .ok (.iload_n 3, 1) := by decide +kernel
theorem d_L_515 : decode code 515 = .ok (.iconst 1, 1) := by decide +kernel
theorem d_L_516 : decode code 516 = .ok (.iadd, 1) := by decide +kernel
theorem d_L_517 : decode code 517 = .ok (.iaload, 1) := by decide +kernel
theorem d_L_518 : decode code 518 = .ok (.aload_n 0, 1) := by decide +kernel
theorem d_L_519 : decode code 519 = .ok (.iload_n 3, 1) := by decide +kernel
theorem d_L_520 : decode code 520 = .ok (.iconst 2, 1) := by decide +kernel
theorem d_L_521 : decode code 521 = .ok (.iadd, 1) := by decide +kernel
theorem d_L_522 : decode code 522 = .ok (.iaload, 1) := by decide +kernel
theorem d_L_523 : decode code 523 = .ok (.invokevirtual 69, 3) := by decide +kernel
theorem d_L_526 : decode code 526 = .ok (.aload_n 2, 1) := by decide +kernel
theorem d_L_527 : decode code 527 = .ok (.aload_n 0, 1) := by decide +kernel
theorem d_L_528 : decode code 528 = .ok (.iload_n 3, 1) := by decide +kernel
theorem d_L_529 : decode code 529 = .ok (.iconst 1, 1) := by decide +kernel
theorem d_L_530 : decode code 530 = .ok (.iadd, 1) := by decide +kernel
theorem d_L_531 : decode code 531 = .ok (.iaload, 1) := by decide +kernel
theorem d_L_532 : decode code 532 = .ok (.aload_n 0, 1) := by decide +kernel
theorem d_L_533 : decode code 533 = .ok (.iload_n 3, 1) := by decide +kernel
theorem d_L_534 : decode code 534 = .ok (.iconst 2, 1) := by decide +kernel
theorem d_L_535 : decode code 535 = .ok (.iadd, 1) := by decide +kernel
theorem d_L_536 : decode code 536 = .ok (.iaload, 1) := by decide +kernel
theorem d_L_537 : decode code 537 = .ok (.invokevirtual 72, 3) := by decide +kernel
theorem d_L_540 : decode code 540 = .ok (.if_icmp .eq 97, 3) := by decide +kernel
theorem d_L_543 : decode code 543 = .ok (.iconst 0, 1) := by decide +kernel
theorem d_L_544 : decode code 544 = .ok (.ireturn, 1) := by decide +kernel
theorem d_L_545 : decode code 545 = .ok (.aload_n 1, 1) := by decide +kernel
theorem d_L_546 : decode code 546 = .ok (.aload_n 0, 1) := by decide +kernel
theorem d_L_547 : decode code 547 = .ok (.iload_n 3, 1) := by decide +kernel
theorem d_L_548 : decode code 548 = .ok (.iconst 1, 1) := by decide +kernel
theorem d_L_549 : decode code 549 = .ok (.iadd, 1) := by decide +kernel
theorem d_L_550 : decode code 550 = .ok (.iaload, 1) := by decide +kernel
theorem d_L_551 : decode code 551 = .ok (.aload_n 0, 1) := by decide +kernel
theorem d_L_552 : decode code 552 = .ok (.iload_n 3, 1) := by decide +kernel
theorem d_L_553 : decode code 553 = .ok (.iconst 2, 1) := by decide +kernel
theorem d_L_554 : decode code 554 = .ok (.iadd, 1) := by decide +kernel
theorem d_L_555 : decode code 555 = .ok (.iaload, 1) := by decide +kernel
theorem d_L_556 : decode code 556 = .ok (.invokevirtual 73, 3) := by decide +kernel
theorem d_L_559 : decode code 559 = .ok (.aload_n 2, 1) := by decide +kernel
theorem d_L_560 : decode code 560 = .ok (.aload_n 0, 1) := by decide +kernel
theorem d_L_561 : decode code 561 = .ok (.iload_n 3, 1) := by decide +kernel
theorem d_L_562 : decode code 562 = .ok (.iconst 1, 1) := by decide +kernel
theorem d_L_563 : decode code 563 = .ok (.iadd, 1) := by decide +kernel
theorem d_L_564 : decode code 564 = .ok (.iaload, 1) := by decide +kernel
theorem d_L_565 : decode code 565 = .ok (.aload_n 0, 1) := by decide +kernel
theorem d_L_566 : decode code 566 = .ok (.iload_n 3, 1) := by decide +kernel
theorem d_L_567 : decode code 567 = .ok (.iconst 2, 1) := by decide +kernel
theorem d_L_568 : decode code 568 = .ok (.iadd, 1) := by decide +kernel
theorem d_L_569 : decode code 569 = .ok (.iaload, 1) := by decide +kernel
theorem d_L_570 : decode code 570 = .ok (.invokevirtual 76, 3) := by decide +kernel
theorem d_L_573 : decode code 573 = .ok (.if_icmp .eq 64, 3) := by decide +kernel
theorem d_L_576 : decode code 576 = .ok (.iconst 0, 1) := by decide +kernel
theorem d_L_577 : decode code 577 = .ok (.ireturn, 1) := by decide +kernel
theorem d_L_578 : decode code 578 = .ok (.aload_n 1, 1) := by decide +kernel
theorem d_L_579 : decode code 579 = .ok (.invokevirtual 77, 3) := by decide +kernel
theorem d_L_582 : decode code 582 = .ok (.aload_n 2, 1) := by decide +kernel
theorem d_L_583 : decode code 583 = .ok (.invokevirtual 80, 3) := by decide +kernel
theorem d_L_586 : decode code 586 = .ok (.if_icmp .eq 51, 3) := by decide +kernel
theorem d_L_589 : decode code 589 = .ok (.iconst 0, 1) := by decide +kernel
theorem d_L_590 : decode code 590 = .ok (.ireturn, 1) := by decide +kernel
theorem d_L_591 : decode code 591 = .ok (.aload_n 1, 1) := by decide +kernel
theorem d_L_592 : decode code 592 = .ok (.aload_n 0, 1) := by decide +kernel
theorem d_L_593 : decode code 593 = .ok (.iload_n 3, 1) := by decide +kernel
theorem d_L_594 : decode code 594 = .ok (.iconst 1, 1) := by decide +kernel
theorem d_L_595 : decode code 595 = .ok (.iadd, 1) := by decide +kernel
theorem d_L_596 : decode code 596 = .ok (.iaload, 1) := by decide +kernel
theorem d_L_597 : decode code 597 = .ok (.aload_n 0, 1) := by decide +kernel
theorem d_L_598 : decode code 598 = .ok (.iload_n 3, 1) := by decide +kernel
theorem d_L_599 : decode code 599 = .ok (.iconst 2, 1) := by decide +kernel
theorem d_L_600 : decode code 600 = .ok (.iadd, 1) := by decide +kernel
theorem d_L_601 : decode code 601 = .ok (.iaload, 1) := by decide +kernel
theorem d_L_602 : decode code 602 = .ok (.invokevirtual 81, 3) := by decide +kernel
theorem d_L_605 : decode code 605 = .ok (.aload_n 2, 1) := by decide +kernel
theorem d_L_606 : decode code 606 = .ok (.aload_n 0, 1) := by decide +kernel
theorem d_L_607 : decode code 607 = .ok (.iload_n 3, 1) := by decide +kernel
theorem d_L_608 : decode code 608 = .ok (.iconst 1, 1) := by decide +kernel
theorem d_L_609 : decode code 609 = .ok (.iadd, 1) := by decide +kernel
theorem d_L_610 : decode code 610 = .ok (.iaload, 1) := by decide +kernel
theorem d_L_611 : decode code 611 = .ok (.aload_n 0, 1) := by decide +kernel
theorem d_L_612 : decode code 612 = .ok (.iload_n 3, 1) := by decide +kernel
theorem d_L_613 : decode code 613 = .ok (.iconst 2, 1) := by decide +kernel
theorem d_L_614 : decode code 614 = .ok (.iadd, 1) := by decide +kernel
theorem d_L_615 : decode code 615 = .ok (.iaload, 1) := by decide +kernel
theorem d_L_616 : decode code 616 = .ok (.invokevirtual 84, 3) := by decide +kernel
theorem d_L_619 : decode code 619 = .ok (.if_icmp .eq 18, 3) := by decide +kernel
theorem d_L_622 : decode code 622 = .ok (.iconst 0, 1) := by decide +kernel
theorem d_L_623 : decode code 623 = .ok (.ireturn, 1) := by decide +kernel
theorem d_L_624 : decode code 624 = .ok (.aload_n 1, 1) := by decide +kernel
theorem d_L_625 : decode code 625 = .ok (.invokevirtual 85, 3) := by decide +kernel
theorem d_L_628 : decode code 628 = .ok (.aload_n 2, 1) := by decide +kernel
theorem d_L_629 : decode code 629 = .ok (.invokevirtual 88, 3) := by decide +kernel
theorem d_L_632 : decode code 632 = .ok (.if_icmp .eq 5, 3) := by decide +kernel
theorem d_L_635 : decode code 635 = .ok (.iconst 0, 1) := by decide +kernel
theorem d_L_636 : decode code 636 = .ok (.ireturn, 1) := by decide +kernel
theorem d_L_637 : decode code 637 = .ok (.iinc 3 6, 3) := by decide +kernel
theorem d_L_640 : decode code 640 = .ok (.goto (-622), 3) := by decide +kernel
theorem d_L_643 : decode code 643 = .ok (.iconst 1, 1) := by decide +kernel
theorem d_L_644 : decode code 644 = .ok (.ireturn, 1) := by decide +kernel
