theorem kd_L_law_0 : decode code 0 = .ok (.new 7, 3) := by decide +kernel
theorem kd_L_law_3 : decode code 3 = .ok (.dup, 1) := by decide +kernel
theorem kd_L_law_4 : decode code 4 = .ok (.invokespecial 9, 3) := by decide +kernel
theorem kd_L_law_7 : decode code 7 = .ok (.astore_n 1, 1) := by decide +kernel
theorem kd_L_law_8 : decode code 8 = .ok (.new 10, 3) := by decide +kernel
theorem kd_L_law_11 : decode code 11 = .ok (.dup, 1) := by decide +kernel
theorem kd_L_law_12 : decode code 12 = .ok (.invokespecial 12, 3) := by decide +kernel
theorem kd_L_law_15 : decode code 15 = .ok (.astore_n 2, 1) := by decide +kernel
theorem kd_L_law_16 : decode code 16 = .ok (.iconst 0, 1) := by decide +kernel
theorem kd_L_law_17 : decode code 17 = .ok (.istore_n 3, 1) := by decide +kernel
theorem kd_L_law_18 : decode code 18 = .ok (.iload_n 3, 1) := by decide +kernel
theorem kd_L_law_19 : decode code 19 = .ok (.aload_n 0, 1) := by decide +kernel
theorem kd_L_law_20 : decode code 20 = .ok (.arraylength, 1) := by decide +kernel
theorem kd_L_law_21 : decode code 21 = .ok (.iconst 5, 1) := by decide +kernel
theorem kd_L_law_22 : decode code 22 = .ok (.isub, 1) := by decide +kernel
theorem kd_L_law_23 : decode code 23 = .ok (.if_icmp .gt 583, 3) := by decide +kernel
theorem kd_L_law_26 : decode code 26 = .ok (.aload_n 0, 1) := by decide +kernel
theorem kd_L_law_27 : decode code 27 = .ok (.iload_n 3, 1) := by decide +kernel
theorem kd_L_law_28 : decode code 28 = .ok (.iaload, 1) := by decide +kernel
theorem kd_L_law_29 : decode code 29 = .ok (.bipush 15, 2) := by decide +kernel
theorem kd_L_law_31 : decode code 31 = .ok (.iand, 1) := by decide +kernel
theorem kd_L_law_32 : decode code 32 = .ok (.tableswitch 568 0 15 #[80, 133, 156, 209, 232, 255, 278, 301, 344, 387, 410, 443, 456, 469, 512, 535], 80) := by decide +kernel
theorem kd_L_law_112 : decode code 112 = .ok (.aload_n 1, 1) := by decide +kernel
theorem kd_L_law_113 : decode code 113 = .ok (.aload_n 0, 1) := by decide +kernel
theorem kd_L_law_114 : decode code 114 = .ok (.iload_n 3, 1) := by decide +kernel
theorem kd_L_law_115 : decode code 115 = .ok (.iconst 1, 1) := by decide +kernel
theorem kd_L_law_116 : decode code 116 = .ok (.iadd, 1) := by decide +kernel
theorem kd_L_law_117 : decode code 117 = .ok (.iaload, 1) := by decide +kernel
theorem kd_L_law_118 : decode code 118 = .ok (.i2l, 1) := by decide +kernel
theorem kd_L_law_119 : decode code 119 = .ok (.bipush 32, 2) := by decide +kernel
theorem kd_L_law_121 : decode code 121 = .ok (.lshl, 1) := by decide +kernel
theorem kd_L_law_122 : decode code 122 = .ok (.aload_n 0, 1) := by decide +kernel
theorem kd_L_law_123 : decode code 123 = .ok (.iload_n 3, 1) := by decide +kernel
theorem kd_L_law_124 : decode code 124 = .ok (.iconst 2, 1) := by decide +kernel
theorem kd_L_law_125 : decode code 125 = .ok (.iadd, 1) := by decide +kernel
theorem kd_L_law_126 : decode code 126 = .ok (.iaload, 1) := by decide +kernel
theorem kd_L_law_127 : decode code 127 = .ok (.i2l, 1) := by decide +kernel
theorem kd_L_law_128 : decode code 128 = .ok (.ldc2_w 13, 3) := by decide +kernel
theorem kd_L_law_131 : decode code 131 = .ok (.land, 1) := by decide +kernel
theorem kd_L_law_132 : decode code 132 = .ok (.lor, 1) := by decide +kernel
theorem kd_L_law_133 : decode code 133 = .ok (.invokevirtual 15, 3) := by decide +kernel
theorem kd_L_law_136 : decode code 136 = .ok (.aload_n 2, 1) := by decide +kernel
theorem kd_L_law_137 : decode code 137 = .ok (.aload_n 0, 1) := by decide +kernel
theorem kd_L_law_138 : decode code 138 = .ok (.iload_n 3, 1) := by decide +kernel
theorem kd_L_law_139 : decode code 139 = .ok (.iconst 1, 1) := by decide +kernel
theorem kd_L_law_140 : decode code 140 = .ok (.iadd, 1) := by decide +kernel
theorem kd_L_law_141 : decode code 141 = .ok (.iaload, 1) := by decide +kernel
theorem kd_L_law_142 : decode code 142 = .ok (.i2l, 1) := by decide +kernel
theorem kd_L_law_143 : decode code 143 = .ok (.bipush 32, 2) := by decide +kernel
theorem kd_L_law_145 : decode code 145 = .ok (.lshl, 1) := by decide +kernel
theorem kd_L_law_146 : decode code 146 = .ok (.aload_n 0, 1) := by decide +kernel
theorem kd_L_law_147 : decode code 147 = .ok (.iload_n 3, 1) := by decide +kernel
theorem kd_L_law_148 : decode code 148 = .ok (.iconst 2, 1) := by decide +kernel
theorem kd_L_law_149 : decode code 149 = .ok (.iadd, 1) := by decide +kernel
theorem kd_L_law_150 : decode code 150 = .ok (.iaload, 1) := by decide +kernel
theorem kd_L_law_151 : decode code 151 = .ok (.i2l, 1) := by decide +kernel
theorem kd_L_law_152 : decode code 152 = .ok (.ldc2_w 13, 3) := by decide +kernel
theorem kd_L_law_155 : decode code 155 = .ok (.land, 1) := by decide +kernel
theorem kd_L_law_156 : decode code 156 = .ok (.lor, 1) := by decide +kernel
theorem kd_L_law_157 : decode code 157 = .ok (.invokevirtual 19, 3) := by decide +kernel
theorem kd_L_law_160 : decode code 160 = .ok (.if_icmp .eq 440, 3) := by decide +kernel
theorem kd_L_law_163 : decode code 163 = .ok (.iconst 0, 1) := by decide +kernel
theorem kd_L_law_164 : decode code 164 = .ok (.ireturn, 1) := by decide +kernel
theorem kd_L_law_165 : decode code 165 = .ok (.aload_n 1, 1) := by decide +kernel
theorem kd_L_law_166 : decode code 166 = .ok (.aload_n 0, 1) := by decide +kernel
theorem kd_L_law_167 : decode code 167 = .ok (.iload_n 3, 1) := by decide +kernel
theorem kd_L_law_168 : decode code 168 = .ok (.iconst 1, 1) := by decide +kernel
theorem kd_L_law_169 : decode code 169 = .ok (.iadd, 1) := by decide +kernel
theorem kd_L_law_170 : decode code 170 = .ok (.iaload, 1) := by decide +kernel
theorem kd_L_law_171 : decode code 171 = .ok (.invokevirtual 20, 3) := by decide +kernel
theorem kd_L_law_174 : decode code 174 = .ok (.aload_n 2, 1) := by decide +kernel
theorem kd_L_law_175 : decode code 175 = .ok (.aload_n 0, 1) := by decide +kernel
theorem kd_L_law_176 : decode code 176 = .ok (.iload_n 3, 1) := by decide +kernel
theorem kd_L_law_177 : decode code 177 = .ok (.iconst 1, 1) := by decide +kernel
theorem kd_L_law_178 : decode code 178 = .ok (.iadd, 1) := by decide +kernel
theorem kd_L_law_179 : decode code 179 = .ok (.iaload, 1) := by decide +kernel
theorem kd_L_law_180 : decode code 180 = .ok (.invokevirtual 24, 3) := by decide +kernel
theorem kd_L_law_183 : decode code 183 = .ok (.if_icmp .eq 417, 3) := by decide +kernel
theorem kd_L_law_186 : decode code 186 = .ok (.iconst 0, 1) := by decide +kernel
theorem kd_L_law_187 : decode code 187 = .ok (.ireturn, 1) := by decide +kernel
theorem kd_L_law_188 : decode code 188 = .ok (.aload_n 1, 1) := by decide +kernel
theorem kd_L_law_189 : decode code 189 = .ok (.aload_n 0, 1) := by decide +kernel
theorem kd_L_law_190 : decode code 190 = .ok (.iload_n 3, 1) := by decide +kernel
theorem kd_L_law_191 : decode code 191 = .ok (.iconst 1, 1) := by decide +kernel
theorem kd_L_law_192 : decode code 192 = .ok (.iadd, 1) := by decide +kernel
theorem kd_L_law_193 : decode code 193 = .ok (.iaload, 1) := by decide +kernel
theorem kd_L_law_194 : decode code 194 = .ok (.aload_n 0, 1) := by decide +kernel
theorem kd_L_law_195 : decode code 195 = .ok (.iload_n 3, 1) := by decide +kernel
theorem kd_L_law_196 : decode code 196 = .ok (.iconst 2, 1) := by decide +kernel
theorem kd_L_law_197 : decode code 197 = .ok (.iadd, 1) := by decide +kernel
theorem kd_L_law_198 : decode code 198 = .ok (.iaload, 1) := by decide +kernel
theorem kd_L_law_199 : decode code 199 = .ok (.aload_n 0, 1) := by decide +kernel
theorem kd_L_law_200 : decode code 200 = .ok (.iload_n 3, 1) := by decide +kernel
theorem kd_L_law_201 : decode code 201 = .ok (.iconst 3, 1) := by decide +kernel
theorem kd_L_law_202 : decode code 202 = .ok (.iadd, 1) := by decide +kernel
theorem kd_L_law_203 : decode code 203 = .ok (.iaload, 1) := by decide +kernel
theorem kd_L_law_204 : decode code 204 = .ok (.aload_n 0, 1) := by decide +kernel
theorem kd_L_law_205 : decode code 205 = .ok (.iload_n 3, 1) := by decide +kernel
theorem kd_L_law_206 : decode code 206 = .ok (.iconst 4, 1) := by decide +kernel
theorem kd_L_law_207 : decode code 207 = .ok (.iadd, 1) := by decide +kernel
theorem kd_L_law_208 : decode code 208 = .ok (.iaload, 1) := by decide +kernel
theorem kd_L_law_209 : decode code 209 = .ok (.invokevirtual 25, 3) := by decide +kernel
theorem kd_L_law_212 : decode code 212 = .ok (.aload_n 2, 1) := by decide +kernel
theorem kd_L_law_213 : decode code 213 = .ok (.aload_n 0, 1) := by decide +kernel
theorem kd_L_law_214 : decode code 214 = .ok (.iload_n 3, 1) := by decide +kernel
theorem kd_L_law_215 : decode code 215 = .ok (.iconst 1, 1) := by decide +kernel
theorem kd_L_law_216 : decode code 216 = .ok (.iadd, 1) := by decide +kernel
theorem kd_L_law_217 : decode code 217 = .ok (.iaload, 1) := by decide +kernel
theorem kd_L_law_218 : decode code 218 = .ok (.aload_n 0, 1) := by decide +kernel
theorem kd_L_law_219 : decode code 219 = .ok (.iload_n 3, 1) := by decide +kernel
theorem kd_L_law_220 : decode code 220 = .ok (.iconst 2, 1) := by decide +kernel
theorem kd_L_law_221 : decode code 221 = .ok (.iadd, 1) := by decide +kernel
theorem kd_L_law_222 : decode code 222 = .ok (.iaload, 1) := by decide +kernel
theorem kd_L_law_223 : decode code 223 = .ok (.aload_n 0, 1) := by decide +kernel
theorem kd_L_law_224 : decode code 224 = .ok (.iload_n 3, 1) := by decide +kernel
theorem kd_L_law_225 : decode code 225 = .ok (.iconst 3, 1) := by decide +kernel
theorem kd_L_law_226 : decode code 226 = .ok (.iadd, 1) := by decide +kernel
theorem kd_L_law_227 : decode code 227 = .ok (.iaload, 1) := by decide +kernel
theorem kd_L_law_228 : decode code 228 = .ok (.aload_n 0, 1) := by decide +kernel
theorem kd_L_law_229 : decode code 229 = .ok (.iload_n 3, 1) := by decide +kernel
theorem kd_L_law_230 : decode code 230 = .ok (.iconst 4, 1) := by decide +kernel
theorem kd_L_law_231 : decode code 231 = .ok (.iadd, 1) := by decide +kernel
theorem kd_L_law_232 : decode code 232 = .ok (.iaload, 1) := by decide +kernel
theorem kd_L_law_233 : decode code 233 = .ok (.invokevirtual 29, 3) := by decide +kernel
theorem kd_L_law_236 : decode code 236 = .ok (.if_icmp .eq 364, 3) := by decide +kernel
theorem kd_L_law_239 : decode code 239 = .ok (.iconst 0, 1) := by decide +kernel
theorem kd_L_law_240 : decode code 240 = .ok (.ireturn, 1) := by decide +kernel
theorem kd_L_law_241 : decode code 241 = .ok (.aload_n 1, 1) := by decide +kernel
theorem kd_L_law_242 : decode code 242 = .ok (.aload_n 0, 1) := by decide +kernel
theorem kd_L_law_243 : decode code 243 = .ok (.iload_n 3, 1) := by decide +kernel
theorem kd_L_law_244 : decode code 244 = .ok (.iconst 1, 1) := by decide +kernel
theorem kd_L_law_245 : decode code 245 = .ok (.iadd, 1) := by decide +kernel
theorem kd_L_law_246 : decode code 246 = .ok (.iaload, 1) := by decide +kernel
theorem kd_L_law_247 : decode code 247 = .ok (.invokevirtual 30, 3) := by decide +kernel
theorem kd_L_law_250 : decode code 250 = .ok (.aload_n 2, 1) := by decide +kernel
theorem kd_L_law_251 : decode code 251 = .ok (.aload_n 0, 1) := by decide +kernel
theorem kd_L_law_252 : decode code 252 = .ok (.iload_n 3, 1) := by decide +kernel
theorem kd_L_law_253 : decode code 253 = .ok (.iconst 1, 1) := by decide +kernel
theorem kd_L_law_254 : decode code 254 = .ok (.iadd, 1) := by decide +kernel
theorem kd_L_law_255 : decode code 255 = .ok (.iaload, 1) := by decide +kernel
theorem kd_L_law_256 : decode code 256 = .ok (.invokevirtual 33, 3) := by decide +kernel
theorem kd_L_law_259 : decode code 259 = .ok (.if_icmp .eq 341, 3) := by decide +kernel
theorem kd_L_law_262 : decode code 262 = .ok (.iconst 0, 1) := by decide +kernel
theorem kd_L_law_263 : decode code 263 = .ok (.ireturn, 1) := by decide +kernel
theorem kd_L_law_264 : decode code 264 = .ok (.aload_n 1, 1) := by decide +kernel
theorem kd_L_law_265 : decode code 265 = .ok (.aload_n 0, 1) := by decide +kernel
theorem kd_L_law_266 : decode code 266 = .ok (.iload_n 3, 1) := by decide +kernel
theorem kd_L_law_267 : decode code 267 = .ok (.iconst 1, 1) := by decide +kernel
theorem kd_L_law_268 : decode code 268 = .ok (.iadd, 1) := by decide +kernel
theorem kd_L_law_269 : decode code 269 = .ok (.iaload, 1) := by decide +kernel
theorem kd_L_law_270 : decode code 270 = .ok (.invokevirtual 34, 3) := by decide +kernel
theorem kd_L_law_273 : decode code 273 = .ok (.aload_n 2, 1) := by decide +kernel
theorem kd_L_law_274 : decode code 274 = .ok (.aload_n 0, 1) := by decide +kernel
theorem kd_L_law_275 : decode code 275 = .ok (.iload_n 3, 1) := by decide +kernel
theorem kd_L_law_276 : decode code 276 = .ok (.iconst 1, 1) := by decide +kernel
theorem kd_L_law_277 : decode code 277 = .ok (.iadd, 1) := by decide +kernel
theorem kd_L_law_278 : decode code 278 = .ok (.iaload, 1) := by decide +kernel
theorem kd_L_law_279 : decode code 279 = .ok (.invokevirtual 37, 3) := by decide +kernel
theorem kd_L_law_282 : decode code 282 = .ok (.if_icmp .eq 318, 3) := by decide +kernel
theorem kd_L_law_285 : decode code 285 = .ok (.iconst 0, 1) := by decide +kernel
theorem kd_L_law_286 : decode code 286 = .ok (.ireturn, 1) := by decide +kernel
theorem kd_L_law_287 : decode code 287 = .ok (.aload_n 1, 1) := by decide +kernel
theorem kd_L_law_288 : decode code 288 = .ok (.aload_n 0, 1) := by decide +kernel
theorem kd_L_law_289 : decode code 289 = .ok (.iload_n 3, 1) := by decide +kernel
theorem kd_L_law_290 : decode code 290 = .ok (.iconst 1, 1) := by decide +kernel
theorem kd_L_law_291 : decode code 291 = .ok (.iadd, 1) := by decide +kernel
theorem kd_L_law_292 : decode code 292 = .ok (.iaload, 1) := by decide +kernel
theorem kd_L_law_293 : decode code 293 = .ok (.invokevirtual 38, 3) := by decide +kernel
theorem kd_L_law_296 : decode code 296 = .ok (.aload_n 2, 1) := by decide +kernel
theorem kd_L_law_297 : decode code 297 = .ok (.aload_n 0, 1) := by decide +kernel
theorem kd_L_law_298 : decode code 298 = .ok (.iload_n 3, 1) := by decide +kernel
theorem kd_L_law_299 : decode code 299 = .ok (.iconst 1, 1) := by decide +kernel
theorem kd_L_law_300 : decode code 300 = .ok (.iadd, 1) := by decide +kernel
theorem kd_L_law_301 : decode code 301 = .ok (.iaload, 1) := by decide +kernel
theorem kd_L_law_302 : decode code 302 = .ok (.invokevirtual 42, 3) := by decide +kernel
theorem kd_L_law_305 : decode code 305 = .ok (.if_icmp .eq 295, 3) := by decide +kernel
theorem kd_L_law_308 : decode code 308 = .ok (.iconst 0, 1) := by decide +kernel
theorem kd_L_law_309 : decode code 309 = .ok (.ireturn, 1) := by decide +kernel
theorem kd_L_law_310 : decode code 310 = .ok (.aload_n 1, 1) := by decide +kernel
theorem kd_L_law_311 : decode code 311 = .ok (.aload_n 0, 1) := by decide +kernel
theorem kd_L_law_312 : decode code 312 = .ok (.iload_n 3, 1) := by decide +kernel
theorem kd_L_law_313 : decode code 313 = .ok (.iconst 1, 1) := by decide +kernel
theorem kd_L_law_314 : decode code 314 = .ok (.iadd, 1) := by decide +kernel
theorem kd_L_law_315 : decode code 315 = .ok (.iaload, 1) := by decide +kernel
theorem kd_L_law_316 : decode code 316 = .ok (.invokevirtual 43, 3) := by decide +kernel
theorem kd_L_law_319 : decode code 319 = .ok (.aload_n 2, 1) := by decide +kernel
theorem kd_L_law_320 : decode code 320 = .ok (.aload_n 0, 1) := by decide +kernel
theorem kd_L_law_321 : decode code 321 = .ok (.iload_n 3, 1) := by decide +kernel
theorem kd_L_law_322 : decode code 322 = .ok (.iconst 1, 1) := by decide +kernel
theorem kd_L_law_323 : decode code 323 = .ok (.iadd, 1) := by decide +kernel
theorem kd_L_law_324 : decode code 324 = .ok (.iaload, 1) := by decide +kernel
theorem kd_L_law_325 : decode code 325 = .ok (.invokevirtual 46, 3) := by decide +kernel
theorem kd_L_law_328 : decode code 328 = .ok (.if_icmp .eq 272, 3) := by decide +kernel
theorem kd_L_law_331 : decode code 331 = .ok (.iconst 0, 1) := by decide +kernel
theorem kd_L_law_332 : decode code 332 = .ok (.ireturn, 1) := by decide +kernel
theorem kd_L_law_333 : decode code 333 = .ok (.aload_n 1, 1) := by decide +kernel
theorem kd_L_law_334 : decode code 334 = .ok (.aload_n 0, 1) := by decide +kernel
theorem kd_L_law_335 : decode code 335 = .ok (.iload_n 3, 1) := by decide +kernel
theorem kd_L_law_336 : decode code 336 = .ok (.iconst 1, 1) := by decide +kernel
theorem kd_L_law_337 : decode code 337 = .ok (.iadd, 1) := by decide +kernel
theorem kd_L_law_338 : decode code 338 = .ok (.iaload, 1) := by decide +kernel
theorem kd_L_law_339 : decode code 339 = .ok (.aload_n 0, 1) := by decide +kernel
theorem kd_L_law_340 : decode code 340 = .ok (.iload_n 3, 1) := by decide +kernel
theorem kd_L_law_341 : decode code 341 = .ok (.iconst 2, 1) := by decide +kernel
theorem kd_L_law_342 : decode code 342 = .ok (.iadd, 1) := by decide +kernel
theorem kd_L_law_343 : decode code 343 = .ok (.iaload, 1) := by decide +kernel
theorem kd_L_law_344 : decode code 344 = .ok (.aload_n 0, 1) := by decide +kernel
theorem kd_L_law_345 : decode code 345 = .ok (.iload_n 3, 1) := by decide +kernel
theorem kd_L_law_346 : decode code 346 = .ok (.iconst 3, 1) := by decide +kernel
theorem kd_L_law_347 : decode code 347 = .ok (.iadd, 1) := by decide +kernel
theorem kd_L_law_348 : decode code 348 = .ok (.iaload, 1) := by decide +kernel
theorem kd_L_law_349 : decode code 349 = .ok (.invokevirtual 47, 3) := by decide +kernel
theorem kd_L_law_352 : decode code 352 = .ok (.aload_n 2, 1) := by decide +kernel
theorem kd_L_law_353 : decode code 353 = .ok (.aload_n 0, 1) := by decide +kernel
theorem kd_L_law_354 : decode code 354 = .ok (.iload_n 3, 1) := by decide +kernel
theorem kd_L_law_355 : decode code 355 = .ok (.iconst 1, 1) := by decide +kernel
theorem kd_L_law_356 : decode code 356 = .ok (.iadd, 1) := by decide +kernel
theorem kd_L_law_357 : decode code 357 = .ok (.iaload, 1) := by decide +kernel
theorem kd_L_law_358 : decode code 358 = .ok (.aload_n 0, 1) := by decide +kernel
theorem kd_L_law_359 : decode code 359 = .ok (.iload_n 3, 1) := by decide +kernel
theorem kd_L_law_360 : decode code 360 = .ok (.iconst 2, 1) := by decide +kernel
theorem kd_L_law_361 : decode code 361 = .ok (.iadd, 1) := by decide +kernel
theorem kd_L_law_362 : decode code 362 = .ok (.iaload, 1) := by decide +kernel
theorem kd_L_law_363 : decode code 363 = .ok (.aload_n 0, 1) := by decide +kernel
theorem kd_L_law_364 : decode code 364 = .ok (.iload_n 3, 1) := by decide +kernel
theorem kd_L_law_365 : decode code 365 = .ok (.iconst 3, 1) := by decide +kernel
theorem kd_L_law_366 : decode code 366 = .ok (.iadd, 1) := by decide +kernel
theorem kd_L_law_367 : decode code 367 = .ok (.iaload, 1) := by decide +kernel
theorem kd_L_law_368 : decode code 368 = .ok (.invokevirtual 51, 3) := by decide +kernel
theorem kd_L_law_371 : decode code 371 = .ok (.if_icmp .eq 229, 3) := by decide +kernel
theorem kd_L_law_374 : decode code 374 = .ok (.iconst 0, 1) := by decide +kernel
theorem kd_L_law_375 : decode code 375 = .ok (.ireturn, 1) := by decide +kernel
theorem kd_L_law_376 : decode code 376 = .ok (.aload_n 1, 1) := by decide +kernel
theorem kd_L_law_377 : decode code 377 = .ok (.aload_n 0, 1) := by decide +kernel
theorem kd_L_law_378 : decode code 378 = .ok (.iload_n 3, 1) := by decide +kernel
theorem kd_L_law_379 : decode code 379 = .ok (.iconst 1, 1) := by decide +kernel
theorem kd_L_law_380 : decode code 380 = .ok (.iadd, 1) := by decide +kernel
theorem kd_L_law_381 : decode code 381 = .ok (.iaload, 1) := by decide +kernel
theorem kd_L_law_382 : decode code 382 = .ok (.aload_n 0, 1) := by decide +kernel
theorem kd_L_law_383 : decode code 383 = .ok (.iload_n 3, 1) := by decide +kernel
theorem kd_L_law_384 : decode code 384 = .ok (.iconst 2, 1) := by decide +kernel
theorem kd_L_law_385 : decode code 385 = .ok (.iadd, 1) := by decide +kernel
theorem kd_L_law_386 : decode code 386 = .ok (.iaload, 1) := by decide +kernel
theorem kd_L_law_387 : decode code 387 = .ok (.aload_n 0, 1) := by decide +kernel
theorem kd_L_law_388 : decode code 388 = .ok (.iload_n 3, 1) := by decide +kernel
theorem kd_L_law_389 : decode code 389 = .ok (.iconst 3, 1) := by decide +kernel
theorem kd_L_law_390 : decode code 390 = .ok (.iadd, 1) := by decide +kernel
theorem kd_L_law_391 : decode code 391 = .ok (.iaload, 1) := by decide +kernel
theorem kd_L_law_392 : decode code 392 = .ok (.invokevirtual 52, 3) := by decide +kernel
theorem kd_L_law_395 : decode code 395 = .ok (.aload_n 2, 1) := by decide +kernel
theorem kd_L_law_396 : decode code 396 = .ok (.aload_n 0, 1) := by decide +kernel
theorem kd_L_law_397 : decode code 397 = .ok (.iload_n 3, 1) := by decide +kernel
theorem kd_L_law_398 : decode code 398 = .ok (.iconst 1, 1) := by decide +kernel
theorem kd_L_law_399 : decode code 399 = .ok (.iadd, 1) := by decide +kernel
theorem kd_L_law_400 : decode code 400 = .ok (.iaload, 1) := by decide +kernel
theorem kd_L_law_401 : decode code 401 = .ok (.aload_n 0, 1) := by decide +kernel
theorem kd_L_law_402 : decode code 402 = .ok (.iload_n 3, 1) := by decide +kernel
theorem kd_L_law_403 : decode code 403 = .ok (.iconst 2, 1) := by decide +kernel
theorem kd_L_law_404 : decode code 404 = .ok (.iadd, 1) := by decide +kernel
theorem kd_L_law_405 : decode code 405 = .ok (.iaload, 1) := by decide +kernel
theorem kd_L_law_406 : decode code 406 = .ok (.aload_n 0, 1) := by decide +kernel
theorem kd_L_law_407 : decode code 407 = .ok (.iload_n 3, 1) := by decide +kernel
theorem kd_L_law_408 : decode code 408 = .ok (.iconst 3, 1) := by decide +kernel
theorem kd_L_law_409 : decode code 409 = .ok (.iadd, 1) := by decide +kernel
theorem kd_L_law_410 : decode code 410 = .ok (.iaload, 1) := by decide +kernel
theorem kd_L_law_411 : decode code 411 = .ok (.invokevirtual 55, 3) := by decide +kernel
theorem kd_L_law_414 : decode code 414 = .ok (.if_icmp .eq 186, 3) := by decide +kernel
theorem kd_L_law_417 : decode code 417 = .ok (.iconst 0, 1) := by decide +kernel
theorem kd_L_law_418 : decode code 418 = .ok (.ireturn, 1) := by decide +kernel
theorem kd_L_law_419 : decode code 419 = .ok (.aload_n 1, 1) := by decide +kernel
theorem kd_L_law_420 : decode code 420 = .ok (.aload_n 0, 1) := by decide +kernel
theorem kd_L_law_421 : decode code 421 = .ok (.iload_n 3, 1) := by decide +kernel
theorem kd_L_law_422 : decode code 422 = .ok (.iconst 1, 1) := by decide +kernel
theorem kd_L_law_423 : decode code 423 = .ok (.iadd, 1) := by decide +kernel
theorem kd_L_law_424 : decode code 424 = .ok (.iaload, 1) := by decide +kernel
theorem kd_L_law_425 : decode code 425 = .ok (.invokevirtual 56, 3) := by decide +kernel
theorem kd_L_law_428 : decode code 428 = .ok (.aload_n 2, 1) := by decide +kernel
theorem kd_L_law_429 : decode code 429 = .ok (.aload_n 0, 1) := by decide +kernel
theorem kd_L_law_430 : decode code 430 = .ok (.iload_n 3, 1) := by decide +kernel
theorem kd_L_law_431 : decode code 431 = .ok (.iconst 1, 1) := by decide +kernel
theorem kd_L_law_432 : decode code 432 = .ok (.iadd, 1) := by decide +kernel
theorem kd_L_law_433 : decode code 433 = .ok (.iaload, 1) := by decide +kernel
theorem kd_L_law_434 : decode code 434 = .ok (.invokevirtual 59, 3) := by decide +kernel
theorem kd_L_law_437 : decode code 437 = .ok (.if_icmp .eq 163, 3) := by decide +kernel
theorem kd_L_law_440 : decode code 440 = .ok (.iconst 0, 1) := by decide +kernel
theorem kd_L_law_441 : decode code 441 = .ok (.ireturn, 1) := by decide +kernel
theorem kd_L_law_442 : decode code 442 = .ok (.aload_n 1, 1) := by decide +kernel
theorem kd_L_law_443 : decode code 443 = .ok (.aload_n 0, 1) := by decide +kernel
theorem kd_L_law_444 : decode code 444 = .ok (.iload_n 3, 1) := by decide +kernel
theorem kd_L_law_445 : decode code 445 = .ok (.iconst 1, 1) := by decide +kernel
theorem kd_L_law_446 : decode code 446 = .ok (.iadd, 1) := by decide +kernel
theorem kd_L_law_447 : decode code 447 = .ok (.iaload, 1) := by decide +kernel
theorem kd_L_law_448 : decode code 448 = .ok (.aload_n 0, 1) := by decide +kernel
theorem kd_L_law_449 : decode code 449 = .ok (.iload_n 3, 1) := by decide +kernel
theorem kd_L_law_450 : decode code 450 = .ok (.iconst 2, 1) := by decide +kernel
theorem kd_L_law_451 : decode code 451 = .ok (.iadd, 1) := by decide +kernel
theorem kd_L_law_452 : decode code 452 = .ok (.iaload, 1) := by decide +kernel
theorem kd_L_law_453 : decode code 453 = .ok (.invokevirtual 60, 3) := by decide +kernel
theorem kd_L_law_456 : decode code 456 = .ok (.aload_n 2, 1) := by decide +kernel
theorem kd_L_law_457 : decode code 457 = .ok (.aload_n 0, 1) := by decide +kernel
theorem kd_L_law_458 : decode code 458 = .ok (.iload_n 3, 1) := by decide +kernel
theorem kd_L_law_459 : decode code 459 = .ok (.iconst 1, 1) := by decide +kernel
theorem kd_L_law_460 : decode code 460 = .ok (.iadd, 1) := by decide +kernel
theorem kd_L_law_461 : decode code 461 = .ok (.iaload, 1) := by decide +kernel
theorem kd_L_law_462 : decode code 462 = .ok (.aload_n 0, 1) := by decide +kernel
theorem kd_L_law_463 : decode code 463 = .ok (.iload_n 3, 1) := by decide +kernel
theorem kd_L_law_464 : decode code 464 = .ok (.iconst 2, 1) := by decide +kernel
theorem kd_L_law_465 : decode code 465 = .ok (.iadd, 1) := by decide +kernel
theorem kd_L_law_466 : decode code 466 = .ok (.iaload, 1) := by decide +kernel
theorem kd_L_law_467 : decode code 467 = .ok (.invokevirtual 64, 3) := by decide +kernel
theorem kd_L_law_470 : decode code 470 = .ok (.if_icmp .eq 130, 3) := by decide +kernel
theorem kd_L_law_473 : decode code 473 = .ok (.iconst 0, 1) := by decide +kernel
theorem kd_L_law_474 : decode code 474 = .ok (.ireturn, 1) := by decide +kernel
theorem kd_L_law_475 : decode code 475 = .ok (.aload_n 1, 1) := by decide +kernel
theorem kd_L_law_476 : decode code 476 = .ok (.invokevirtual 65, 3) := by decide +kernel
theorem kd_L_law_479 : decode code 479 = .ok (.aload_n 2, 1) := by decide +kernel
theorem kd_L_law_480 : decode code 480 = .ok (.invokevirtual 69, 3) := by decide +kernel
theorem kd_L_law_483 : decode code 483 = .ok (.if_icmp .eq 117, 3) := by decide +kernel
theorem kd_L_law_486 : decode code 486 = .ok (.iconst 0, 1) := by decide +kernel
theorem kd_L_law_487 : decode code 487 = .ok (.ireturn, 1) := by decide +kernel
theorem kd_L_law_488 : decode code 488 = .ok (.aload_n 1, 1) := by decide +kernel
theorem kd_L_law_489 : decode code 489 = .ok (.invokevirtual 70, 3) := by decide +kernel
theorem kd_L_law_492 : decode code 492 = .ok (.aload_n 2, 1) := by decide +kernel
theorem kd_L_law_493 : decode code 493 = .ok (.invokevirtual 73, 3) := by decide +kernel
theorem kd_L_law_496 : decode code 496 = .ok (.if_icmp .eq 104, 3) := by decide +kernel
theorem kd_L_law_499 : decode code 499 = .ok (.iconst 0, 1) := by decide +kernel
theorem kd_L_law_500 : decode code 500 = .ok (.ireturn, 1) := by decide +kernel
theorem kd_L_law_501 : decode code 501 = .ok (.aload_n 1, 1) := by decide +kernel
theorem kd_L_law_502 : decode code 502 = .ok (.aload_n 0, 1) := by decide +kernel
theorem kd_L_law_503 : decode code 503 = .ok (.iload_n 3, 1) := by decide +kernel
theorem kd_L_law_504 : decode code 504 = .ok (.iconst 1, 1) := by decide +kernel
theorem kd_L_law_505 : decode code 505 = .ok (.iadd, 1) := by decide +kernel
theorem kd_L_law_506 : decode code 506 = .ok (.iaload, 1) := by decide +kernel
theorem kd_L_law_507 : decode code 507 = .ok (.aload_n 0, 1) := by decide +kernel
theorem kd_L_law_508 : decode code 508 = .ok (.iload_n 3, 1) := by decide +kernel
theorem kd_L_law_509 : decode code 509 = .ok (.iconst 2, 1) := by decide +kernel
theorem kd_L_law_510 : decode code 510 = .ok (.iadd, 1) := by decide +kernel
theorem kd_L_law_511 : decode code 511 = .ok (.iaload, 1) := by decide +kernel
theorem kd_L_law_512 : decode code 512 = .ok (.aload_n 0, 1) := by decide +kernel
theorem kd_L_law_513 : decode code 513 = .ok (.iload_n 3, 1) := by decide +kernel
theorem kd_L_law_514 : decode code 514 = .ok (.iconst 3, 1) := by decide +kernel
theorem kd_L_law_515 : decode code 515 = .ok (.iadd, 1) := by decide +kernel
theorem kd_L_law_516 : decode code 516 = .ok (.iaload, 1) := by decide +kernel
theorem kd_L_law_517 : decode code 517 = .ok (.invokevirtual 74, 3) := by decide +kernel
theorem kd_L_law_520 : decode code 520 = .ok (.aload_n 2, 1) := by decide +kernel
theorem kd_L_law_521 : decode code 521 = .ok (.aload_n 0, 1) := by decide +kernel
theorem kd_L_law_522 : decode code 522 = .ok (.iload_n 3, 1) := by decide +kernel
theorem kd_L_law_523 : decode code 523 = .ok (.iconst 1, 1) := by decide +kernel
theorem kd_L_law_524 : decode code 524 = .ok (.iadd, 1) := by decide +kernel
theorem kd_L_law_525 : decode code 525 = .ok (.iaload, 1) := by decide +kernel
theorem kd_L_law_526 : decode code 526 = .ok (.aload_n 0, 1) := by decide +kernel
theorem kd_L_law_527 : decode code 527 = .ok (.iload_n 3, 1) := by decide +kernel
theorem kd_L_law_528 : decode code 528 = .ok (.iconst 2, 1) := by decide +kernel
theorem kd_L_law_529 : decode code 529 = .ok (.iadd, 1) := by decide +kernel
theorem kd_L_law_530 : decode code 530 = .ok (.iaload, 1) := by decide +kernel
theorem kd_L_law_531 : decode code 531 = .ok (.aload_n 0, 1) := by decide +kernel
theorem kd_L_law_532 : decode code 532 = .ok (.iload_n 3, 1) := by decide +kernel
theorem kd_L_law_533 : decode code 533 = .ok (.iconst 3, 1) := by decide +kernel
theorem kd_L_law_534 : decode code 534 = .ok (.iadd, 1) := by decide +kernel
theorem kd_L_law_535 : decode code 535 = .ok (.iaload, 1) := by decide +kernel
theorem kd_L_law_536 : decode code 536 = .ok (.invokevirtual 78, 3) := by decide +kernel
theorem kd_L_law_539 : decode code 539 = .ok (.if_icmp .eq 61, 3) := by decide +kernel
theorem kd_L_law_542 : decode code 542 = .ok (.iconst 0, 1) := by decide +kernel
theorem kd_L_law_543 : decode code 543 = .ok (.ireturn, 1) := by decide +kernel
theorem kd_L_law_544 : decode code 544 = .ok (.aload_n 1, 1) := by decide +kernel
theorem kd_L_law_545 : decode code 545 = .ok (.aload_n 0, 1) := by decide +kernel
theorem kd_L_law_546 : decode code 546 = .ok (.iload_n 3, 1) := by decide +kernel
theorem kd_L_law_547 : decode code 547 = .ok (.iconst 1, 1) := by decide +kernel
theorem kd_L_law_548 : decode code 548 = .ok (.iadd, 1) := by decide +kernel
theorem kd_L_law_549 : decode code 549 = .ok (.iaload, 1) := by decide +kernel
theorem kd_L_law_550 : decode code 550 = .ok (.invokevirtual 79, 3) := by decide +kernel
theorem kd_L_law_553 : decode code 553 = .ok (.aload_n 2, 1) := by decide +kernel
theorem kd_L_law_554 : decode code 554 = .ok (.aload_n 0, 1) := by decide +kernel
theorem kd_L_law_555 : decode code 555 = .ok (.iload_n 3, 1) := by decide +kernel
theorem kd_L_law_556 : decode code 556 = .ok (.iconst 1, 1) := by decide +kernel
theorem kd_L_law_557 : decode code 557 = .ok (.iadd, 1) := by decide +kernel
theorem kd_L_law_558 : decode code 558 = .ok (.iaload, 1) := by decide +kernel
theorem kd_L_law_559 : decode code 559 = .ok (.invokevirtual 82, 3) := by decide +kernel
theorem kd_L_law_562 : decode code 562 = .ok (.if_icmp .eq 38, 3) := by decide +kernel
theorem kd_L_law_565 : decode code 565 = .ok (.iconst 0, 1) := by decide +kernel
theorem kd_L_law_566 : decode code 566 = .ok (.ireturn, 1) := by decide +kernel
theorem kd_L_law_567 : decode code 567 = .ok (.aload_n 1, 1) := by decide +kernel
theorem kd_L_law_568 : decode code 568 = .ok (.aload_n 0, 1) := by decide +kernel
theorem kd_L_law_569 : decode code 569 = .ok (.iload_n 3, 1) := by decide +kernel
theorem kd_L_law_570 : decode code 570 = .ok (.iconst 1, 1) := by decide +kernel
theorem kd_L_law_571 : decode code 571 = .ok (.iadd, 1) := by decide +kernel
theorem kd_L_law_572 : decode code 572 = .ok (.iaload, 1) := by decide +kernel
theorem kd_L_law_573 : decode code 573 = .ok (.aload_n 0, 1) := by decide +kernel
theorem kd_L_law_574 : decode code 574 = .ok (.iload_n 3, 1) := by decide +kernel
theorem kd_L_law_575 : decode code 575 = .ok (.iconst 2, 1) := by decide +kernel
theorem kd_L_law_576 : decode code 576 = .ok (.iadd, 1) := by decide +kernel
theorem kd_L_law_577 : decode code 577 = .ok (.iaload, 1) := by decide +kernel
theorem kd_L_law_578 : decode code 578 = .ok (.invokevirtual 83, 3) := by decide +kernel
theorem kd_L_law_581 : decode code 581 = .ok (.aload_n 2, 1) := by decide +kernel
theorem kd_L_law_582 : decode code 582 = .ok (.aload_n 0, 1) := by decide +kernel
theorem kd_L_law_583 : decode code 583 = .ok (.iload_n 3, 1) := by decide +kernel
theorem kd_L_law_584 : decode code 584 = .ok (.iconst 1, 1) := by decide +kernel
theorem kd_L_law_585 : decode code 585 = .ok (.iadd, 1) := by decide +kernel
theorem kd_L_law_586 : decode code 586 = .ok (.iaload, 1) := by decide +kernel
theorem kd_L_law_587 : decode code 587 = .ok (.aload_n 0, 1) := by decide +kernel
theorem kd_L_law_588 : decode code 588 = .ok (.iload_n 3, 1) := by decide +kernel
theorem kd_L_law_589 : decode code 589 = .ok (.iconst 2, 1) := by decide +kernel
theorem kd_L_law_590 : decode code 590 = .ok (.iadd, 1) := by decide +kernel
theorem kd_L_law_591 : decode code 591 = .ok (.iaload, 1) := by decide +kernel
theorem kd_L_law_592 : decode code 592 = .ok (.invokevirtual 86, 3) := by decide +kernel
theorem kd_L_law_595 : decode code 595 = .ok (.if_icmp .eq 5, 3) := by decide +kernel
theorem kd_L_law_598 : decode code 598 = .ok (.iconst 0, 1) := by decide +kernel
theorem kd_L_law_599 : decode code 599 = .ok (.ireturn, 1) := by decide +kernel
theorem kd_L_law_600 : decode code 600 = .ok (.iinc 3 5, 3) := by decide +kernel
theorem kd_L_law_603 : decode code 603 = .ok (.goto (-585), 3) := by decide +kernel
theorem kd_L_law_606 : decode code 606 = .ok (.iconst 1, 1) := by decide +kernel
theorem kd_L_law_607 : decode code 607 = .ok (.ireturn, 1) := by decide +kernel
