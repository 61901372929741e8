def chl0 : List (Nat × Cond) := [(450, Cond.methodLink "PutOffWicksLaw" 13 ⟨"PutOffWicks","lit","(IZ)Z"⟩), (1228, Cond.methodLink "PutOffWicksLaw" 17 ⟨"PutOffWicksModel","lit","(IZ)Z"⟩), (466, Cond.methodLink "PutOffWicksLaw" 18 ⟨"PutOffWicks","feed","(IIIII)I"⟩), (1243, Cond.methodLink "PutOffWicksLaw" 22 ⟨"PutOffWicksModel","feed","(IIIII)I"⟩), (478, Cond.methodLink "PutOffWicksLaw" 23 ⟨"PutOffWicks","law","(I)I"⟩), (1251, Cond.methodLink "PutOffWicksLaw" 27 ⟨"PutOffWicksModel","law","(I)I"⟩), (569, Cond.methodLink "PutOffWicksLaw" 28 ⟨"PutOffWicks","parish","(I)I"⟩), (1338, Cond.methodLink "PutOffWicksLaw" 31 ⟨"PutOffWicksModel","parish","(I)I"⟩), (601, Cond.methodLink "PutOffWicksLaw" 32 ⟨"PutOffWicks","days","(I)I"⟩), (1350, Cond.methodLink "PutOffWicksLaw" 35 ⟨"PutOffWicksModel","days","(I)I"⟩), (696, Cond.methodLink "PutOffWicksLaw" 36 ⟨"PutOffWicks","tried","(II)I"⟩), (1415, Cond.methodLink "PutOffWicksLaw" 40 ⟨"PutOffWicksModel","tried","(II)I"⟩), (701, Cond.methodLink "PutOffWicksLaw" 41 ⟨"PutOffWicks","thingIs","(II)I"⟩), (1426, Cond.methodLink "PutOffWicksLaw" 44 ⟨"PutOffWicksModel","thingIs","(II)I"⟩), (706, Cond.methodLink "PutOffWicksLaw" 45 ⟨"PutOffWicks","byWhen","(II)I"⟩), (1430, Cond.methodLink "PutOffWicksLaw" 48 ⟨"PutOffWicksModel","byWhen","(II)I"⟩), (710, Cond.methodLink "PutOffWicksLaw" 49 ⟨"PutOffWicks","dark","(I)I"⟩), (1434, Cond.methodLink "PutOffWicksLaw" 52 ⟨"PutOffWicksModel","dark","(I)I"⟩), (714, Cond.methodLink "PutOffWicksLaw" 53 ⟨"PutOffWicks","pride","(I)I"⟩), (1438, Cond.methodLink "PutOffWicksLaw" 56 ⟨"PutOffWicksModel","pride","(I)I"⟩), (731, Cond.methodLink "PutOffWicksLaw" 57 ⟨"PutOffWicks","oldest","()I"⟩), (1446, Cond.methodLink "PutOffWicksLaw" 61 ⟨"PutOffWicksModel","oldest","()I"⟩), (735, Cond.methodLink "PutOffWicksLaw" 62 ⟨"PutOffWicks","chain","(I)I"⟩), (1450, Cond.methodLink "PutOffWicksLaw" 65 ⟨"PutOffWicksModel","chain","(I)I"⟩), (739, Cond.methodLink "PutOffWicksLaw" 66 ⟨"PutOffWicks","orders","()I"⟩), (1454, Cond.methodLink "PutOffWicksLaw" 69 ⟨"PutOffWicksModel","orders","()I"⟩), (752, Cond.methodLink "PutOffWicksLaw" 70 ⟨"PutOffWicks","light","(I)I"⟩), (1469, Cond.methodLink "PutOffWicksLaw" 73 ⟨"PutOffWicksModel","light","(I)I"⟩), (760, Cond.methodLink "PutOffWicksLaw" 74 ⟨"PutOffWicks","worstNews","(I)I"⟩), (1477, Cond.methodLink "PutOffWicksLaw" 77 ⟨"PutOffWicksModel","worstNews","(I)I"⟩), (769, Cond.methodLink "PutOffWicksLaw" 78 ⟨"PutOffWicks","median","()I"⟩), (1481, Cond.methodLink "PutOffWicksLaw" 81 ⟨"PutOffWicksModel","median","()I"⟩), (781, Cond.methodLink "PutOffWicksLaw" 82 ⟨"PutOffWicks","twist","(III)I"⟩), (1485, Cond.methodLink "PutOffWicksLaw" 86 ⟨"PutOffWicksModel","twist","(III)I"⟩), (840, Cond.methodLink "PutOffWicksLaw" 87 ⟨"PutOffWicks","waiting","(II)I"⟩), (1528, Cond.methodLink "PutOffWicksLaw" 90 ⟨"PutOffWicksModel","waiting","(II)I"⟩), (891, Cond.methodLink "PutOffWicksLaw" 91 ⟨"PutOffWicks","spun","(II)I"⟩), (1549, Cond.methodLink "PutOffWicksLaw" 94 ⟨"PutOffWicksModel","spun","(II)I"⟩), (914, Cond.methodLink "PutOffWicksLaw" 95 ⟨"PutOffWicks","night","(II)I"⟩), (1565, Cond.methodLink "PutOffWicksLaw" 98 ⟨"PutOffWicksModel","night","(II)I"⟩), (926, Cond.methodLink "PutOffWicksLaw" 99 ⟨"PutOffWicks","putsOff","(IIZI)I"⟩), (1569, Cond.methodLink "PutOffWicksLaw" 103 ⟨"PutOffWicksModel","putsOff","(IIZI)I"⟩), (940, Cond.methodLink "PutOffWicksLaw" 104 ⟨"PutOffWicks","cord","(II)I"⟩), (1585, Cond.methodLink "PutOffWicksLaw" 107 ⟨"PutOffWicksModel","cord","(II)I"⟩), (952, Cond.methodLink "PutOffWicksLaw" 108 ⟨"PutOffWicks","seen","(III)I"⟩), (1589, Cond.methodLink "PutOffWicksLaw" 111 ⟨"PutOffWicksModel","seen","(III)I"⟩), (975, Cond.methodLink "PutOffWicksLaw" 112 ⟨"PutOffWicks","brightest","(III)I"⟩), (1601, Cond.methodLink "PutOffWicksLaw" 115 ⟨"PutOffWicksModel","brightest","(III)I"⟩), (1002, Cond.methodLink "PutOffWicksLaw" 116 ⟨"PutOffWicks","halves","(II)I"⟩), (1609, Cond.methodLink "PutOffWicksLaw" 119 ⟨"PutOffWicksModel","halves","(II)I"⟩)]
theorem chl0_ok : chl0.all (fun q => decide (lw_tbl[q.1]? = some q.2) && goodWord q.2) = true := by decide +kernel
def chl1 : List (Nat × Cond) := [(1016, Cond.methodLink "PutOffWicksLaw" 120 ⟨"PutOffWicks","forgiven","(I)I"⟩), (1613, Cond.methodLink "PutOffWicksLaw" 123 ⟨"PutOffWicksModel","forgiven","(I)I"⟩), (1028, Cond.methodLink "PutOffWicksLaw" 124 ⟨"PutOffWicks","seed","(I)Z"⟩), (1621, Cond.methodLink "PutOffWicksLaw" 128 ⟨"PutOffWicksModel","seed","(I)Z"⟩), (1033, Cond.methodLink "PutOffWicksLaw" 129 ⟨"PutOffWicks","keep","()I"⟩), (1625, Cond.methodLink "PutOffWicksLaw" 132 ⟨"PutOffWicksModel","keep","()I"⟩), (1037, Cond.methodLink "PutOffWicksLaw" 133 ⟨"PutOffWicks","undo","()Z"⟩), (1629, Cond.methodLink "PutOffWicksLaw" 137 ⟨"PutOffWicksModel","undo","()Z"⟩), (1045, Cond.methodLink "PutOffWicksLaw" 138 ⟨"PutOffWicks","check","(I)I"⟩), (1633, Cond.methodLink "PutOffWicksLaw" 141 ⟨"PutOffWicksModel","check","(I)I"⟩), (1049, Cond.methodLink "PutOffWicksLaw" 142 ⟨"PutOffWicks","count","(I)I"⟩), (1637, Cond.methodLink "PutOffWicksLaw" 145 ⟨"PutOffWicksModel","count","(I)I"⟩)]
theorem chl1_ok : chl1.all (fun q => decide (lw_tbl[q.1]? = some q.2) && goodWord q.2) = true := by decide +kernel
theorem dl_18 : decode code 18 = .ok (.iload_n 3, 1) := by decide +kernel
theorem dl_19 : decode code 19 = .ok (.aload_n 0, 1) := by decide +kernel
theorem dl_20 : decode code 20 = .ok (.arraylength, 1) := by decide +kernel
theorem dl_21 : decode code 21 = .ok (.bipush 6, 2) := by decide +kernel
theorem dl_23 : decode code 23 = .ok (.isub, 1) := by decide +kernel
theorem dl_24 : decode code 24 = .ok (.if_icmp .gt 1069, 3) := by decide +kernel
theorem dl_27 : decode code 27 = .ok (.aload_n 0, 1) := by decide +kernel
theorem dl_28 : decode code 28 = .ok (.iload_n 3, 1) := by decide +kernel
theorem dl_29 : decode code 29 = .ok (.iaload, 1) := by decide +kernel
theorem dl_30 : decode code 30 = .ok (.bipush 31, 2) := by decide +kernel
theorem dl_32 : decode code 32 = .ok (.iand, 1) := by decide +kernel
theorem dl_33 : decode code 33 = .ok (.tableswitch 1054 0 30 #[139, 188, 251, 274, 297, 320, 353, 386, 419, 442, 465, 478, 501, 514, 537, 560, 573, 616, 649, 682, 715, 784, 817, 860, 903, 936, 959, 982, 995, 1008, 1031], 139) := by decide +kernel
theorem dl_172 : decode code 172 = .ok (.aload_n 1, 1) := by decide +kernel
theorem dl_173 : decode code 173 = .ok (.aload_n 0, 1) := by decide +kernel
theorem dl_174 : decode code 174 = .ok (.iload_n 3, 1) := by decide +kernel
theorem dl_175 : decode code 175 = .ok (.iconst 1, 1) := by decide +kernel
theorem dl_176 : decode code 176 = .ok (.iadd, 1) := by decide +kernel
theorem dl_177 : decode code 177 = .ok (.iaload, 1) := by decide +kernel
theorem dl_178 : decode code 178 = .ok (.aload_n 0, 1) := by decide +kernel
theorem dl_179 : decode code 179 = .ok (.iload_n 3, 1) := by decide +kernel
theorem dl_180 : decode code 180 = .ok (.iconst 2, 1) := by decide +kernel
theorem dl_181 : decode code 181 = .ok (.iadd, 1) := by decide +kernel
theorem dl_182 : decode code 182 = .ok (.iaload, 1) := by decide +kernel
theorem dl_183 : decode code 183 = .ok (.ifCond .eq 7, 3) := by decide +kernel
theorem dl_186 : decode code 186 = .ok (.iconst 1, 1) := by decide +kernel
theorem dl_187 : decode code 187 = .ok (.goto 4, 3) := by decide +kernel
theorem dl_190 : decode code 190 = .ok (.iconst 0, 1) := by decide +kernel
theorem dl_191 : decode code 191 = .ok (.invokevirtual 13, 3) := by decide +kernel
theorem dl_194 : decode code 194 = .ok (.aload_n 2, 1) := by decide +kernel
theorem dl_195 : decode code 195 = .ok (.aload_n 0, 1) := by decide +kernel
theorem dl_196 : decode code 196 = .ok (.iload_n 3, 1) := by decide +kernel
theorem dl_197 : decode code 197 = .ok (.iconst 1, 1) := by decide +kernel
theorem dl_198 : decode code 198 = .ok (.iadd, 1) := by decide +kernel
theorem dl_199 : decode code 199 = .ok (.iaload, 1) := by decide +kernel
theorem dl_200 : decode code 200 = .ok (.aload_n 0, 1) := by decide +kernel
theorem dl_201 : decode code 201 = .ok (.iload_n 3, 1) := by decide +kernel
theorem dl_202 : decode code 202 = .ok (.iconst 2, 1) := by decide +kernel
theorem dl_203 : decode code 203 = .ok (.iadd, 1) := by decide +kernel
theorem dl_204 : decode code 204 = .ok (.iaload, 1) := by decide +kernel
theorem dl_205 : decode code 205 = .ok (.ifCond .eq 7, 3) := by decide +kernel
theorem dl_208 : decode code 208 = .ok (.iconst 1, 1) := by decide +kernel
theorem dl_209 : decode code 209 = .ok (.goto 4, 3) := by decide +kernel
theorem dl_212 : decode code 212 = .ok (.iconst 0, 1) := by decide +kernel
theorem dl_213 : decode code 213 = .ok (.invokevirtual 17, 3) := by decide +kernel
theorem dl_216 : decode code 216 = .ok (.if_icmp .eq 871, 3) := by decide +kernel
theorem dl_221 : decode code 221 = .ok (.aload_n 1, 1) := by decide +kernel
theorem dl_222 : decode code 222 = .ok (.aload_n 0, 1) := by decide +kernel
theorem dl_223 : decode code 223 = .ok (.iload_n 3, 1) := by decide +kernel
theorem dl_224 : decode code 224 = .ok (.iconst 1, 1) := by decide +kernel
theorem dl_225 : decode code 225 = .ok (.iadd, 1) := by decide +kernel
theorem dl_226 : decode code 226 = .ok (.iaload, 1) := by decide +kernel
theorem dl_227 : decode code 227 = .ok (.aload_n 0, 1) := by decide +kernel
theorem dl_228 : decode code 228 = .ok (.iload_n 3, 1) := by decide +kernel
theorem dl_229 : decode code 229 = .ok (.iconst 2, 1) := by decide +kernel
theorem dl_230 : decode code 230 = .ok (.iadd, 1) := by decide +kernel
theorem dl_231 : decode code 231 = .ok (.iaload, 1) := by decide +kernel
theorem dl_232 : decode code 232 = .ok (.aload_n 0, 1) := by decide +kernel
theorem dl_233 : decode code 233 = .ok (.iload_n 3, 1) := by decide +kernel
theorem dl_234 : decode code 234 = .ok (.iconst 3, 1) := by decide +kernel
theorem dl_235 : decode code 235 = .ok (.iadd, 1) := by decide +kernel
theorem dl_236 : decode code 236 = .ok (.iaload, 1) := by decide +kernel
theorem dl_237 : decode code 237 = .ok (.aload_n 0, 1) := by decide +kernel
theorem dl_238 : decode code 238 = .ok (.iload_n 3, 1) := by decide +kernel
theorem dl_239 : decode code 239 = .ok (.iconst 4, 1) := by decide +kernel
theorem dl_240 : decode code 240 = .ok (.iadd, 1) := by decide +kernel
theorem dl_241 : decode code 241 = .ok (.iaload, 1) := by decide +kernel
theorem dl_242 : decode code 242 = .ok (.aload_n 0, 1) := by decide +kernel
theorem dl_243 : decode code 243 = .ok (.iload_n 3, 1) := by decide +kernel
theorem dl_244 : decode code 244 = .ok (.iconst 5, 1) := by decide +kernel
theorem dl_245 : decode code 245 = .ok (.iadd, 1) := by decide +kernel
theorem dl_246 : decode code 246 = .ok (.iaload, 1) := by decide +kernel
theorem dl_247 : decode code 247 = .ok (.invokevirtual 18, 3) := by decide +kernel
theorem dl_250 : decode code 250 = .ok (.aload_n 2, 1) := by decide +kernel
theorem dl_251 : decode code 251 = .ok (.aload_n 0, 1) := by decide +kernel
theorem dl_252 : decode code 252 = .ok (.iload_n 3, 1) := by decide +kernel
theorem dl_253 : decode code 253 = .ok (.iconst 1, 1) := by decide +kernel
theorem dl_254 : decode code 254 = .ok (.iadd, 1) := by decide +kernel
theorem dl_255 : decode code 255 = .ok (.iaload, 1) := by decide +kernel
theorem dl_256 : decode code 256 = .ok (.aload_n 0, 1) := by decide +kernel
theorem dl_257 : decode code 257 = .ok (.iload_n 3, 1) := by decide +kernel
theorem dl_258 : decode code 258 = .ok (.iconst 2, 1) := by decide +kernel
theorem dl_259 : decode code 259 = .ok (.iadd, 1) := by decide +kernel
theorem dl_260 : decode code 260 = .ok (.iaload, 1) := by decide +kernel
theorem dl_261 : decode code 261 = .ok (.aload_n 0, 1) := by decide +kernel
theorem dl_262 : decode code 262 = .ok (.iload_n 3, 1) := by decide +kernel
theorem dl_263 : decode code 263 = .ok (.iconst 3, 1) := by decide +kernel
theorem dl_264 : decode code 264 = .ok (.iadd, 1) := by decide +kernel
theorem dl_265 : decode code 265 = .ok (.iaload, 1) := by decide +kernel
theorem dl_266 : decode code 266 = .ok (.aload_n 0, 1) := by decide +kernel
theorem dl_267 : decode code 267 = .ok (.iload_n 3, 1) := by decide +kernel
theorem dl_268 : decode code 268 = .ok (.iconst 4, 1) := by decide +kernel
theorem dl_269 : decode code 269 = .ok (.iadd, 1) := by decide +kernel
theorem dl_270 : decode code 270 = .ok (.iaload, 1) := by decide +kernel
theorem dl_271 : decode code 271 = .ok (.aload_n 0, 1) := by decide +kernel
theorem dl_272 : decode code 272 = .ok (.iload_n 3, 1) := by decide +kernel
theorem dl_273 : decode code 273 = .ok (.iconst 5, 1) := by decide +kernel
theorem dl_274 : decode code 274 = .ok (.iadd, 1) := by decide +kernel
theorem dl_275 : decode code 275 = .ok (.iaload, 1) := by decide +kernel
theorem dl_276 : decode code 276 = .ok (.invokevirtual 22, 3) := by decide +kernel
theorem dl_279 : decode code 279 = .ok (.if_icmp .eq 808, 3) := by decide +kernel
theorem dl_284 : decode code 284 = .ok (.aload_n 1, 1) := by decide +kernel
theorem dl_285 : decode code 285 = .ok (.aload_n 0, 1) := by decide +kernel
theorem dl_286 : decode code 286 = .ok (.iload_n 3, 1) := by decide +kernel
theorem dl_287 : decode code 287 = .ok (.iconst 1, 1) := by decide +kernel
theorem dl_288 : decode code 288 = .ok (.iadd, 1) := by decide +kernel
theorem dl_289 : decode code 289 = .ok (.iaload, 1) := by decide +kernel
theorem dl_290 : decode code 290 = .ok (.invokevirtual 23, 3) := by decide +kernel
theorem dl_293 : decode code 293 = .ok (.aload_n 2, 1) := by decide +kernel
theorem dl_294 : decode code 294 = .ok (.aload_n 0, 1) := by decide +kernel
theorem dl_295 : decode code 295 = .ok (.iload_n 3, 1) := by decide +kernel
theorem dl_296 : decode code 296 = .ok (.iconst 1, 1) := by decide +kernel
theorem dl_297 : decode code 297 = .ok (.iadd, 1) := by decide +kernel
theorem dl_298 : decode code 298 = .ok (.iaload, 1) := by decide +kernel
theorem dl_299 : decode code 299 = .ok (.invokevirtual 27, 3) := by decide +kernel
theorem dl_302 : decode code 302 = .ok (.if_icmp .eq 785, 3) := by decide +kernel
theorem dl_307 : decode code 307 = .ok (.aload_n 1, 1) := by decide +kernel
theorem dl_308 : decode code 308 = .ok (.aload_n 0, 1) := by decide +kernel
theorem dl_309 : decode code 309 = .ok (.iload_n 3, 1) := by decide +kernel
theorem dl_310 : decode code 310 = .ok (.iconst 1, 1) := by decide +kernel
theorem dl_311 : decode code 311 = .ok (.iadd, 1) := by decide +kernel
theorem dl_312 : decode code 312 = .ok (.iaload, 1) := by decide +kernel
theorem dl_313 : decode code 313 = .ok (.invokevirtual 28, 3) := by decide +kernel
theorem dl_316 : decode code 316 = .ok (.aload_n 2, 1) := by decide +kernel
theorem dl_317 : decode code 317 = .ok (.aload_n 0, 1) := by decide +kernel
theorem dl_318 : decode code 318 = .ok (.iload_n 3, 1) := by decide +kernel
theorem dl_319 : decode code 319 = .ok (.iconst 1, 1) := by decide +kernel
theorem dl_320 : decode code 320 = .ok (.iadd, 1) := by decide +kernel
theorem dl_321 : decode code 321 = .ok (.iaload, 1) := by decide +kernel
theorem dl_322 : decode code 322 = .ok (.invokevirtual 31, 3) := by decide +kernel
theorem dl_325 : decode code 325 = .ok (.if_icmp .eq 762, 3) := by decide +kernel
theorem dl_330 : decode code 330 = .ok (.aload_n 1, 1) := by decide +kernel
theorem dl_331 : decode code 331 = .ok (.aload_n 0, 1) := by decide +kernel
theorem dl_332 : decode code 332 = .ok (.iload_n 3, 1) := by decide +kernel
theorem dl_333 : decode code 333 = .ok (.iconst 1, 1) := by decide +kernel
theorem dl_334 : decode code 334 = .ok (.iadd, 1) := by decide +kernel
theorem dl_335 : decode code 335 = .ok (.iaload, 1) := by decide +kernel
theorem dl_336 : decode code 336 = .ok (.invokevirtual 32, 3) := by decide +kernel
theorem dl_339 : decode code 339 = .ok (.aload_n 2, 1) := by decide +kernel
theorem dl_340 : decode code 340 = .ok (.aload_n 0, 1) := by decide +kernel
theorem dl_341 : decode code 341 = .ok (.iload_n 3, 1) := by decide +kernel
theorem dl_342 : decode code 342 = .ok (.iconst 1, 1) := by decide +kernel
theorem dl_343 : decode code 343 = .ok (.iadd, 1) := by decide +kernel
theorem dl_344 : decode code 344 = .ok (.iaload, 1) := by decide +kernel
theorem dl_345 : decode code 345 = .ok (.invokevirtual 35, 3) := by decide +kernel
theorem dl_348 : decode code 348 = .ok (.if_icmp .eq 739, 3) := by decide +kernel
theorem dl_353 : decode code 353 = .ok (.aload_n 1, 1) := by decide +kernel
theorem dl_354 : decode code 354 = .ok (.aload_n 0, 1) := by decide +kernel
theorem dl_355 : decode code 355 = .ok (.iload_n 3, 1) := by decide +kernel
theorem dl_356 : decode code 356 = .ok (.iconst 1, 1) := by decide +kernel
theorem dl_357 : decode code 357 = .ok (.iadd, 1) := by decide +kernel
theorem dl_358 : decode code 358 = .ok (.iaload, 1) := by decide +kernel
theorem dl_359 : decode code 359 = .ok (.aload_n 0, 1) := by decide +kernel
theorem dl_360 : decode code 360 = .ok (.iload_n 3, 1) := by decide +kernel
theorem dl_361 : decode code 361 = .ok (.iconst 2, 1) := by decide +kernel
theorem dl_362 : decode code 362 = .ok (.iadd, 1) := by decide +kernel
theorem dl_363 : decode code 363 = .ok (.iaload, 1) := by decide +kernel
theorem dl_364 : decode code 364 = .ok (.invokevirtual 36, 3) := by decide +kernel
theorem dl_367 : decode code 367 = .ok (.aload_n 2, 1) := by decide +kernel
theorem dl_368 : decode code 368 = .ok (.aload_n 0, 1) := by decide +kernel
theorem dl_369 : decode code 369 = .ok (.iload_n 3, 1) := by decide +kernel
theorem dl_370 : decode code 370 = .ok (.iconst 1, 1) := by decide +kernel
theorem dl_371 : decode code 371 = .ok (.iadd, 1) := by decide +kernel
theorem dl_372 : decode code 372 = .ok (.iaload, 1) := by decide +kernel
theorem dl_373 : decode code 373 = .ok (.aload_n 0, 1) := by decide +kernel
theorem dl_374 : decode code 374 = .ok (.iload_n 3, 1) := by decide +kernel
theorem dl_375 : decode code 375 = .ok (.iconst 2, 1) := by decide +kernel
theorem dl_376 : decode code 376 = .ok (.iadd, 1) := by decide +kernel
theorem dl_377 : decode code 377 = .ok (.iaload, 1) := by decide +kernel
theorem dl_378 : decode code 378 = .ok (.invokevirtual 40, 3) := by decide +kernel
theorem dl_381 : decode code 381 = .ok (.if_icmp .eq 706, 3) := by decide +kernel
theorem dl_386 : decode code 386 = .ok (.aload_n 1, 1) := by decide +kernel
theorem dl_387 : decode code 387 = .ok (.aload_n 0, 1) := by decide +kernel
theorem dl_388 : decode code 388 = .ok (.iload_n 3, 1) := by decide +kernel
theorem dl_389 : decode code 389 = .ok (.iconst 1, 1) := by decide +kernel
theorem dl_390 : decode code 390 = .ok (.iadd, 1) := by decide +kernel
theorem dl_391 : decode code 391 = .ok (.iaload, 1) := by decide +kernel
theorem dl_392 : decode code 392 = .ok (.aload_n 0, 1) := by decide +kernel
theorem dl_393 : decode code 393 = .ok (.iload_n 3, 1) := by decide +kernel
theorem dl_394 : decode code 394 = .ok (.iconst 2, 1) := by decide +kernel
theorem dl_395 : decode code 395 = .ok (.iadd, 1) := by decide +kernel
theorem dl_396 : decode code 396 = .ok (.iaload, 1) := by decide +kernel
theorem dl_397 : decode code 397 = .ok (.invokevirtual 41, 3) := by decide +kernel
theorem dl_400 : decode code 400 = .ok (.aload_n 2, 1) := by decide +kernel
theorem dl_401 : decode code 401 = .ok (.aload_n 0, 1) := by decide +kernel
theorem dl_402 : decode code 402 = .ok (.iload_n 3, 1) := by decide +kernel
theorem dl_403 : decode code 403 = .ok (.iconst 1, 1) := by decide +kernel
theorem dl_404 : decode code 404 = .ok (.iadd, 1) := by decide +kernel
theorem dl_405 : decode code 405 = .ok (.iaload, 1) := by decide +kernel
theorem dl_406 : decode code 406 = .ok (.aload_n 0, 1) := by decide +kernel
theorem dl_407 : decode code 407 = .ok (.iload_n 3, 1) := by decide +kernel
theorem dl_408 : decode code 408 = .ok (.iconst 2, 1) := by decide +kernel
theorem dl_409 : decode code 409 = .ok (.iadd, 1) := by decide +kernel
theorem dl_410 : decode code 410 = .ok (.iaload, 1) := by decide +kernel
theorem dl_411 : decode code 411 = .ok (.invokevirtual 44, 3) := by decide +kernel
theorem dl_414 : decode code 414 = .ok (.if_icmp .eq 673, 3) := by decide +kernel
theorem dl_419 : decode code 419 = .ok (.aload_n 1, 1) := by decide +kernel
theorem dl_420 : decode code 420 = .ok (.aload_n 0, 1) := by decide +kernel
theorem dl_421 : decode code 421 = .ok (.iload_n 3, 1) := by decide +kernel
theorem dl_422 : decode code 422 = .ok (.iconst 1, 1) := by decide +kernel
theorem dl_423 : decode code 423 = .ok (.iadd, 1) := by decide +kernel
theorem dl_424 : decode code 424 = .ok (.iaload, 1) := by decide +kernel
theorem dl_425 : decode code 425 = .ok (.aload_n 0, 1) := by decide +kernel
theorem dl_426 : decode code 426 = .ok (.iload_n 3, 1) := by decide +kernel
theorem dl_427 : decode code 427 = .ok (.iconst 2, 1) := by decide +kernel
theorem dl_428 : decode code 428 = .ok (.iadd, 1) := by decide +kernel
theorem dl_429 : decode code 429 = .ok (.iaload, 1) := by decide +kernel
theorem dl_430 : decode code 430 = .ok (.invokevirtual 45, 3) := by decide +kernel
theorem dl_433 : decode code 433 = .ok (.aload_n 2, 1) := by decide +kernel
theorem dl_434 : decode code 434 = .ok (.aload_n 0, 1) := by decide +kernel
theorem dl_435 : decode code 435 = .ok (.iload_n 3, 1) := by decide +kernel
theorem dl_436 : decode code 436 = .ok (.iconst 1, 1) := by decide +kernel
theorem dl_437 : decode code 437 = .ok (.iadd, 1) := by decide +kernel
theorem dl_438 : decode code 438 = .ok (.iaload, 1) := by decide +kernel
theorem dl_439 : decode code 439 = .ok (.aload_n 0, 1) := by decide +kernel
theorem dl_440 : decode code 440 = .ok (.iload_n 3, 1) := by decide +kernel
theorem dl_441 : decode code 441 = .ok (.iconst 2, 1) := by decide +kernel
theorem dl_442 : decode code 442 = .ok (.iadd, 1) := by decide +kernel
theorem dl_443 : decode code 443 = .ok (.iaload, 1) := by decide +kernel
theorem dl_444 : decode code 444 = .ok (.invokevirtual 48, 3) := by decide +kernel
theorem dl_447 : decode code 447 = .ok (.if_icmp .eq 640, 3) := by decide +kernel
theorem dl_452 : decode code 452 = .ok (.aload_n 1, 1) := by decide +kernel
theorem dl_453 : decode code 453 = .ok (.aload_n 0, 1) := by decide +kernel
theorem dl_454 : decode code 454 = .ok (.iload_n 3, 1) := by decide +kernel
theorem dl_455 : decode code 455 = .ok (.iconst 1, 1) := by decide +kernel
theorem dl_456 : decode code 456 = .ok (.iadd, 1) := by decide +kernel
theorem dl_457 : decode code 457 = .ok (.iaload, 1) := by decide +kernel
theorem dl_458 : decode code 458 = .ok (.invokevirtual 49, 3) := by decide +kernel
theorem dl_461 : decode code 461 = .ok (.aload_n 2, 1) := by decide +kernel
theorem dl_462 : decode code 462 = .ok (.aload_n 0, 1) := by decide +kernel
theorem dl_463 : decode code 463 = .ok (.iload_n 3, 1) := by decide +kernel
theorem dl_464 : decode code 464 = .ok (.iconst 1, 1) := by decide +kernel
theorem dl_465 : decode code 465 = .ok (.iadd, 1) := by decide +kernel
theorem dl_466 : decode code 466 = .ok (.iaload, 1) := by decide +kernel
theorem dl_467 : decode code 467 = .ok (.invokevirtual 52, 3) := by decide +kernel
theorem dl_470 : decode code 470 = .ok (.if_icmp .eq 617, 3) := by decide +kernel
theorem dl_475 : decode code 475 = .ok (.aload_n 1, 1) := by decide +kernel
theorem dl_476 : decode code 476 = .ok (.aload_n 0, 1) := by decide +kernel
theorem dl_477 : decode code 477 = .ok (.iload_n 3, 1) := by decide +kernel
theorem dl_478 : decode code 478 = .ok (.iconst 1, 1) := by decide +kernel
theorem dl_479 : decode code 479 = .ok (.iadd, 1) := by decide +kernel
theorem dl_480 : decode code 480 = .ok (.iaload, 1) := by decide +kernel
theorem dl_481 : decode code 481 = .ok (.invokevirtual 53, 3) := by decide +kernel
theorem dl_484 : decode code 484 = .ok (.aload_n 2, 1) := by decide +kernel
theorem dl_485 : decode code 485 = .ok (.aload_n 0, 1) := by decide +kernel
theorem dl_486 : decode code 486 = .ok (.iload_n 3, 1) := by decide +kernel
theorem dl_487 : decode code 487 = .ok (.iconst 1, 1) := by decide +kernel
theorem dl_488 : decode code 488 = .ok (.iadd, 1) := by decide +kernel
theorem dl_489 : decode code 489 = .ok (.iaload, 1) := by decide +kernel
theorem dl_490 : decode code 490 = .ok (.invokevirtual 56, 3) := by decide +kernel
theorem dl_493 : decode code 493 = .ok (.if_icmp .eq 594, 3) := by decide +kernel
theorem dl_498 : decode code 498 = .ok (.aload_n 1, 1) := by decide +kernel
theorem dl_499 : decode code 499 = .ok (.invokevirtual 57, 3) := by decide +kernel
theorem dl_502 : decode code 502 = .ok (.aload_n 2, 1) := by decide +kernel
theorem dl_503 : decode code 503 = .ok (.invokevirtual 61, 3) := by decide +kernel
theorem dl_506 : decode code 506 = .ok (.if_icmp .eq 581, 3) := by decide +kernel
theorem dl_511 : decode code 511 = .ok (.aload_n 1, 1) := by decide +kernel
theorem dl_512 : decode code 512 = .ok (.aload_n 0, 1) := by decide +kernel
theorem dl_513 : decode code 513 = .ok (.iload_n 3, 1) := by decide +kernel
theorem dl_514 : decode code 514 = .ok (.iconst 1, 1) := by decide +kernel
theorem dl_515 : decode code 515 = .ok (.iadd, 1) := by decide +kernel
theorem dl_516 : decode code 516 = .ok (.iaload, 1) := by decide +kernel
theorem dl_517 : decode code 517 = .ok (.invokevirtual 62, 3) := by decide +kernel
theorem dl_520 : decode code 520 = .ok (.aload_n 2, 1) := by decide +kernel
theorem dl_521 : decode code 521 = .ok (.aload_n 0, 1) := by decide +kernel
theorem dl_522 : decode code 522 = .ok (.iload_n 3, 1) := by decide +kernel
theorem dl_523 : decode code 523 = .ok (.iconst 1, 1) := by decide +kernel
theorem dl_524 : decode code 524 = .ok (.iadd, 1) := by decide +kernel
theorem dl_525 : decode code 525 = .ok (.iaload, 1) := by decide +kernel
theorem dl_526 : decode code 526 = .ok (.invokevirtual 65, 3) := by decide +kernel
theorem dl_529 : decode code 529 = .ok (.if_icmp .eq 558, 3) := by decide +kernel
theorem dl_534 : decode code 534 = .ok (.aload_n 1, 1) := by decide +kernel
theorem dl_535 : decode code 535 = .ok (.invokevirtual 66, 3) := by decide +kernel
theorem dl_538 : decode code 538 = .ok (.aload_n 2, 1) := by decide +kernel
theorem dl_539 : decode code 539 = .ok (.invokevirtual 69, 3) := by decide +kernel
theorem dl_542 : decode code 542 = .ok (.if_icmp .eq 545, 3) := by decide +kernel
theorem dl_547 : decode code 547 = .ok (.aload_n 1, 1) := by decide +kernel
theorem dl_548 : decode code 548 = .ok (.aload_n 0, 1) := by decide +kernel
theorem dl_549 : decode code 549 = .ok (.iload_n 3, 1) := by decide +kernel
theorem dl_550 : decode code 550 = .ok (.iconst 1, 1) := by decide +kernel
theorem dl_551 : decode code 551 = .ok (.iadd, 1) := by decide +kernel
theorem dl_552 : decode code 552 = .ok (.iaload, 1) := by decide +kernel
theorem dl_553 : decode code 553 = .ok (.invokevirtual 70, 3) := by decide +kernel
theorem dl_556 : decode code 556 = .ok (.aload_n 2, 1) := by decide +kernel
theorem dl_557 : decode code 557 = .ok (.aload_n 0, 1) := by decide +kernel
theorem dl_558 : decode code 558 = .ok (.iload_n 3, 1) := by decide +kernel
theorem dl_559 : decode code 559 = .ok (.iconst 1, 1) := by decide +kernel
theorem dl_560 : decode code 560 = .ok (.iadd, 1) := by decide +kernel
theorem dl_561 : decode code 561 = .ok (.iaload, 1) := by decide +kernel
theorem dl_562 : decode code 562 = .ok (.invokevirtual 73, 3) := by decide +kernel
theorem dl_565 : decode code 565 = .ok (.if_icmp .eq 522, 3) := by decide +kernel
theorem dl_570 : decode code 570 = .ok (.aload_n 1, 1) := by decide +kernel
theorem dl_571 : decode code 571 = .ok (.aload_n 0, 1) := by decide +kernel
theorem dl_572 : decode code 572 = .ok (.iload_n 3, 1) := by decide +kernel
theorem dl_573 : decode code 573 = .ok (.iconst 1, 1) := by decide +kernel
theorem dl_574 : decode code 574 = .ok (.iadd, 1) := by decide +kernel
theorem dl_575 : decode code 575 = .ok (.iaload, 1) := by decide +kernel
theorem dl_576 : decode code 576 = .ok (.invokevirtual 74, 3) := by decide +kernel
theorem dl_579 : decode code 579 = .ok (.aload_n 2, 1) := by decide +kernel
theorem dl_580 : decode code 580 = .ok (.aload_n 0, 1) := by decide +kernel
theorem dl_581 : decode code 581 = .ok (.iload_n 3, 1) := by decide +kernel
theorem dl_582 : decode code 582 = .ok (.iconst 1, 1) := by decide +kernel
theorem dl_583 : decode code 583 = .ok (.iadd, 1) := by decide +kernel
theorem dl_584 : decode code 584 = .ok (.iaload, 1) := by decide +kernel
theorem dl_585 : decode code 585 = .ok (.invokevirtual 77, 3) := by decide +kernel
theorem dl_588 : decode code 588 = .ok (.if_icmp .eq 499, 3) := by decide +kernel
theorem dl_593 : decode code 593 = .ok (.aload_n 1, 1) := by decide +kernel
theorem dl_594 : decode code 594 = .ok (.invokevirtual 78, 3) := by decide +kernel
theorem dl_597 : decode code 597 = .ok (.aload_n 2, 1) := by decide +kernel
theorem dl_598 : decode code 598 = .ok (.invokevirtual 81, 3) := by decide +kernel
theorem dl_601 : decode code 601 = .ok (.if_icmp .eq 486, 3) := by decide +kernel
theorem dl_606 : decode code 606 = .ok (.aload_n 1, 1) := by decide +kernel
theorem dl_607 : decode code 607 = .ok (.aload_n 0, 1) := by decide +kernel
theorem dl_608 : decode code 608 = .ok (.iload_n 3, 1) := by decide +kernel
theorem dl_609 : decode code 609 = .ok (.iconst 1, 1) := by decide +kernel
theorem dl_610 : decode code 610 = .ok (.iadd, 1) := by decide +kernel
theorem dl_611 : decode code 611 = .ok (.iaload, 1) := by decide +kernel
theorem dl_612 : decode code 612 = .ok (.aload_n 0, 1) := by decide +kernel
theorem dl_613 : decode code 613 = .ok (.iload_n 3, 1) := by decide +kernel
theorem dl_614 : decode code 614 = .ok (.iconst 2, 1) := by decide +kernel
theorem dl_615 : decode code 615 = .ok (.iadd, 1) := by decide +kernel
theorem dl_616 : decode code 616 = .ok (.iaload, 1) := by decide +kernel
theorem dl_617 : decode code 617 = .ok (.aload_n 0, 1) := by decide +kernel
theorem dl_618 : decode code 618 = .ok (.iload_n 3, 1) := by decide +kernel
theorem dl_619 : decode code 619 = .ok (.iconst 3, 1) := by decide +kernel
theorem dl_620 : decode code 620 = .ok (.iadd, 1) := by decide +kernel
theorem dl_621 : decode code 621 = .ok (.iaload, 1) := by decide +kernel
theorem dl_622 : decode code 622 = .ok (.invokevirtual 82, 3) := by decide +kernel
theorem dl_625 : decode code 625 = .ok (.aload_n 2, 1) := by decide +kernel
theorem dl_626 : decode code 626 = .ok (.aload_n 0, 1) := by decide +kernel
theorem dl_627 : decode code 627 = .ok (.iload_n 3, 1) := by decide +kernel
theorem dl_628 : decode code 628 = .ok (.iconst 1, 1) := by decide +kernel
theorem dl_629 : decode code 629 = .ok (.iadd, 1) := by decide +kernel
theorem dl_630 : decode code 630 = .ok (.iaload, 1) := by decide +kernel
theorem dl_631 : decode code 631 = .ok (.aload_n 0, 1) := by decide +kernel
theorem dl_632 : decode code 632 = .ok (.iload_n 3, 1) := by decide +kernel
theorem dl_633 : decode code 633 = .ok (.iconst 2, 1) := by decide +kernel
theorem dl_634 : decode code 634 = .ok (.iadd, 1) := by decide +kernel
theorem dl_635 : decode code 635 = .ok (.iaload, 1) := by decide +kernel
theorem dl_636 : decode code 636 = .ok (.aload_n 0, 1) := by decide +kernel
theorem dl_637 : decode code 637 = .ok (.iload_n 3, 1) := by decide +kernel
theorem dl_638 : decode code 638 = .ok (.iconst 3, 1) := by decide +kernel
theorem dl_639 : decode code 639 = .ok (.iadd, 1) := by decide +kernel
theorem dl_640 : decode code 640 = .ok (.iaload, 1) := by decide +kernel
theorem dl_641 : decode code 641 = .ok (.invokevirtual 86, 3) := by decide +kernel
theorem dl_644 : decode code 644 = .ok (.if_icmp .eq 443, 3) := by decide +kernel
theorem dl_649 : decode code 649 = .ok (.aload_n 1, 1) := by decide +kernel
theorem dl_650 : decode code 650 = .ok (.aload_n 0, 1) := by decide +kernel
theorem dl_651 : decode code 651 = .ok (.iload_n 3, 1) := by decide +kernel
theorem dl_652 : decode code 652 = .ok (.iconst 1, 1) := by decide +kernel
theorem dl_653 : decode code 653 = .ok (.iadd, 1) := by decide +kernel
theorem dl_654 : decode code 654 = .ok (.iaload, 1) := by decide +kernel
theorem dl_655 : decode code 655 = .ok (.aload_n 0, 1) := by decide +kernel
theorem dl_656 : decode code 656 = .ok (.iload_n 3, 1) := by decide +kernel
theorem dl_657 : decode code 657 = .ok (.iconst 2, 1) := by decide +kernel
theorem dl_658 : decode code 658 = .ok (.iadd, 1) := by decide +kernel
theorem dl_659 : decode code 659 = .ok (.iaload, 1) := by decide +kernel
theorem dl_660 : decode code 660 = .ok (.invokevirtual 87, 3) := by decide +kernel
theorem dl_663 : decode code 663 = .ok (.aload_n 2, 1) := by decide +kernel
theorem dl_664 : decode code 664 = .ok (.aload_n 0, 1) := by decide +kernel
theorem dl_665 : decode code 665 = .ok (.iload_n 3, 1) := by decide +kernel
theorem dl_666 : decode code 666 = .ok (.iconst 1, 1) := by decide +kernel
theorem dl_667 : decode code 667 = .ok (.iadd, 1) := by decide +kernel
theorem dl_668 : decode code 668 = .ok (.iaload, 1) := by decide +kernel
theorem dl_669 : decode code 669 = .ok (.aload_n 0, 1) := by decide +kernel
theorem dl_670 : decode code 670 = .ok (.iload_n 3, 1) := by decide +kernel
theorem dl_671 : decode code 671 = .ok (.iconst 2, 1) := by decide +kernel
theorem dl_672 : decode code 672 = .ok (.iadd, 1) := by decide +kernel
theorem dl_673 : decode code 673 = .ok (.iaload, 1) := by decide +kernel
theorem dl_674 : decode code 674 = .ok (.invokevirtual 90, 3) := by decide +kernel
theorem dl_677 : decode code 677 = .ok (.if_icmp .eq 410, 3) := by decide +kernel
theorem dl_682 : decode code 682 = .ok (.aload_n 1, 1) := by decide +kernel
theorem dl_683 : decode code 683 = .ok (.aload_n 0, 1) := by decide +kernel
theorem dl_684 : decode code 684 = .ok (.iload_n 3, 1) := by decide +kernel
theorem dl_685 : decode code 685 = .ok (.iconst 1, 1) := by decide +kernel
theorem dl_686 : decode code 686 = .ok (.iadd, 1) := by decide +kernel
theorem dl_687 : decode code 687 = .ok (.iaload, 1) := by decide +kernel
theorem dl_688 : decode code 688 = .ok (.aload_n 0, 1) := by decide +kernel
theorem dl_689 : decode code 689 = .ok (.iload_n 3, 1) := by decide +kernel
theorem dl_690 : decode code 690 = .ok (.iconst 2, 1) := by decide +kernel
theorem dl_691 : decode code 691 = .ok (.iadd, 1) := by decide +kernel
theorem dl_692 : decode code 692 = .ok (.iaload, 1) := by decide +kernel
theorem dl_693 : decode code 693 = .ok (.invokevirtual 91, 3) := by decide +kernel
theorem dl_696 : decode code 696 = .ok (.aload_n 2, 1) := by decide +kernel
theorem dl_697 : decode code 697 = .ok (.aload_n 0, 1) := by decide +kernel
theorem dl_698 : decode code 698 = .ok (.iload_n 3, 1) := by decide +kernel
theorem dl_699 : decode code 699 = .ok (.iconst 1, 1) := by decide +kernel
theorem dl_700 : decode code 700 = .ok (.iadd, 1) := by decide +kernel
theorem dl_701 : decode code 701 = .ok (.iaload, 1) := by decide +kernel
theorem dl_702 : decode code 702 = .ok (.aload_n 0, 1) := by decide +kernel
theorem dl_703 : decode code 703 = .ok (.iload_n 3, 1) := by decide +kernel
theorem dl_704 : decode code 704 = .ok (.iconst 2, 1) := by decide +kernel
theorem dl_705 : decode code 705 = .ok (.iadd, 1) := by decide +kernel
theorem dl_706 : decode code 706 = .ok (.iaload, 1) := by decide +kernel
theorem dl_707 : decode code 707 = .ok (.invokevirtual 94, 3) := by decide +kernel
theorem dl_710 : decode code 710 = .ok (.if_icmp .eq 377, 3) := by decide +kernel
theorem dl_715 : decode code 715 = .ok (.aload_n 1, 1) := by decide +kernel
theorem dl_716 : decode code 716 = .ok (.aload_n 0, 1) := by decide +kernel
theorem dl_717 : decode code 717 = .ok (.iload_n 3, 1) := by decide +kernel
theorem dl_718 : decode code 718 = .ok (.iconst 1, 1) := by decide +kernel
theorem dl_719 : decode code 719 = .ok (.iadd, 1) := by decide +kernel
theorem dl_720 : decode code 720 = .ok (.iaload, 1) := by decide +kernel
theorem dl_721 : decode code 721 = .ok (.aload_n 0, 1) := by decide +kernel
theorem dl_722 : decode code 722 = .ok (.iload_n 3, 1) := by decide +kernel
theorem dl_723 : decode code 723 = .ok (.iconst 2, 1) := by decide +kernel
theorem dl_724 : decode code 724 = .ok (.iadd, 1) := by decide +kernel
theorem dl_725 : decode code 725 = .ok (.iaload, 1) := by decide +kernel
theorem dl_726 : decode code 726 = .ok (.invokevirtual 95, 3) := by decide +kernel
theorem dl_729 : decode code 729 = .ok (.aload_n 2, 1) := by decide +kernel
theorem dl_730 : decode code 730 = .ok (.aload_n 0, 1) := by decide +kernel
theorem dl_731 : decode code 731 = .ok (.iload_n 3, 1) := by decide +kernel
theorem dl_732 : decode code 732 = .ok (.iconst 1, 1) := by decide +kernel
theorem dl_733 : decode code 733 = .ok (.iadd, 1) := by decide +kernel
theorem dl_734 : decode code 734 = .ok (.iaload, 1) := by decide +kernel
theorem dl_735 : decode code 735 = .ok (.aload_n 0, 1) := by decide +kernel
theorem dl_736 : decode code 736 = .ok (.iload_n 3, 1) := by decide +kernel
theorem dl_737 : decode code 737 = .ok (.iconst 2, 1) := by decide +kernel
theorem dl_738 : decode code 738 = .ok (.iadd, 1) := by decide +kernel
theorem dl_739 : decode code 739 = .ok (.iaload, 1) := by decide +kernel
theorem dl_740 : decode code 740 = .ok (.invokevirtual 98, 3) := by decide +kernel
theorem dl_743 : decode code 743 = .ok (.if_icmp .eq 344, 3) := by decide +kernel
theorem dl_748 : decode code 748 = .ok (.aload_n 1, 1) := by decide +kernel
theorem dl_749 : decode code 749 = .ok (.aload_n 0, 1) := by decide +kernel
theorem dl_750 : decode code 750 = .ok (.iload_n 3, 1) := by decide +kernel
theorem dl_751 : decode code 751 = .ok (.iconst 1, 1) := by decide +kernel
theorem dl_752 : decode code 752 = .ok (.iadd, 1) := by decide +kernel
theorem dl_753 : decode code 753 = .ok (.iaload, 1) := by decide +kernel
theorem dl_754 : decode code 754 = .ok (.aload_n 0, 1) := by decide +kernel
theorem dl_755 : decode code 755 = .ok (.iload_n 3, 1) := by decide +kernel
theorem dl_756 : decode code 756 = .ok (.iconst 2, 1) := by decide +kernel
theorem dl_757 : decode code 757 = .ok (.iadd, 1) := by decide +kernel
theorem dl_758 : decode code 758 = .ok (.iaload, 1) := by decide +kernel
theorem dl_759 : decode code 759 = .ok (.aload_n 0, 1) := by decide +kernel
theorem dl_760 : decode code 760 = .ok (.iload_n 3, 1) := by decide +kernel
theorem dl_761 : decode code 761 = .ok (.iconst 3, 1) := by decide +kernel
theorem dl_762 : decode code 762 = .ok (.iadd, 1) := by decide +kernel
theorem dl_763 : decode code 763 = .ok (.iaload, 1) := by decide +kernel
theorem dl_764 : decode code 764 = .ok (.ifCond .eq 7, 3) := by decide +kernel
theorem dl_767 : decode code 767 = .ok (.iconst 1, 1) := by decide +kernel
theorem dl_768 : decode code 768 = .ok (.goto 4, 3) := by decide +kernel
theorem dl_771 : decode code 771 = .ok (.iconst 0, 1) := by decide +kernel
theorem dl_772 : decode code 772 = .ok (.aload_n 0, 1) := by decide +kernel
theorem dl_773 : decode code 773 = .ok (.iload_n 3, 1) := by decide +kernel
theorem dl_774 : decode code 774 = .ok (.iconst 4, 1) := by decide +kernel
theorem dl_775 : decode code 775 = .ok (.iadd, 1) := by decide +kernel
theorem dl_776 : decode code 776 = .ok (.iaload, 1) := by decide +kernel
theorem dl_777 : decode code 777 = .ok (.invokevirtual 99, 3) := by decide +kernel
theorem dl_780 : decode code 780 = .ok (.aload_n 2, 1) := by decide +kernel
theorem dl_781 : decode code 781 = .ok (.aload_n 0, 1) := by decide +kernel
theorem dl_782 : decode code 782 = .ok (.iload_n 3, 1) := by decide +kernel
theorem dl_783 : decode code 783 = .ok (.iconst 1, 1) := by decide +kernel
theorem dl_784 : decode code 784 = .ok (.iadd, 1) := by decide +kernel
theorem dl_785 : decode code 785 = .ok (.iaload, 1) := by decide +kernel
theorem dl_786 : decode code 786 = .ok (.aload_n 0, 1) := by decide +kernel
theorem dl_787 : decode code 787 = .ok (.iload_n 3, 1) := by decide +kernel
theorem dl_788 : decode code 788 = .ok (.iconst 2, 1) := by decide +kernel
theorem dl_789 : decode code 789 = .ok (.iadd, 1) := by decide +kernel
theorem dl_790 : decode code 790 = .ok (.iaload, 1) := by decide +kernel
theorem dl_791 : decode code 791 = .ok (.aload_n 0, 1) := by decide +kernel
theorem dl_792 : decode code 792 = .ok (.iload_n 3, 1) := by decide +kernel
theorem dl_793 : decode code 793 = .ok (.iconst 3, 1) := by decide +kernel
theorem dl_794 : decode code 794 = .ok (.iadd, 1) := by decide +kernel
theorem dl_795 : decode code 795 = .ok (.iaload, 1) := by decide +kernel
theorem dl_796 : decode code 796 = .ok (.ifCond .eq 7, 3) := by decide +kernel
theorem dl_799 : decode code 799 = .ok (.iconst 1, 1) := by decide +kernel
theorem dl_800 : decode code 800 = .ok (.goto 4, 3) := by decide +kernel
theorem dl_803 : decode code 803 = .ok (.iconst 0, 1) := by decide +kernel
theorem dl_804 : decode code 804 = .ok (.aload_n 0, 1) := by decide +kernel
theorem dl_805 : decode code 805 = .ok (.iload_n 3, 1) := by decide +kernel
theorem dl_806 : decode code 806 = .ok (.iconst 4, 1) := by decide +kernel
theorem dl_807 : decode code 807 = .ok (.iadd, 1) := by decide +kernel
theorem dl_808 : decode code 808 = .ok (.iaload, 1) := by decide +kernel
theorem dl_809 : decode code 809 = .ok (.invokevirtual 103, 3) := by decide +kernel
theorem dl_812 : decode code 812 = .ok (.if_icmp .eq 275, 3) := by decide +kernel
theorem dl_817 : decode code 817 = .ok (.aload_n 1, 1) := by decide +kernel
theorem dl_818 : decode code 818 = .ok (.aload_n 0, 1) := by decide +kernel
theorem dl_819 : decode code 819 = .ok (.iload_n 3, 1) := by decide +kernel
theorem dl_820 : decode code 820 = .ok (.iconst 1, 1) := by decide +kernel
theorem dl_821 : decode code 821 = .ok (.iadd, 1) := by decide +kernel
theorem dl_822 : decode code 822 = .ok (.iaload, 1) := by decide +kernel
theorem dl_823 : decode code 823 = .ok (.aload_n 0, 1) := by decide +kernel
theorem dl_824 : decode code 824 = .ok (.iload_n 3, 1) := by decide +kernel
theorem dl_825 : decode code 825 = .ok (.iconst 2, 1) := by decide +kernel
theorem dl_826 : decode code 826 = .ok (.iadd, 1) := by decide +kernel
theorem dl_827 : decode code 827 = .ok (.iaload, 1) := by decide +kernel
theorem dl_828 : decode code 828 = .ok (.invokevirtual 104, 3) := by decide +kernel
theorem dl_831 : decode code 831 = .ok (.aload_n 2, 1) := by decide +kernel
theorem dl_832 : decode code 832 = .ok (.aload_n 0, 1) := by decide +kernel
theorem dl_833 : decode code 833 = .ok (.iload_n 3, 1) := by decide +kernel
theorem dl_834 : decode code 834 = .ok (.iconst 1, 1) := by decide +kernel
theorem dl_835 : decode code 835 = .ok (.iadd, 1) := by decide +kernel
theorem dl_836 : decode code 836 = .ok (.iaload, 1) := by decide +kernel
theorem dl_837 : decode code 837 = .ok (.aload_n 0, 1) := by decide +kernel
theorem dl_838 : decode code 838 = .ok (.iload_n 3, 1) := by decide +kernel
theorem dl_839 : decode code 839 = .ok (.iconst 2, 1) := by decide +kernel
theorem dl_840 : decode code 840 = .ok (.iadd, 1) := by decide +kernel
theorem dl_841 : decode code 841 = .ok (.iaload, 1) := by decide +kernel
theorem dl_842 : decode code 842 = .ok (.invokevirtual 107, 3) := by decide +kernel
theorem dl_845 : decode code 845 = .ok (.if_icmp .eq 242, 3) := by decide +kernel
theorem dl_850 : decode code 850 = .ok (.aload_n 1, 1) := by decide +kernel
theorem dl_851 : decode code 851 = .ok (.aload_n 0, 1) := by decide +kernel
theorem dl_852 : decode code 852 = .ok (.iload_n 3, 1) := by decide +kernel
theorem dl_853 : decode code 853 = .ok (.iconst 1, 1) := by decide +kernel
theorem dl_854 : decode code 854 = .ok (.iadd, 1) := by decide +kernel
theorem dl_855 : decode code 855 = .ok (.iaload, 1) := by decide +kernel
theorem dl_856 : decode code 856 = .ok (.aload_n 0, 1) := by decide +kernel
theorem dl_857 : decode code 857 = .ok (.iload_n 3, 1) := by decide +kernel
theorem dl_858 : decode code 858 = .ok (.iconst 2, 1) := by decide +kernel
theorem dl_859 : decode code 859 = .ok (.iadd, 1) := by decide +kernel
theorem dl_860 : decode code 860 = .ok (.iaload, 1) := by decide +kernel
theorem dl_861 : decode code 861 = .ok (.aload_n 0, 1) := by decide +kernel
theorem dl_862 : decode code 862 = .ok (.iload_n 3, 1) := by decide +kernel
theorem dl_863 : decode code 863 = .ok (.iconst 3, 1) := by decide +kernel
theorem dl_864 : decode code 864 = .ok (.iadd, 1) := by decide +kernel
theorem dl_865 : decode code 865 = .ok (.iaload, 1) := by decide +kernel
theorem dl_866 : decode code 866 = .ok (.invokevirtual 108, 3) := by decide +kernel
theorem dl_869 : decode code 869 = .ok (.aload_n 2, 1) := by decide +kernel
theorem dl_870 : decode code 870 = .ok (.aload_n 0, 1) := by decide +kernel
theorem dl_871 : decode code 871 = .ok (.iload_n 3, 1) := by decide +kernel
theorem dl_872 : decode code 872 = .ok (.iconst 1, 1) := by decide +kernel
theorem dl_873 : decode code 873 = .ok (.iadd, 1) := by decide +kernel
theorem dl_874 : decode code 874 = .ok (.iaload, 1) := by decide +kernel
theorem dl_875 : decode code 875 = .ok (.aload_n 0, 1) := by decide +kernel
theorem dl_876 : decode code 876 = .ok (.iload_n 3, 1) := by decide +kernel
theorem dl_877 : decode code 877 = .ok (.iconst 2, 1) := by decide +kernel
theorem dl_878 : decode code 878 = .ok (.iadd, 1) := by decide +kernel
theorem dl_879 : decode code 879 = .ok (.iaload, 1) := by decide +kernel
theorem dl_880 : decode code 880 = .ok (.aload_n 0, 1) := by decide +kernel
theorem dl_881 : decode code 881 = .ok (.iload_n 3, 1) := by decide +kernel
theorem dl_882 : decode code 882 = .ok (.iconst 3, 1) := by decide +kernel
theorem dl_883 : decode code 883 = .ok (.iadd, 1) := by decide +kernel
theorem dl_884 : decode code 884 = .ok (.iaload, 1) := by decide +kernel
theorem dl_885 : decode code 885 = .ok (.invokevirtual 111, 3) := by decide +kernel
theorem dl_888 : decode code 888 = .ok (.if_icmp .eq 199, 3) := by decide +kernel
theorem dl_893 : decode code 893 = .ok (.aload_n 1, 1) := by decide +kernel
theorem dl_894 : decode code 894 = .ok (.aload_n 0, 1) := by decide +kernel
theorem dl_895 : decode code 895 = .ok (.iload_n 3, 1) := by decide +kernel
theorem dl_896 : decode code 896 = .ok (.iconst 1, 1) := by decide +kernel
theorem dl_897 : decode code 897 = .ok (.iadd, 1) := by decide +kernel
theorem dl_898 : decode code 898 = .ok (.iaload, 1) := by decide +kernel
theorem dl_899 : decode code 899 = .ok (.aload_n 0, 1) := by decide +kernel
theorem dl_900 : decode code 900 = .ok (.iload_n 3, 1) := by decide +kernel
theorem dl_901 : decode code 901 = .ok (.iconst 2, 1) := by decide +kernel
theorem dl_902 : decode code 902 = .ok (.iadd, 1) := by decide +kernel
theorem dl_903 : decode code 903 = .ok (.iaload, 1) := by decide +kernel
theorem dl_904 : decode code 904 = .ok (.aload_n 0, 1) := by decide +kernel
theorem dl_905 : decode code 905 = .ok (.iload_n 3, 1) := by decide +kernel
theorem dl_906 : decode code 906 = .ok (.iconst 3, 1) := by decide +kernel
theorem dl_907 : decode code 907 = .ok (.iadd, 1) := by decide +kernel
theorem dl_908 : decode code 908 = .ok (.iaload, 1) := by decide +kernel
theorem dl_909 : decode code 909 = .ok (.invokevirtual 112, 3) := by decide +kernel
theorem dl_912 : decode code 912 = .ok (.aload_n 2, 1) := by decide +kernel
theorem dl_913 : decode code 913 = .ok (.aload_n 0, 1) := by decide +kernel
theorem dl_914 : decode code 914 = .ok (.iload_n 3, 1) := by decide +kernel
theorem dl_915 : decode code 915 = .ok (.iconst 1, 1) := by decide +kernel
theorem dl_916 : decode code 916 = .ok (.iadd, 1) := by decide +kernel
theorem dl_917 : decode code 917 = .ok (.iaload, 1) := by decide +kernel
theorem dl_918 : decode code 918 = .ok (.aload_n 0, 1) := by decide +kernel
theorem dl_919 : decode code 919 = .ok (.iload_n 3, 1) := by decide +kernel
theorem dl_920 : decode code 920 = .ok (.iconst 2, 1) := by decide +kernel
theorem dl_921 : decode code 921 = .ok (.iadd, 1) := by decide +kernel
theorem dl_922 : decode code 922 = .ok (.iaload, 1) := by decide +kernel
theorem dl_923 : decode code 923 = .ok (.aload_n 0, 1) := by decide +kernel
theorem dl_924 : decode code 924 = .ok (.iload_n 3, 1) := by decide +kernel
theorem dl_925 : decode code 925 = .ok (.iconst 3, 1) := by decide +kernel
theorem dl_926 : decode code 926 = .ok (.iadd, 1) := by decide +kernel
theorem dl_927 : decode code 927 = .ok (.iaload, 1) := by decide +kernel
theorem dl_928 : decode code 928 = .ok (.invokevirtual 115, 3) := by decide +kernel
theorem dl_931 : decode code 931 = .ok (.if_icmp .eq 156, 3) := by decide +kernel
theorem dl_936 : decode code 936 = .ok (.aload_n 1, 1) := by decide +kernel
theorem dl_937 : decode code 937 = .ok (.aload_n 0, 1) := by decide +kernel
theorem dl_938 : decode code 938 = .ok (.iload_n 3, 1) := by decide +kernel
theorem dl_939 : decode code 939 = .ok (.iconst 1, 1) := by decide +kernel
theorem dl_940 : decode code 940 = .ok (.iadd, 1) := by decide +kernel
theorem dl_941 : decode code 941 = .ok (.iaload, 1) := by decide +kernel
theorem dl_942 : decode code 942 = .ok (.aload_n 0, 1) := by decide +kernel
theorem dl_943 : decode code 943 = .ok (.iload_n 3, 1) := by decide +kernel
theorem dl_944 : decode code 944 = .ok (.iconst 2, 1) := by decide +kernel
theorem dl_945 : decode code 945 = .ok (.iadd, 1) := by decide +kernel
theorem dl_946 : decode code 946 = .ok (.iaload, 1) := by decide +kernel
theorem dl_947 : decode code 947 = .ok (.invokevirtual 116, 3) := by decide +kernel
theorem dl_950 : decode code 950 = .ok (.aload_n 2, 1) := by decide +kernel
theorem dl_951 : decode code 951 = .ok (.aload_n 0, 1) := by decide +kernel
theorem dl_952 : decode code 952 = .ok (.iload_n 3, 1) := by decide +kernel
theorem dl_953 : decode code 953 = .ok (.iconst 1, 1) := by decide +kernel
theorem dl_954 : decode code 954 = .ok (.iadd, 1) := by decide +kernel
theorem dl_955 : decode code 955 = .ok (.iaload, 1) := by decide +kernel
theorem dl_956 : decode code 956 = .ok (.aload_n 0, 1) := by decide +kernel
theorem dl_957 : decode code 957 = .ok (.iload_n 3, 1) := by decide +kernel
theorem dl_958 : decode code 958 = .ok (.iconst 2, 1) := by decide +kernel
theorem dl_959 : decode code 959 = .ok (.iadd, 1) := by decide +kernel
theorem dl_960 : decode code 960 = .ok (.iaload, 1) := by decide +kernel
theorem dl_961 : decode code 961 = .ok (.invokevirtual 119, 3) := by decide +kernel
theorem dl_964 : decode code 964 = .ok (.if_icmp .eq 123, 3) := by decide +kernel
theorem dl_969 : decode code 969 = .ok (.aload_n 1, 1) := by decide +kernel
theorem dl_970 : decode code 970 = .ok (.aload_n 0, 1) := by decide +kernel
theorem dl_971 : decode code 971 = .ok (.iload_n 3, 1) := by decide +kernel
theorem dl_972 : decode code 972 = .ok (.iconst 1, 1) := by decide +kernel
theorem dl_973 : decode code 973 = .ok (.iadd, 1) := by decide +kernel
theorem dl_974 : decode code 974 = .ok (.iaload, 1) := by decide +kernel
theorem dl_975 : decode code 975 = .ok (.invokevirtual 120, 3) := by decide +kernel
theorem dl_978 : decode code 978 = .ok (.aload_n 2, 1) := by decide +kernel
theorem dl_979 : decode code 979 = .ok (.aload_n 0, 1) := by decide +kernel
theorem dl_980 : decode code 980 = .ok (.iload_n 3, 1) := by decide +kernel
theorem dl_981 : decode code 981 = .ok (.iconst 1, 1) := by decide +kernel
theorem dl_982 : decode code 982 = .ok (.iadd, 1) := by decide +kernel
theorem dl_983 : decode code 983 = .ok (.iaload, 1) := by decide +kernel
theorem dl_984 : decode code 984 = .ok (.invokevirtual 123, 3) := by decide +kernel
theorem dl_987 : decode code 987 = .ok (.if_icmp .eq 100, 3) := by decide +kernel
theorem dl_992 : decode code 992 = .ok (.aload_n 1, 1) := by decide +kernel
theorem dl_993 : decode code 993 = .ok (.aload_n 0, 1) := by decide +kernel
theorem dl_994 : decode code 994 = .ok (.iload_n 3, 1) := by decide +kernel
theorem dl_995 : decode code 995 = .ok (.iconst 1, 1) := by decide +kernel
theorem dl_996 : decode code 996 = .ok (.iadd, 1) := by decide +kernel
theorem dl_997 : decode code 997 = .ok (.iaload, 1) := by decide +kernel
theorem dl_998 : decode code 998 = .ok (.invokevirtual 124, 3) := by decide +kernel
theorem dl_1001 : decode code 1001 = .ok (.aload_n 2, 1) := by decide +kernel
theorem dl_1002 : decode code 1002 = .ok (.aload_n 0, 1) := by decide +kernel
theorem dl_1003 : decode code 1003 = .ok (.iload_n 3, 1) := by decide +kernel
theorem dl_1004 : decode code 1004 = .ok (.iconst 1, 1) := by decide +kernel
theorem dl_1005 : decode code 1005 = .ok (.iadd, 1) := by decide +kernel
theorem dl_1006 : decode code 1006 = .ok (.iaload, 1) := by decide +kernel
theorem dl_1007 : decode code 1007 = .ok (.invokevirtual 128, 3) := by decide +kernel
theorem dl_1010 : decode code 1010 = .ok (.if_icmp .eq 77, 3) := by decide +kernel
theorem dl_1015 : decode code 1015 = .ok (.aload_n 1, 1) := by decide +kernel
theorem dl_1016 : decode code 1016 = .ok (.invokevirtual 129, 3) := by decide +kernel
theorem dl_1019 : decode code 1019 = .ok (.aload_n 2, 1) := by decide +kernel
theorem dl_1020 : decode code 1020 = .ok (.invokevirtual 132, 3) := by decide +kernel
theorem dl_1023 : decode code 1023 = .ok (.if_icmp .eq 64, 3) := by decide +kernel
theorem dl_1028 : decode code 1028 = .ok (.aload_n 1, 1) := by decide +kernel
theorem dl_1029 : decode code 1029 = .ok (.invokevirtual 133, 3) := by decide +kernel
theorem dl_1032 : decode code 1032 = .ok (.aload_n 2, 1) := by decide +kernel
theorem dl_1033 : decode code 1033 = .ok (.invokevirtual 137, 3) := by decide +kernel
theorem dl_1036 : decode code 1036 = .ok (.if_icmp .eq 51, 3) := by decide +kernel
theorem dl_1041 : decode code 1041 = .ok (.aload_n 1, 1) := by decide +kernel
theorem dl_1042 : decode code 1042 = .ok (.aload_n 0, 1) := by decide +kernel
theorem dl_1043 : decode code 1043 = .ok (.iload_n 3, 1) := by decide +kernel
theorem dl_1044 : decode code 1044 = .ok (.iconst 1, 1) := by decide +kernel
theorem dl_1045 : decode code 1045 = .ok (.iadd, 1) := by decide +kernel
theorem dl_1046 : decode code 1046 = .ok (.iaload, 1) := by decide +kernel
theorem dl_1047 : decode code 1047 = .ok (.invokevirtual 138, 3) := by decide +kernel
theorem dl_1050 : decode code 1050 = .ok (.aload_n 2, 1) := by decide +kernel
theorem dl_1051 : decode code 1051 = .ok (.aload_n 0, 1) := by decide +kernel
theorem dl_1052 : decode code 1052 = .ok (.iload_n 3, 1) := by decide +kernel
theorem dl_1053 : decode code 1053 = .ok (.iconst 1, 1) := by decide +kernel
theorem dl_1054 : decode code 1054 = .ok (.iadd, 1) := by decide +kernel
theorem dl_1055 : decode code 1055 = .ok (.iaload, 1) := by decide +kernel
theorem dl_1056 : decode code 1056 = .ok (.invokevirtual 141, 3) := by decide +kernel
theorem dl_1059 : decode code 1059 = .ok (.if_icmp .eq 28, 3) := by decide +kernel
theorem dl_1064 : decode code 1064 = .ok (.aload_n 1, 1) := by decide +kernel
theorem dl_1065 : decode code 1065 = .ok (.aload_n 0, 1) := by decide +kernel
theorem dl_1066 : decode code 1066 = .ok (.iload_n 3, 1) := by decide +kernel
theorem dl_1067 : decode code 1067 = .ok (.iconst 1, 1) := by decide +kernel
theorem dl_1068 : decode code 1068 = .ok (.iadd, 1) := by decide +kernel
theorem dl_1069 : decode code 1069 = .ok (.iaload, 1) := by decide +kernel
theorem dl_1070 : decode code 1070 = .ok (.invokevirtual 142, 3) := by decide +kernel
theorem dl_1073 : decode code 1073 = .ok (.aload_n 2, 1) := by decide +kernel
theorem dl_1074 : decode code 1074 = .ok (.aload_n 0, 1) := by decide +kernel
theorem dl_1075 : decode code 1075 = .ok (.iload_n 3, 1) := by decide +kernel
theorem dl_1076 : decode code 1076 = .ok (.iconst 1, 1) := by decide +kernel
theorem dl_1077 : decode code 1077 = .ok (.iadd, 1) := by decide +kernel
theorem dl_1078 : decode code 1078 = .ok (.iaload, 1) := by decide +kernel
theorem dl_1079 : decode code 1079 = .ok (.invokevirtual 145, 3) := by decide +kernel
theorem dl_1082 : decode code 1082 = .ok (.if_icmp .eq 5, 3) := by decide +kernel
theorem dl_1087 : decode code 1087 = .ok (.iinc 3 6, 3) := by decide +kernel
theorem dl_1090 : decode code 1090 = .ok (.goto (-1072), 3) := by decide +kernel
theorem dl_1093 : decode code 1093 = .ok (.iconst 1, 1) := by decide +kernel
theorem dl_1094 : decode code 1094 = .ok (.ireturn, 1) := by decide +kernel
set_option maxHeartbeats 4000000 in
theorem law_0_0 {L : Nat} {xs : Nat → Int32} {Sx Sm Sx1 Sm1 : St} {l3 r : Int32} (hg1 : ig (l3 + 1) L = true) (hg2 : ig (l3 + 2) L = true) (hg3 : ig (l3 + 3) L = true) (hg4 : ig (l3 + 4) L = true) (hg5 : ig (l3 + 5) L = true) (hb0 : (xs (l3 + 2).toNatClampNeg) = 0) (hX : Ct SX m_W_lit 2 (.ref 0 :: [(xs (l3 + 1).toNatClampNeg), (0 : Int32)].map Value.int) Sx (some r) Sx1) (hM : Ct SM m_Mo_lit 4 (.ref 0 :: [(xs (l3 + 1).toNatClampNeg), (0 : Int32)].map Value.int) Sm (some r) Sm1) (kk : GL L xs 1087 [(0, .ref 0), (1, .ref 1), (2, .ref 2), (3, .int l3)] [] Sx1 Sm1) : GL L xs 172 [(0, .ref 0), (1, .ref 1), (2, .ref 2), (3, .int l3)] [] Sx Sm := by
  refine GL_aload_n 1 rfl dl_172 ?_
  refine GL_aload_n 0 rfl dl_173 ?_
  refine GL_iload_n 3 rfl dl_174 ?_
  refine GL_iconst 1 (by decide) dl_175 ?_
  refine GL_iadd dl_176 ?_
  refine GL_iald hg1 dl_177 ?_
  refine GL_aload_n 0 rfl dl_178 ?_
  refine GL_iload_n 3 rfl dl_179 ?_
  refine GL_iconst 2 (by decide) dl_180 ?_
  refine GL_iadd dl_181 ?_
  refine GL_iald hg2 dl_182 ?_
  refine GL_if_eq 190 (by decide) dl_183 (fun _ => ?_) (fun q => absurd hb0 q)
  refine GL_iconst 0 (by decide) dl_190 ?_
  refine GL_callX [(xs (l3 + 1).toNatClampNeg), 0] [] hX (by decide) (by decide) mv_W_lit rfl rfl (ch_of chl0_ok 0 rfl) rfl (Nat.le_of_ble_eq_true rfl) dl_191 ?_
  refine GL_aload_n 2 rfl dl_194 ?_
  refine GL_aload_n 0 rfl dl_195 ?_
  refine GL_iload_n 3 rfl dl_196 ?_
  refine GL_iconst 1 (by decide) dl_197 ?_
  refine GL_iadd dl_198 ?_
  refine GL_iald hg1 dl_199 ?_
  refine GL_aload_n 0 rfl dl_200 ?_
  refine GL_iload_n 3 rfl dl_201 ?_
  refine GL_iconst 2 (by decide) dl_202 ?_
  refine GL_iadd dl_203 ?_
  refine GL_iald hg2 dl_204 ?_
  refine GL_if_eq 212 (by decide) dl_205 (fun _ => ?_) (fun q => absurd hb0 q)
  refine GL_iconst 0 (by decide) dl_212 ?_
  refine GL_callM [(xs (l3 + 1).toNatClampNeg), 0] [.int r] hM (by decide) (by decide) mv_Mo_lit rfl rfl (ch_of chl0_ok 1 rfl) rfl (Nat.le_of_ble_eq_true rfl) dl_213 ?_
  refine GL_icmp_eq 1087 (by decide) dl_216 (fun _ => kk) (fun q => absurd rfl q)
set_option maxHeartbeats 4000000 in
theorem law_0_1 {L : Nat} {xs : Nat → Int32} {Sx Sm Sx1 Sm1 : St} {l3 r : Int32} (hg1 : ig (l3 + 1) L = true) (hg2 : ig (l3 + 2) L = true) (hg3 : ig (l3 + 3) L = true) (hg4 : ig (l3 + 4) L = true) (hg5 : ig (l3 + 5) L = true) (hb1 : ¬ (xs (l3 + 2).toNatClampNeg) = 0) (hX : Ct SX m_W_lit 2 (.ref 0 :: [(xs (l3 + 1).toNatClampNeg), (1 : Int32)].map Value.int) Sx (some r) Sx1) (hM : Ct SM m_Mo_lit 4 (.ref 0 :: [(xs (l3 + 1).toNatClampNeg), (1 : Int32)].map Value.int) Sm (some r) Sm1) (kk : GL L xs 1087 [(0, .ref 0), (1, .ref 1), (2, .ref 2), (3, .int l3)] [] Sx1 Sm1) : GL L xs 172 [(0, .ref 0), (1, .ref 1), (2, .ref 2), (3, .int l3)] [] Sx Sm := by
  refine GL_aload_n 1 rfl dl_172 ?_
  refine GL_aload_n 0 rfl dl_173 ?_
  refine GL_iload_n 3 rfl dl_174 ?_
  refine GL_iconst 1 (by decide) dl_175 ?_
  refine GL_iadd dl_176 ?_
  refine GL_iald hg1 dl_177 ?_
  refine GL_aload_n 0 rfl dl_178 ?_
  refine GL_iload_n 3 rfl dl_179 ?_
  refine GL_iconst 2 (by decide) dl_180 ?_
  refine GL_iadd dl_181 ?_
  refine GL_iald hg2 dl_182 ?_
  refine GL_if_eq 190 (by decide) dl_183 (fun q => absurd q hb1) (fun _ => ?_)
  refine GL_iconst 1 (by decide) dl_186 ?_
  refine GL_goto 191 (by decide) dl_187 ?_
  refine GL_callX [(xs (l3 + 1).toNatClampNeg), 1] [] hX (by decide) (by decide) mv_W_lit rfl rfl (ch_of chl0_ok 0 rfl) rfl (Nat.le_of_ble_eq_true rfl) dl_191 ?_
  refine GL_aload_n 2 rfl dl_194 ?_
  refine GL_aload_n 0 rfl dl_195 ?_
  refine GL_iload_n 3 rfl dl_196 ?_
  refine GL_iconst 1 (by decide) dl_197 ?_
  refine GL_iadd dl_198 ?_
  refine GL_iald hg1 dl_199 ?_
  refine GL_aload_n 0 rfl dl_200 ?_
  refine GL_iload_n 3 rfl dl_201 ?_
  refine GL_iconst 2 (by decide) dl_202 ?_
  refine GL_iadd dl_203 ?_
  refine GL_iald hg2 dl_204 ?_
  refine GL_if_eq 212 (by decide) dl_205 (fun q => absurd q hb1) (fun _ => ?_)
  refine GL_iconst 1 (by decide) dl_208 ?_
  refine GL_goto 213 (by decide) dl_209 ?_
  refine GL_callM [(xs (l3 + 1).toNatClampNeg), 1] [.int r] hM (by decide) (by decide) mv_Mo_lit rfl rfl (ch_of chl0_ok 1 rfl) rfl (Nat.le_of_ble_eq_true rfl) dl_213 ?_
  refine GL_icmp_eq 1087 (by decide) dl_216 (fun _ => kk) (fun q => absurd rfl q)
set_option maxHeartbeats 4000000 in
theorem law_1 {L : Nat} {xs : Nat → Int32} {Sx Sm Sx1 Sm1 : St} {l3 r : Int32} (hg1 : ig (l3 + 1) L = true) (hg2 : ig (l3 + 2) L = true) (hg3 : ig (l3 + 3) L = true) (hg4 : ig (l3 + 4) L = true) (hg5 : ig (l3 + 5) L = true) (hX : Ct SX m_W_feed 2 (.ref 0 :: [(xs (l3 + 1).toNatClampNeg), (xs (l3 + 2).toNatClampNeg), (xs (l3 + 3).toNatClampNeg), (xs (l3 + 4).toNatClampNeg), (xs (l3 + 5).toNatClampNeg)].map Value.int) Sx (some r) Sx1) (hM : Ct SM m_Mo_feed 2 (.ref 0 :: [(xs (l3 + 1).toNatClampNeg), (xs (l3 + 2).toNatClampNeg), (xs (l3 + 3).toNatClampNeg), (xs (l3 + 4).toNatClampNeg), (xs (l3 + 5).toNatClampNeg)].map Value.int) Sm (some r) Sm1) (kk : GL L xs 1087 [(0, .ref 0), (1, .ref 1), (2, .ref 2), (3, .int l3)] [] Sx1 Sm1) : GL L xs 221 [(0, .ref 0), (1, .ref 1), (2, .ref 2), (3, .int l3)] [] Sx Sm := by
  refine GL_aload_n 1 rfl dl_221 ?_
  refine GL_aload_n 0 rfl dl_222 ?_
  refine GL_iload_n 3 rfl dl_223 ?_
  refine GL_iconst 1 (by decide) dl_224 ?_
  refine GL_iadd dl_225 ?_
  refine GL_iald hg1 dl_226 ?_
  refine GL_aload_n 0 rfl dl_227 ?_
  refine GL_iload_n 3 rfl dl_228 ?_
  refine GL_iconst 2 (by decide) dl_229 ?_
  refine GL_iadd dl_230 ?_
  refine GL_iald hg2 dl_231 ?_
  refine GL_aload_n 0 rfl dl_232 ?_
  refine GL_iload_n 3 rfl dl_233 ?_
  refine GL_iconst 3 (by decide) dl_234 ?_
  refine GL_iadd dl_235 ?_
  refine GL_iald hg3 dl_236 ?_
  refine GL_aload_n 0 rfl dl_237 ?_
  refine GL_iload_n 3 rfl dl_238 ?_
  refine GL_iconst 4 (by decide) dl_239 ?_
  refine GL_iadd dl_240 ?_
  refine GL_iald hg4 dl_241 ?_
  refine GL_aload_n 0 rfl dl_242 ?_
  refine GL_iload_n 3 rfl dl_243 ?_
  refine GL_iconst 5 (by decide) dl_244 ?_
  refine GL_iadd dl_245 ?_
  refine GL_iald hg5 dl_246 ?_
  refine GL_callX [(xs (l3 + 1).toNatClampNeg), (xs (l3 + 2).toNatClampNeg), (xs (l3 + 3).toNatClampNeg), (xs (l3 + 4).toNatClampNeg), (xs (l3 + 5).toNatClampNeg)] [] hX (by decide) (by decide) mv_W_feed rfl rfl (ch_of chl0_ok 2 rfl) rfl (Nat.le_of_ble_eq_true rfl) dl_247 ?_
  refine GL_aload_n 2 rfl dl_250 ?_
  refine GL_aload_n 0 rfl dl_251 ?_
  refine GL_iload_n 3 rfl dl_252 ?_
  refine GL_iconst 1 (by decide) dl_253 ?_
  refine GL_iadd dl_254 ?_
  refine GL_iald hg1 dl_255 ?_
  refine GL_aload_n 0 rfl dl_256 ?_
  refine GL_iload_n 3 rfl dl_257 ?_
  refine GL_iconst 2 (by decide) dl_258 ?_
  refine GL_iadd dl_259 ?_
  refine GL_iald hg2 dl_260 ?_
  refine GL_aload_n 0 rfl dl_261 ?_
  refine GL_iload_n 3 rfl dl_262 ?_
  refine GL_iconst 3 (by decide) dl_263 ?_
  refine GL_iadd dl_264 ?_
  refine GL_iald hg3 dl_265 ?_
  refine GL_aload_n 0 rfl dl_266 ?_
  refine GL_iload_n 3 rfl dl_267 ?_
  refine GL_iconst 4 (by decide) dl_268 ?_
  refine GL_iadd dl_269 ?_
  refine GL_iald hg4 dl_270 ?_
  refine GL_aload_n 0 rfl dl_271 ?_
  refine GL_iload_n 3 rfl dl_272 ?_
  refine GL_iconst 5 (by decide) dl_273 ?_
  refine GL_iadd dl_274 ?_
  refine GL_iald hg5 dl_275 ?_
  refine GL_callM [(xs (l3 + 1).toNatClampNeg), (xs (l3 + 2).toNatClampNeg), (xs (l3 + 3).toNatClampNeg), (xs (l3 + 4).toNatClampNeg), (xs (l3 + 5).toNatClampNeg)] [.int r] hM (by decide) (by decide) mv_Mo_feed rfl rfl (ch_of chl0_ok 3 rfl) rfl (Nat.le_of_ble_eq_true rfl) dl_276 ?_
  refine GL_icmp_eq 1087 (by decide) dl_279 (fun _ => kk) (fun q => absurd rfl q)
set_option maxHeartbeats 4000000 in
theorem law_2 {L : Nat} {xs : Nat → Int32} {Sx Sm Sx1 Sm1 : St} {l3 r : Int32} (hg1 : ig (l3 + 1) L = true) (hg2 : ig (l3 + 2) L = true) (hg3 : ig (l3 + 3) L = true) (hg4 : ig (l3 + 4) L = true) (hg5 : ig (l3 + 5) L = true) (hX : Ct SX m_W_law 142 (.ref 0 :: [(xs (l3 + 1).toNatClampNeg)].map Value.int) Sx (some r) Sx1) (hM : Ct SM m_Mo_law 9 (.ref 0 :: [(xs (l3 + 1).toNatClampNeg)].map Value.int) Sm (some r) Sm1) (kk : GL L xs 1087 [(0, .ref 0), (1, .ref 1), (2, .ref 2), (3, .int l3)] [] Sx1 Sm1) : GL L xs 284 [(0, .ref 0), (1, .ref 1), (2, .ref 2), (3, .int l3)] [] Sx Sm := by
  refine GL_aload_n 1 rfl dl_284 ?_
  refine GL_aload_n 0 rfl dl_285 ?_
  refine GL_iload_n 3 rfl dl_286 ?_
  refine GL_iconst 1 (by decide) dl_287 ?_
  refine GL_iadd dl_288 ?_
  refine GL_iald hg1 dl_289 ?_
  refine GL_callX [(xs (l3 + 1).toNatClampNeg)] [] hX (by decide) (by decide) mv_W_law rfl rfl (ch_of chl0_ok 4 rfl) rfl (Nat.le_of_ble_eq_true rfl) dl_290 ?_
  refine GL_aload_n 2 rfl dl_293 ?_
  refine GL_aload_n 0 rfl dl_294 ?_
  refine GL_iload_n 3 rfl dl_295 ?_
  refine GL_iconst 1 (by decide) dl_296 ?_
  refine GL_iadd dl_297 ?_
  refine GL_iald hg1 dl_298 ?_
  refine GL_callM [(xs (l3 + 1).toNatClampNeg)] [.int r] hM (by decide) (by decide) mv_Mo_law rfl rfl (ch_of chl0_ok 5 rfl) rfl (Nat.le_of_ble_eq_true rfl) dl_299 ?_
  refine GL_icmp_eq 1087 (by decide) dl_302 (fun _ => kk) (fun q => absurd rfl q)
set_option maxHeartbeats 4000000 in
theorem law_3 {L : Nat} {xs : Nat → Int32} {Sx Sm Sx1 Sm1 : St} {l3 r : Int32} (hg1 : ig (l3 + 1) L = true) (hg2 : ig (l3 + 2) L = true) (hg3 : ig (l3 + 3) L = true) (hg4 : ig (l3 + 4) L = true) (hg5 : ig (l3 + 5) L = true) (hX : Ct SX m_W_parish 6 (.ref 0 :: [(xs (l3 + 1).toNatClampNeg)].map Value.int) Sx (some r) Sx1) (hM : Ct SM m_Mo_parish 5 (.ref 0 :: [(xs (l3 + 1).toNatClampNeg)].map Value.int) Sm (some r) Sm1) (kk : GL L xs 1087 [(0, .ref 0), (1, .ref 1), (2, .ref 2), (3, .int l3)] [] Sx1 Sm1) : GL L xs 307 [(0, .ref 0), (1, .ref 1), (2, .ref 2), (3, .int l3)] [] Sx Sm := by
  refine GL_aload_n 1 rfl dl_307 ?_
  refine GL_aload_n 0 rfl dl_308 ?_
  refine GL_iload_n 3 rfl dl_309 ?_
  refine GL_iconst 1 (by decide) dl_310 ?_
  refine GL_iadd dl_311 ?_
  refine GL_iald hg1 dl_312 ?_
  refine GL_callX [(xs (l3 + 1).toNatClampNeg)] [] hX (by decide) (by decide) mv_W_parish rfl rfl (ch_of chl0_ok 6 rfl) rfl (Nat.le_of_ble_eq_true rfl) dl_313 ?_
  refine GL_aload_n 2 rfl dl_316 ?_
  refine GL_aload_n 0 rfl dl_317 ?_
  refine GL_iload_n 3 rfl dl_318 ?_
  refine GL_iconst 1 (by decide) dl_319 ?_
  refine GL_iadd dl_320 ?_
  refine GL_iald hg1 dl_321 ?_
  refine GL_callM [(xs (l3 + 1).toNatClampNeg)] [.int r] hM (by decide) (by decide) mv_Mo_parish rfl rfl (ch_of chl0_ok 7 rfl) rfl (Nat.le_of_ble_eq_true rfl) dl_322 ?_
  refine GL_icmp_eq 1087 (by decide) dl_325 (fun _ => kk) (fun q => absurd rfl q)
set_option maxHeartbeats 4000000 in
theorem law_4 {L : Nat} {xs : Nat → Int32} {Sx Sm Sx1 Sm1 : St} {l3 r : Int32} (hg1 : ig (l3 + 1) L = true) (hg2 : ig (l3 + 2) L = true) (hg3 : ig (l3 + 3) L = true) (hg4 : ig (l3 + 4) L = true) (hg5 : ig (l3 + 5) L = true) (hX : Ct SX m_W_days 8 (.ref 0 :: [(xs (l3 + 1).toNatClampNeg)].map Value.int) Sx (some r) Sx1) (hM : Ct SM m_Mo_days 9 (.ref 0 :: [(xs (l3 + 1).toNatClampNeg)].map Value.int) Sm (some r) Sm1) (kk : GL L xs 1087 [(0, .ref 0), (1, .ref 1), (2, .ref 2), (3, .int l3)] [] Sx1 Sm1) : GL L xs 330 [(0, .ref 0), (1, .ref 1), (2, .ref 2), (3, .int l3)] [] Sx Sm := by
  refine GL_aload_n 1 rfl dl_330 ?_
  refine GL_aload_n 0 rfl dl_331 ?_
  refine GL_iload_n 3 rfl dl_332 ?_
  refine GL_iconst 1 (by decide) dl_333 ?_
  refine GL_iadd dl_334 ?_
  refine GL_iald hg1 dl_335 ?_
  refine GL_callX [(xs (l3 + 1).toNatClampNeg)] [] hX (by decide) (by decide) mv_W_days rfl rfl (ch_of chl0_ok 8 rfl) rfl (Nat.le_of_ble_eq_true rfl) dl_336 ?_
  refine GL_aload_n 2 rfl dl_339 ?_
  refine GL_aload_n 0 rfl dl_340 ?_
  refine GL_iload_n 3 rfl dl_341 ?_
  refine GL_iconst 1 (by decide) dl_342 ?_
  refine GL_iadd dl_343 ?_
  refine GL_iald hg1 dl_344 ?_
  refine GL_callM [(xs (l3 + 1).toNatClampNeg)] [.int r] hM (by decide) (by decide) mv_Mo_days rfl rfl (ch_of chl0_ok 9 rfl) rfl (Nat.le_of_ble_eq_true rfl) dl_345 ?_
  refine GL_icmp_eq 1087 (by decide) dl_348 (fun _ => kk) (fun q => absurd rfl q)
set_option maxHeartbeats 4000000 in
theorem law_5 {L : Nat} {xs : Nat → Int32} {Sx Sm Sx1 Sm1 : St} {l3 r : Int32} (hg1 : ig (l3 + 1) L = true) (hg2 : ig (l3 + 2) L = true) (hg3 : ig (l3 + 3) L = true) (hg4 : ig (l3 + 4) L = true) (hg5 : ig (l3 + 5) L = true) (hX : Ct SX m_W_tried 8 (.ref 0 :: [(xs (l3 + 1).toNatClampNeg), (xs (l3 + 2).toNatClampNeg)].map Value.int) Sx (some r) Sx1) (hM : Ct SM m_Mo_tried 9 (.ref 0 :: [(xs (l3 + 1).toNatClampNeg), (xs (l3 + 2).toNatClampNeg)].map Value.int) Sm (some r) Sm1) (kk : GL L xs 1087 [(0, .ref 0), (1, .ref 1), (2, .ref 2), (3, .int l3)] [] Sx1 Sm1) : GL L xs 353 [(0, .ref 0), (1, .ref 1), (2, .ref 2), (3, .int l3)] [] Sx Sm := by
  refine GL_aload_n 1 rfl dl_353 ?_
  refine GL_aload_n 0 rfl dl_354 ?_
  refine GL_iload_n 3 rfl dl_355 ?_
  refine GL_iconst 1 (by decide) dl_356 ?_
  refine GL_iadd dl_357 ?_
  refine GL_iald hg1 dl_358 ?_
  refine GL_aload_n 0 rfl dl_359 ?_
  refine GL_iload_n 3 rfl dl_360 ?_
  refine GL_iconst 2 (by decide) dl_361 ?_
  refine GL_iadd dl_362 ?_
  refine GL_iald hg2 dl_363 ?_
  refine GL_callX [(xs (l3 + 1).toNatClampNeg), (xs (l3 + 2).toNatClampNeg)] [] hX (by decide) (by decide) mv_W_tried rfl rfl (ch_of chl0_ok 10 rfl) rfl (Nat.le_of_ble_eq_true rfl) dl_364 ?_
  refine GL_aload_n 2 rfl dl_367 ?_
  refine GL_aload_n 0 rfl dl_368 ?_
  refine GL_iload_n 3 rfl dl_369 ?_
  refine GL_iconst 1 (by decide) dl_370 ?_
  refine GL_iadd dl_371 ?_
  refine GL_iald hg1 dl_372 ?_
  refine GL_aload_n 0 rfl dl_373 ?_
  refine GL_iload_n 3 rfl dl_374 ?_
  refine GL_iconst 2 (by decide) dl_375 ?_
  refine GL_iadd dl_376 ?_
  refine GL_iald hg2 dl_377 ?_
  refine GL_callM [(xs (l3 + 1).toNatClampNeg), (xs (l3 + 2).toNatClampNeg)] [.int r] hM (by decide) (by decide) mv_Mo_tried rfl rfl (ch_of chl0_ok 11 rfl) rfl (Nat.le_of_ble_eq_true rfl) dl_378 ?_
  refine GL_icmp_eq 1087 (by decide) dl_381 (fun _ => kk) (fun q => absurd rfl q)
set_option maxHeartbeats 4000000 in
theorem law_6 {L : Nat} {xs : Nat → Int32} {Sx Sm Sx1 Sm1 : St} {l3 r : Int32} (hg1 : ig (l3 + 1) L = true) (hg2 : ig (l3 + 2) L = true) (hg3 : ig (l3 + 3) L = true) (hg4 : ig (l3 + 4) L = true) (hg5 : ig (l3 + 5) L = true) (hX : Ct SX m_W_thingIs 2 (.ref 0 :: [(xs (l3 + 1).toNatClampNeg), (xs (l3 + 2).toNatClampNeg)].map Value.int) Sx (some r) Sx1) (hM : Ct SM m_Mo_thingIs 3 (.ref 0 :: [(xs (l3 + 1).toNatClampNeg), (xs (l3 + 2).toNatClampNeg)].map Value.int) Sm (some r) Sm1) (kk : GL L xs 1087 [(0, .ref 0), (1, .ref 1), (2, .ref 2), (3, .int l3)] [] Sx1 Sm1) : GL L xs 386 [(0, .ref 0), (1, .ref 1), (2, .ref 2), (3, .int l3)] [] Sx Sm := by
  refine GL_aload_n 1 rfl dl_386 ?_
  refine GL_aload_n 0 rfl dl_387 ?_
  refine GL_iload_n 3 rfl dl_388 ?_
  refine GL_iconst 1 (by decide) dl_389 ?_
  refine GL_iadd dl_390 ?_
  refine GL_iald hg1 dl_391 ?_
  refine GL_aload_n 0 rfl dl_392 ?_
  refine GL_iload_n 3 rfl dl_393 ?_
  refine GL_iconst 2 (by decide) dl_394 ?_
  refine GL_iadd dl_395 ?_
  refine GL_iald hg2 dl_396 ?_
  refine GL_callX [(xs (l3 + 1).toNatClampNeg), (xs (l3 + 2).toNatClampNeg)] [] hX (by decide) (by decide) mv_W_thingIs rfl rfl (ch_of chl0_ok 12 rfl) rfl (Nat.le_of_ble_eq_true rfl) dl_397 ?_
  refine GL_aload_n 2 rfl dl_400 ?_
  refine GL_aload_n 0 rfl dl_401 ?_
  refine GL_iload_n 3 rfl dl_402 ?_
  refine GL_iconst 1 (by decide) dl_403 ?_
  refine GL_iadd dl_404 ?_
  refine GL_iald hg1 dl_405 ?_
  refine GL_aload_n 0 rfl dl_406 ?_
  refine GL_iload_n 3 rfl dl_407 ?_
  refine GL_iconst 2 (by decide) dl_408 ?_
  refine GL_iadd dl_409 ?_
  refine GL_iald hg2 dl_410 ?_
  refine GL_callM [(xs (l3 + 1).toNatClampNeg), (xs (l3 + 2).toNatClampNeg)] [.int r] hM (by decide) (by decide) mv_Mo_thingIs rfl rfl (ch_of chl0_ok 13 rfl) rfl (Nat.le_of_ble_eq_true rfl) dl_411 ?_
  refine GL_icmp_eq 1087 (by decide) dl_414 (fun _ => kk) (fun q => absurd rfl q)
set_option maxHeartbeats 4000000 in
theorem law_7 {L : Nat} {xs : Nat → Int32} {Sx Sm Sx1 Sm1 : St} {l3 r : Int32} (hg1 : ig (l3 + 1) L = true) (hg2 : ig (l3 + 2) L = true) (hg3 : ig (l3 + 3) L = true) (hg4 : ig (l3 + 4) L = true) (hg5 : ig (l3 + 5) L = true) (hX : Ct SX m_W_byWhen 8 (.ref 0 :: [(xs (l3 + 1).toNatClampNeg), (xs (l3 + 2).toNatClampNeg)].map Value.int) Sx (some r) Sx1) (hM : Ct SM m_Mo_byWhen 8 (.ref 0 :: [(xs (l3 + 1).toNatClampNeg), (xs (l3 + 2).toNatClampNeg)].map Value.int) Sm (some r) Sm1) (kk : GL L xs 1087 [(0, .ref 0), (1, .ref 1), (2, .ref 2), (3, .int l3)] [] Sx1 Sm1) : GL L xs 419 [(0, .ref 0), (1, .ref 1), (2, .ref 2), (3, .int l3)] [] Sx Sm := by
  refine GL_aload_n 1 rfl dl_419 ?_
  refine GL_aload_n 0 rfl dl_420 ?_
  refine GL_iload_n 3 rfl dl_421 ?_
  refine GL_iconst 1 (by decide) dl_422 ?_
  refine GL_iadd dl_423 ?_
  refine GL_iald hg1 dl_424 ?_
  refine GL_aload_n 0 rfl dl_425 ?_
  refine GL_iload_n 3 rfl dl_426 ?_
  refine GL_iconst 2 (by decide) dl_427 ?_
  refine GL_iadd dl_428 ?_
  refine GL_iald hg2 dl_429 ?_
  refine GL_callX [(xs (l3 + 1).toNatClampNeg), (xs (l3 + 2).toNatClampNeg)] [] hX (by decide) (by decide) mv_W_byWhen rfl rfl (ch_of chl0_ok 14 rfl) rfl (Nat.le_of_ble_eq_true rfl) dl_430 ?_
  refine GL_aload_n 2 rfl dl_433 ?_
  refine GL_aload_n 0 rfl dl_434 ?_
  refine GL_iload_n 3 rfl dl_435 ?_
  refine GL_iconst 1 (by decide) dl_436 ?_
  refine GL_iadd dl_437 ?_
  refine GL_iald hg1 dl_438 ?_
  refine GL_aload_n 0 rfl dl_439 ?_
  refine GL_iload_n 3 rfl dl_440 ?_
  refine GL_iconst 2 (by decide) dl_441 ?_
  refine GL_iadd dl_442 ?_
  refine GL_iald hg2 dl_443 ?_
  refine GL_callM [(xs (l3 + 1).toNatClampNeg), (xs (l3 + 2).toNatClampNeg)] [.int r] hM (by decide) (by decide) mv_Mo_byWhen rfl rfl (ch_of chl0_ok 15 rfl) rfl (Nat.le_of_ble_eq_true rfl) dl_444 ?_
  refine GL_icmp_eq 1087 (by decide) dl_447 (fun _ => kk) (fun q => absurd rfl q)
set_option maxHeartbeats 4000000 in
theorem law_8 {L : Nat} {xs : Nat → Int32} {Sx Sm Sx1 Sm1 : St} {l3 r : Int32} (hg1 : ig (l3 + 1) L = true) (hg2 : ig (l3 + 2) L = true) (hg3 : ig (l3 + 3) L = true) (hg4 : ig (l3 + 4) L = true) (hg5 : ig (l3 + 5) L = true) (hX : Ct SX m_W_dark 8 (.ref 0 :: [(xs (l3 + 1).toNatClampNeg)].map Value.int) Sx (some r) Sx1) (hM : Ct SM m_Mo_dark 8 (.ref 0 :: [(xs (l3 + 1).toNatClampNeg)].map Value.int) Sm (some r) Sm1) (kk : GL L xs 1087 [(0, .ref 0), (1, .ref 1), (2, .ref 2), (3, .int l3)] [] Sx1 Sm1) : GL L xs 452 [(0, .ref 0), (1, .ref 1), (2, .ref 2), (3, .int l3)] [] Sx Sm := by
  refine GL_aload_n 1 rfl dl_452 ?_
  refine GL_aload_n 0 rfl dl_453 ?_
  refine GL_iload_n 3 rfl dl_454 ?_
  refine GL_iconst 1 (by decide) dl_455 ?_
  refine GL_iadd dl_456 ?_
  refine GL_iald hg1 dl_457 ?_
  refine GL_callX [(xs (l3 + 1).toNatClampNeg)] [] hX (by decide) (by decide) mv_W_dark rfl rfl (ch_of chl0_ok 16 rfl) rfl (Nat.le_of_ble_eq_true rfl) dl_458 ?_
  refine GL_aload_n 2 rfl dl_461 ?_
  refine GL_aload_n 0 rfl dl_462 ?_
  refine GL_iload_n 3 rfl dl_463 ?_
  refine GL_iconst 1 (by decide) dl_464 ?_
  refine GL_iadd dl_465 ?_
  refine GL_iald hg1 dl_466 ?_
  refine GL_callM [(xs (l3 + 1).toNatClampNeg)] [.int r] hM (by decide) (by decide) mv_Mo_dark rfl rfl (ch_of chl0_ok 17 rfl) rfl (Nat.le_of_ble_eq_true rfl) dl_467 ?_
  refine GL_icmp_eq 1087 (by decide) dl_470 (fun _ => kk) (fun q => absurd rfl q)
set_option maxHeartbeats 4000000 in
theorem law_9 {L : Nat} {xs : Nat → Int32} {Sx Sm Sx1 Sm1 : St} {l3 r : Int32} (hg1 : ig (l3 + 1) L = true) (hg2 : ig (l3 + 2) L = true) (hg3 : ig (l3 + 3) L = true) (hg4 : ig (l3 + 4) L = true) (hg5 : ig (l3 + 5) L = true) (hX : Ct SX m_W_pride 4 (.ref 0 :: [(xs (l3 + 1).toNatClampNeg)].map Value.int) Sx (some r) Sx1) (hM : Ct SM m_Mo_pride 5 (.ref 0 :: [(xs (l3 + 1).toNatClampNeg)].map Value.int) Sm (some r) Sm1) (kk : GL L xs 1087 [(0, .ref 0), (1, .ref 1), (2, .ref 2), (3, .int l3)] [] Sx1 Sm1) : GL L xs 475 [(0, .ref 0), (1, .ref 1), (2, .ref 2), (3, .int l3)] [] Sx Sm := by
  refine GL_aload_n 1 rfl dl_475 ?_
  refine GL_aload_n 0 rfl dl_476 ?_
  refine GL_iload_n 3 rfl dl_477 ?_
  refine GL_iconst 1 (by decide) dl_478 ?_
  refine GL_iadd dl_479 ?_
  refine GL_iald hg1 dl_480 ?_
  refine GL_callX [(xs (l3 + 1).toNatClampNeg)] [] hX (by decide) (by decide) mv_W_pride rfl rfl (ch_of chl0_ok 18 rfl) rfl (Nat.le_of_ble_eq_true rfl) dl_481 ?_
  refine GL_aload_n 2 rfl dl_484 ?_
  refine GL_aload_n 0 rfl dl_485 ?_
  refine GL_iload_n 3 rfl dl_486 ?_
  refine GL_iconst 1 (by decide) dl_487 ?_
  refine GL_iadd dl_488 ?_
  refine GL_iald hg1 dl_489 ?_
  refine GL_callM [(xs (l3 + 1).toNatClampNeg)] [.int r] hM (by decide) (by decide) mv_Mo_pride rfl rfl (ch_of chl0_ok 19 rfl) rfl (Nat.le_of_ble_eq_true rfl) dl_490 ?_
  refine GL_icmp_eq 1087 (by decide) dl_493 (fun _ => kk) (fun q => absurd rfl q)
set_option maxHeartbeats 4000000 in
theorem law_10 {L : Nat} {xs : Nat → Int32} {Sx Sm Sx1 Sm1 : St} {l3 r : Int32} (hg1 : ig (l3 + 1) L = true) (hg2 : ig (l3 + 2) L = true) (hg3 : ig (l3 + 3) L = true) (hg4 : ig (l3 + 4) L = true) (hg5 : ig (l3 + 5) L = true) (hX : Ct SX m_W_oldest 2 (.ref 0 :: [].map Value.int) Sx (some r) Sx1) (hM : Ct SM m_Mo_oldest 4 (.ref 0 :: [].map Value.int) Sm (some r) Sm1) (kk : GL L xs 1087 [(0, .ref 0), (1, .ref 1), (2, .ref 2), (3, .int l3)] [] Sx1 Sm1) : GL L xs 498 [(0, .ref 0), (1, .ref 1), (2, .ref 2), (3, .int l3)] [] Sx Sm := by
  refine GL_aload_n 1 rfl dl_498 ?_
  refine GL_callX [] [] hX (by decide) (by decide) mv_W_oldest rfl rfl (ch_of chl0_ok 20 rfl) rfl (Nat.le_of_ble_eq_true rfl) dl_499 ?_
  refine GL_aload_n 2 rfl dl_502 ?_
  refine GL_callM [] [.int r] hM (by decide) (by decide) mv_Mo_oldest rfl rfl (ch_of chl0_ok 21 rfl) rfl (Nat.le_of_ble_eq_true rfl) dl_503 ?_
  refine GL_icmp_eq 1087 (by decide) dl_506 (fun _ => kk) (fun q => absurd rfl q)
set_option maxHeartbeats 4000000 in
theorem law_11 {L : Nat} {xs : Nat → Int32} {Sx Sm Sx1 Sm1 : St} {l3 r : Int32} (hg1 : ig (l3 + 1) L = true) (hg2 : ig (l3 + 2) L = true) (hg3 : ig (l3 + 3) L = true) (hg4 : ig (l3 + 4) L = true) (hg5 : ig (l3 + 5) L = true) (hX : Ct SX m_W_chain 2 (.ref 0 :: [(xs (l3 + 1).toNatClampNeg)].map Value.int) Sx (some r) Sx1) (hM : Ct SM m_Mo_chain 3 (.ref 0 :: [(xs (l3 + 1).toNatClampNeg)].map Value.int) Sm (some r) Sm1) (kk : GL L xs 1087 [(0, .ref 0), (1, .ref 1), (2, .ref 2), (3, .int l3)] [] Sx1 Sm1) : GL L xs 511 [(0, .ref 0), (1, .ref 1), (2, .ref 2), (3, .int l3)] [] Sx Sm := by
  refine GL_aload_n 1 rfl dl_511 ?_
  refine GL_aload_n 0 rfl dl_512 ?_
  refine GL_iload_n 3 rfl dl_513 ?_
  refine GL_iconst 1 (by decide) dl_514 ?_
  refine GL_iadd dl_515 ?_
  refine GL_iald hg1 dl_516 ?_
  refine GL_callX [(xs (l3 + 1).toNatClampNeg)] [] hX (by decide) (by decide) mv_W_chain rfl rfl (ch_of chl0_ok 22 rfl) rfl (Nat.le_of_ble_eq_true rfl) dl_517 ?_
  refine GL_aload_n 2 rfl dl_520 ?_
  refine GL_aload_n 0 rfl dl_521 ?_
  refine GL_iload_n 3 rfl dl_522 ?_
  refine GL_iconst 1 (by decide) dl_523 ?_
  refine GL_iadd dl_524 ?_
  refine GL_iald hg1 dl_525 ?_
  refine GL_callM [(xs (l3 + 1).toNatClampNeg)] [.int r] hM (by decide) (by decide) mv_Mo_chain rfl rfl (ch_of chl0_ok 23 rfl) rfl (Nat.le_of_ble_eq_true rfl) dl_526 ?_
  refine GL_icmp_eq 1087 (by decide) dl_529 (fun _ => kk) (fun q => absurd rfl q)
set_option maxHeartbeats 4000000 in
theorem law_12 {L : Nat} {xs : Nat → Int32} {Sx Sm Sx1 Sm1 : St} {l3 r : Int32} (hg1 : ig (l3 + 1) L = true) (hg2 : ig (l3 + 2) L = true) (hg3 : ig (l3 + 3) L = true) (hg4 : ig (l3 + 4) L = true) (hg5 : ig (l3 + 5) L = true) (hX : Ct SX m_W_orders 4 (.ref 0 :: [].map Value.int) Sx (some r) Sx1) (hM : Ct SM m_Mo_orders 4 (.ref 0 :: [].map Value.int) Sm (some r) Sm1) (kk : GL L xs 1087 [(0, .ref 0), (1, .ref 1), (2, .ref 2), (3, .int l3)] [] Sx1 Sm1) : GL L xs 534 [(0, .ref 0), (1, .ref 1), (2, .ref 2), (3, .int l3)] [] Sx Sm := by
  refine GL_aload_n 1 rfl dl_534 ?_
  refine GL_callX [] [] hX (by decide) (by decide) mv_W_orders rfl rfl (ch_of chl0_ok 24 rfl) rfl (Nat.le_of_ble_eq_true rfl) dl_535 ?_
  refine GL_aload_n 2 rfl dl_538 ?_
  refine GL_callM [] [.int r] hM (by decide) (by decide) mv_Mo_orders rfl rfl (ch_of chl0_ok 25 rfl) rfl (Nat.le_of_ble_eq_true rfl) dl_539 ?_
  refine GL_icmp_eq 1087 (by decide) dl_542 (fun _ => kk) (fun q => absurd rfl q)
set_option maxHeartbeats 4000000 in
theorem law_13 {L : Nat} {xs : Nat → Int32} {Sx Sm Sx1 Sm1 : St} {l3 r : Int32} (hg1 : ig (l3 + 1) L = true) (hg2 : ig (l3 + 2) L = true) (hg3 : ig (l3 + 3) L = true) (hg4 : ig (l3 + 4) L = true) (hg5 : ig (l3 + 5) L = true) (hX : Ct SX m_W_light 3 (.ref 0 :: [(xs (l3 + 1).toNatClampNeg)].map Value.int) Sx (some r) Sx1) (hM : Ct SM m_Mo_light 2 (.ref 0 :: [(xs (l3 + 1).toNatClampNeg)].map Value.int) Sm (some r) Sm1) (kk : GL L xs 1087 [(0, .ref 0), (1, .ref 1), (2, .ref 2), (3, .int l3)] [] Sx1 Sm1) : GL L xs 547 [(0, .ref 0), (1, .ref 1), (2, .ref 2), (3, .int l3)] [] Sx Sm := by
  refine GL_aload_n 1 rfl dl_547 ?_
  refine GL_aload_n 0 rfl dl_548 ?_
  refine GL_iload_n 3 rfl dl_549 ?_
  refine GL_iconst 1 (by decide) dl_550 ?_
  refine GL_iadd dl_551 ?_
  refine GL_iald hg1 dl_552 ?_
  refine GL_callX [(xs (l3 + 1).toNatClampNeg)] [] hX (by decide) (by decide) mv_W_light rfl rfl (ch_of chl0_ok 26 rfl) rfl (Nat.le_of_ble_eq_true rfl) dl_553 ?_
  refine GL_aload_n 2 rfl dl_556 ?_
  refine GL_aload_n 0 rfl dl_557 ?_
  refine GL_iload_n 3 rfl dl_558 ?_
  refine GL_iconst 1 (by decide) dl_559 ?_
  refine GL_iadd dl_560 ?_
  refine GL_iald hg1 dl_561 ?_
  refine GL_callM [(xs (l3 + 1).toNatClampNeg)] [.int r] hM (by decide) (by decide) mv_Mo_light rfl rfl (ch_of chl0_ok 27 rfl) rfl (Nat.le_of_ble_eq_true rfl) dl_562 ?_
  refine GL_icmp_eq 1087 (by decide) dl_565 (fun _ => kk) (fun q => absurd rfl q)
set_option maxHeartbeats 4000000 in
theorem law_14 {L : Nat} {xs : Nat → Int32} {Sx Sm Sx1 Sm1 : St} {l3 r : Int32} (hg1 : ig (l3 + 1) L = true) (hg2 : ig (l3 + 2) L = true) (hg3 : ig (l3 + 3) L = true) (hg4 : ig (l3 + 4) L = true) (hg5 : ig (l3 + 5) L = true) (hX : Ct SX m_W_worstNews 4 (.ref 0 :: [(xs (l3 + 1).toNatClampNeg)].map Value.int) Sx (some r) Sx1) (hM : Ct SM m_Mo_worstNews 2 (.ref 0 :: [(xs (l3 + 1).toNatClampNeg)].map Value.int) Sm (some r) Sm1) (kk : GL L xs 1087 [(0, .ref 0), (1, .ref 1), (2, .ref 2), (3, .int l3)] [] Sx1 Sm1) : GL L xs 570 [(0, .ref 0), (1, .ref 1), (2, .ref 2), (3, .int l3)] [] Sx Sm := by
  refine GL_aload_n 1 rfl dl_570 ?_
  refine GL_aload_n 0 rfl dl_571 ?_
  refine GL_iload_n 3 rfl dl_572 ?_
  refine GL_iconst 1 (by decide) dl_573 ?_
  refine GL_iadd dl_574 ?_
  refine GL_iald hg1 dl_575 ?_
  refine GL_callX [(xs (l3 + 1).toNatClampNeg)] [] hX (by decide) (by decide) mv_W_worstNews rfl rfl (ch_of chl0_ok 28 rfl) rfl (Nat.le_of_ble_eq_true rfl) dl_576 ?_
  refine GL_aload_n 2 rfl dl_579 ?_
  refine GL_aload_n 0 rfl dl_580 ?_
  refine GL_iload_n 3 rfl dl_581 ?_
  refine GL_iconst 1 (by decide) dl_582 ?_
  refine GL_iadd dl_583 ?_
  refine GL_iald hg1 dl_584 ?_
  refine GL_callM [(xs (l3 + 1).toNatClampNeg)] [.int r] hM (by decide) (by decide) mv_Mo_worstNews rfl rfl (ch_of chl0_ok 29 rfl) rfl (Nat.le_of_ble_eq_true rfl) dl_585 ?_
  refine GL_icmp_eq 1087 (by decide) dl_588 (fun _ => kk) (fun q => absurd rfl q)
set_option maxHeartbeats 4000000 in
theorem law_15 {L : Nat} {xs : Nat → Int32} {Sx Sm Sx1 Sm1 : St} {l3 r : Int32} (hg1 : ig (l3 + 1) L = true) (hg2 : ig (l3 + 2) L = true) (hg3 : ig (l3 + 3) L = true) (hg4 : ig (l3 + 4) L = true) (hg5 : ig (l3 + 5) L = true) (hX : Ct SX m_W_median 4 (.ref 0 :: [].map Value.int) Sx (some r) Sx1) (hM : Ct SM m_Mo_median 4 (.ref 0 :: [].map Value.int) Sm (some r) Sm1) (kk : GL L xs 1087 [(0, .ref 0), (1, .ref 1), (2, .ref 2), (3, .int l3)] [] Sx1 Sm1) : GL L xs 593 [(0, .ref 0), (1, .ref 1), (2, .ref 2), (3, .int l3)] [] Sx Sm := by
  refine GL_aload_n 1 rfl dl_593 ?_
  refine GL_callX [] [] hX (by decide) (by decide) mv_W_median rfl rfl (ch_of chl0_ok 30 rfl) rfl (Nat.le_of_ble_eq_true rfl) dl_594 ?_
  refine GL_aload_n 2 rfl dl_597 ?_
  refine GL_callM [] [.int r] hM (by decide) (by decide) mv_Mo_median rfl rfl (ch_of chl0_ok 31 rfl) rfl (Nat.le_of_ble_eq_true rfl) dl_598 ?_
  refine GL_icmp_eq 1087 (by decide) dl_601 (fun _ => kk) (fun q => absurd rfl q)
set_option maxHeartbeats 4000000 in
theorem law_16 {L : Nat} {xs : Nat → Int32} {Sx Sm Sx1 Sm1 : St} {l3 r : Int32} (hg1 : ig (l3 + 1) L = true) (hg2 : ig (l3 + 2) L = true) (hg3 : ig (l3 + 3) L = true) (hg4 : ig (l3 + 4) L = true) (hg5 : ig (l3 + 5) L = true) (hX : Ct SX m_W_twist 5 (.ref 0 :: [(xs (l3 + 1).toNatClampNeg), (xs (l3 + 2).toNatClampNeg), (xs (l3 + 3).toNatClampNeg)].map Value.int) Sx (some r) Sx1) (hM : Ct SM m_Mo_twist 4 (.ref 0 :: [(xs (l3 + 1).toNatClampNeg), (xs (l3 + 2).toNatClampNeg), (xs (l3 + 3).toNatClampNeg)].map Value.int) Sm (some r) Sm1) (kk : GL L xs 1087 [(0, .ref 0), (1, .ref 1), (2, .ref 2), (3, .int l3)] [] Sx1 Sm1) : GL L xs 606 [(0, .ref 0), (1, .ref 1), (2, .ref 2), (3, .int l3)] [] Sx Sm := by
  refine GL_aload_n 1 rfl dl_606 ?_
  refine GL_aload_n 0 rfl dl_607 ?_
  refine GL_iload_n 3 rfl dl_608 ?_
  refine GL_iconst 1 (by decide) dl_609 ?_
  refine GL_iadd dl_610 ?_
  refine GL_iald hg1 dl_611 ?_
  refine GL_aload_n 0 rfl dl_612 ?_
  refine GL_iload_n 3 rfl dl_613 ?_
  refine GL_iconst 2 (by decide) dl_614 ?_
  refine GL_iadd dl_615 ?_
  refine GL_iald hg2 dl_616 ?_
  refine GL_aload_n 0 rfl dl_617 ?_
  refine GL_iload_n 3 rfl dl_618 ?_
  refine GL_iconst 3 (by decide) dl_619 ?_
  refine GL_iadd dl_620 ?_
  refine GL_iald hg3 dl_621 ?_
  refine GL_callX [(xs (l3 + 1).toNatClampNeg), (xs (l3 + 2).toNatClampNeg), (xs (l3 + 3).toNatClampNeg)] [] hX (by decide) (by decide) mv_W_twist rfl rfl (ch_of chl0_ok 32 rfl) rfl (Nat.le_of_ble_eq_true rfl) dl_622 ?_
  refine GL_aload_n 2 rfl dl_625 ?_
  refine GL_aload_n 0 rfl dl_626 ?_
  refine GL_iload_n 3 rfl dl_627 ?_
  refine GL_iconst 1 (by decide) dl_628 ?_
  refine GL_iadd dl_629 ?_
  refine GL_iald hg1 dl_630 ?_
  refine GL_aload_n 0 rfl dl_631 ?_
  refine GL_iload_n 3 rfl dl_632 ?_
  refine GL_iconst 2 (by decide) dl_633 ?_
  refine GL_iadd dl_634 ?_
  refine GL_iald hg2 dl_635 ?_
  refine GL_aload_n 0 rfl dl_636 ?_
  refine GL_iload_n 3 rfl dl_637 ?_
  refine GL_iconst 3 (by decide) dl_638 ?_
  refine GL_iadd dl_639 ?_
  refine GL_iald hg3 dl_640 ?_
  refine GL_callM [(xs (l3 + 1).toNatClampNeg), (xs (l3 + 2).toNatClampNeg), (xs (l3 + 3).toNatClampNeg)] [.int r] hM (by decide) (by decide) mv_Mo_twist rfl rfl (ch_of chl0_ok 33 rfl) rfl (Nat.le_of_ble_eq_true rfl) dl_641 ?_
  refine GL_icmp_eq 1087 (by decide) dl_644 (fun _ => kk) (fun q => absurd rfl q)
set_option maxHeartbeats 4000000 in
theorem law_17 {L : Nat} {xs : Nat → Int32} {Sx Sm Sx1 Sm1 : St} {l3 r : Int32} (hg1 : ig (l3 + 1) L = true) (hg2 : ig (l3 + 2) L = true) (hg3 : ig (l3 + 3) L = true) (hg4 : ig (l3 + 4) L = true) (hg5 : ig (l3 + 5) L = true) (hX : Ct SX m_W_waiting 62 (.ref 0 :: [(xs (l3 + 1).toNatClampNeg), (xs (l3 + 2).toNatClampNeg)].map Value.int) Sx (some r) Sx1) (hM : Ct SM m_Mo_waiting 3 (.ref 0 :: [(xs (l3 + 1).toNatClampNeg), (xs (l3 + 2).toNatClampNeg)].map Value.int) Sm (some r) Sm1) (kk : GL L xs 1087 [(0, .ref 0), (1, .ref 1), (2, .ref 2), (3, .int l3)] [] Sx1 Sm1) : GL L xs 649 [(0, .ref 0), (1, .ref 1), (2, .ref 2), (3, .int l3)] [] Sx Sm := by
  refine GL_aload_n 1 rfl dl_649 ?_
  refine GL_aload_n 0 rfl dl_650 ?_
  refine GL_iload_n 3 rfl dl_651 ?_
  refine GL_iconst 1 (by decide) dl_652 ?_
  refine GL_iadd dl_653 ?_
  refine GL_iald hg1 dl_654 ?_
  refine GL_aload_n 0 rfl dl_655 ?_
  refine GL_iload_n 3 rfl dl_656 ?_
  refine GL_iconst 2 (by decide) dl_657 ?_
  refine GL_iadd dl_658 ?_
  refine GL_iald hg2 dl_659 ?_
  refine GL_callX [(xs (l3 + 1).toNatClampNeg), (xs (l3 + 2).toNatClampNeg)] [] hX (by decide) (by decide) mv_W_waiting rfl rfl (ch_of chl0_ok 34 rfl) rfl (Nat.le_of_ble_eq_true rfl) dl_660 ?_
  refine GL_aload_n 2 rfl dl_663 ?_
  refine GL_aload_n 0 rfl dl_664 ?_
  refine GL_iload_n 3 rfl dl_665 ?_
  refine GL_iconst 1 (by decide) dl_666 ?_
  refine GL_iadd dl_667 ?_
  refine GL_iald hg1 dl_668 ?_
  refine GL_aload_n 0 rfl dl_669 ?_
  refine GL_iload_n 3 rfl dl_670 ?_
  refine GL_iconst 2 (by decide) dl_671 ?_
  refine GL_iadd dl_672 ?_
  refine GL_iald hg2 dl_673 ?_
  refine GL_callM [(xs (l3 + 1).toNatClampNeg), (xs (l3 + 2).toNatClampNeg)] [.int r] hM (by decide) (by decide) mv_Mo_waiting rfl rfl (ch_of chl0_ok 35 rfl) rfl (Nat.le_of_ble_eq_true rfl) dl_674 ?_
  refine GL_icmp_eq 1087 (by decide) dl_677 (fun _ => kk) (fun q => absurd rfl q)
set_option maxHeartbeats 4000000 in
theorem law_18 {L : Nat} {xs : Nat → Int32} {Sx Sm Sx1 Sm1 : St} {l3 r : Int32} (hg1 : ig (l3 + 1) L = true) (hg2 : ig (l3 + 2) L = true) (hg3 : ig (l3 + 3) L = true) (hg4 : ig (l3 + 4) L = true) (hg5 : ig (l3 + 5) L = true) (hX : Ct SX m_W_spun 6 (.ref 0 :: [(xs (l3 + 1).toNatClampNeg), (xs (l3 + 2).toNatClampNeg)].map Value.int) Sx (some r) Sx1) (hM : Ct SM m_Mo_spun 3 (.ref 0 :: [(xs (l3 + 1).toNatClampNeg), (xs (l3 + 2).toNatClampNeg)].map Value.int) Sm (some r) Sm1) (kk : GL L xs 1087 [(0, .ref 0), (1, .ref 1), (2, .ref 2), (3, .int l3)] [] Sx1 Sm1) : GL L xs 682 [(0, .ref 0), (1, .ref 1), (2, .ref 2), (3, .int l3)] [] Sx Sm := by
  refine GL_aload_n 1 rfl dl_682 ?_
  refine GL_aload_n 0 rfl dl_683 ?_
  refine GL_iload_n 3 rfl dl_684 ?_
  refine GL_iconst 1 (by decide) dl_685 ?_
  refine GL_iadd dl_686 ?_
  refine GL_iald hg1 dl_687 ?_
  refine GL_aload_n 0 rfl dl_688 ?_
  refine GL_iload_n 3 rfl dl_689 ?_
  refine GL_iconst 2 (by decide) dl_690 ?_
  refine GL_iadd dl_691 ?_
  refine GL_iald hg2 dl_692 ?_
  refine GL_callX [(xs (l3 + 1).toNatClampNeg), (xs (l3 + 2).toNatClampNeg)] [] hX (by decide) (by decide) mv_W_spun rfl rfl (ch_of chl0_ok 36 rfl) rfl (Nat.le_of_ble_eq_true rfl) dl_693 ?_
  refine GL_aload_n 2 rfl dl_696 ?_
  refine GL_aload_n 0 rfl dl_697 ?_
  refine GL_iload_n 3 rfl dl_698 ?_
  refine GL_iconst 1 (by decide) dl_699 ?_
  refine GL_iadd dl_700 ?_
  refine GL_iald hg1 dl_701 ?_
  refine GL_aload_n 0 rfl dl_702 ?_
  refine GL_iload_n 3 rfl dl_703 ?_
  refine GL_iconst 2 (by decide) dl_704 ?_
  refine GL_iadd dl_705 ?_
  refine GL_iald hg2 dl_706 ?_
  refine GL_callM [(xs (l3 + 1).toNatClampNeg), (xs (l3 + 2).toNatClampNeg)] [.int r] hM (by decide) (by decide) mv_Mo_spun rfl rfl (ch_of chl0_ok 37 rfl) rfl (Nat.le_of_ble_eq_true rfl) dl_707 ?_
  refine GL_icmp_eq 1087 (by decide) dl_710 (fun _ => kk) (fun q => absurd rfl q)
set_option maxHeartbeats 4000000 in
theorem law_19 {L : Nat} {xs : Nat → Int32} {Sx Sm Sx1 Sm1 : St} {l3 r : Int32} (hg1 : ig (l3 + 1) L = true) (hg2 : ig (l3 + 2) L = true) (hg3 : ig (l3 + 3) L = true) (hg4 : ig (l3 + 4) L = true) (hg5 : ig (l3 + 5) L = true) (hX : Ct SX m_W_night 4 (.ref 0 :: [(xs (l3 + 1).toNatClampNeg), (xs (l3 + 2).toNatClampNeg)].map Value.int) Sx (some r) Sx1) (hM : Ct SM m_Mo_night 2 (.ref 0 :: [(xs (l3 + 1).toNatClampNeg), (xs (l3 + 2).toNatClampNeg)].map Value.int) Sm (some r) Sm1) (kk : GL L xs 1087 [(0, .ref 0), (1, .ref 1), (2, .ref 2), (3, .int l3)] [] Sx1 Sm1) : GL L xs 715 [(0, .ref 0), (1, .ref 1), (2, .ref 2), (3, .int l3)] [] Sx Sm := by
  refine GL_aload_n 1 rfl dl_715 ?_
  refine GL_aload_n 0 rfl dl_716 ?_
  refine GL_iload_n 3 rfl dl_717 ?_
  refine GL_iconst 1 (by decide) dl_718 ?_
  refine GL_iadd dl_719 ?_
  refine GL_iald hg1 dl_720 ?_
  refine GL_aload_n 0 rfl dl_721 ?_
  refine GL_iload_n 3 rfl dl_722 ?_
  refine GL_iconst 2 (by decide) dl_723 ?_
  refine GL_iadd dl_724 ?_
  refine GL_iald hg2 dl_725 ?_
  refine GL_callX [(xs (l3 + 1).toNatClampNeg), (xs (l3 + 2).toNatClampNeg)] [] hX (by decide) (by decide) mv_W_night rfl rfl (ch_of chl0_ok 38 rfl) rfl (Nat.le_of_ble_eq_true rfl) dl_726 ?_
  refine GL_aload_n 2 rfl dl_729 ?_
  refine GL_aload_n 0 rfl dl_730 ?_
  refine GL_iload_n 3 rfl dl_731 ?_
  refine GL_iconst 1 (by decide) dl_732 ?_
  refine GL_iadd dl_733 ?_
  refine GL_iald hg1 dl_734 ?_
  refine GL_aload_n 0 rfl dl_735 ?_
  refine GL_iload_n 3 rfl dl_736 ?_
  refine GL_iconst 2 (by decide) dl_737 ?_
  refine GL_iadd dl_738 ?_
  refine GL_iald hg2 dl_739 ?_
  refine GL_callM [(xs (l3 + 1).toNatClampNeg), (xs (l3 + 2).toNatClampNeg)] [.int r] hM (by decide) (by decide) mv_Mo_night rfl rfl (ch_of chl0_ok 39 rfl) rfl (Nat.le_of_ble_eq_true rfl) dl_740 ?_
  refine GL_icmp_eq 1087 (by decide) dl_743 (fun _ => kk) (fun q => absurd rfl q)
set_option maxHeartbeats 4000000 in
theorem law_20_0 {L : Nat} {xs : Nat → Int32} {Sx Sm Sx1 Sm1 : St} {l3 r : Int32} (hg1 : ig (l3 + 1) L = true) (hg2 : ig (l3 + 2) L = true) (hg3 : ig (l3 + 3) L = true) (hg4 : ig (l3 + 4) L = true) (hg5 : ig (l3 + 5) L = true) (hb0 : (xs (l3 + 3).toNatClampNeg) = 0) (hX : Ct SX m_W_putsOff 3 (.ref 0 :: [(xs (l3 + 1).toNatClampNeg), (xs (l3 + 2).toNatClampNeg), (0 : Int32), (xs (l3 + 4).toNatClampNeg)].map Value.int) Sx (some r) Sx1) (hM : Ct SM m_Mo_putsOff 4 (.ref 0 :: [(xs (l3 + 1).toNatClampNeg), (xs (l3 + 2).toNatClampNeg), (0 : Int32), (xs (l3 + 4).toNatClampNeg)].map Value.int) Sm (some r) Sm1) (kk : GL L xs 1087 [(0, .ref 0), (1, .ref 1), (2, .ref 2), (3, .int l3)] [] Sx1 Sm1) : GL L xs 748 [(0, .ref 0), (1, .ref 1), (2, .ref 2), (3, .int l3)] [] Sx Sm := by
  refine GL_aload_n 1 rfl dl_748 ?_
  refine GL_aload_n 0 rfl dl_749 ?_
  refine GL_iload_n 3 rfl dl_750 ?_
  refine GL_iconst 1 (by decide) dl_751 ?_
  refine GL_iadd dl_752 ?_
  refine GL_iald hg1 dl_753 ?_
  refine GL_aload_n 0 rfl dl_754 ?_
  refine GL_iload_n 3 rfl dl_755 ?_
  refine GL_iconst 2 (by decide) dl_756 ?_
  refine GL_iadd dl_757 ?_
  refine GL_iald hg2 dl_758 ?_
  refine GL_aload_n 0 rfl dl_759 ?_
  refine GL_iload_n 3 rfl dl_760 ?_
  refine GL_iconst 3 (by decide) dl_761 ?_
  refine GL_iadd dl_762 ?_
  refine GL_iald hg3 dl_763 ?_
  refine GL_if_eq 771 (by decide) dl_764 (fun _ => ?_) (fun q => absurd hb0 q)
  refine GL_iconst 0 (by decide) dl_771 ?_
  refine GL_aload_n 0 rfl dl_772 ?_
  refine GL_iload_n 3 rfl dl_773 ?_
  refine GL_iconst 4 (by decide) dl_774 ?_
  refine GL_iadd dl_775 ?_
  refine GL_iald hg4 dl_776 ?_
  refine GL_callX [(xs (l3 + 1).toNatClampNeg), (xs (l3 + 2).toNatClampNeg), 0, (xs (l3 + 4).toNatClampNeg)] [] hX (by decide) (by decide) mv_W_putsOff rfl rfl (ch_of chl0_ok 40 rfl) rfl (Nat.le_of_ble_eq_true rfl) dl_777 ?_
  refine GL_aload_n 2 rfl dl_780 ?_
  refine GL_aload_n 0 rfl dl_781 ?_
  refine GL_iload_n 3 rfl dl_782 ?_
  refine GL_iconst 1 (by decide) dl_783 ?_
  refine GL_iadd dl_784 ?_
  refine GL_iald hg1 dl_785 ?_
  refine GL_aload_n 0 rfl dl_786 ?_
  refine GL_iload_n 3 rfl dl_787 ?_
  refine GL_iconst 2 (by decide) dl_788 ?_
  refine GL_iadd dl_789 ?_
  refine GL_iald hg2 dl_790 ?_
  refine GL_aload_n 0 rfl dl_791 ?_
  refine GL_iload_n 3 rfl dl_792 ?_
  refine GL_iconst 3 (by decide) dl_793 ?_
  refine GL_iadd dl_794 ?_
  refine GL_iald hg3 dl_795 ?_
  refine GL_if_eq 803 (by decide) dl_796 (fun _ => ?_) (fun q => absurd hb0 q)
  refine GL_iconst 0 (by decide) dl_803 ?_
  refine GL_aload_n 0 rfl dl_804 ?_
  refine GL_iload_n 3 rfl dl_805 ?_
  refine GL_iconst 4 (by decide) dl_806 ?_
  refine GL_iadd dl_807 ?_
  refine GL_iald hg4 dl_808 ?_
  refine GL_callM [(xs (l3 + 1).toNatClampNeg), (xs (l3 + 2).toNatClampNeg), 0, (xs (l3 + 4).toNatClampNeg)] [.int r] hM (by decide) (by decide) mv_Mo_putsOff rfl rfl (ch_of chl0_ok 41 rfl) rfl (Nat.le_of_ble_eq_true rfl) dl_809 ?_
  refine GL_icmp_eq 1087 (by decide) dl_812 (fun _ => kk) (fun q => absurd rfl q)
set_option maxHeartbeats 4000000 in
theorem law_20_1 {L : Nat} {xs : Nat → Int32} {Sx Sm Sx1 Sm1 : St} {l3 r : Int32} (hg1 : ig (l3 + 1) L = true) (hg2 : ig (l3 + 2) L = true) (hg3 : ig (l3 + 3) L = true) (hg4 : ig (l3 + 4) L = true) (hg5 : ig (l3 + 5) L = true) (hb1 : ¬ (xs (l3 + 3).toNatClampNeg) = 0) (hX : Ct SX m_W_putsOff 3 (.ref 0 :: [(xs (l3 + 1).toNatClampNeg), (xs (l3 + 2).toNatClampNeg), (1 : Int32), (xs (l3 + 4).toNatClampNeg)].map Value.int) Sx (some r) Sx1) (hM : Ct SM m_Mo_putsOff 4 (.ref 0 :: [(xs (l3 + 1).toNatClampNeg), (xs (l3 + 2).toNatClampNeg), (1 : Int32), (xs (l3 + 4).toNatClampNeg)].map Value.int) Sm (some r) Sm1) (kk : GL L xs 1087 [(0, .ref 0), (1, .ref 1), (2, .ref 2), (3, .int l3)] [] Sx1 Sm1) : GL L xs 748 [(0, .ref 0), (1, .ref 1), (2, .ref 2), (3, .int l3)] [] Sx Sm := by
  refine GL_aload_n 1 rfl dl_748 ?_
  refine GL_aload_n 0 rfl dl_749 ?_
  refine GL_iload_n 3 rfl dl_750 ?_
  refine GL_iconst 1 (by decide) dl_751 ?_
  refine GL_iadd dl_752 ?_
  refine GL_iald hg1 dl_753 ?_
  refine GL_aload_n 0 rfl dl_754 ?_
  refine GL_iload_n 3 rfl dl_755 ?_
  refine GL_iconst 2 (by decide) dl_756 ?_
  refine GL_iadd dl_757 ?_
  refine GL_iald hg2 dl_758 ?_
  refine GL_aload_n 0 rfl dl_759 ?_
  refine GL_iload_n 3 rfl dl_760 ?_
  refine GL_iconst 3 (by decide) dl_761 ?_
  refine GL_iadd dl_762 ?_
  refine GL_iald hg3 dl_763 ?_
  refine GL_if_eq 771 (by decide) dl_764 (fun q => absurd q hb1) (fun _ => ?_)
  refine GL_iconst 1 (by decide) dl_767 ?_
  refine GL_goto 772 (by decide) dl_768 ?_
  refine GL_aload_n 0 rfl dl_772 ?_
  refine GL_iload_n 3 rfl dl_773 ?_
  refine GL_iconst 4 (by decide) dl_774 ?_
  refine GL_iadd dl_775 ?_
  refine GL_iald hg4 dl_776 ?_
  refine GL_callX [(xs (l3 + 1).toNatClampNeg), (xs (l3 + 2).toNatClampNeg), 1, (xs (l3 + 4).toNatClampNeg)] [] hX (by decide) (by decide) mv_W_putsOff rfl rfl (ch_of chl0_ok 40 rfl) rfl (Nat.le_of_ble_eq_true rfl) dl_777 ?_
  refine GL_aload_n 2 rfl dl_780 ?_
  refine GL_aload_n 0 rfl dl_781 ?_
  refine GL_iload_n 3 rfl dl_782 ?_
  refine GL_iconst 1 (by decide) dl_783 ?_
  refine GL_iadd dl_784 ?_
  refine GL_iald hg1 dl_785 ?_
  refine GL_aload_n 0 rfl dl_786 ?_
  refine GL_iload_n 3 rfl dl_787 ?_
  refine GL_iconst 2 (by decide) dl_788 ?_
  refine GL_iadd dl_789 ?_
  refine GL_iald hg2 dl_790 ?_
  refine GL_aload_n 0 rfl dl_791 ?_
  refine GL_iload_n 3 rfl dl_792 ?_
  refine GL_iconst 3 (by decide) dl_793 ?_
  refine GL_iadd dl_794 ?_
  refine GL_iald hg3 dl_795 ?_
  refine GL_if_eq 803 (by decide) dl_796 (fun q => absurd q hb1) (fun _ => ?_)
  refine GL_iconst 1 (by decide) dl_799 ?_
  refine GL_goto 804 (by decide) dl_800 ?_
  refine GL_aload_n 0 rfl dl_804 ?_
  refine GL_iload_n 3 rfl dl_805 ?_
  refine GL_iconst 4 (by decide) dl_806 ?_
  refine GL_iadd dl_807 ?_
  refine GL_iald hg4 dl_808 ?_
  refine GL_callM [(xs (l3 + 1).toNatClampNeg), (xs (l3 + 2).toNatClampNeg), 1, (xs (l3 + 4).toNatClampNeg)] [.int r] hM (by decide) (by decide) mv_Mo_putsOff rfl rfl (ch_of chl0_ok 41 rfl) rfl (Nat.le_of_ble_eq_true rfl) dl_809 ?_
  refine GL_icmp_eq 1087 (by decide) dl_812 (fun _ => kk) (fun q => absurd rfl q)
set_option maxHeartbeats 4000000 in
theorem law_21 {L : Nat} {xs : Nat → Int32} {Sx Sm Sx1 Sm1 : St} {l3 r : Int32} (hg1 : ig (l3 + 1) L = true) (hg2 : ig (l3 + 2) L = true) (hg3 : ig (l3 + 3) L = true) (hg4 : ig (l3 + 4) L = true) (hg5 : ig (l3 + 5) L = true) (hX : Ct SX m_W_cord 4 (.ref 0 :: [(xs (l3 + 1).toNatClampNeg), (xs (l3 + 2).toNatClampNeg)].map Value.int) Sx (some r) Sx1) (hM : Ct SM m_Mo_cord 2 (.ref 0 :: [(xs (l3 + 1).toNatClampNeg), (xs (l3 + 2).toNatClampNeg)].map Value.int) Sm (some r) Sm1) (kk : GL L xs 1087 [(0, .ref 0), (1, .ref 1), (2, .ref 2), (3, .int l3)] [] Sx1 Sm1) : GL L xs 817 [(0, .ref 0), (1, .ref 1), (2, .ref 2), (3, .int l3)] [] Sx Sm := by
  refine GL_aload_n 1 rfl dl_817 ?_
  refine GL_aload_n 0 rfl dl_818 ?_
  refine GL_iload_n 3 rfl dl_819 ?_
  refine GL_iconst 1 (by decide) dl_820 ?_
  refine GL_iadd dl_821 ?_
  refine GL_iald hg1 dl_822 ?_
  refine GL_aload_n 0 rfl dl_823 ?_
  refine GL_iload_n 3 rfl dl_824 ?_
  refine GL_iconst 2 (by decide) dl_825 ?_
  refine GL_iadd dl_826 ?_
  refine GL_iald hg2 dl_827 ?_
  refine GL_callX [(xs (l3 + 1).toNatClampNeg), (xs (l3 + 2).toNatClampNeg)] [] hX (by decide) (by decide) mv_W_cord rfl rfl (ch_of chl0_ok 42 rfl) rfl (Nat.le_of_ble_eq_true rfl) dl_828 ?_
  refine GL_aload_n 2 rfl dl_831 ?_
  refine GL_aload_n 0 rfl dl_832 ?_
  refine GL_iload_n 3 rfl dl_833 ?_
  refine GL_iconst 1 (by decide) dl_834 ?_
  refine GL_iadd dl_835 ?_
  refine GL_iald hg1 dl_836 ?_
  refine GL_aload_n 0 rfl dl_837 ?_
  refine GL_iload_n 3 rfl dl_838 ?_
  refine GL_iconst 2 (by decide) dl_839 ?_
  refine GL_iadd dl_840 ?_
  refine GL_iald hg2 dl_841 ?_
  refine GL_callM [(xs (l3 + 1).toNatClampNeg), (xs (l3 + 2).toNatClampNeg)] [.int r] hM (by decide) (by decide) mv_Mo_cord rfl rfl (ch_of chl0_ok 43 rfl) rfl (Nat.le_of_ble_eq_true rfl) dl_842 ?_
  refine GL_icmp_eq 1087 (by decide) dl_845 (fun _ => kk) (fun q => absurd rfl q)
set_option maxHeartbeats 4000000 in
theorem law_22 {L : Nat} {xs : Nat → Int32} {Sx Sm Sx1 Sm1 : St} {l3 r : Int32} (hg1 : ig (l3 + 1) L = true) (hg2 : ig (l3 + 2) L = true) (hg3 : ig (l3 + 3) L = true) (hg4 : ig (l3 + 4) L = true) (hg5 : ig (l3 + 5) L = true) (hX : Ct SX m_W_seen 5 (.ref 0 :: [(xs (l3 + 1).toNatClampNeg), (xs (l3 + 2).toNatClampNeg), (xs (l3 + 3).toNatClampNeg)].map Value.int) Sx (some r) Sx1) (hM : Ct SM m_Mo_seen 4 (.ref 0 :: [(xs (l3 + 1).toNatClampNeg), (xs (l3 + 2).toNatClampNeg), (xs (l3 + 3).toNatClampNeg)].map Value.int) Sm (some r) Sm1) (kk : GL L xs 1087 [(0, .ref 0), (1, .ref 1), (2, .ref 2), (3, .int l3)] [] Sx1 Sm1) : GL L xs 850 [(0, .ref 0), (1, .ref 1), (2, .ref 2), (3, .int l3)] [] Sx Sm := by
  refine GL_aload_n 1 rfl dl_850 ?_
  refine GL_aload_n 0 rfl dl_851 ?_
  refine GL_iload_n 3 rfl dl_852 ?_
  refine GL_iconst 1 (by decide) dl_853 ?_
  refine GL_iadd dl_854 ?_
  refine GL_iald hg1 dl_855 ?_
  refine GL_aload_n 0 rfl dl_856 ?_
  refine GL_iload_n 3 rfl dl_857 ?_
  refine GL_iconst 2 (by decide) dl_858 ?_
  refine GL_iadd dl_859 ?_
  refine GL_iald hg2 dl_860 ?_
  refine GL_aload_n 0 rfl dl_861 ?_
  refine GL_iload_n 3 rfl dl_862 ?_
  refine GL_iconst 3 (by decide) dl_863 ?_
  refine GL_iadd dl_864 ?_
  refine GL_iald hg3 dl_865 ?_
  refine GL_callX [(xs (l3 + 1).toNatClampNeg), (xs (l3 + 2).toNatClampNeg), (xs (l3 + 3).toNatClampNeg)] [] hX (by decide) (by decide) mv_W_seen rfl rfl (ch_of chl0_ok 44 rfl) rfl (Nat.le_of_ble_eq_true rfl) dl_866 ?_
  refine GL_aload_n 2 rfl dl_869 ?_
  refine GL_aload_n 0 rfl dl_870 ?_
  refine GL_iload_n 3 rfl dl_871 ?_
  refine GL_iconst 1 (by decide) dl_872 ?_
  refine GL_iadd dl_873 ?_
  refine GL_iald hg1 dl_874 ?_
  refine GL_aload_n 0 rfl dl_875 ?_
  refine GL_iload_n 3 rfl dl_876 ?_
  refine GL_iconst 2 (by decide) dl_877 ?_
  refine GL_iadd dl_878 ?_
  refine GL_iald hg2 dl_879 ?_
  refine GL_aload_n 0 rfl dl_880 ?_
  refine GL_iload_n 3 rfl dl_881 ?_
  refine GL_iconst 3 (by decide) dl_882 ?_
  refine GL_iadd dl_883 ?_
  refine GL_iald hg3 dl_884 ?_
  refine GL_callM [(xs (l3 + 1).toNatClampNeg), (xs (l3 + 2).toNatClampNeg), (xs (l3 + 3).toNatClampNeg)] [.int r] hM (by decide) (by decide) mv_Mo_seen rfl rfl (ch_of chl0_ok 45 rfl) rfl (Nat.le_of_ble_eq_true rfl) dl_885 ?_
  refine GL_icmp_eq 1087 (by decide) dl_888 (fun _ => kk) (fun q => absurd rfl q)
set_option maxHeartbeats 4000000 in
theorem law_23 {L : Nat} {xs : Nat → Int32} {Sx Sm Sx1 Sm1 : St} {l3 r : Int32} (hg1 : ig (l3 + 1) L = true) (hg2 : ig (l3 + 2) L = true) (hg3 : ig (l3 + 3) L = true) (hg4 : ig (l3 + 4) L = true) (hg5 : ig (l3 + 5) L = true) (hX : Ct SX m_W_brightest 5 (.ref 0 :: [(xs (l3 + 1).toNatClampNeg), (xs (l3 + 2).toNatClampNeg), (xs (l3 + 3).toNatClampNeg)].map Value.int) Sx (some r) Sx1) (hM : Ct SM m_Mo_brightest 3 (.ref 0 :: [(xs (l3 + 1).toNatClampNeg), (xs (l3 + 2).toNatClampNeg), (xs (l3 + 3).toNatClampNeg)].map Value.int) Sm (some r) Sm1) (kk : GL L xs 1087 [(0, .ref 0), (1, .ref 1), (2, .ref 2), (3, .int l3)] [] Sx1 Sm1) : GL L xs 893 [(0, .ref 0), (1, .ref 1), (2, .ref 2), (3, .int l3)] [] Sx Sm := by
  refine GL_aload_n 1 rfl dl_893 ?_
  refine GL_aload_n 0 rfl dl_894 ?_
  refine GL_iload_n 3 rfl dl_895 ?_
  refine GL_iconst 1 (by decide) dl_896 ?_
  refine GL_iadd dl_897 ?_
  refine GL_iald hg1 dl_898 ?_
  refine GL_aload_n 0 rfl dl_899 ?_
  refine GL_iload_n 3 rfl dl_900 ?_
  refine GL_iconst 2 (by decide) dl_901 ?_
  refine GL_iadd dl_902 ?_
  refine GL_iald hg2 dl_903 ?_
  refine GL_aload_n 0 rfl dl_904 ?_
  refine GL_iload_n 3 rfl dl_905 ?_
  refine GL_iconst 3 (by decide) dl_906 ?_
  refine GL_iadd dl_907 ?_
  refine GL_iald hg3 dl_908 ?_
  refine GL_callX [(xs (l3 + 1).toNatClampNeg), (xs (l3 + 2).toNatClampNeg), (xs (l3 + 3).toNatClampNeg)] [] hX (by decide) (by decide) mv_W_brightest rfl rfl (ch_of chl0_ok 46 rfl) rfl (Nat.le_of_ble_eq_true rfl) dl_909 ?_
  refine GL_aload_n 2 rfl dl_912 ?_
  refine GL_aload_n 0 rfl dl_913 ?_
  refine GL_iload_n 3 rfl dl_914 ?_
  refine GL_iconst 1 (by decide) dl_915 ?_
  refine GL_iadd dl_916 ?_
  refine GL_iald hg1 dl_917 ?_
  refine GL_aload_n 0 rfl dl_918 ?_
  refine GL_iload_n 3 rfl dl_919 ?_
  refine GL_iconst 2 (by decide) dl_920 ?_
  refine GL_iadd dl_921 ?_
  refine GL_iald hg2 dl_922 ?_
  refine GL_aload_n 0 rfl dl_923 ?_
  refine GL_iload_n 3 rfl dl_924 ?_
  refine GL_iconst 3 (by decide) dl_925 ?_
  refine GL_iadd dl_926 ?_
  refine GL_iald hg3 dl_927 ?_
  refine GL_callM [(xs (l3 + 1).toNatClampNeg), (xs (l3 + 2).toNatClampNeg), (xs (l3 + 3).toNatClampNeg)] [.int r] hM (by decide) (by decide) mv_Mo_brightest rfl rfl (ch_of chl0_ok 47 rfl) rfl (Nat.le_of_ble_eq_true rfl) dl_928 ?_
  refine GL_icmp_eq 1087 (by decide) dl_931 (fun _ => kk) (fun q => absurd rfl q)
set_option maxHeartbeats 4000000 in
theorem law_24 {L : Nat} {xs : Nat → Int32} {Sx Sm Sx1 Sm1 : St} {l3 r : Int32} (hg1 : ig (l3 + 1) L = true) (hg2 : ig (l3 + 2) L = true) (hg3 : ig (l3 + 3) L = true) (hg4 : ig (l3 + 4) L = true) (hg5 : ig (l3 + 5) L = true) (hX : Ct SX m_W_halves 4 (.ref 0 :: [(xs (l3 + 1).toNatClampNeg), (xs (l3 + 2).toNatClampNeg)].map Value.int) Sx (some r) Sx1) (hM : Ct SM m_Mo_halves 2 (.ref 0 :: [(xs (l3 + 1).toNatClampNeg), (xs (l3 + 2).toNatClampNeg)].map Value.int) Sm (some r) Sm1) (kk : GL L xs 1087 [(0, .ref 0), (1, .ref 1), (2, .ref 2), (3, .int l3)] [] Sx1 Sm1) : GL L xs 936 [(0, .ref 0), (1, .ref 1), (2, .ref 2), (3, .int l3)] [] Sx Sm := by
  refine GL_aload_n 1 rfl dl_936 ?_
  refine GL_aload_n 0 rfl dl_937 ?_
  refine GL_iload_n 3 rfl dl_938 ?_
  refine GL_iconst 1 (by decide) dl_939 ?_
  refine GL_iadd dl_940 ?_
  refine GL_iald hg1 dl_941 ?_
  refine GL_aload_n 0 rfl dl_942 ?_
  refine GL_iload_n 3 rfl dl_943 ?_
  refine GL_iconst 2 (by decide) dl_944 ?_
  refine GL_iadd dl_945 ?_
  refine GL_iald hg2 dl_946 ?_
  refine GL_callX [(xs (l3 + 1).toNatClampNeg), (xs (l3 + 2).toNatClampNeg)] [] hX (by decide) (by decide) mv_W_halves rfl rfl (ch_of chl0_ok 48 rfl) rfl (Nat.le_of_ble_eq_true rfl) dl_947 ?_
  refine GL_aload_n 2 rfl dl_950 ?_
  refine GL_aload_n 0 rfl dl_951 ?_
  refine GL_iload_n 3 rfl dl_952 ?_
  refine GL_iconst 1 (by decide) dl_953 ?_
  refine GL_iadd dl_954 ?_
  refine GL_iald hg1 dl_955 ?_
  refine GL_aload_n 0 rfl dl_956 ?_
  refine GL_iload_n 3 rfl dl_957 ?_
  refine GL_iconst 2 (by decide) dl_958 ?_
  refine GL_iadd dl_959 ?_
  refine GL_iald hg2 dl_960 ?_
  refine GL_callM [(xs (l3 + 1).toNatClampNeg), (xs (l3 + 2).toNatClampNeg)] [.int r] hM (by decide) (by decide) mv_Mo_halves rfl rfl (ch_of chl0_ok 49 rfl) rfl (Nat.le_of_ble_eq_true rfl) dl_961 ?_
  refine GL_icmp_eq 1087 (by decide) dl_964 (fun _ => kk) (fun q => absurd rfl q)
set_option maxHeartbeats 4000000 in
theorem law_25 {L : Nat} {xs : Nat → Int32} {Sx Sm Sx1 Sm1 : St} {l3 r : Int32} (hg1 : ig (l3 + 1) L = true) (hg2 : ig (l3 + 2) L = true) (hg3 : ig (l3 + 3) L = true) (hg4 : ig (l3 + 4) L = true) (hg5 : ig (l3 + 5) L = true) (hX : Ct SX m_W_forgiven 4 (.ref 0 :: [(xs (l3 + 1).toNatClampNeg)].map Value.int) Sx (some r) Sx1) (hM : Ct SM m_Mo_forgiven 3 (.ref 0 :: [(xs (l3 + 1).toNatClampNeg)].map Value.int) Sm (some r) Sm1) (kk : GL L xs 1087 [(0, .ref 0), (1, .ref 1), (2, .ref 2), (3, .int l3)] [] Sx1 Sm1) : GL L xs 969 [(0, .ref 0), (1, .ref 1), (2, .ref 2), (3, .int l3)] [] Sx Sm := by
  refine GL_aload_n 1 rfl dl_969 ?_
  refine GL_aload_n 0 rfl dl_970 ?_
  refine GL_iload_n 3 rfl dl_971 ?_
  refine GL_iconst 1 (by decide) dl_972 ?_
  refine GL_iadd dl_973 ?_
  refine GL_iald hg1 dl_974 ?_
  refine GL_callX [(xs (l3 + 1).toNatClampNeg)] [] hX (by decide) (by decide) mv_W_forgiven rfl rfl (ch_of chl1_ok 0 rfl) rfl (Nat.le_of_ble_eq_true rfl) dl_975 ?_
  refine GL_aload_n 2 rfl dl_978 ?_
  refine GL_aload_n 0 rfl dl_979 ?_
  refine GL_iload_n 3 rfl dl_980 ?_
  refine GL_iconst 1 (by decide) dl_981 ?_
  refine GL_iadd dl_982 ?_
  refine GL_iald hg1 dl_983 ?_
  refine GL_callM [(xs (l3 + 1).toNatClampNeg)] [.int r] hM (by decide) (by decide) mv_Mo_forgiven rfl rfl (ch_of chl1_ok 1 rfl) rfl (Nat.le_of_ble_eq_true rfl) dl_984 ?_
  refine GL_icmp_eq 1087 (by decide) dl_987 (fun _ => kk) (fun q => absurd rfl q)
set_option maxHeartbeats 4000000 in
theorem law_26 {L : Nat} {xs : Nat → Int32} {Sx Sm Sx1 Sm1 : St} {l3 r : Int32} (hg1 : ig (l3 + 1) L = true) (hg2 : ig (l3 + 2) L = true) (hg3 : ig (l3 + 3) L = true) (hg4 : ig (l3 + 4) L = true) (hg5 : ig (l3 + 5) L = true) (hX : Ct SX m_W_seed 2 (.ref 0 :: [(xs (l3 + 1).toNatClampNeg)].map Value.int) Sx (some r) Sx1) (hM : Ct SM m_Mo_seed 2 (.ref 0 :: [(xs (l3 + 1).toNatClampNeg)].map Value.int) Sm (some r) Sm1) (kk : GL L xs 1087 [(0, .ref 0), (1, .ref 1), (2, .ref 2), (3, .int l3)] [] Sx1 Sm1) : GL L xs 992 [(0, .ref 0), (1, .ref 1), (2, .ref 2), (3, .int l3)] [] Sx Sm := by
  refine GL_aload_n 1 rfl dl_992 ?_
  refine GL_aload_n 0 rfl dl_993 ?_
  refine GL_iload_n 3 rfl dl_994 ?_
  refine GL_iconst 1 (by decide) dl_995 ?_
  refine GL_iadd dl_996 ?_
  refine GL_iald hg1 dl_997 ?_
  refine GL_callX [(xs (l3 + 1).toNatClampNeg)] [] hX (by decide) (by decide) mv_W_seed rfl rfl (ch_of chl1_ok 2 rfl) rfl (Nat.le_of_ble_eq_true rfl) dl_998 ?_
  refine GL_aload_n 2 rfl dl_1001 ?_
  refine GL_aload_n 0 rfl dl_1002 ?_
  refine GL_iload_n 3 rfl dl_1003 ?_
  refine GL_iconst 1 (by decide) dl_1004 ?_
  refine GL_iadd dl_1005 ?_
  refine GL_iald hg1 dl_1006 ?_
  refine GL_callM [(xs (l3 + 1).toNatClampNeg)] [.int r] hM (by decide) (by decide) mv_Mo_seed rfl rfl (ch_of chl1_ok 3 rfl) rfl (Nat.le_of_ble_eq_true rfl) dl_1007 ?_
  refine GL_icmp_eq 1087 (by decide) dl_1010 (fun _ => kk) (fun q => absurd rfl q)
set_option maxHeartbeats 4000000 in
theorem law_27 {L : Nat} {xs : Nat → Int32} {Sx Sm Sx1 Sm1 : St} {l3 r : Int32} (hg1 : ig (l3 + 1) L = true) (hg2 : ig (l3 + 2) L = true) (hg3 : ig (l3 + 3) L = true) (hg4 : ig (l3 + 4) L = true) (hg5 : ig (l3 + 5) L = true) (hX : Ct SX m_W_keep 2 (.ref 0 :: [].map Value.int) Sx (some r) Sx1) (hM : Ct SM m_Mo_keep 2 (.ref 0 :: [].map Value.int) Sm (some r) Sm1) (kk : GL L xs 1087 [(0, .ref 0), (1, .ref 1), (2, .ref 2), (3, .int l3)] [] Sx1 Sm1) : GL L xs 1015 [(0, .ref 0), (1, .ref 1), (2, .ref 2), (3, .int l3)] [] Sx Sm := by
  refine GL_aload_n 1 rfl dl_1015 ?_
  refine GL_callX [] [] hX (by decide) (by decide) mv_W_keep rfl rfl (ch_of chl1_ok 4 rfl) rfl (Nat.le_of_ble_eq_true rfl) dl_1016 ?_
  refine GL_aload_n 2 rfl dl_1019 ?_
  refine GL_callM [] [.int r] hM (by decide) (by decide) mv_Mo_keep rfl rfl (ch_of chl1_ok 5 rfl) rfl (Nat.le_of_ble_eq_true rfl) dl_1020 ?_
  refine GL_icmp_eq 1087 (by decide) dl_1023 (fun _ => kk) (fun q => absurd rfl q)
set_option maxHeartbeats 4000000 in
theorem law_28 {L : Nat} {xs : Nat → Int32} {Sx Sm Sx1 Sm1 : St} {l3 r : Int32} (hg1 : ig (l3 + 1) L = true) (hg2 : ig (l3 + 2) L = true) (hg3 : ig (l3 + 3) L = true) (hg4 : ig (l3 + 4) L = true) (hg5 : ig (l3 + 5) L = true) (hX : Ct SX m_W_undo 3 (.ref 0 :: [].map Value.int) Sx (some r) Sx1) (hM : Ct SM m_Mo_undo 2 (.ref 0 :: [].map Value.int) Sm (some r) Sm1) (kk : GL L xs 1087 [(0, .ref 0), (1, .ref 1), (2, .ref 2), (3, .int l3)] [] Sx1 Sm1) : GL L xs 1028 [(0, .ref 0), (1, .ref 1), (2, .ref 2), (3, .int l3)] [] Sx Sm := by
  refine GL_aload_n 1 rfl dl_1028 ?_
  refine GL_callX [] [] hX (by decide) (by decide) mv_W_undo rfl rfl (ch_of chl1_ok 6 rfl) rfl (Nat.le_of_ble_eq_true rfl) dl_1029 ?_
  refine GL_aload_n 2 rfl dl_1032 ?_
  refine GL_callM [] [.int r] hM (by decide) (by decide) mv_Mo_undo rfl rfl (ch_of chl1_ok 7 rfl) rfl (Nat.le_of_ble_eq_true rfl) dl_1033 ?_
  refine GL_icmp_eq 1087 (by decide) dl_1036 (fun _ => kk) (fun q => absurd rfl q)
set_option maxHeartbeats 4000000 in
theorem law_29 {L : Nat} {xs : Nat → Int32} {Sx Sm Sx1 Sm1 : St} {l3 r : Int32} (hg1 : ig (l3 + 1) L = true) (hg2 : ig (l3 + 2) L = true) (hg3 : ig (l3 + 3) L = true) (hg4 : ig (l3 + 4) L = true) (hg5 : ig (l3 + 5) L = true) (hX : Ct SX m_W_check 2 (.ref 0 :: [(xs (l3 + 1).toNatClampNeg)].map Value.int) Sx (some r) Sx1) (hM : Ct SM m_Mo_check 3 (.ref 0 :: [(xs (l3 + 1).toNatClampNeg)].map Value.int) Sm (some r) Sm1) (kk : GL L xs 1087 [(0, .ref 0), (1, .ref 1), (2, .ref 2), (3, .int l3)] [] Sx1 Sm1) : GL L xs 1041 [(0, .ref 0), (1, .ref 1), (2, .ref 2), (3, .int l3)] [] Sx Sm := by
  refine GL_aload_n 1 rfl dl_1041 ?_
  refine GL_aload_n 0 rfl dl_1042 ?_
  refine GL_iload_n 3 rfl dl_1043 ?_
  refine GL_iconst 1 (by decide) dl_1044 ?_
  refine GL_iadd dl_1045 ?_
  refine GL_iald hg1 dl_1046 ?_
  refine GL_callX [(xs (l3 + 1).toNatClampNeg)] [] hX (by decide) (by decide) mv_W_check rfl rfl (ch_of chl1_ok 8 rfl) rfl (Nat.le_of_ble_eq_true rfl) dl_1047 ?_
  refine GL_aload_n 2 rfl dl_1050 ?_
  refine GL_aload_n 0 rfl dl_1051 ?_
  refine GL_iload_n 3 rfl dl_1052 ?_
  refine GL_iconst 1 (by decide) dl_1053 ?_
  refine GL_iadd dl_1054 ?_
  refine GL_iald hg1 dl_1055 ?_
  refine GL_callM [(xs (l3 + 1).toNatClampNeg)] [.int r] hM (by decide) (by decide) mv_Mo_check rfl rfl (ch_of chl1_ok 9 rfl) rfl (Nat.le_of_ble_eq_true rfl) dl_1056 ?_
  refine GL_icmp_eq 1087 (by decide) dl_1059 (fun _ => kk) (fun q => absurd rfl q)
set_option maxHeartbeats 4000000 in
theorem law_30 {L : Nat} {xs : Nat → Int32} {Sx Sm Sx1 Sm1 : St} {l3 r : Int32} (hg1 : ig (l3 + 1) L = true) (hg2 : ig (l3 + 2) L = true) (hg3 : ig (l3 + 3) L = true) (hg4 : ig (l3 + 4) L = true) (hg5 : ig (l3 + 5) L = true) (hX : Ct SX m_W_count 3 (.ref 0 :: [(xs (l3 + 1).toNatClampNeg)].map Value.int) Sx (some r) Sx1) (hM : Ct SM m_Mo_count 6 (.ref 0 :: [(xs (l3 + 1).toNatClampNeg)].map Value.int) Sm (some r) Sm1) (kk : GL L xs 1087 [(0, .ref 0), (1, .ref 1), (2, .ref 2), (3, .int l3)] [] Sx1 Sm1) : GL L xs 1064 [(0, .ref 0), (1, .ref 1), (2, .ref 2), (3, .int l3)] [] Sx Sm := by
  refine GL_aload_n 1 rfl dl_1064 ?_
  refine GL_aload_n 0 rfl dl_1065 ?_
  refine GL_iload_n 3 rfl dl_1066 ?_
  refine GL_iconst 1 (by decide) dl_1067 ?_
  refine GL_iadd dl_1068 ?_
  refine GL_iald hg1 dl_1069 ?_
  refine GL_callX [(xs (l3 + 1).toNatClampNeg)] [] hX (by decide) (by decide) mv_W_count rfl rfl (ch_of chl1_ok 10 rfl) rfl (Nat.le_of_ble_eq_true rfl) dl_1070 ?_
  refine GL_aload_n 2 rfl dl_1073 ?_
  refine GL_aload_n 0 rfl dl_1074 ?_
  refine GL_iload_n 3 rfl dl_1075 ?_
  refine GL_iconst 1 (by decide) dl_1076 ?_
  refine GL_iadd dl_1077 ?_
  refine GL_iald hg1 dl_1078 ?_
  refine GL_callM [(xs (l3 + 1).toNatClampNeg)] [.int r] hM (by decide) (by decide) mv_Mo_count rfl rfl (ch_of chl1_ok 11 rfl) rfl (Nat.le_of_ble_eq_true rfl) dl_1079 ?_
  refine GL_icmp_eq 1087 (by decide) dl_1082 (fun _ => kk) (fun q => absurd rfl q)
