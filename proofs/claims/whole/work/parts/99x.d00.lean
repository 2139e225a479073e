/-! What stands in the law's body, part 0. (printed by law_x.py) -/
theorem dL_20 : decode cL_law 20 = .ok (.iconst 0, 1) := by decide +kernel
theorem dL_21 : decode cL_law 21 = .ok (.istore 4, 2) := by decide +kernel
theorem dL_23 : decode cL_law 23 = .ok (.iload 4, 2) := by decide +kernel
theorem dL_25 : decode cL_law 25 = .ok (.aload_n 0, 1) := by decide +kernel
theorem dL_26 : decode cL_law 26 = .ok (.arraylength, 1) := by decide +kernel
theorem dL_27 : decode cL_law 27 = .ok (.iconst 5, 1) := by decide +kernel
theorem dL_28 : decode cL_law 28 = .ok (.isub, 1) := by decide +kernel
theorem dL_29 : decode cL_law 29 = .ok (.if_icmp .gt 1546, 3) := by decide +kernel
theorem dL_32 : decode cL_law 32 = .ok (.aload_n 0, 1) := by decide +kernel
theorem dL_33 : decode cL_law 33 = .ok (.iload 4, 2) := by decide +kernel
theorem dL_35 : decode cL_law 35 = .ok (.iaload, 1) := by decide +kernel
theorem dL_36 : decode cL_law 36 = .ok (.bipush 63, 2) := by decide +kernel
theorem dL_38 : decode cL_law 38 = .ok (.iand, 1) := by decide +kernel
theorem dL_39 : decode cL_law 39 = .ok (.tableswitch 1530 0 46 #[201, 226, 251, 264, 332, 381, 418, 479, 492, 517, 542, 567, 592, 605, 631, 645, 658, 695, 708, 733, 770, 795, 820, 845, 858, 871, 884, 921, 958, 995, 1032, 1057, 1070, 1095, 1108, 1133, 1201, 1226, 1251, 1276, 1301, 1326, 1351, 1400, 1425, 1450, 1475], 201) := by decide +kernel
theorem dL_240 : decode cL_law 240 = .ok (.aload_n 1, 1) := by decide +kernel
theorem dL_241 : decode cL_law 241 = .ok (.aload_n 0, 1) := by decide +kernel
theorem dL_242 : decode cL_law 242 = .ok (.iload 4, 2) := by decide +kernel
theorem dL_244 : decode cL_law 244 = .ok (.iconst 1, 1) := by decide +kernel
theorem dL_245 : decode cL_law 245 = .ok (.iadd, 1) := by decide +kernel
theorem dL_246 : decode cL_law 246 = .ok (.iaload, 1) := by decide +kernel
theorem dL_247 : decode cL_law 247 = .ok (.invokevirtual 26, 3) := by decide +kernel
theorem dL_250 : decode cL_law 250 = .ok (.aload_n 2, 1) := by decide +kernel
theorem dL_251 : decode cL_law 251 = .ok (.aload_n 0, 1) := by decide +kernel
theorem dL_252 : decode cL_law 252 = .ok (.iload 4, 2) := by decide +kernel
theorem dL_254 : decode cL_law 254 = .ok (.iconst 1, 1) := by decide +kernel
theorem dL_255 : decode cL_law 255 = .ok (.iadd, 1) := by decide +kernel
theorem dL_256 : decode cL_law 256 = .ok (.iaload, 1) := by decide +kernel
theorem dL_257 : decode cL_law 257 = .ok (.invokevirtual 30, 3) := by decide +kernel
theorem dL_260 : decode cL_law 260 = .ok (.if_icmp .eq 1309, 3) := by decide +kernel
theorem dL_263 : decode cL_law 263 = .ok (.iconst 0, 1) := by decide +kernel
theorem dL_264 : decode cL_law 264 = .ok (.ireturn, 1) := by decide +kernel
theorem dL_265 : decode cL_law 265 = .ok (.aload_n 1, 1) := by decide +kernel
theorem dL_266 : decode cL_law 266 = .ok (.aload_n 0, 1) := by decide +kernel
theorem dL_267 : decode cL_law 267 = .ok (.iload 4, 2) := by decide +kernel
theorem dL_269 : decode cL_law 269 = .ok (.iconst 1, 1) := by decide +kernel
theorem dL_270 : decode cL_law 270 = .ok (.iadd, 1) := by decide +kernel
theorem dL_271 : decode cL_law 271 = .ok (.iaload, 1) := by decide +kernel
theorem dL_272 : decode cL_law 272 = .ok (.invokevirtual 31, 3) := by decide +kernel
theorem dL_275 : decode cL_law 275 = .ok (.aload_n 2, 1) := by decide +kernel
theorem dL_276 : decode cL_law 276 = .ok (.aload_n 0, 1) := by decide +kernel
theorem dL_277 : decode cL_law 277 = .ok (.iload 4, 2) := by decide +kernel
theorem dL_279 : decode cL_law 279 = .ok (.iconst 1, 1) := by decide +kernel
theorem dL_280 : decode cL_law 280 = .ok (.iadd, 1) := by decide +kernel
theorem dL_281 : decode cL_law 281 = .ok (.iaload, 1) := by decide +kernel
theorem dL_282 : decode cL_law 282 = .ok (.invokevirtual 35, 3) := by decide +kernel
theorem dL_285 : decode cL_law 285 = .ok (.if_icmp .eq 1284, 3) := by decide +kernel
theorem dL_288 : decode cL_law 288 = .ok (.iconst 0, 1) := by decide +kernel
theorem dL_289 : decode cL_law 289 = .ok (.ireturn, 1) := by decide +kernel
theorem dL_290 : decode cL_law 290 = .ok (.aload_n 1, 1) := by decide +kernel
theorem dL_291 : decode cL_law 291 = .ok (.invokevirtual 36, 3) := by decide +kernel
theorem dL_294 : decode cL_law 294 = .ok (.aload_n 2, 1) := by decide +kernel
theorem dL_295 : decode cL_law 295 = .ok (.invokevirtual 40, 3) := by decide +kernel
theorem dL_298 : decode cL_law 298 = .ok (.if_icmp .eq 1271, 3) := by decide +kernel
theorem dL_301 : decode cL_law 301 = .ok (.iconst 0, 1) := by decide +kernel
theorem dL_302 : decode cL_law 302 = .ok (.ireturn, 1) := by decide +kernel
theorem dL_303 : decode cL_law 303 = .ok (.aload_n 1, 1) := by decide +kernel
theorem dL_304 : decode cL_law 304 = .ok (.aload_n 0, 1) := by decide +kernel
theorem dL_305 : decode cL_law 305 = .ok (.iload 4, 2) := by decide +kernel
theorem dL_307 : decode cL_law 307 = .ok (.iconst 1, 1) := by decide +kernel
theorem dL_308 : decode cL_law 308 = .ok (.iadd, 1) := by decide +kernel
theorem dL_309 : decode cL_law 309 = .ok (.iaload, 1) := by decide +kernel
theorem dL_310 : decode cL_law 310 = .ok (.aload_n 0, 1) := by decide +kernel
theorem dL_311 : decode cL_law 311 = .ok (.iload 4, 2) := by decide +kernel
theorem dL_313 : decode cL_law 313 = .ok (.iconst 2, 1) := by decide +kernel
theorem dL_314 : decode cL_law 314 = .ok (.iadd, 1) := by decide +kernel
theorem dL_315 : decode cL_law 315 = .ok (.iaload, 1) := by decide +kernel
theorem dL_316 : decode cL_law 316 = .ok (.aload_n 3, 1) := by decide +kernel
theorem dL_317 : decode cL_law 317 = .ok (.invokestatic 41, 3) := by decide +kernel
theorem dL_320 : decode cL_law 320 = .ok (.istore 5, 2) := by decide +kernel
theorem dL_322 : decode cL_law 322 = .ok (.aload_n 2, 1) := by decide +kernel
theorem dL_323 : decode cL_law 323 = .ok (.aload_n 0, 1) := by decide +kernel
theorem dL_324 : decode cL_law 324 = .ok (.iload 4, 2) := by decide +kernel
theorem dL_326 : decode cL_law 326 = .ok (.iconst 1, 1) := by decide +kernel
theorem dL_327 : decode cL_law 327 = .ok (.iadd, 1) := by decide +kernel
theorem dL_328 : decode cL_law 328 = .ok (.iaload, 1) := by decide +kernel
theorem dL_329 : decode cL_law 329 = .ok (.aload_n 0, 1) := by decide +kernel
theorem dL_330 : decode cL_law 330 = .ok (.iload 4, 2) := by decide +kernel
theorem dL_332 : decode cL_law 332 = .ok (.iconst 2, 1) := by decide +kernel
theorem dL_333 : decode cL_law 333 = .ok (.iadd, 1) := by decide +kernel
theorem dL_334 : decode cL_law 334 = .ok (.iaload, 1) := by decide +kernel
