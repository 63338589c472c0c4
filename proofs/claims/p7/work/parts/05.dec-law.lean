theorem dbl_0 : (((((decode cL_law 0 = .ok (.new 7, 3)) ∧ (decode cL_law 3 = .ok (.dup, 1))) ∧ ((decode cL_law 4 = .ok (.invokespecial 9, 3)) ∧ (decode cL_law 7 = .ok (.astore_n 1, 1)))) ∧ (((decode cL_law 8 = .ok (.new 10, 3)) ∧ (decode cL_law 11 = .ok (.dup, 1))) ∧ ((decode cL_law 12 = .ok (.invokespecial 12, 3)) ∧ (decode cL_law 15 = .ok (.astore_n 2, 1))))) ∧ ((((decode cL_law 16 = .ok (.iconst 0, 1)) ∧ (decode cL_law 17 = .ok (.istore_n 3, 1))) ∧ ((decode cL_law 18 = .ok (.iload_n 3, 1)) ∧ (decode cL_law 19 = .ok (.aload_n 0, 1)))) ∧ (((decode cL_law 20 = .ok (.arraylength, 1)) ∧ (decode cL_law 21 = .ok (.bipush 6, 2))) ∧ ((decode cL_law 23 = .ok (.isub, 1)) ∧ (decode cL_law 24 = .ok (.if_icmp .gt 1475, 3)))))) := by decide +kernel
theorem dL_law_0 : decode cL_law 0 = .ok (.new 7, 3) := dbl_0.1.1.1.1
theorem dL_law_3 : decode cL_law 3 = .ok (.dup, 1) := dbl_0.1.1.1.2
theorem dL_law_4 : decode cL_law 4 = .ok (.invokespecial 9, 3) := dbl_0.1.1.2.1
theorem dL_law_7 : decode cL_law 7 = .ok (.astore_n 1, 1) := dbl_0.1.1.2.2
theorem dL_law_8 : decode cL_law 8 = .ok (.new 10, 3) := dbl_0.1.2.1.1
theorem dL_law_11 : decode cL_law 11 = .ok (.dup, 1) := dbl_0.1.2.1.2
theorem dL_law_12 : decode cL_law 12 = .ok (.invokespecial 12, 3) := dbl_0.1.2.2.1
theorem dL_law_15 : decode cL_law 15 = .ok (.astore_n 2, 1) := dbl_0.1.2.2.2
theorem dL_law_16 : decode cL_law 16 = .ok (.iconst 0, 1) := dbl_0.2.1.1.1
theorem dL_law_17 : decode cL_law 17 = .ok (.istore_n 3, 1) := dbl_0.2.1.1.2
theorem dL_law_18 : decode cL_law 18 = .ok (.iload_n 3, 1) := dbl_0.2.1.2.1
theorem dL_law_19 : decode cL_law 19 = .ok (.aload_n 0, 1) := dbl_0.2.1.2.2
theorem dL_law_20 : decode cL_law 20 = .ok (.arraylength, 1) := dbl_0.2.2.1.1
theorem dL_law_21 : decode cL_law 21 = .ok (.bipush 6, 2) := dbl_0.2.2.1.2
theorem dL_law_23 : decode cL_law 23 = .ok (.isub, 1) := dbl_0.2.2.2.1
theorem dL_law_24 : decode cL_law 24 = .ok (.if_icmp .gt 1475, 3) := dbl_0.2.2.2.2
theorem dbl_1 : (((((decode cL_law 27 = .ok (.aload_n 0, 1)) ∧ (decode cL_law 28 = .ok (.iload_n 3, 1))) ∧ ((decode cL_law 29 = .ok (.iaload, 1)) ∧ (decode cL_law 30 = .ok (.bipush 63, 2)))) ∧ (((decode cL_law 32 = .ok (.iand, 1)) ∧ (decode cL_law 33 = .ok (.tableswitch 1460 0 44 #[195, 218, 231, 264, 297, 330, 373, 416, 439, 472, 505, 548, 571, 584, 627, 650, 683, 706, 729, 772, 805, 838, 871, 894, 927, 950, 973, 1016, 1059, 1122, 1145, 1168, 1181, 1204, 1227, 1240, 1253, 1296, 1319, 1342, 1355, 1368, 1411, 1424, 1437], 195))) ∧ ((decode cL_law 228 = .ok (.aload_n 1, 1)) ∧ (decode cL_law 229 = .ok (.aload_n 0, 1))))) ∧ ((((decode cL_law 230 = .ok (.iload_n 3, 1)) ∧ (decode cL_law 231 = .ok (.iconst 1, 1))) ∧ ((decode cL_law 232 = .ok (.iadd, 1)) ∧ (decode cL_law 233 = .ok (.iaload, 1)))) ∧ (((decode cL_law 234 = .ok (.invokevirtual 13, 3)) ∧ (decode cL_law 237 = .ok (.pop, 1))) ∧ ((decode cL_law 238 = .ok (.aload_n 2, 1)) ∧ (decode cL_law 239 = .ok (.aload_n 0, 1)))))) := by decide +kernel
theorem dL_law_27 : decode cL_law 27 = .ok (.aload_n 0, 1) := dbl_1.1.1.1.1
theorem dL_law_28 : decode cL_law 28 = .ok (.iload_n 3, 1) := dbl_1.1.1.1.2
theorem dL_law_29 : decode cL_law 29 = .ok (.iaload, 1) := dbl_1.1.1.2.1
theorem dL_law_30 : decode cL_law 30 = .ok (.bipush 63, 2) := dbl_1.1.1.2.2
theorem dL_law_32 : decode cL_law 32 = .ok (.iand, 1) := dbl_1.1.2.1.1
theorem dL_law_33 : decode cL_law 33 = .ok (.tableswitch 1460 0 44 #[195, 218, 231, 264, 297, 330, 373, 416, 439, 472, 505, 548, 571, 584, 627, 650, 683, 706, 729, 772, 805, 838, 871, 894, 927, 950, 973, 1016, 1059, 1122, 1145, 1168, 1181, 1204, 1227, 1240, 1253, 1296, 1319, 1342, 1355, 1368, 1411, 1424, 1437], 195) := dbl_1.1.2.1.2
theorem dL_law_228 : decode cL_law 228 = .ok (.aload_n 1, 1) := dbl_1.1.2.2.1
theorem dL_law_229 : decode cL_law 229 = .ok (.aload_n 0, 1) := dbl_1.1.2.2.2
theorem dL_law_230 : decode cL_law 230 = .ok (.iload_n 3, 1) := dbl_1.2.1.1.1
theorem dL_law_231 : decode cL_law 231 = .ok (.iconst 1, 1) := dbl_1.2.1.1.2
theorem dL_law_232 : decode cL_law 232 = .ok (.iadd, 1) := dbl_1.2.1.2.1
theorem dL_law_233 : decode cL_law 233 = .ok (.iaload, 1) := dbl_1.2.1.2.2
theorem dL_law_234 : decode cL_law 234 = .ok (.invokevirtual 13, 3) := dbl_1.2.2.1.1
theorem dL_law_237 : decode cL_law 237 = .ok (.pop, 1) := dbl_1.2.2.1.2
theorem dL_law_238 : decode cL_law 238 = .ok (.aload_n 2, 1) := dbl_1.2.2.2.1
theorem dL_law_239 : decode cL_law 239 = .ok (.aload_n 0, 1) := dbl_1.2.2.2.2
theorem dbl_2 : (((((decode cL_law 240 = .ok (.iload_n 3, 1)) ∧ (decode cL_law 241 = .ok (.iconst 1, 1))) ∧ ((decode cL_law 242 = .ok (.iadd, 1)) ∧ (decode cL_law 243 = .ok (.iaload, 1)))) ∧ (((decode cL_law 244 = .ok (.invokevirtual 17, 3)) ∧ (decode cL_law 247 = .ok (.pop, 1))) ∧ ((decode cL_law 248 = .ok (.goto 1245, 3)) ∧ (decode cL_law 251 = .ok (.aload_n 1, 1))))) ∧ ((((decode cL_law 252 = .ok (.invokevirtual 18, 3)) ∧ (decode cL_law 255 = .ok (.pop, 1))) ∧ ((decode cL_law 256 = .ok (.aload_n 2, 1)) ∧ (decode cL_law 257 = .ok (.invokevirtual 22, 3)))) ∧ (((decode cL_law 260 = .ok (.pop, 1)) ∧ (decode cL_law 261 = .ok (.goto 1232, 3))) ∧ ((decode cL_law 264 = .ok (.aload_n 1, 1)) ∧ (decode cL_law 265 = .ok (.aload_n 0, 1)))))) := by decide +kernel
theorem dL_law_240 : decode cL_law 240 = .ok (.iload_n 3, 1) := dbl_2.1.1.1.1
theorem dL_law_241 : decode cL_law 241 = .ok (.iconst 1, 1) := dbl_2.1.1.1.2
theorem dL_law_242 : decode cL_law 242 = .ok (.iadd, 1) := dbl_2.1.1.2.1
theorem dL_law_243 : decode cL_law 243 = .ok (.iaload, 1) := dbl_2.1.1.2.2
theorem dL_law_244 : decode cL_law 244 = .ok (.invokevirtual 17, 3) := dbl_2.1.2.1.1
theorem dL_law_247 : decode cL_law 247 = .ok (.pop, 1) := dbl_2.1.2.1.2
theorem dL_law_248 : decode cL_law 248 = .ok (.goto 1245, 3) := dbl_2.1.2.2.1
theorem dL_law_251 : decode cL_law 251 = .ok (.aload_n 1, 1) := dbl_2.1.2.2.2
theorem dL_law_252 : decode cL_law 252 = .ok (.invokevirtual 18, 3) := dbl_2.2.1.1.1
theorem dL_law_255 : decode cL_law 255 = .ok (.pop, 1) := dbl_2.2.1.1.2
theorem dL_law_256 : decode cL_law 256 = .ok (.aload_n 2, 1) := dbl_2.2.1.2.1
theorem dL_law_257 : decode cL_law 257 = .ok (.invokevirtual 22, 3) := dbl_2.2.1.2.2
theorem dL_law_260 : decode cL_law 260 = .ok (.pop, 1) := dbl_2.2.2.1.1
theorem dL_law_261 : decode cL_law 261 = .ok (.goto 1232, 3) := dbl_2.2.2.1.2
theorem dL_law_264 : decode cL_law 264 = .ok (.aload_n 1, 1) := dbl_2.2.2.2.1
theorem dL_law_265 : decode cL_law 265 = .ok (.aload_n 0, 1) := dbl_2.2.2.2.2
theorem dbl_3 : (((((decode cL_law 266 = .ok (.iload_n 3, 1)) ∧ (decode cL_law 267 = .ok (.iconst 1, 1))) ∧ ((decode cL_law 268 = .ok (.iadd, 1)) ∧ (decode cL_law 269 = .ok (.iaload, 1)))) ∧ (((decode cL_law 270 = .ok (.aload_n 0, 1)) ∧ (decode cL_law 271 = .ok (.iload_n 3, 1))) ∧ ((decode cL_law 272 = .ok (.iconst 2, 1)) ∧ (decode cL_law 273 = .ok (.iadd, 1))))) ∧ ((((decode cL_law 274 = .ok (.iaload, 1)) ∧ (decode cL_law 275 = .ok (.invokevirtual 23, 3))) ∧ ((decode cL_law 278 = .ok (.pop, 1)) ∧ (decode cL_law 279 = .ok (.aload_n 2, 1)))) ∧ (((decode cL_law 280 = .ok (.aload_n 0, 1)) ∧ (decode cL_law 281 = .ok (.iload_n 3, 1))) ∧ ((decode cL_law 282 = .ok (.iconst 1, 1)) ∧ (decode cL_law 283 = .ok (.iadd, 1)))))) := by decide +kernel
theorem dL_law_266 : decode cL_law 266 = .ok (.iload_n 3, 1) := dbl_3.1.1.1.1
theorem dL_law_267 : decode cL_law 267 = .ok (.iconst 1, 1) := dbl_3.1.1.1.2
theorem dL_law_268 : decode cL_law 268 = .ok (.iadd, 1) := dbl_3.1.1.2.1
theorem dL_law_269 : decode cL_law 269 = .ok (.iaload, 1) := dbl_3.1.1.2.2
theorem dL_law_270 : decode cL_law 270 = .ok (.aload_n 0, 1) := dbl_3.1.2.1.1
theorem dL_law_271 : decode cL_law 271 = .ok (.iload_n 3, 1) := dbl_3.1.2.1.2
theorem dL_law_272 : decode cL_law 272 = .ok (.iconst 2, 1) := dbl_3.1.2.2.1
theorem dL_law_273 : decode cL_law 273 = .ok (.iadd, 1) := dbl_3.1.2.2.2
theorem dL_law_274 : decode cL_law 274 = .ok (.iaload, 1) := dbl_3.2.1.1.1
theorem dL_law_275 : decode cL_law 275 = .ok (.invokevirtual 23, 3) := dbl_3.2.1.1.2
theorem dL_law_278 : decode cL_law 278 = .ok (.pop, 1) := dbl_3.2.1.2.1
theorem dL_law_279 : decode cL_law 279 = .ok (.aload_n 2, 1) := dbl_3.2.1.2.2
theorem dL_law_280 : decode cL_law 280 = .ok (.aload_n 0, 1) := dbl_3.2.2.1.1
theorem dL_law_281 : decode cL_law 281 = .ok (.iload_n 3, 1) := dbl_3.2.2.1.2
theorem dL_law_282 : decode cL_law 282 = .ok (.iconst 1, 1) := dbl_3.2.2.2.1
theorem dL_law_283 : decode cL_law 283 = .ok (.iadd, 1) := dbl_3.2.2.2.2
theorem dbl_4 : (((((decode cL_law 284 = .ok (.iaload, 1)) ∧ (decode cL_law 285 = .ok (.aload_n 0, 1))) ∧ ((decode cL_law 286 = .ok (.iload_n 3, 1)) ∧ (decode cL_law 287 = .ok (.iconst 2, 1)))) ∧ (((decode cL_law 288 = .ok (.iadd, 1)) ∧ (decode cL_law 289 = .ok (.iaload, 1))) ∧ ((decode cL_law 290 = .ok (.invokevirtual 27, 3)) ∧ (decode cL_law 293 = .ok (.pop, 1))))) ∧ ((((decode cL_law 294 = .ok (.goto 1199, 3)) ∧ (decode cL_law 297 = .ok (.aload_n 1, 1))) ∧ ((decode cL_law 298 = .ok (.aload_n 0, 1)) ∧ (decode cL_law 299 = .ok (.iload_n 3, 1)))) ∧ (((decode cL_law 300 = .ok (.iconst 1, 1)) ∧ (decode cL_law 301 = .ok (.iadd, 1))) ∧ ((decode cL_law 302 = .ok (.iaload, 1)) ∧ (decode cL_law 303 = .ok (.aload_n 0, 1)))))) := by decide +kernel
theorem dL_law_284 : decode cL_law 284 = .ok (.iaload, 1) := dbl_4.1.1.1.1
theorem dL_law_285 : decode cL_law 285 = .ok (.aload_n 0, 1) := dbl_4.1.1.1.2
theorem dL_law_286 : decode cL_law 286 = .ok (.iload_n 3, 1) := dbl_4.1.1.2.1
theorem dL_law_287 : decode cL_law 287 = .ok (.iconst 2, 1) := dbl_4.1.1.2.2
theorem dL_law_288 : decode cL_law 288 = .ok (.iadd, 1) := dbl_4.1.2.1.1
theorem dL_law_289 : decode cL_law 289 = .ok (.iaload, 1) := dbl_4.1.2.1.2
theorem dL_law_290 : decode cL_law 290 = .ok (.invokevirtual 27, 3) := dbl_4.1.2.2.1
theorem dL_law_293 : decode cL_law 293 = .ok (.pop, 1) := dbl_4.1.2.2.2
theorem dL_law_294 : decode cL_law 294 = .ok (.goto 1199, 3) := dbl_4.2.1.1.1
theorem dL_law_297 : decode cL_law 297 = .ok (.aload_n 1, 1) := dbl_4.2.1.1.2
theorem dL_law_298 : decode cL_law 298 = .ok (.aload_n 0, 1) := dbl_4.2.1.2.1
theorem dL_law_299 : decode cL_law 299 = .ok (.iload_n 3, 1) := dbl_4.2.1.2.2
theorem dL_law_300 : decode cL_law 300 = .ok (.iconst 1, 1) := dbl_4.2.2.1.1
theorem dL_law_301 : decode cL_law 301 = .ok (.iadd, 1) := dbl_4.2.2.1.2
theorem dL_law_302 : decode cL_law 302 = .ok (.iaload, 1) := dbl_4.2.2.2.1
theorem dL_law_303 : decode cL_law 303 = .ok (.aload_n 0, 1) := dbl_4.2.2.2.2
theorem dbl_5 : (((((decode cL_law 304 = .ok (.iload_n 3, 1)) ∧ (decode cL_law 305 = .ok (.iconst 2, 1))) ∧ ((decode cL_law 306 = .ok (.iadd, 1)) ∧ (decode cL_law 307 = .ok (.iaload, 1)))) ∧ (((decode cL_law 308 = .ok (.invokevirtual 28, 3)) ∧ (decode cL_law 311 = .ok (.pop, 1))) ∧ ((decode cL_law 312 = .ok (.aload_n 2, 1)) ∧ (decode cL_law 313 = .ok (.aload_n 0, 1))))) ∧ ((((decode cL_law 314 = .ok (.iload_n 3, 1)) ∧ (decode cL_law 315 = .ok (.iconst 1, 1))) ∧ ((decode cL_law 316 = .ok (.iadd, 1)) ∧ (decode cL_law 317 = .ok (.iaload, 1)))) ∧ (((decode cL_law 318 = .ok (.aload_n 0, 1)) ∧ (decode cL_law 319 = .ok (.iload_n 3, 1))) ∧ ((decode cL_law 320 = .ok (.iconst 2, 1)) ∧ (decode cL_law 321 = .ok (.iadd, 1)))))) := by decide +kernel
theorem dL_law_304 : decode cL_law 304 = .ok (.iload_n 3, 1) := dbl_5.1.1.1.1
theorem dL_law_305 : decode cL_law 305 = .ok (.iconst 2, 1) := dbl_5.1.1.1.2
theorem dL_law_306 : decode cL_law 306 = .ok (.iadd, 1) := dbl_5.1.1.2.1
theorem dL_law_307 : decode cL_law 307 = .ok (.iaload, 1) := dbl_5.1.1.2.2
theorem dL_law_308 : decode cL_law 308 = .ok (.invokevirtual 28, 3) := dbl_5.1.2.1.1
theorem dL_law_311 : decode cL_law 311 = .ok (.pop, 1) := dbl_5.1.2.1.2
theorem dL_law_312 : decode cL_law 312 = .ok (.aload_n 2, 1) := dbl_5.1.2.2.1
theorem dL_law_313 : decode cL_law 313 = .ok (.aload_n 0, 1) := dbl_5.1.2.2.2
theorem dL_law_314 : decode cL_law 314 = .ok (.iload_n 3, 1) := dbl_5.2.1.1.1
theorem dL_law_315 : decode cL_law 315 = .ok (.iconst 1, 1) := dbl_5.2.1.1.2
theorem dL_law_316 : decode cL_law 316 = .ok (.iadd, 1) := dbl_5.2.1.2.1
theorem dL_law_317 : decode cL_law 317 = .ok (.iaload, 1) := dbl_5.2.1.2.2
theorem dL_law_318 : decode cL_law 318 = .ok (.aload_n 0, 1) := dbl_5.2.2.1.1
theorem dL_law_319 : decode cL_law 319 = .ok (.iload_n 3, 1) := dbl_5.2.2.1.2
theorem dL_law_320 : decode cL_law 320 = .ok (.iconst 2, 1) := dbl_5.2.2.2.1
theorem dL_law_321 : decode cL_law 321 = .ok (.iadd, 1) := dbl_5.2.2.2.2
theorem dbl_6 : (((((decode cL_law 322 = .ok (.iaload, 1)) ∧ (decode cL_law 323 = .ok (.invokevirtual 31, 3))) ∧ ((decode cL_law 326 = .ok (.pop, 1)) ∧ (decode cL_law 327 = .ok (.goto 1166, 3)))) ∧ (((decode cL_law 330 = .ok (.aload_n 1, 1)) ∧ (decode cL_law 331 = .ok (.aload_n 0, 1))) ∧ ((decode cL_law 332 = .ok (.iload_n 3, 1)) ∧ (decode cL_law 333 = .ok (.iconst 1, 1))))) ∧ ((((decode cL_law 334 = .ok (.iadd, 1)) ∧ (decode cL_law 335 = .ok (.iaload, 1))) ∧ ((decode cL_law 336 = .ok (.aload_n 0, 1)) ∧ (decode cL_law 337 = .ok (.iload_n 3, 1)))) ∧ (((decode cL_law 338 = .ok (.iconst 2, 1)) ∧ (decode cL_law 339 = .ok (.iadd, 1))) ∧ ((decode cL_law 340 = .ok (.iaload, 1)) ∧ (decode cL_law 341 = .ok (.invokevirtual 32, 3)))))) := by decide +kernel
theorem dL_law_322 : decode cL_law 322 = .ok (.iaload, 1) := dbl_6.1.1.1.1
theorem dL_law_323 : decode cL_law 323 = .ok (.invokevirtual 31, 3) := dbl_6.1.1.1.2
theorem dL_law_326 : decode cL_law 326 = .ok (.pop, 1) := dbl_6.1.1.2.1
theorem dL_law_327 : decode cL_law 327 = .ok (.goto 1166, 3) := dbl_6.1.1.2.2
theorem dL_law_330 : decode cL_law 330 = .ok (.aload_n 1, 1) := dbl_6.1.2.1.1
theorem dL_law_331 : decode cL_law 331 = .ok (.aload_n 0, 1) := dbl_6.1.2.1.2
theorem dL_law_332 : decode cL_law 332 = .ok (.iload_n 3, 1) := dbl_6.1.2.2.1
theorem dL_law_333 : decode cL_law 333 = .ok (.iconst 1, 1) := dbl_6.1.2.2.2
theorem dL_law_334 : decode cL_law 334 = .ok (.iadd, 1) := dbl_6.2.1.1.1
theorem dL_law_335 : decode cL_law 335 = .ok (.iaload, 1) := dbl_6.2.1.1.2
theorem dL_law_336 : decode cL_law 336 = .ok (.aload_n 0, 1) := dbl_6.2.1.2.1
theorem dL_law_337 : decode cL_law 337 = .ok (.iload_n 3, 1) := dbl_6.2.1.2.2
theorem dL_law_338 : decode cL_law 338 = .ok (.iconst 2, 1) := dbl_6.2.2.1.1
theorem dL_law_339 : decode cL_law 339 = .ok (.iadd, 1) := dbl_6.2.2.1.2
theorem dL_law_340 : decode cL_law 340 = .ok (.iaload, 1) := dbl_6.2.2.2.1
theorem dL_law_341 : decode cL_law 341 = .ok (.invokevirtual 32, 3) := dbl_6.2.2.2.2
theorem dbl_7 : (((((decode cL_law 344 = .ok (.pop, 1)) ∧ (decode cL_law 345 = .ok (.aload_n 2, 1))) ∧ ((decode cL_law 346 = .ok (.aload_n 0, 1)) ∧ (decode cL_law 347 = .ok (.iload_n 3, 1)))) ∧ (((decode cL_law 348 = .ok (.iconst 1, 1)) ∧ (decode cL_law 349 = .ok (.iadd, 1))) ∧ ((decode cL_law 350 = .ok (.iaload, 1)) ∧ (decode cL_law 351 = .ok (.aload_n 0, 1))))) ∧ ((((decode cL_law 352 = .ok (.iload_n 3, 1)) ∧ (decode cL_law 353 = .ok (.iconst 2, 1))) ∧ ((decode cL_law 354 = .ok (.iadd, 1)) ∧ (decode cL_law 355 = .ok (.iaload, 1)))) ∧ (((decode cL_law 356 = .ok (.invokevirtual 35, 3)) ∧ (decode cL_law 359 = .ok (.pop, 1))) ∧ ((decode cL_law 360 = .ok (.goto 1133, 3)) ∧ (decode cL_law 363 = .ok (.aload_n 1, 1)))))) := by decide +kernel
theorem dL_law_344 : decode cL_law 344 = .ok (.pop, 1) := dbl_7.1.1.1.1
theorem dL_law_345 : decode cL_law 345 = .ok (.aload_n 2, 1) := dbl_7.1.1.1.2
theorem dL_law_346 : decode cL_law 346 = .ok (.aload_n 0, 1) := dbl_7.1.1.2.1
theorem dL_law_347 : decode cL_law 347 = .ok (.iload_n 3, 1) := dbl_7.1.1.2.2
theorem dL_law_348 : decode cL_law 348 = .ok (.iconst 1, 1) := dbl_7.1.2.1.1
theorem dL_law_349 : decode cL_law 349 = .ok (.iadd, 1) := dbl_7.1.2.1.2
theorem dL_law_350 : decode cL_law 350 = .ok (.iaload, 1) := dbl_7.1.2.2.1
theorem dL_law_351 : decode cL_law 351 = .ok (.aload_n 0, 1) := dbl_7.1.2.2.2
theorem dL_law_352 : decode cL_law 352 = .ok (.iload_n 3, 1) := dbl_7.2.1.1.1
theorem dL_law_353 : decode cL_law 353 = .ok (.iconst 2, 1) := dbl_7.2.1.1.2
theorem dL_law_354 : decode cL_law 354 = .ok (.iadd, 1) := dbl_7.2.1.2.1
theorem dL_law_355 : decode cL_law 355 = .ok (.iaload, 1) := dbl_7.2.1.2.2
theorem dL_law_356 : decode cL_law 356 = .ok (.invokevirtual 35, 3) := dbl_7.2.2.1.1
theorem dL_law_359 : decode cL_law 359 = .ok (.pop, 1) := dbl_7.2.2.1.2
theorem dL_law_360 : decode cL_law 360 = .ok (.goto 1133, 3) := dbl_7.2.2.2.1
theorem dL_law_363 : decode cL_law 363 = .ok (.aload_n 1, 1) := dbl_7.2.2.2.2
theorem dbl_8 : (((((decode cL_law 364 = .ok (.aload_n 0, 1)) ∧ (decode cL_law 365 = .ok (.iload_n 3, 1))) ∧ ((decode cL_law 366 = .ok (.iconst 1, 1)) ∧ (decode cL_law 367 = .ok (.iadd, 1)))) ∧ (((decode cL_law 368 = .ok (.iaload, 1)) ∧ (decode cL_law 369 = .ok (.aload_n 0, 1))) ∧ ((decode cL_law 370 = .ok (.iload_n 3, 1)) ∧ (decode cL_law 371 = .ok (.iconst 2, 1))))) ∧ ((((decode cL_law 372 = .ok (.iadd, 1)) ∧ (decode cL_law 373 = .ok (.iaload, 1))) ∧ ((decode cL_law 374 = .ok (.aload_n 0, 1)) ∧ (decode cL_law 375 = .ok (.iload_n 3, 1)))) ∧ (((decode cL_law 376 = .ok (.iconst 3, 1)) ∧ (decode cL_law 377 = .ok (.iadd, 1))) ∧ ((decode cL_law 378 = .ok (.iaload, 1)) ∧ (decode cL_law 379 = .ok (.invokevirtual 36, 3)))))) := by decide +kernel
theorem dL_law_364 : decode cL_law 364 = .ok (.aload_n 0, 1) := dbl_8.1.1.1.1
theorem dL_law_365 : decode cL_law 365 = .ok (.iload_n 3, 1) := dbl_8.1.1.1.2
theorem dL_law_366 : decode cL_law 366 = .ok (.iconst 1, 1) := dbl_8.1.1.2.1
theorem dL_law_367 : decode cL_law 367 = .ok (.iadd, 1) := dbl_8.1.1.2.2
theorem dL_law_368 : decode cL_law 368 = .ok (.iaload, 1) := dbl_8.1.2.1.1
theorem dL_law_369 : decode cL_law 369 = .ok (.aload_n 0, 1) := dbl_8.1.2.1.2
theorem dL_law_370 : decode cL_law 370 = .ok (.iload_n 3, 1) := dbl_8.1.2.2.1
theorem dL_law_371 : decode cL_law 371 = .ok (.iconst 2, 1) := dbl_8.1.2.2.2
theorem dL_law_372 : decode cL_law 372 = .ok (.iadd, 1) := dbl_8.2.1.1.1
theorem dL_law_373 : decode cL_law 373 = .ok (.iaload, 1) := dbl_8.2.1.1.2
theorem dL_law_374 : decode cL_law 374 = .ok (.aload_n 0, 1) := dbl_8.2.1.2.1
theorem dL_law_375 : decode cL_law 375 = .ok (.iload_n 3, 1) := dbl_8.2.1.2.2
theorem dL_law_376 : decode cL_law 376 = .ok (.iconst 3, 1) := dbl_8.2.2.1.1
theorem dL_law_377 : decode cL_law 377 = .ok (.iadd, 1) := dbl_8.2.2.1.2
theorem dL_law_378 : decode cL_law 378 = .ok (.iaload, 1) := dbl_8.2.2.2.1
theorem dL_law_379 : decode cL_law 379 = .ok (.invokevirtual 36, 3) := dbl_8.2.2.2.2
theorem dbl_9 : (((((decode cL_law 382 = .ok (.aload_n 2, 1)) ∧ (decode cL_law 383 = .ok (.aload_n 0, 1))) ∧ ((decode cL_law 384 = .ok (.iload_n 3, 1)) ∧ (decode cL_law 385 = .ok (.iconst 1, 1)))) ∧ (((decode cL_law 386 = .ok (.iadd, 1)) ∧ (decode cL_law 387 = .ok (.iaload, 1))) ∧ ((decode cL_law 388 = .ok (.aload_n 0, 1)) ∧ (decode cL_law 389 = .ok (.iload_n 3, 1))))) ∧ ((((decode cL_law 390 = .ok (.iconst 2, 1)) ∧ (decode cL_law 391 = .ok (.iadd, 1))) ∧ ((decode cL_law 392 = .ok (.iaload, 1)) ∧ (decode cL_law 393 = .ok (.aload_n 0, 1)))) ∧ (((decode cL_law 394 = .ok (.iload_n 3, 1)) ∧ (decode cL_law 395 = .ok (.iconst 3, 1))) ∧ ((decode cL_law 396 = .ok (.iadd, 1)) ∧ (decode cL_law 397 = .ok (.iaload, 1)))))) := by decide +kernel
theorem dL_law_382 : decode cL_law 382 = .ok (.aload_n 2, 1) := dbl_9.1.1.1.1
theorem dL_law_383 : decode cL_law 383 = .ok (.aload_n 0, 1) := dbl_9.1.1.1.2
theorem dL_law_384 : decode cL_law 384 = .ok (.iload_n 3, 1) := dbl_9.1.1.2.1
theorem dL_law_385 : decode cL_law 385 = .ok (.iconst 1, 1) := dbl_9.1.1.2.2
theorem dL_law_386 : decode cL_law 386 = .ok (.iadd, 1) := dbl_9.1.2.1.1
theorem dL_law_387 : decode cL_law 387 = .ok (.iaload, 1) := dbl_9.1.2.1.2
theorem dL_law_388 : decode cL_law 388 = .ok (.aload_n 0, 1) := dbl_9.1.2.2.1
theorem dL_law_389 : decode cL_law 389 = .ok (.iload_n 3, 1) := dbl_9.1.2.2.2
theorem dL_law_390 : decode cL_law 390 = .ok (.iconst 2, 1) := dbl_9.2.1.1.1
theorem dL_law_391 : decode cL_law 391 = .ok (.iadd, 1) := dbl_9.2.1.1.2
theorem dL_law_392 : decode cL_law 392 = .ok (.iaload, 1) := dbl_9.2.1.2.1
theorem dL_law_393 : decode cL_law 393 = .ok (.aload_n 0, 1) := dbl_9.2.1.2.2
theorem dL_law_394 : decode cL_law 394 = .ok (.iload_n 3, 1) := dbl_9.2.2.1.1
theorem dL_law_395 : decode cL_law 395 = .ok (.iconst 3, 1) := dbl_9.2.2.1.2
theorem dL_law_396 : decode cL_law 396 = .ok (.iadd, 1) := dbl_9.2.2.2.1
theorem dL_law_397 : decode cL_law 397 = .ok (.iaload, 1) := dbl_9.2.2.2.2
theorem dbl_10 : (((((decode cL_law 398 = .ok (.invokevirtual 40, 3)) ∧ (decode cL_law 401 = .ok (.if_icmp .eq 1092, 3))) ∧ ((decode cL_law 404 = .ok (.iconst 0, 1)) ∧ (decode cL_law 405 = .ok (.ireturn, 1)))) ∧ (((decode cL_law 406 = .ok (.aload_n 1, 1)) ∧ (decode cL_law 407 = .ok (.aload_n 0, 1))) ∧ ((decode cL_law 408 = .ok (.iload_n 3, 1)) ∧ (decode cL_law 409 = .ok (.iconst 1, 1))))) ∧ ((((decode cL_law 410 = .ok (.iadd, 1)) ∧ (decode cL_law 411 = .ok (.iaload, 1))) ∧ ((decode cL_law 412 = .ok (.aload_n 0, 1)) ∧ (decode cL_law 413 = .ok (.iload_n 3, 1)))) ∧ (((decode cL_law 414 = .ok (.iconst 2, 1)) ∧ (decode cL_law 415 = .ok (.iadd, 1))) ∧ ((decode cL_law 416 = .ok (.iaload, 1)) ∧ (decode cL_law 417 = .ok (.aload_n 0, 1)))))) := by decide +kernel
theorem dL_law_398 : decode cL_law 398 = .ok (.invokevirtual 40, 3) := dbl_10.1.1.1.1
theorem dL_law_401 : decode cL_law 401 = .ok (.if_icmp .eq 1092, 3) := dbl_10.1.1.1.2
theorem dL_law_404 : decode cL_law 404 = .ok (.iconst 0, 1) := dbl_10.1.1.2.1
theorem dL_law_405 : decode cL_law 405 = .ok (.ireturn, 1) := dbl_10.1.1.2.2
theorem dL_law_406 : decode cL_law 406 = .ok (.aload_n 1, 1) := dbl_10.1.2.1.1
theorem dL_law_407 : decode cL_law 407 = .ok (.aload_n 0, 1) := dbl_10.1.2.1.2
theorem dL_law_408 : decode cL_law 408 = .ok (.iload_n 3, 1) := dbl_10.1.2.2.1
theorem dL_law_409 : decode cL_law 409 = .ok (.iconst 1, 1) := dbl_10.1.2.2.2
theorem dL_law_410 : decode cL_law 410 = .ok (.iadd, 1) := dbl_10.2.1.1.1
theorem dL_law_411 : decode cL_law 411 = .ok (.iaload, 1) := dbl_10.2.1.1.2
theorem dL_law_412 : decode cL_law 412 = .ok (.aload_n 0, 1) := dbl_10.2.1.2.1
theorem dL_law_413 : decode cL_law 413 = .ok (.iload_n 3, 1) := dbl_10.2.1.2.2
theorem dL_law_414 : decode cL_law 414 = .ok (.iconst 2, 1) := dbl_10.2.2.1.1
theorem dL_law_415 : decode cL_law 415 = .ok (.iadd, 1) := dbl_10.2.2.1.2
theorem dL_law_416 : decode cL_law 416 = .ok (.iaload, 1) := dbl_10.2.2.2.1
theorem dL_law_417 : decode cL_law 417 = .ok (.aload_n 0, 1) := dbl_10.2.2.2.2
theorem dbl_11 : (((((decode cL_law 418 = .ok (.iload_n 3, 1)) ∧ (decode cL_law 419 = .ok (.iconst 3, 1))) ∧ ((decode cL_law 420 = .ok (.iadd, 1)) ∧ (decode cL_law 421 = .ok (.iaload, 1)))) ∧ (((decode cL_law 422 = .ok (.invokevirtual 41, 3)) ∧ (decode cL_law 425 = .ok (.pop, 1))) ∧ ((decode cL_law 426 = .ok (.aload_n 2, 1)) ∧ (decode cL_law 427 = .ok (.aload_n 0, 1))))) ∧ ((((decode cL_law 428 = .ok (.iload_n 3, 1)) ∧ (decode cL_law 429 = .ok (.iconst 1, 1))) ∧ ((decode cL_law 430 = .ok (.iadd, 1)) ∧ (decode cL_law 431 = .ok (.iaload, 1)))) ∧ (((decode cL_law 432 = .ok (.aload_n 0, 1)) ∧ (decode cL_law 433 = .ok (.iload_n 3, 1))) ∧ ((decode cL_law 434 = .ok (.iconst 2, 1)) ∧ (decode cL_law 435 = .ok (.iadd, 1)))))) := by decide +kernel
theorem dL_law_418 : decode cL_law 418 = .ok (.iload_n 3, 1) := dbl_11.1.1.1.1
theorem dL_law_419 : decode cL_law 419 = .ok (.iconst 3, 1) := dbl_11.1.1.1.2
theorem dL_law_420 : decode cL_law 420 = .ok (.iadd, 1) := dbl_11.1.1.2.1
theorem dL_law_421 : decode cL_law 421 = .ok (.iaload, 1) := dbl_11.1.1.2.2
theorem dL_law_422 : decode cL_law 422 = .ok (.invokevirtual 41, 3) := dbl_11.1.2.1.1
theorem dL_law_425 : decode cL_law 425 = .ok (.pop, 1) := dbl_11.1.2.1.2
theorem dL_law_426 : decode cL_law 426 = .ok (.aload_n 2, 1) := dbl_11.1.2.2.1
theorem dL_law_427 : decode cL_law 427 = .ok (.aload_n 0, 1) := dbl_11.1.2.2.2
theorem dL_law_428 : decode cL_law 428 = .ok (.iload_n 3, 1) := dbl_11.2.1.1.1
theorem dL_law_429 : decode cL_law 429 = .ok (.iconst 1, 1) := dbl_11.2.1.1.2
theorem dL_law_430 : decode cL_law 430 = .ok (.iadd, 1) := dbl_11.2.1.2.1
theorem dL_law_431 : decode cL_law 431 = .ok (.iaload, 1) := dbl_11.2.1.2.2
theorem dL_law_432 : decode cL_law 432 = .ok (.aload_n 0, 1) := dbl_11.2.2.1.1
theorem dL_law_433 : decode cL_law 433 = .ok (.iload_n 3, 1) := dbl_11.2.2.1.2
theorem dL_law_434 : decode cL_law 434 = .ok (.iconst 2, 1) := dbl_11.2.2.2.1
theorem dL_law_435 : decode cL_law 435 = .ok (.iadd, 1) := dbl_11.2.2.2.2
theorem dbl_12 : (((((decode cL_law 436 = .ok (.iaload, 1)) ∧ (decode cL_law 437 = .ok (.aload_n 0, 1))) ∧ ((decode cL_law 438 = .ok (.iload_n 3, 1)) ∧ (decode cL_law 439 = .ok (.iconst 3, 1)))) ∧ (((decode cL_law 440 = .ok (.iadd, 1)) ∧ (decode cL_law 441 = .ok (.iaload, 1))) ∧ ((decode cL_law 442 = .ok (.invokevirtual 44, 3)) ∧ (decode cL_law 445 = .ok (.pop, 1))))) ∧ ((((decode cL_law 446 = .ok (.goto 1047, 3)) ∧ (decode cL_law 449 = .ok (.aload_n 1, 1))) ∧ ((decode cL_law 450 = .ok (.aload_n 0, 1)) ∧ (decode cL_law 451 = .ok (.iload_n 3, 1)))) ∧ (((decode cL_law 452 = .ok (.iconst 1, 1)) ∧ (decode cL_law 453 = .ok (.iadd, 1))) ∧ ((decode cL_law 454 = .ok (.iaload, 1)) ∧ (decode cL_law 455 = .ok (.invokevirtual 45, 3)))))) := by decide +kernel
theorem dL_law_436 : decode cL_law 436 = .ok (.iaload, 1) := dbl_12.1.1.1.1
theorem dL_law_437 : decode cL_law 437 = .ok (.aload_n 0, 1) := dbl_12.1.1.1.2
theorem dL_law_438 : decode cL_law 438 = .ok (.iload_n 3, 1) := dbl_12.1.1.2.1
theorem dL_law_439 : decode cL_law 439 = .ok (.iconst 3, 1) := dbl_12.1.1.2.2
theorem dL_law_440 : decode cL_law 440 = .ok (.iadd, 1) := dbl_12.1.2.1.1
theorem dL_law_441 : decode cL_law 441 = .ok (.iaload, 1) := dbl_12.1.2.1.2
theorem dL_law_442 : decode cL_law 442 = .ok (.invokevirtual 44, 3) := dbl_12.1.2.2.1
theorem dL_law_445 : decode cL_law 445 = .ok (.pop, 1) := dbl_12.1.2.2.2
theorem dL_law_446 : decode cL_law 446 = .ok (.goto 1047, 3) := dbl_12.2.1.1.1
theorem dL_law_449 : decode cL_law 449 = .ok (.aload_n 1, 1) := dbl_12.2.1.1.2
theorem dL_law_450 : decode cL_law 450 = .ok (.aload_n 0, 1) := dbl_12.2.1.2.1
theorem dL_law_451 : decode cL_law 451 = .ok (.iload_n 3, 1) := dbl_12.2.1.2.2
theorem dL_law_452 : decode cL_law 452 = .ok (.iconst 1, 1) := dbl_12.2.2.1.1
theorem dL_law_453 : decode cL_law 453 = .ok (.iadd, 1) := dbl_12.2.2.1.2
theorem dL_law_454 : decode cL_law 454 = .ok (.iaload, 1) := dbl_12.2.2.2.1
theorem dL_law_455 : decode cL_law 455 = .ok (.invokevirtual 45, 3) := dbl_12.2.2.2.2
theorem dbl_13 : (((((decode cL_law 458 = .ok (.pop, 1)) ∧ (decode cL_law 459 = .ok (.aload_n 2, 1))) ∧ ((decode cL_law 460 = .ok (.aload_n 0, 1)) ∧ (decode cL_law 461 = .ok (.iload_n 3, 1)))) ∧ (((decode cL_law 462 = .ok (.iconst 1, 1)) ∧ (decode cL_law 463 = .ok (.iadd, 1))) ∧ ((decode cL_law 464 = .ok (.iaload, 1)) ∧ (decode cL_law 465 = .ok (.invokevirtual 48, 3))))) ∧ ((((decode cL_law 468 = .ok (.pop, 1)) ∧ (decode cL_law 469 = .ok (.goto 1024, 3))) ∧ ((decode cL_law 472 = .ok (.aload_n 1, 1)) ∧ (decode cL_law 473 = .ok (.aload_n 0, 1)))) ∧ (((decode cL_law 474 = .ok (.iload_n 3, 1)) ∧ (decode cL_law 475 = .ok (.iconst 1, 1))) ∧ ((decode cL_law 476 = .ok (.iadd, 1)) ∧ (decode cL_law 477 = .ok (.iaload, 1)))))) := by decide +kernel
theorem dL_law_458 : decode cL_law 458 = .ok (.pop, 1) := dbl_13.1.1.1.1
theorem dL_law_459 : decode cL_law 459 = .ok (.aload_n 2, 1) := dbl_13.1.1.1.2
theorem dL_law_460 : decode cL_law 460 = .ok (.aload_n 0, 1) := dbl_13.1.1.2.1
theorem dL_law_461 : decode cL_law 461 = .ok (.iload_n 3, 1) := dbl_13.1.1.2.2
theorem dL_law_462 : decode cL_law 462 = .ok (.iconst 1, 1) := dbl_13.1.2.1.1
theorem dL_law_463 : decode cL_law 463 = .ok (.iadd, 1) := dbl_13.1.2.1.2
theorem dL_law_464 : decode cL_law 464 = .ok (.iaload, 1) := dbl_13.1.2.2.1
theorem dL_law_465 : decode cL_law 465 = .ok (.invokevirtual 48, 3) := dbl_13.1.2.2.2
theorem dL_law_468 : decode cL_law 468 = .ok (.pop, 1) := dbl_13.2.1.1.1
theorem dL_law_469 : decode cL_law 469 = .ok (.goto 1024, 3) := dbl_13.2.1.1.2
theorem dL_law_472 : decode cL_law 472 = .ok (.aload_n 1, 1) := dbl_13.2.1.2.1
theorem dL_law_473 : decode cL_law 473 = .ok (.aload_n 0, 1) := dbl_13.2.1.2.2
theorem dL_law_474 : decode cL_law 474 = .ok (.iload_n 3, 1) := dbl_13.2.2.1.1
theorem dL_law_475 : decode cL_law 475 = .ok (.iconst 1, 1) := dbl_13.2.2.1.2
theorem dL_law_476 : decode cL_law 476 = .ok (.iadd, 1) := dbl_13.2.2.2.1
theorem dL_law_477 : decode cL_law 477 = .ok (.iaload, 1) := dbl_13.2.2.2.2
theorem dbl_14 : (((((decode cL_law 478 = .ok (.aload_n 0, 1)) ∧ (decode cL_law 479 = .ok (.iload_n 3, 1))) ∧ ((decode cL_law 480 = .ok (.iconst 2, 1)) ∧ (decode cL_law 481 = .ok (.iadd, 1)))) ∧ (((decode cL_law 482 = .ok (.iaload, 1)) ∧ (decode cL_law 483 = .ok (.invokevirtual 49, 3))) ∧ ((decode cL_law 486 = .ok (.pop, 1)) ∧ (decode cL_law 487 = .ok (.aload_n 2, 1))))) ∧ ((((decode cL_law 488 = .ok (.aload_n 0, 1)) ∧ (decode cL_law 489 = .ok (.iload_n 3, 1))) ∧ ((decode cL_law 490 = .ok (.iconst 1, 1)) ∧ (decode cL_law 491 = .ok (.iadd, 1)))) ∧ (((decode cL_law 492 = .ok (.iaload, 1)) ∧ (decode cL_law 493 = .ok (.aload_n 0, 1))) ∧ ((decode cL_law 494 = .ok (.iload_n 3, 1)) ∧ (decode cL_law 495 = .ok (.iconst 2, 1)))))) := by decide +kernel
theorem dL_law_478 : decode cL_law 478 = .ok (.aload_n 0, 1) := dbl_14.1.1.1.1
theorem dL_law_479 : decode cL_law 479 = .ok (.iload_n 3, 1) := dbl_14.1.1.1.2
theorem dL_law_480 : decode cL_law 480 = .ok (.iconst 2, 1) := dbl_14.1.1.2.1
theorem dL_law_481 : decode cL_law 481 = .ok (.iadd, 1) := dbl_14.1.1.2.2
theorem dL_law_482 : decode cL_law 482 = .ok (.iaload, 1) := dbl_14.1.2.1.1
theorem dL_law_483 : decode cL_law 483 = .ok (.invokevirtual 49, 3) := dbl_14.1.2.1.2
theorem dL_law_486 : decode cL_law 486 = .ok (.pop, 1) := dbl_14.1.2.2.1
theorem dL_law_487 : decode cL_law 487 = .ok (.aload_n 2, 1) := dbl_14.1.2.2.2
theorem dL_law_488 : decode cL_law 488 = .ok (.aload_n 0, 1) := dbl_14.2.1.1.1
theorem dL_law_489 : decode cL_law 489 = .ok (.iload_n 3, 1) := dbl_14.2.1.1.2
theorem dL_law_490 : decode cL_law 490 = .ok (.iconst 1, 1) := dbl_14.2.1.2.1
theorem dL_law_491 : decode cL_law 491 = .ok (.iadd, 1) := dbl_14.2.1.2.2
theorem dL_law_492 : decode cL_law 492 = .ok (.iaload, 1) := dbl_14.2.2.1.1
theorem dL_law_493 : decode cL_law 493 = .ok (.aload_n 0, 1) := dbl_14.2.2.1.2
theorem dL_law_494 : decode cL_law 494 = .ok (.iload_n 3, 1) := dbl_14.2.2.2.1
theorem dL_law_495 : decode cL_law 495 = .ok (.iconst 2, 1) := dbl_14.2.2.2.2
theorem dbl_15 : (((((decode cL_law 496 = .ok (.iadd, 1)) ∧ (decode cL_law 497 = .ok (.iaload, 1))) ∧ ((decode cL_law 498 = .ok (.invokevirtual 52, 3)) ∧ (decode cL_law 501 = .ok (.pop, 1)))) ∧ (((decode cL_law 502 = .ok (.goto 991, 3)) ∧ (decode cL_law 505 = .ok (.aload_n 1, 1))) ∧ ((decode cL_law 506 = .ok (.aload_n 0, 1)) ∧ (decode cL_law 507 = .ok (.iload_n 3, 1))))) ∧ ((((decode cL_law 508 = .ok (.iconst 1, 1)) ∧ (decode cL_law 509 = .ok (.iadd, 1))) ∧ ((decode cL_law 510 = .ok (.iaload, 1)) ∧ (decode cL_law 511 = .ok (.aload_n 0, 1)))) ∧ (((decode cL_law 512 = .ok (.iload_n 3, 1)) ∧ (decode cL_law 513 = .ok (.iconst 2, 1))) ∧ ((decode cL_law 514 = .ok (.iadd, 1)) ∧ (decode cL_law 515 = .ok (.iaload, 1)))))) := by decide +kernel
theorem dL_law_496 : decode cL_law 496 = .ok (.iadd, 1) := dbl_15.1.1.1.1
theorem dL_law_497 : decode cL_law 497 = .ok (.iaload, 1) := dbl_15.1.1.1.2
theorem dL_law_498 : decode cL_law 498 = .ok (.invokevirtual 52, 3) := dbl_15.1.1.2.1
theorem dL_law_501 : decode cL_law 501 = .ok (.pop, 1) := dbl_15.1.1.2.2
theorem dL_law_502 : decode cL_law 502 = .ok (.goto 991, 3) := dbl_15.1.2.1.1
theorem dL_law_505 : decode cL_law 505 = .ok (.aload_n 1, 1) := dbl_15.1.2.1.2
theorem dL_law_506 : decode cL_law 506 = .ok (.aload_n 0, 1) := dbl_15.1.2.2.1
theorem dL_law_507 : decode cL_law 507 = .ok (.iload_n 3, 1) := dbl_15.1.2.2.2
theorem dL_law_508 : decode cL_law 508 = .ok (.iconst 1, 1) := dbl_15.2.1.1.1
theorem dL_law_509 : decode cL_law 509 = .ok (.iadd, 1) := dbl_15.2.1.1.2
theorem dL_law_510 : decode cL_law 510 = .ok (.iaload, 1) := dbl_15.2.1.2.1
theorem dL_law_511 : decode cL_law 511 = .ok (.aload_n 0, 1) := dbl_15.2.1.2.2
theorem dL_law_512 : decode cL_law 512 = .ok (.iload_n 3, 1) := dbl_15.2.2.1.1
theorem dL_law_513 : decode cL_law 513 = .ok (.iconst 2, 1) := dbl_15.2.2.1.2
theorem dL_law_514 : decode cL_law 514 = .ok (.iadd, 1) := dbl_15.2.2.2.1
theorem dL_law_515 : decode cL_law 515 = .ok (.iaload, 1) := dbl_15.2.2.2.2
theorem dbl_16 : (((((decode cL_law 516 = .ok (.invokevirtual 53, 3)) ∧ (decode cL_law 519 = .ok (.pop, 1))) ∧ ((decode cL_law 520 = .ok (.aload_n 2, 1)) ∧ (decode cL_law 521 = .ok (.aload_n 0, 1)))) ∧ (((decode cL_law 522 = .ok (.iload_n 3, 1)) ∧ (decode cL_law 523 = .ok (.iconst 1, 1))) ∧ ((decode cL_law 524 = .ok (.iadd, 1)) ∧ (decode cL_law 525 = .ok (.iaload, 1))))) ∧ ((((decode cL_law 526 = .ok (.aload_n 0, 1)) ∧ (decode cL_law 527 = .ok (.iload_n 3, 1))) ∧ ((decode cL_law 528 = .ok (.iconst 2, 1)) ∧ (decode cL_law 529 = .ok (.iadd, 1)))) ∧ (((decode cL_law 530 = .ok (.iaload, 1)) ∧ (decode cL_law 531 = .ok (.invokevirtual 56, 3))) ∧ ((decode cL_law 534 = .ok (.pop, 1)) ∧ (decode cL_law 535 = .ok (.goto 958, 3)))))) := by decide +kernel
theorem dL_law_516 : decode cL_law 516 = .ok (.invokevirtual 53, 3) := dbl_16.1.1.1.1
theorem dL_law_519 : decode cL_law 519 = .ok (.pop, 1) := dbl_16.1.1.1.2
theorem dL_law_520 : decode cL_law 520 = .ok (.aload_n 2, 1) := dbl_16.1.1.2.1
theorem dL_law_521 : decode cL_law 521 = .ok (.aload_n 0, 1) := dbl_16.1.1.2.2
theorem dL_law_522 : decode cL_law 522 = .ok (.iload_n 3, 1) := dbl_16.1.2.1.1
theorem dL_law_523 : decode cL_law 523 = .ok (.iconst 1, 1) := dbl_16.1.2.1.2
theorem dL_law_524 : decode cL_law 524 = .ok (.iadd, 1) := dbl_16.1.2.2.1
theorem dL_law_525 : decode cL_law 525 = .ok (.iaload, 1) := dbl_16.1.2.2.2
theorem dL_law_526 : decode cL_law 526 = .ok (.aload_n 0, 1) := dbl_16.2.1.1.1
theorem dL_law_527 : decode cL_law 527 = .ok (.iload_n 3, 1) := dbl_16.2.1.1.2
theorem dL_law_528 : decode cL_law 528 = .ok (.iconst 2, 1) := dbl_16.2.1.2.1
theorem dL_law_529 : decode cL_law 529 = .ok (.iadd, 1) := dbl_16.2.1.2.2
theorem dL_law_530 : decode cL_law 530 = .ok (.iaload, 1) := dbl_16.2.2.1.1
theorem dL_law_531 : decode cL_law 531 = .ok (.invokevirtual 56, 3) := dbl_16.2.2.1.2
theorem dL_law_534 : decode cL_law 534 = .ok (.pop, 1) := dbl_16.2.2.2.1
theorem dL_law_535 : decode cL_law 535 = .ok (.goto 958, 3) := dbl_16.2.2.2.2
theorem dbl_17 : (((((decode cL_law 538 = .ok (.aload_n 1, 1)) ∧ (decode cL_law 539 = .ok (.aload_n 0, 1))) ∧ ((decode cL_law 540 = .ok (.iload_n 3, 1)) ∧ (decode cL_law 541 = .ok (.iconst 1, 1)))) ∧ (((decode cL_law 542 = .ok (.iadd, 1)) ∧ (decode cL_law 543 = .ok (.iaload, 1))) ∧ ((decode cL_law 544 = .ok (.aload_n 0, 1)) ∧ (decode cL_law 545 = .ok (.iload_n 3, 1))))) ∧ ((((decode cL_law 546 = .ok (.iconst 2, 1)) ∧ (decode cL_law 547 = .ok (.iadd, 1))) ∧ ((decode cL_law 548 = .ok (.iaload, 1)) ∧ (decode cL_law 549 = .ok (.aload_n 0, 1)))) ∧ (((decode cL_law 550 = .ok (.iload_n 3, 1)) ∧ (decode cL_law 551 = .ok (.iconst 3, 1))) ∧ ((decode cL_law 552 = .ok (.iadd, 1)) ∧ (decode cL_law 553 = .ok (.iaload, 1)))))) := by decide +kernel
theorem dL_law_538 : decode cL_law 538 = .ok (.aload_n 1, 1) := dbl_17.1.1.1.1
theorem dL_law_539 : decode cL_law 539 = .ok (.aload_n 0, 1) := dbl_17.1.1.1.2
theorem dL_law_540 : decode cL_law 540 = .ok (.iload_n 3, 1) := dbl_17.1.1.2.1
theorem dL_law_541 : decode cL_law 541 = .ok (.iconst 1, 1) := dbl_17.1.1.2.2
theorem dL_law_542 : decode cL_law 542 = .ok (.iadd, 1) := dbl_17.1.2.1.1
theorem dL_law_543 : decode cL_law 543 = .ok (.iaload, 1) := dbl_17.1.2.1.2
theorem dL_law_544 : decode cL_law 544 = .ok (.aload_n 0, 1) := dbl_17.1.2.2.1
theorem dL_law_545 : decode cL_law 545 = .ok (.iload_n 3, 1) := dbl_17.1.2.2.2
theorem dL_law_546 : decode cL_law 546 = .ok (.iconst 2, 1) := dbl_17.2.1.1.1
theorem dL_law_547 : decode cL_law 547 = .ok (.iadd, 1) := dbl_17.2.1.1.2
theorem dL_law_548 : decode cL_law 548 = .ok (.iaload, 1) := dbl_17.2.1.2.1
theorem dL_law_549 : decode cL_law 549 = .ok (.aload_n 0, 1) := dbl_17.2.1.2.2
theorem dL_law_550 : decode cL_law 550 = .ok (.iload_n 3, 1) := dbl_17.2.2.1.1
theorem dL_law_551 : decode cL_law 551 = .ok (.iconst 3, 1) := dbl_17.2.2.1.2
theorem dL_law_552 : decode cL_law 552 = .ok (.iadd, 1) := dbl_17.2.2.2.1
theorem dL_law_553 : decode cL_law 553 = .ok (.iaload, 1) := dbl_17.2.2.2.2
theorem dbl_18 : (((((decode cL_law 554 = .ok (.invokevirtual 57, 3)) ∧ (decode cL_law 557 = .ok (.pop, 1))) ∧ ((decode cL_law 558 = .ok (.aload_n 2, 1)) ∧ (decode cL_law 559 = .ok (.aload_n 0, 1)))) ∧ (((decode cL_law 560 = .ok (.iload_n 3, 1)) ∧ (decode cL_law 561 = .ok (.iconst 1, 1))) ∧ ((decode cL_law 562 = .ok (.iadd, 1)) ∧ (decode cL_law 563 = .ok (.iaload, 1))))) ∧ ((((decode cL_law 564 = .ok (.aload_n 0, 1)) ∧ (decode cL_law 565 = .ok (.iload_n 3, 1))) ∧ ((decode cL_law 566 = .ok (.iconst 2, 1)) ∧ (decode cL_law 567 = .ok (.iadd, 1)))) ∧ (((decode cL_law 568 = .ok (.iaload, 1)) ∧ (decode cL_law 569 = .ok (.aload_n 0, 1))) ∧ ((decode cL_law 570 = .ok (.iload_n 3, 1)) ∧ (decode cL_law 571 = .ok (.iconst 3, 1)))))) := by decide +kernel
theorem dL_law_554 : decode cL_law 554 = .ok (.invokevirtual 57, 3) := dbl_18.1.1.1.1
theorem dL_law_557 : decode cL_law 557 = .ok (.pop, 1) := dbl_18.1.1.1.2
theorem dL_law_558 : decode cL_law 558 = .ok (.aload_n 2, 1) := dbl_18.1.1.2.1
theorem dL_law_559 : decode cL_law 559 = .ok (.aload_n 0, 1) := dbl_18.1.1.2.2
theorem dL_law_560 : decode cL_law 560 = .ok (.iload_n 3, 1) := dbl_18.1.2.1.1
theorem dL_law_561 : decode cL_law 561 = .ok (.iconst 1, 1) := dbl_18.1.2.1.2
theorem dL_law_562 : decode cL_law 562 = .ok (.iadd, 1) := dbl_18.1.2.2.1
theorem dL_law_563 : decode cL_law 563 = .ok (.iaload, 1) := dbl_18.1.2.2.2
theorem dL_law_564 : decode cL_law 564 = .ok (.aload_n 0, 1) := dbl_18.2.1.1.1
theorem dL_law_565 : decode cL_law 565 = .ok (.iload_n 3, 1) := dbl_18.2.1.1.2
theorem dL_law_566 : decode cL_law 566 = .ok (.iconst 2, 1) := dbl_18.2.1.2.1
theorem dL_law_567 : decode cL_law 567 = .ok (.iadd, 1) := dbl_18.2.1.2.2
theorem dL_law_568 : decode cL_law 568 = .ok (.iaload, 1) := dbl_18.2.2.1.1
theorem dL_law_569 : decode cL_law 569 = .ok (.aload_n 0, 1) := dbl_18.2.2.1.2
theorem dL_law_570 : decode cL_law 570 = .ok (.iload_n 3, 1) := dbl_18.2.2.2.1
theorem dL_law_571 : decode cL_law 571 = .ok (.iconst 3, 1) := dbl_18.2.2.2.2
theorem dbl_19 : (((((decode cL_law 572 = .ok (.iadd, 1)) ∧ (decode cL_law 573 = .ok (.iaload, 1))) ∧ ((decode cL_law 574 = .ok (.invokevirtual 60, 3)) ∧ (decode cL_law 577 = .ok (.pop, 1)))) ∧ (((decode cL_law 578 = .ok (.goto 915, 3)) ∧ (decode cL_law 581 = .ok (.aload_n 1, 1))) ∧ ((decode cL_law 582 = .ok (.aload_n 0, 1)) ∧ (decode cL_law 583 = .ok (.iload_n 3, 1))))) ∧ ((((decode cL_law 584 = .ok (.iconst 1, 1)) ∧ (decode cL_law 585 = .ok (.iadd, 1))) ∧ ((decode cL_law 586 = .ok (.iaload, 1)) ∧ (decode cL_law 587 = .ok (.invokevirtual 61, 3)))) ∧ (((decode cL_law 590 = .ok (.pop, 1)) ∧ (decode cL_law 591 = .ok (.aload_n 2, 1))) ∧ ((decode cL_law 592 = .ok (.aload_n 0, 1)) ∧ (decode cL_law 593 = .ok (.iload_n 3, 1)))))) := by decide +kernel
theorem dL_law_572 : decode cL_law 572 = .ok (.iadd, 1) := dbl_19.1.1.1.1
theorem dL_law_573 : decode cL_law 573 = .ok (.iaload, 1) := dbl_19.1.1.1.2
theorem dL_law_574 : decode cL_law 574 = .ok (.invokevirtual 60, 3) := dbl_19.1.1.2.1
theorem dL_law_577 : decode cL_law 577 = .ok (.pop, 1) := dbl_19.1.1.2.2
theorem dL_law_578 : decode cL_law 578 = .ok (.goto 915, 3) := dbl_19.1.2.1.1
theorem dL_law_581 : decode cL_law 581 = .ok (.aload_n 1, 1) := dbl_19.1.2.1.2
theorem dL_law_582 : decode cL_law 582 = .ok (.aload_n 0, 1) := dbl_19.1.2.2.1
theorem dL_law_583 : decode cL_law 583 = .ok (.iload_n 3, 1) := dbl_19.1.2.2.2
theorem dL_law_584 : decode cL_law 584 = .ok (.iconst 1, 1) := dbl_19.2.1.1.1
theorem dL_law_585 : decode cL_law 585 = .ok (.iadd, 1) := dbl_19.2.1.1.2
theorem dL_law_586 : decode cL_law 586 = .ok (.iaload, 1) := dbl_19.2.1.2.1
theorem dL_law_587 : decode cL_law 587 = .ok (.invokevirtual 61, 3) := dbl_19.2.1.2.2
theorem dL_law_590 : decode cL_law 590 = .ok (.pop, 1) := dbl_19.2.2.1.1
theorem dL_law_591 : decode cL_law 591 = .ok (.aload_n 2, 1) := dbl_19.2.2.1.2
theorem dL_law_592 : decode cL_law 592 = .ok (.aload_n 0, 1) := dbl_19.2.2.2.1
theorem dL_law_593 : decode cL_law 593 = .ok (.iload_n 3, 1) := dbl_19.2.2.2.2
theorem dbl_20 : (((((decode cL_law 594 = .ok (.iconst 1, 1)) ∧ (decode cL_law 595 = .ok (.iadd, 1))) ∧ ((decode cL_law 596 = .ok (.iaload, 1)) ∧ (decode cL_law 597 = .ok (.invokevirtual 64, 3)))) ∧ (((decode cL_law 600 = .ok (.pop, 1)) ∧ (decode cL_law 601 = .ok (.goto 892, 3))) ∧ ((decode cL_law 604 = .ok (.aload_n 1, 1)) ∧ (decode cL_law 605 = .ok (.invokevirtual 65, 3))))) ∧ ((((decode cL_law 608 = .ok (.pop, 1)) ∧ (decode cL_law 609 = .ok (.aload_n 2, 1))) ∧ ((decode cL_law 610 = .ok (.invokevirtual 68, 3)) ∧ (decode cL_law 613 = .ok (.pop, 1)))) ∧ (((decode cL_law 614 = .ok (.goto 879, 3)) ∧ (decode cL_law 617 = .ok (.aload_n 1, 1))) ∧ ((decode cL_law 618 = .ok (.aload_n 0, 1)) ∧ (decode cL_law 619 = .ok (.iload_n 3, 1)))))) := by decide +kernel
theorem dL_law_594 : decode cL_law 594 = .ok (.iconst 1, 1) := dbl_20.1.1.1.1
theorem dL_law_595 : decode cL_law 595 = .ok (.iadd, 1) := dbl_20.1.1.1.2
theorem dL_law_596 : decode cL_law 596 = .ok (.iaload, 1) := dbl_20.1.1.2.1
theorem dL_law_597 : decode cL_law 597 = .ok (.invokevirtual 64, 3) := dbl_20.1.1.2.2
theorem dL_law_600 : decode cL_law 600 = .ok (.pop, 1) := dbl_20.1.2.1.1
theorem dL_law_601 : decode cL_law 601 = .ok (.goto 892, 3) := dbl_20.1.2.1.2
theorem dL_law_604 : decode cL_law 604 = .ok (.aload_n 1, 1) := dbl_20.1.2.2.1
theorem dL_law_605 : decode cL_law 605 = .ok (.invokevirtual 65, 3) := dbl_20.1.2.2.2
theorem dL_law_608 : decode cL_law 608 = .ok (.pop, 1) := dbl_20.2.1.1.1
theorem dL_law_609 : decode cL_law 609 = .ok (.aload_n 2, 1) := dbl_20.2.1.1.2
theorem dL_law_610 : decode cL_law 610 = .ok (.invokevirtual 68, 3) := dbl_20.2.1.2.1
theorem dL_law_613 : decode cL_law 613 = .ok (.pop, 1) := dbl_20.2.1.2.2
theorem dL_law_614 : decode cL_law 614 = .ok (.goto 879, 3) := dbl_20.2.2.1.1
theorem dL_law_617 : decode cL_law 617 = .ok (.aload_n 1, 1) := dbl_20.2.2.1.2
theorem dL_law_618 : decode cL_law 618 = .ok (.aload_n 0, 1) := dbl_20.2.2.2.1
theorem dL_law_619 : decode cL_law 619 = .ok (.iload_n 3, 1) := dbl_20.2.2.2.2
theorem dbl_21 : (((((decode cL_law 620 = .ok (.iconst 1, 1)) ∧ (decode cL_law 621 = .ok (.iadd, 1))) ∧ ((decode cL_law 622 = .ok (.iaload, 1)) ∧ (decode cL_law 623 = .ok (.aload_n 0, 1)))) ∧ (((decode cL_law 624 = .ok (.iload_n 3, 1)) ∧ (decode cL_law 625 = .ok (.iconst 2, 1))) ∧ ((decode cL_law 626 = .ok (.iadd, 1)) ∧ (decode cL_law 627 = .ok (.iaload, 1))))) ∧ ((((decode cL_law 628 = .ok (.aload_n 0, 1)) ∧ (decode cL_law 629 = .ok (.iload_n 3, 1))) ∧ ((decode cL_law 630 = .ok (.iconst 3, 1)) ∧ (decode cL_law 631 = .ok (.iadd, 1)))) ∧ (((decode cL_law 632 = .ok (.iaload, 1)) ∧ (decode cL_law 633 = .ok (.invokevirtual 69, 3))) ∧ ((decode cL_law 636 = .ok (.pop, 1)) ∧ (decode cL_law 637 = .ok (.aload_n 2, 1)))))) := by decide +kernel
theorem dL_law_620 : decode cL_law 620 = .ok (.iconst 1, 1) := dbl_21.1.1.1.1
theorem dL_law_621 : decode cL_law 621 = .ok (.iadd, 1) := dbl_21.1.1.1.2
theorem dL_law_622 : decode cL_law 622 = .ok (.iaload, 1) := dbl_21.1.1.2.1
theorem dL_law_623 : decode cL_law 623 = .ok (.aload_n 0, 1) := dbl_21.1.1.2.2
theorem dL_law_624 : decode cL_law 624 = .ok (.iload_n 3, 1) := dbl_21.1.2.1.1
theorem dL_law_625 : decode cL_law 625 = .ok (.iconst 2, 1) := dbl_21.1.2.1.2
theorem dL_law_626 : decode cL_law 626 = .ok (.iadd, 1) := dbl_21.1.2.2.1
theorem dL_law_627 : decode cL_law 627 = .ok (.iaload, 1) := dbl_21.1.2.2.2
theorem dL_law_628 : decode cL_law 628 = .ok (.aload_n 0, 1) := dbl_21.2.1.1.1
theorem dL_law_629 : decode cL_law 629 = .ok (.iload_n 3, 1) := dbl_21.2.1.1.2
theorem dL_law_630 : decode cL_law 630 = .ok (.iconst 3, 1) := dbl_21.2.1.2.1
theorem dL_law_631 : decode cL_law 631 = .ok (.iadd, 1) := dbl_21.2.1.2.2
theorem dL_law_632 : decode cL_law 632 = .ok (.iaload, 1) := dbl_21.2.2.1.1
theorem dL_law_633 : decode cL_law 633 = .ok (.invokevirtual 69, 3) := dbl_21.2.2.1.2
theorem dL_law_636 : decode cL_law 636 = .ok (.pop, 1) := dbl_21.2.2.2.1
theorem dL_law_637 : decode cL_law 637 = .ok (.aload_n 2, 1) := dbl_21.2.2.2.2
theorem dbl_22 : (((((decode cL_law 638 = .ok (.aload_n 0, 1)) ∧ (decode cL_law 639 = .ok (.iload_n 3, 1))) ∧ ((decode cL_law 640 = .ok (.iconst 1, 1)) ∧ (decode cL_law 641 = .ok (.iadd, 1)))) ∧ (((decode cL_law 642 = .ok (.iaload, 1)) ∧ (decode cL_law 643 = .ok (.aload_n 0, 1))) ∧ ((decode cL_law 644 = .ok (.iload_n 3, 1)) ∧ (decode cL_law 645 = .ok (.iconst 2, 1))))) ∧ ((((decode cL_law 646 = .ok (.iadd, 1)) ∧ (decode cL_law 647 = .ok (.iaload, 1))) ∧ ((decode cL_law 648 = .ok (.aload_n 0, 1)) ∧ (decode cL_law 649 = .ok (.iload_n 3, 1)))) ∧ (((decode cL_law 650 = .ok (.iconst 3, 1)) ∧ (decode cL_law 651 = .ok (.iadd, 1))) ∧ ((decode cL_law 652 = .ok (.iaload, 1)) ∧ (decode cL_law 653 = .ok (.invokevirtual 72, 3)))))) := by decide +kernel
theorem dL_law_638 : decode cL_law 638 = .ok (.aload_n 0, 1) := dbl_22.1.1.1.1
theorem dL_law_639 : decode cL_law 639 = .ok (.iload_n 3, 1) := dbl_22.1.1.1.2
theorem dL_law_640 : decode cL_law 640 = .ok (.iconst 1, 1) := dbl_22.1.1.2.1
theorem dL_law_641 : decode cL_law 641 = .ok (.iadd, 1) := dbl_22.1.1.2.2
theorem dL_law_642 : decode cL_law 642 = .ok (.iaload, 1) := dbl_22.1.2.1.1
theorem dL_law_643 : decode cL_law 643 = .ok (.aload_n 0, 1) := dbl_22.1.2.1.2
theorem dL_law_644 : decode cL_law 644 = .ok (.iload_n 3, 1) := dbl_22.1.2.2.1
theorem dL_law_645 : decode cL_law 645 = .ok (.iconst 2, 1) := dbl_22.1.2.2.2
theorem dL_law_646 : decode cL_law 646 = .ok (.iadd, 1) := dbl_22.2.1.1.1
theorem dL_law_647 : decode cL_law 647 = .ok (.iaload, 1) := dbl_22.2.1.1.2
theorem dL_law_648 : decode cL_law 648 = .ok (.aload_n 0, 1) := dbl_22.2.1.2.1
theorem dL_law_649 : decode cL_law 649 = .ok (.iload_n 3, 1) := dbl_22.2.1.2.2
theorem dL_law_650 : decode cL_law 650 = .ok (.iconst 3, 1) := dbl_22.2.2.1.1
theorem dL_law_651 : decode cL_law 651 = .ok (.iadd, 1) := dbl_22.2.2.1.2
theorem dL_law_652 : decode cL_law 652 = .ok (.iaload, 1) := dbl_22.2.2.2.1
theorem dL_law_653 : decode cL_law 653 = .ok (.invokevirtual 72, 3) := dbl_22.2.2.2.2
theorem dbl_23 : (((((decode cL_law 656 = .ok (.pop, 1)) ∧ (decode cL_law 657 = .ok (.goto 836, 3))) ∧ ((decode cL_law 660 = .ok (.aload_n 1, 1)) ∧ (decode cL_law 661 = .ok (.aload_n 0, 1)))) ∧ (((decode cL_law 662 = .ok (.iload_n 3, 1)) ∧ (decode cL_law 663 = .ok (.iconst 1, 1))) ∧ ((decode cL_law 664 = .ok (.iadd, 1)) ∧ (decode cL_law 665 = .ok (.iaload, 1))))) ∧ ((((decode cL_law 666 = .ok (.invokevirtual 73, 3)) ∧ (decode cL_law 669 = .ok (.pop, 1))) ∧ ((decode cL_law 670 = .ok (.aload_n 2, 1)) ∧ (decode cL_law 671 = .ok (.aload_n 0, 1)))) ∧ (((decode cL_law 672 = .ok (.iload_n 3, 1)) ∧ (decode cL_law 673 = .ok (.iconst 1, 1))) ∧ ((decode cL_law 674 = .ok (.iadd, 1)) ∧ (decode cL_law 675 = .ok (.iaload, 1)))))) := by decide +kernel
theorem dL_law_656 : decode cL_law 656 = .ok (.pop, 1) := dbl_23.1.1.1.1
theorem dL_law_657 : decode cL_law 657 = .ok (.goto 836, 3) := dbl_23.1.1.1.2
theorem dL_law_660 : decode cL_law 660 = .ok (.aload_n 1, 1) := dbl_23.1.1.2.1
theorem dL_law_661 : decode cL_law 661 = .ok (.aload_n 0, 1) := dbl_23.1.1.2.2
theorem dL_law_662 : decode cL_law 662 = .ok (.iload_n 3, 1) := dbl_23.1.2.1.1
theorem dL_law_663 : decode cL_law 663 = .ok (.iconst 1, 1) := dbl_23.1.2.1.2
theorem dL_law_664 : decode cL_law 664 = .ok (.iadd, 1) := dbl_23.1.2.2.1
theorem dL_law_665 : decode cL_law 665 = .ok (.iaload, 1) := dbl_23.1.2.2.2
theorem dL_law_666 : decode cL_law 666 = .ok (.invokevirtual 73, 3) := dbl_23.2.1.1.1
theorem dL_law_669 : decode cL_law 669 = .ok (.pop, 1) := dbl_23.2.1.1.2
theorem dL_law_670 : decode cL_law 670 = .ok (.aload_n 2, 1) := dbl_23.2.1.2.1
theorem dL_law_671 : decode cL_law 671 = .ok (.aload_n 0, 1) := dbl_23.2.1.2.2
theorem dL_law_672 : decode cL_law 672 = .ok (.iload_n 3, 1) := dbl_23.2.2.1.1
theorem dL_law_673 : decode cL_law 673 = .ok (.iconst 1, 1) := dbl_23.2.2.1.2
theorem dL_law_674 : decode cL_law 674 = .ok (.iadd, 1) := dbl_23.2.2.2.1
theorem dL_law_675 : decode cL_law 675 = .ok (.iaload, 1) := dbl_23.2.2.2.2
theorem dbl_24 : (((((decode cL_law 676 = .ok (.invokevirtual 76, 3)) ∧ (decode cL_law 679 = .ok (.pop, 1))) ∧ ((decode cL_law 680 = .ok (.goto 813, 3)) ∧ (decode cL_law 683 = .ok (.aload_n 1, 1)))) ∧ (((decode cL_law 684 = .ok (.aload_n 0, 1)) ∧ (decode cL_law 685 = .ok (.iload_n 3, 1))) ∧ ((decode cL_law 686 = .ok (.iconst 1, 1)) ∧ (decode cL_law 687 = .ok (.iadd, 1))))) ∧ ((((decode cL_law 688 = .ok (.iaload, 1)) ∧ (decode cL_law 689 = .ok (.aload_n 0, 1))) ∧ ((decode cL_law 690 = .ok (.iload_n 3, 1)) ∧ (decode cL_law 691 = .ok (.iconst 2, 1)))) ∧ (((decode cL_law 692 = .ok (.iadd, 1)) ∧ (decode cL_law 693 = .ok (.iaload, 1))) ∧ ((decode cL_law 694 = .ok (.invokevirtual 77, 3)) ∧ (decode cL_law 697 = .ok (.pop, 1)))))) := by decide +kernel
theorem dL_law_676 : decode cL_law 676 = .ok (.invokevirtual 76, 3) := dbl_24.1.1.1.1
theorem dL_law_679 : decode cL_law 679 = .ok (.pop, 1) := dbl_24.1.1.1.2
theorem dL_law_680 : decode cL_law 680 = .ok (.goto 813, 3) := dbl_24.1.1.2.1
theorem dL_law_683 : decode cL_law 683 = .ok (.aload_n 1, 1) := dbl_24.1.1.2.2
theorem dL_law_684 : decode cL_law 684 = .ok (.aload_n 0, 1) := dbl_24.1.2.1.1
theorem dL_law_685 : decode cL_law 685 = .ok (.iload_n 3, 1) := dbl_24.1.2.1.2
theorem dL_law_686 : decode cL_law 686 = .ok (.iconst 1, 1) := dbl_24.1.2.2.1
theorem dL_law_687 : decode cL_law 687 = .ok (.iadd, 1) := dbl_24.1.2.2.2
theorem dL_law_688 : decode cL_law 688 = .ok (.iaload, 1) := dbl_24.2.1.1.1
theorem dL_law_689 : decode cL_law 689 = .ok (.aload_n 0, 1) := dbl_24.2.1.1.2
theorem dL_law_690 : decode cL_law 690 = .ok (.iload_n 3, 1) := dbl_24.2.1.2.1
theorem dL_law_691 : decode cL_law 691 = .ok (.iconst 2, 1) := dbl_24.2.1.2.2
theorem dL_law_692 : decode cL_law 692 = .ok (.iadd, 1) := dbl_24.2.2.1.1
theorem dL_law_693 : decode cL_law 693 = .ok (.iaload, 1) := dbl_24.2.2.1.2
theorem dL_law_694 : decode cL_law 694 = .ok (.invokevirtual 77, 3) := dbl_24.2.2.2.1
theorem dL_law_697 : decode cL_law 697 = .ok (.pop, 1) := dbl_24.2.2.2.2
theorem dbl_25 : (((((decode cL_law 698 = .ok (.aload_n 2, 1)) ∧ (decode cL_law 699 = .ok (.aload_n 0, 1))) ∧ ((decode cL_law 700 = .ok (.iload_n 3, 1)) ∧ (decode cL_law 701 = .ok (.iconst 1, 1)))) ∧ (((decode cL_law 702 = .ok (.iadd, 1)) ∧ (decode cL_law 703 = .ok (.iaload, 1))) ∧ ((decode cL_law 704 = .ok (.aload_n 0, 1)) ∧ (decode cL_law 705 = .ok (.iload_n 3, 1))))) ∧ ((((decode cL_law 706 = .ok (.iconst 2, 1)) ∧ (decode cL_law 707 = .ok (.iadd, 1))) ∧ ((decode cL_law 708 = .ok (.iaload, 1)) ∧ (decode cL_law 709 = .ok (.invokevirtual 80, 3)))) ∧ (((decode cL_law 712 = .ok (.pop, 1)) ∧ (decode cL_law 713 = .ok (.goto 780, 3))) ∧ ((decode cL_law 716 = .ok (.aload_n 1, 1)) ∧ (decode cL_law 717 = .ok (.aload_n 0, 1)))))) := by decide +kernel
theorem dL_law_698 : decode cL_law 698 = .ok (.aload_n 2, 1) := dbl_25.1.1.1.1
theorem dL_law_699 : decode cL_law 699 = .ok (.aload_n 0, 1) := dbl_25.1.1.1.2
theorem dL_law_700 : decode cL_law 700 = .ok (.iload_n 3, 1) := dbl_25.1.1.2.1
theorem dL_law_701 : decode cL_law 701 = .ok (.iconst 1, 1) := dbl_25.1.1.2.2
theorem dL_law_702 : decode cL_law 702 = .ok (.iadd, 1) := dbl_25.1.2.1.1
theorem dL_law_703 : decode cL_law 703 = .ok (.iaload, 1) := dbl_25.1.2.1.2
theorem dL_law_704 : decode cL_law 704 = .ok (.aload_n 0, 1) := dbl_25.1.2.2.1
theorem dL_law_705 : decode cL_law 705 = .ok (.iload_n 3, 1) := dbl_25.1.2.2.2
theorem dL_law_706 : decode cL_law 706 = .ok (.iconst 2, 1) := dbl_25.2.1.1.1
theorem dL_law_707 : decode cL_law 707 = .ok (.iadd, 1) := dbl_25.2.1.1.2
theorem dL_law_708 : decode cL_law 708 = .ok (.iaload, 1) := dbl_25.2.1.2.1
theorem dL_law_709 : decode cL_law 709 = .ok (.invokevirtual 80, 3) := dbl_25.2.1.2.2
theorem dL_law_712 : decode cL_law 712 = .ok (.pop, 1) := dbl_25.2.2.1.1
theorem dL_law_713 : decode cL_law 713 = .ok (.goto 780, 3) := dbl_25.2.2.1.2
theorem dL_law_716 : decode cL_law 716 = .ok (.aload_n 1, 1) := dbl_25.2.2.2.1
theorem dL_law_717 : decode cL_law 717 = .ok (.aload_n 0, 1) := dbl_25.2.2.2.2
theorem dbl_26 : (((((decode cL_law 718 = .ok (.iload_n 3, 1)) ∧ (decode cL_law 719 = .ok (.iconst 1, 1))) ∧ ((decode cL_law 720 = .ok (.iadd, 1)) ∧ (decode cL_law 721 = .ok (.iaload, 1)))) ∧ (((decode cL_law 722 = .ok (.invokevirtual 81, 3)) ∧ (decode cL_law 725 = .ok (.pop, 1))) ∧ ((decode cL_law 726 = .ok (.aload_n 2, 1)) ∧ (decode cL_law 727 = .ok (.aload_n 0, 1))))) ∧ ((((decode cL_law 728 = .ok (.iload_n 3, 1)) ∧ (decode cL_law 729 = .ok (.iconst 1, 1))) ∧ ((decode cL_law 730 = .ok (.iadd, 1)) ∧ (decode cL_law 731 = .ok (.iaload, 1)))) ∧ (((decode cL_law 732 = .ok (.invokevirtual 84, 3)) ∧ (decode cL_law 735 = .ok (.pop, 1))) ∧ ((decode cL_law 736 = .ok (.goto 757, 3)) ∧ (decode cL_law 739 = .ok (.aload_n 1, 1)))))) := by decide +kernel
theorem dL_law_718 : decode cL_law 718 = .ok (.iload_n 3, 1) := dbl_26.1.1.1.1
theorem dL_law_719 : decode cL_law 719 = .ok (.iconst 1, 1) := dbl_26.1.1.1.2
theorem dL_law_720 : decode cL_law 720 = .ok (.iadd, 1) := dbl_26.1.1.2.1
theorem dL_law_721 : decode cL_law 721 = .ok (.iaload, 1) := dbl_26.1.1.2.2
theorem dL_law_722 : decode cL_law 722 = .ok (.invokevirtual 81, 3) := dbl_26.1.2.1.1
theorem dL_law_725 : decode cL_law 725 = .ok (.pop, 1) := dbl_26.1.2.1.2
theorem dL_law_726 : decode cL_law 726 = .ok (.aload_n 2, 1) := dbl_26.1.2.2.1
theorem dL_law_727 : decode cL_law 727 = .ok (.aload_n 0, 1) := dbl_26.1.2.2.2
theorem dL_law_728 : decode cL_law 728 = .ok (.iload_n 3, 1) := dbl_26.2.1.1.1
theorem dL_law_729 : decode cL_law 729 = .ok (.iconst 1, 1) := dbl_26.2.1.1.2
theorem dL_law_730 : decode cL_law 730 = .ok (.iadd, 1) := dbl_26.2.1.2.1
theorem dL_law_731 : decode cL_law 731 = .ok (.iaload, 1) := dbl_26.2.1.2.2
theorem dL_law_732 : decode cL_law 732 = .ok (.invokevirtual 84, 3) := dbl_26.2.2.1.1
theorem dL_law_735 : decode cL_law 735 = .ok (.pop, 1) := dbl_26.2.2.1.2
theorem dL_law_736 : decode cL_law 736 = .ok (.goto 757, 3) := dbl_26.2.2.2.1
theorem dL_law_739 : decode cL_law 739 = .ok (.aload_n 1, 1) := dbl_26.2.2.2.2
theorem dbl_27 : (((((decode cL_law 740 = .ok (.aload_n 0, 1)) ∧ (decode cL_law 741 = .ok (.iload_n 3, 1))) ∧ ((decode cL_law 742 = .ok (.iconst 1, 1)) ∧ (decode cL_law 743 = .ok (.iadd, 1)))) ∧ (((decode cL_law 744 = .ok (.iaload, 1)) ∧ (decode cL_law 745 = .ok (.invokevirtual 85, 3))) ∧ ((decode cL_law 748 = .ok (.pop, 1)) ∧ (decode cL_law 749 = .ok (.aload_n 2, 1))))) ∧ ((((decode cL_law 750 = .ok (.aload_n 0, 1)) ∧ (decode cL_law 751 = .ok (.iload_n 3, 1))) ∧ ((decode cL_law 752 = .ok (.iconst 1, 1)) ∧ (decode cL_law 753 = .ok (.iadd, 1)))) ∧ (((decode cL_law 754 = .ok (.iaload, 1)) ∧ (decode cL_law 755 = .ok (.invokevirtual 88, 3))) ∧ ((decode cL_law 758 = .ok (.pop, 1)) ∧ (decode cL_law 759 = .ok (.goto 734, 3)))))) := by decide +kernel
theorem dL_law_740 : decode cL_law 740 = .ok (.aload_n 0, 1) := dbl_27.1.1.1.1
theorem dL_law_741 : decode cL_law 741 = .ok (.iload_n 3, 1) := dbl_27.1.1.1.2
theorem dL_law_742 : decode cL_law 742 = .ok (.iconst 1, 1) := dbl_27.1.1.2.1
theorem dL_law_743 : decode cL_law 743 = .ok (.iadd, 1) := dbl_27.1.1.2.2
theorem dL_law_744 : decode cL_law 744 = .ok (.iaload, 1) := dbl_27.1.2.1.1
theorem dL_law_745 : decode cL_law 745 = .ok (.invokevirtual 85, 3) := dbl_27.1.2.1.2
theorem dL_law_748 : decode cL_law 748 = .ok (.pop, 1) := dbl_27.1.2.2.1
theorem dL_law_749 : decode cL_law 749 = .ok (.aload_n 2, 1) := dbl_27.1.2.2.2
theorem dL_law_750 : decode cL_law 750 = .ok (.aload_n 0, 1) := dbl_27.2.1.1.1
theorem dL_law_751 : decode cL_law 751 = .ok (.iload_n 3, 1) := dbl_27.2.1.1.2
theorem dL_law_752 : decode cL_law 752 = .ok (.iconst 1, 1) := dbl_27.2.1.2.1
theorem dL_law_753 : decode cL_law 753 = .ok (.iadd, 1) := dbl_27.2.1.2.2
theorem dL_law_754 : decode cL_law 754 = .ok (.iaload, 1) := dbl_27.2.2.1.1
theorem dL_law_755 : decode cL_law 755 = .ok (.invokevirtual 88, 3) := dbl_27.2.2.1.2
theorem dL_law_758 : decode cL_law 758 = .ok (.pop, 1) := dbl_27.2.2.2.1
theorem dL_law_759 : decode cL_law 759 = .ok (.goto 734, 3) := dbl_27.2.2.2.2
theorem dbl_28 : (((((decode cL_law 762 = .ok (.aload_n 1, 1)) ∧ (decode cL_law 763 = .ok (.aload_n 0, 1))) ∧ ((decode cL_law 764 = .ok (.iload_n 3, 1)) ∧ (decode cL_law 765 = .ok (.iconst 1, 1)))) ∧ (((decode cL_law 766 = .ok (.iadd, 1)) ∧ (decode cL_law 767 = .ok (.iaload, 1))) ∧ ((decode cL_law 768 = .ok (.aload_n 0, 1)) ∧ (decode cL_law 769 = .ok (.iload_n 3, 1))))) ∧ ((((decode cL_law 770 = .ok (.iconst 2, 1)) ∧ (decode cL_law 771 = .ok (.iadd, 1))) ∧ ((decode cL_law 772 = .ok (.iaload, 1)) ∧ (decode cL_law 773 = .ok (.aload_n 0, 1)))) ∧ (((decode cL_law 774 = .ok (.iload_n 3, 1)) ∧ (decode cL_law 775 = .ok (.iconst 3, 1))) ∧ ((decode cL_law 776 = .ok (.iadd, 1)) ∧ (decode cL_law 777 = .ok (.iaload, 1)))))) := by decide +kernel
theorem dL_law_762 : decode cL_law 762 = .ok (.aload_n 1, 1) := dbl_28.1.1.1.1
theorem dL_law_763 : decode cL_law 763 = .ok (.aload_n 0, 1) := dbl_28.1.1.1.2
theorem dL_law_764 : decode cL_law 764 = .ok (.iload_n 3, 1) := dbl_28.1.1.2.1
theorem dL_law_765 : decode cL_law 765 = .ok (.iconst 1, 1) := dbl_28.1.1.2.2
theorem dL_law_766 : decode cL_law 766 = .ok (.iadd, 1) := dbl_28.1.2.1.1
theorem dL_law_767 : decode cL_law 767 = .ok (.iaload, 1) := dbl_28.1.2.1.2
theorem dL_law_768 : decode cL_law 768 = .ok (.aload_n 0, 1) := dbl_28.1.2.2.1
theorem dL_law_769 : decode cL_law 769 = .ok (.iload_n 3, 1) := dbl_28.1.2.2.2
theorem dL_law_770 : decode cL_law 770 = .ok (.iconst 2, 1) := dbl_28.2.1.1.1
theorem dL_law_771 : decode cL_law 771 = .ok (.iadd, 1) := dbl_28.2.1.1.2
theorem dL_law_772 : decode cL_law 772 = .ok (.iaload, 1) := dbl_28.2.1.2.1
theorem dL_law_773 : decode cL_law 773 = .ok (.aload_n 0, 1) := dbl_28.2.1.2.2
theorem dL_law_774 : decode cL_law 774 = .ok (.iload_n 3, 1) := dbl_28.2.2.1.1
theorem dL_law_775 : decode cL_law 775 = .ok (.iconst 3, 1) := dbl_28.2.2.1.2
theorem dL_law_776 : decode cL_law 776 = .ok (.iadd, 1) := dbl_28.2.2.2.1
theorem dL_law_777 : decode cL_law 777 = .ok (.iaload, 1) := dbl_28.2.2.2.2
theorem dbl_29 : (((((decode cL_law 778 = .ok (.invokevirtual 89, 3)) ∧ (decode cL_law 781 = .ok (.pop, 1))) ∧ ((decode cL_law 782 = .ok (.aload_n 2, 1)) ∧ (decode cL_law 783 = .ok (.aload_n 0, 1)))) ∧ (((decode cL_law 784 = .ok (.iload_n 3, 1)) ∧ (decode cL_law 785 = .ok (.iconst 1, 1))) ∧ ((decode cL_law 786 = .ok (.iadd, 1)) ∧ (decode cL_law 787 = .ok (.iaload, 1))))) ∧ ((((decode cL_law 788 = .ok (.aload_n 0, 1)) ∧ (decode cL_law 789 = .ok (.iload_n 3, 1))) ∧ ((decode cL_law 790 = .ok (.iconst 2, 1)) ∧ (decode cL_law 791 = .ok (.iadd, 1)))) ∧ (((decode cL_law 792 = .ok (.iaload, 1)) ∧ (decode cL_law 793 = .ok (.aload_n 0, 1))) ∧ ((decode cL_law 794 = .ok (.iload_n 3, 1)) ∧ (decode cL_law 795 = .ok (.iconst 3, 1)))))) := by decide +kernel
theorem dL_law_778 : decode cL_law 778 = .ok (.invokevirtual 89, 3) := dbl_29.1.1.1.1
theorem dL_law_781 : decode cL_law 781 = .ok (.pop, 1) := dbl_29.1.1.1.2
theorem dL_law_782 : decode cL_law 782 = .ok (.aload_n 2, 1) := dbl_29.1.1.2.1
theorem dL_law_783 : decode cL_law 783 = .ok (.aload_n 0, 1) := dbl_29.1.1.2.2
theorem dL_law_784 : decode cL_law 784 = .ok (.iload_n 3, 1) := dbl_29.1.2.1.1
theorem dL_law_785 : decode cL_law 785 = .ok (.iconst 1, 1) := dbl_29.1.2.1.2
theorem dL_law_786 : decode cL_law 786 = .ok (.iadd, 1) := dbl_29.1.2.2.1
theorem dL_law_787 : decode cL_law 787 = .ok (.iaload, 1) := dbl_29.1.2.2.2
theorem dL_law_788 : decode cL_law 788 = .ok (.aload_n 0, 1) := dbl_29.2.1.1.1
theorem dL_law_789 : decode cL_law 789 = .ok (.iload_n 3, 1) := dbl_29.2.1.1.2
theorem dL_law_790 : decode cL_law 790 = .ok (.iconst 2, 1) := dbl_29.2.1.2.1
theorem dL_law_791 : decode cL_law 791 = .ok (.iadd, 1) := dbl_29.2.1.2.2
theorem dL_law_792 : decode cL_law 792 = .ok (.iaload, 1) := dbl_29.2.2.1.1
theorem dL_law_793 : decode cL_law 793 = .ok (.aload_n 0, 1) := dbl_29.2.2.1.2
theorem dL_law_794 : decode cL_law 794 = .ok (.iload_n 3, 1) := dbl_29.2.2.2.1
theorem dL_law_795 : decode cL_law 795 = .ok (.iconst 3, 1) := dbl_29.2.2.2.2
theorem dbl_30 : (((((decode cL_law 796 = .ok (.iadd, 1)) ∧ (decode cL_law 797 = .ok (.iaload, 1))) ∧ ((decode cL_law 798 = .ok (.invokevirtual 92, 3)) ∧ (decode cL_law 801 = .ok (.pop, 1)))) ∧ (((decode cL_law 802 = .ok (.goto 691, 3)) ∧ (decode cL_law 805 = .ok (.aload_n 1, 1))) ∧ ((decode cL_law 806 = .ok (.aload_n 0, 1)) ∧ (decode cL_law 807 = .ok (.iload_n 3, 1))))) ∧ ((((decode cL_law 808 = .ok (.iconst 1, 1)) ∧ (decode cL_law 809 = .ok (.iadd, 1))) ∧ ((decode cL_law 810 = .ok (.iaload, 1)) ∧ (decode cL_law 811 = .ok (.aload_n 0, 1)))) ∧ (((decode cL_law 812 = .ok (.iload_n 3, 1)) ∧ (decode cL_law 813 = .ok (.iconst 2, 1))) ∧ ((decode cL_law 814 = .ok (.iadd, 1)) ∧ (decode cL_law 815 = .ok (.iaload, 1)))))) := by decide +kernel
theorem dL_law_796 : decode cL_law 796 = .ok (.iadd, 1) := dbl_30.1.1.1.1
theorem dL_law_797 : decode cL_law 797 = .ok (.iaload, 1) := dbl_30.1.1.1.2
theorem dL_law_798 : decode cL_law 798 = .ok (.invokevirtual 92, 3) := dbl_30.1.1.2.1
theorem dL_law_801 : decode cL_law 801 = .ok (.pop, 1) := dbl_30.1.1.2.2
theorem dL_law_802 : decode cL_law 802 = .ok (.goto 691, 3) := dbl_30.1.2.1.1
theorem dL_law_805 : decode cL_law 805 = .ok (.aload_n 1, 1) := dbl_30.1.2.1.2
theorem dL_law_806 : decode cL_law 806 = .ok (.aload_n 0, 1) := dbl_30.1.2.2.1
theorem dL_law_807 : decode cL_law 807 = .ok (.iload_n 3, 1) := dbl_30.1.2.2.2
theorem dL_law_808 : decode cL_law 808 = .ok (.iconst 1, 1) := dbl_30.2.1.1.1
theorem dL_law_809 : decode cL_law 809 = .ok (.iadd, 1) := dbl_30.2.1.1.2
theorem dL_law_810 : decode cL_law 810 = .ok (.iaload, 1) := dbl_30.2.1.2.1
theorem dL_law_811 : decode cL_law 811 = .ok (.aload_n 0, 1) := dbl_30.2.1.2.2
theorem dL_law_812 : decode cL_law 812 = .ok (.iload_n 3, 1) := dbl_30.2.2.1.1
theorem dL_law_813 : decode cL_law 813 = .ok (.iconst 2, 1) := dbl_30.2.2.1.2
theorem dL_law_814 : decode cL_law 814 = .ok (.iadd, 1) := dbl_30.2.2.2.1
theorem dL_law_815 : decode cL_law 815 = .ok (.iaload, 1) := dbl_30.2.2.2.2
theorem dbl_31 : (((((decode cL_law 816 = .ok (.invokevirtual 93, 3)) ∧ (decode cL_law 819 = .ok (.pop, 1))) ∧ ((decode cL_law 820 = .ok (.aload_n 2, 1)) ∧ (decode cL_law 821 = .ok (.aload_n 0, 1)))) ∧ (((decode cL_law 822 = .ok (.iload_n 3, 1)) ∧ (decode cL_law 823 = .ok (.iconst 1, 1))) ∧ ((decode cL_law 824 = .ok (.iadd, 1)) ∧ (decode cL_law 825 = .ok (.iaload, 1))))) ∧ ((((decode cL_law 826 = .ok (.aload_n 0, 1)) ∧ (decode cL_law 827 = .ok (.iload_n 3, 1))) ∧ ((decode cL_law 828 = .ok (.iconst 2, 1)) ∧ (decode cL_law 829 = .ok (.iadd, 1)))) ∧ (((decode cL_law 830 = .ok (.iaload, 1)) ∧ (decode cL_law 831 = .ok (.invokevirtual 96, 3))) ∧ ((decode cL_law 834 = .ok (.pop, 1)) ∧ (decode cL_law 835 = .ok (.goto 658, 3)))))) := by decide +kernel
theorem dL_law_816 : decode cL_law 816 = .ok (.invokevirtual 93, 3) := dbl_31.1.1.1.1
theorem dL_law_819 : decode cL_law 819 = .ok (.pop, 1) := dbl_31.1.1.1.2
theorem dL_law_820 : decode cL_law 820 = .ok (.aload_n 2, 1) := dbl_31.1.1.2.1
theorem dL_law_821 : decode cL_law 821 = .ok (.aload_n 0, 1) := dbl_31.1.1.2.2
theorem dL_law_822 : decode cL_law 822 = .ok (.iload_n 3, 1) := dbl_31.1.2.1.1
theorem dL_law_823 : decode cL_law 823 = .ok (.iconst 1, 1) := dbl_31.1.2.1.2
theorem dL_law_824 : decode cL_law 824 = .ok (.iadd, 1) := dbl_31.1.2.2.1
theorem dL_law_825 : decode cL_law 825 = .ok (.iaload, 1) := dbl_31.1.2.2.2
theorem dL_law_826 : decode cL_law 826 = .ok (.aload_n 0, 1) := dbl_31.2.1.1.1
theorem dL_law_827 : decode cL_law 827 = .ok (.iload_n 3, 1) := dbl_31.2.1.1.2
theorem dL_law_828 : decode cL_law 828 = .ok (.iconst 2, 1) := dbl_31.2.1.2.1
theorem dL_law_829 : decode cL_law 829 = .ok (.iadd, 1) := dbl_31.2.1.2.2
theorem dL_law_830 : decode cL_law 830 = .ok (.iaload, 1) := dbl_31.2.2.1.1
theorem dL_law_831 : decode cL_law 831 = .ok (.invokevirtual 96, 3) := dbl_31.2.2.1.2
theorem dL_law_834 : decode cL_law 834 = .ok (.pop, 1) := dbl_31.2.2.2.1
theorem dL_law_835 : decode cL_law 835 = .ok (.goto 658, 3) := dbl_31.2.2.2.2
theorem dbl_32 : (((((decode cL_law 838 = .ok (.aload_n 1, 1)) ∧ (decode cL_law 839 = .ok (.aload_n 0, 1))) ∧ ((decode cL_law 840 = .ok (.iload_n 3, 1)) ∧ (decode cL_law 841 = .ok (.iconst 1, 1)))) ∧ (((decode cL_law 842 = .ok (.iadd, 1)) ∧ (decode cL_law 843 = .ok (.iaload, 1))) ∧ ((decode cL_law 844 = .ok (.aload_n 0, 1)) ∧ (decode cL_law 845 = .ok (.iload_n 3, 1))))) ∧ ((((decode cL_law 846 = .ok (.iconst 2, 1)) ∧ (decode cL_law 847 = .ok (.iadd, 1))) ∧ ((decode cL_law 848 = .ok (.iaload, 1)) ∧ (decode cL_law 849 = .ok (.invokevirtual 97, 3)))) ∧ (((decode cL_law 852 = .ok (.pop, 1)) ∧ (decode cL_law 853 = .ok (.aload_n 2, 1))) ∧ ((decode cL_law 854 = .ok (.aload_n 0, 1)) ∧ (decode cL_law 855 = .ok (.iload_n 3, 1)))))) := by decide +kernel
theorem dL_law_838 : decode cL_law 838 = .ok (.aload_n 1, 1) := dbl_32.1.1.1.1
theorem dL_law_839 : decode cL_law 839 = .ok (.aload_n 0, 1) := dbl_32.1.1.1.2
theorem dL_law_840 : decode cL_law 840 = .ok (.iload_n 3, 1) := dbl_32.1.1.2.1
theorem dL_law_841 : decode cL_law 841 = .ok (.iconst 1, 1) := dbl_32.1.1.2.2
theorem dL_law_842 : decode cL_law 842 = .ok (.iadd, 1) := dbl_32.1.2.1.1
theorem dL_law_843 : decode cL_law 843 = .ok (.iaload, 1) := dbl_32.1.2.1.2
theorem dL_law_844 : decode cL_law 844 = .ok (.aload_n 0, 1) := dbl_32.1.2.2.1
theorem dL_law_845 : decode cL_law 845 = .ok (.iload_n 3, 1) := dbl_32.1.2.2.2
theorem dL_law_846 : decode cL_law 846 = .ok (.iconst 2, 1) := dbl_32.2.1.1.1
theorem dL_law_847 : decode cL_law 847 = .ok (.iadd, 1) := dbl_32.2.1.1.2
theorem dL_law_848 : decode cL_law 848 = .ok (.iaload, 1) := dbl_32.2.1.2.1
theorem dL_law_849 : decode cL_law 849 = .ok (.invokevirtual 97, 3) := dbl_32.2.1.2.2
theorem dL_law_852 : decode cL_law 852 = .ok (.pop, 1) := dbl_32.2.2.1.1
theorem dL_law_853 : decode cL_law 853 = .ok (.aload_n 2, 1) := dbl_32.2.2.1.2
theorem dL_law_854 : decode cL_law 854 = .ok (.aload_n 0, 1) := dbl_32.2.2.2.1
theorem dL_law_855 : decode cL_law 855 = .ok (.iload_n 3, 1) := dbl_32.2.2.2.2
theorem dbl_33 : (((((decode cL_law 856 = .ok (.iconst 1, 1)) ∧ (decode cL_law 857 = .ok (.iadd, 1))) ∧ ((decode cL_law 858 = .ok (.iaload, 1)) ∧ (decode cL_law 859 = .ok (.aload_n 0, 1)))) ∧ (((decode cL_law 860 = .ok (.iload_n 3, 1)) ∧ (decode cL_law 861 = .ok (.iconst 2, 1))) ∧ ((decode cL_law 862 = .ok (.iadd, 1)) ∧ (decode cL_law 863 = .ok (.iaload, 1))))) ∧ ((((decode cL_law 864 = .ok (.invokevirtual 100, 3)) ∧ (decode cL_law 867 = .ok (.pop, 1))) ∧ ((decode cL_law 868 = .ok (.goto 625, 3)) ∧ (decode cL_law 871 = .ok (.aload_n 1, 1)))) ∧ (((decode cL_law 872 = .ok (.aload_n 0, 1)) ∧ (decode cL_law 873 = .ok (.iload_n 3, 1))) ∧ ((decode cL_law 874 = .ok (.iconst 1, 1)) ∧ (decode cL_law 875 = .ok (.iadd, 1)))))) := by decide +kernel
theorem dL_law_856 : decode cL_law 856 = .ok (.iconst 1, 1) := dbl_33.1.1.1.1
theorem dL_law_857 : decode cL_law 857 = .ok (.iadd, 1) := dbl_33.1.1.1.2
theorem dL_law_858 : decode cL_law 858 = .ok (.iaload, 1) := dbl_33.1.1.2.1
theorem dL_law_859 : decode cL_law 859 = .ok (.aload_n 0, 1) := dbl_33.1.1.2.2
theorem dL_law_860 : decode cL_law 860 = .ok (.iload_n 3, 1) := dbl_33.1.2.1.1
theorem dL_law_861 : decode cL_law 861 = .ok (.iconst 2, 1) := dbl_33.1.2.1.2
theorem dL_law_862 : decode cL_law 862 = .ok (.iadd, 1) := dbl_33.1.2.2.1
theorem dL_law_863 : decode cL_law 863 = .ok (.iaload, 1) := dbl_33.1.2.2.2
theorem dL_law_864 : decode cL_law 864 = .ok (.invokevirtual 100, 3) := dbl_33.2.1.1.1
theorem dL_law_867 : decode cL_law 867 = .ok (.pop, 1) := dbl_33.2.1.1.2
theorem dL_law_868 : decode cL_law 868 = .ok (.goto 625, 3) := dbl_33.2.1.2.1
theorem dL_law_871 : decode cL_law 871 = .ok (.aload_n 1, 1) := dbl_33.2.1.2.2
theorem dL_law_872 : decode cL_law 872 = .ok (.aload_n 0, 1) := dbl_33.2.2.1.1
theorem dL_law_873 : decode cL_law 873 = .ok (.iload_n 3, 1) := dbl_33.2.2.1.2
theorem dL_law_874 : decode cL_law 874 = .ok (.iconst 1, 1) := dbl_33.2.2.2.1
theorem dL_law_875 : decode cL_law 875 = .ok (.iadd, 1) := dbl_33.2.2.2.2
theorem dbl_34 : (((((decode cL_law 876 = .ok (.iaload, 1)) ∧ (decode cL_law 877 = .ok (.aload_n 0, 1))) ∧ ((decode cL_law 878 = .ok (.iload_n 3, 1)) ∧ (decode cL_law 879 = .ok (.iconst 2, 1)))) ∧ (((decode cL_law 880 = .ok (.iadd, 1)) ∧ (decode cL_law 881 = .ok (.iaload, 1))) ∧ ((decode cL_law 882 = .ok (.invokevirtual 101, 3)) ∧ (decode cL_law 885 = .ok (.pop, 1))))) ∧ ((((decode cL_law 886 = .ok (.aload_n 2, 1)) ∧ (decode cL_law 887 = .ok (.aload_n 0, 1))) ∧ ((decode cL_law 888 = .ok (.iload_n 3, 1)) ∧ (decode cL_law 889 = .ok (.iconst 1, 1)))) ∧ (((decode cL_law 890 = .ok (.iadd, 1)) ∧ (decode cL_law 891 = .ok (.iaload, 1))) ∧ ((decode cL_law 892 = .ok (.aload_n 0, 1)) ∧ (decode cL_law 893 = .ok (.iload_n 3, 1)))))) := by decide +kernel
theorem dL_law_876 : decode cL_law 876 = .ok (.iaload, 1) := dbl_34.1.1.1.1
theorem dL_law_877 : decode cL_law 877 = .ok (.aload_n 0, 1) := dbl_34.1.1.1.2
theorem dL_law_878 : decode cL_law 878 = .ok (.iload_n 3, 1) := dbl_34.1.1.2.1
theorem dL_law_879 : decode cL_law 879 = .ok (.iconst 2, 1) := dbl_34.1.1.2.2
theorem dL_law_880 : decode cL_law 880 = .ok (.iadd, 1) := dbl_34.1.2.1.1
theorem dL_law_881 : decode cL_law 881 = .ok (.iaload, 1) := dbl_34.1.2.1.2
theorem dL_law_882 : decode cL_law 882 = .ok (.invokevirtual 101, 3) := dbl_34.1.2.2.1
theorem dL_law_885 : decode cL_law 885 = .ok (.pop, 1) := dbl_34.1.2.2.2
theorem dL_law_886 : decode cL_law 886 = .ok (.aload_n 2, 1) := dbl_34.2.1.1.1
theorem dL_law_887 : decode cL_law 887 = .ok (.aload_n 0, 1) := dbl_34.2.1.1.2
theorem dL_law_888 : decode cL_law 888 = .ok (.iload_n 3, 1) := dbl_34.2.1.2.1
theorem dL_law_889 : decode cL_law 889 = .ok (.iconst 1, 1) := dbl_34.2.1.2.2
theorem dL_law_890 : decode cL_law 890 = .ok (.iadd, 1) := dbl_34.2.2.1.1
theorem dL_law_891 : decode cL_law 891 = .ok (.iaload, 1) := dbl_34.2.2.1.2
theorem dL_law_892 : decode cL_law 892 = .ok (.aload_n 0, 1) := dbl_34.2.2.2.1
theorem dL_law_893 : decode cL_law 893 = .ok (.iload_n 3, 1) := dbl_34.2.2.2.2
theorem dbl_35 : (((((decode cL_law 894 = .ok (.iconst 2, 1)) ∧ (decode cL_law 895 = .ok (.iadd, 1))) ∧ ((decode cL_law 896 = .ok (.iaload, 1)) ∧ (decode cL_law 897 = .ok (.invokevirtual 104, 3)))) ∧ (((decode cL_law 900 = .ok (.pop, 1)) ∧ (decode cL_law 901 = .ok (.goto 592, 3))) ∧ ((decode cL_law 904 = .ok (.aload_n 1, 1)) ∧ (decode cL_law 905 = .ok (.aload_n 0, 1))))) ∧ ((((decode cL_law 906 = .ok (.iload_n 3, 1)) ∧ (decode cL_law 907 = .ok (.iconst 1, 1))) ∧ ((decode cL_law 908 = .ok (.iadd, 1)) ∧ (decode cL_law 909 = .ok (.iaload, 1)))) ∧ (((decode cL_law 910 = .ok (.invokevirtual 105, 3)) ∧ (decode cL_law 913 = .ok (.pop, 1))) ∧ ((decode cL_law 914 = .ok (.aload_n 2, 1)) ∧ (decode cL_law 915 = .ok (.aload_n 0, 1)))))) := by decide +kernel
theorem dL_law_894 : decode cL_law 894 = .ok (.iconst 2, 1) := dbl_35.1.1.1.1
theorem dL_law_895 : decode cL_law 895 = .ok (.iadd, 1) := dbl_35.1.1.1.2
theorem dL_law_896 : decode cL_law 896 = .ok (.iaload, 1) := dbl_35.1.1.2.1
theorem dL_law_897 : decode cL_law 897 = .ok (.invokevirtual 104, 3) := dbl_35.1.1.2.2
theorem dL_law_900 : decode cL_law 900 = .ok (.pop, 1) := dbl_35.1.2.1.1
theorem dL_law_901 : decode cL_law 901 = .ok (.goto 592, 3) := dbl_35.1.2.1.2
theorem dL_law_904 : decode cL_law 904 = .ok (.aload_n 1, 1) := dbl_35.1.2.2.1
theorem dL_law_905 : decode cL_law 905 = .ok (.aload_n 0, 1) := dbl_35.1.2.2.2
theorem dL_law_906 : decode cL_law 906 = .ok (.iload_n 3, 1) := dbl_35.2.1.1.1
theorem dL_law_907 : decode cL_law 907 = .ok (.iconst 1, 1) := dbl_35.2.1.1.2
theorem dL_law_908 : decode cL_law 908 = .ok (.iadd, 1) := dbl_35.2.1.2.1
theorem dL_law_909 : decode cL_law 909 = .ok (.iaload, 1) := dbl_35.2.1.2.2
theorem dL_law_910 : decode cL_law 910 = .ok (.invokevirtual 105, 3) := dbl_35.2.2.1.1
theorem dL_law_913 : decode cL_law 913 = .ok (.pop, 1) := dbl_35.2.2.1.2
theorem dL_law_914 : decode cL_law 914 = .ok (.aload_n 2, 1) := dbl_35.2.2.2.1
theorem dL_law_915 : decode cL_law 915 = .ok (.aload_n 0, 1) := dbl_35.2.2.2.2
theorem dbl_36 : (((((decode cL_law 916 = .ok (.iload_n 3, 1)) ∧ (decode cL_law 917 = .ok (.iconst 1, 1))) ∧ ((decode cL_law 918 = .ok (.iadd, 1)) ∧ (decode cL_law 919 = .ok (.iaload, 1)))) ∧ (((decode cL_law 920 = .ok (.invokevirtual 108, 3)) ∧ (decode cL_law 923 = .ok (.pop, 1))) ∧ ((decode cL_law 924 = .ok (.goto 569, 3)) ∧ (decode cL_law 927 = .ok (.aload_n 1, 1))))) ∧ ((((decode cL_law 928 = .ok (.aload_n 0, 1)) ∧ (decode cL_law 929 = .ok (.iload_n 3, 1))) ∧ ((decode cL_law 930 = .ok (.iconst 1, 1)) ∧ (decode cL_law 931 = .ok (.iadd, 1)))) ∧ (((decode cL_law 932 = .ok (.iaload, 1)) ∧ (decode cL_law 933 = .ok (.aload_n 0, 1))) ∧ ((decode cL_law 934 = .ok (.iload_n 3, 1)) ∧ (decode cL_law 935 = .ok (.iconst 2, 1)))))) := by decide +kernel
theorem dL_law_916 : decode cL_law 916 = .ok (.iload_n 3, 1) := dbl_36.1.1.1.1
theorem dL_law_917 : decode cL_law 917 = .ok (.iconst 1, 1) := dbl_36.1.1.1.2
theorem dL_law_918 : decode cL_law 918 = .ok (.iadd, 1) := dbl_36.1.1.2.1
theorem dL_law_919 : decode cL_law 919 = .ok (.iaload, 1) := dbl_36.1.1.2.2
theorem dL_law_920 : decode cL_law 920 = .ok (.invokevirtual 108, 3) := dbl_36.1.2.1.1
theorem dL_law_923 : decode cL_law 923 = .ok (.pop, 1) := dbl_36.1.2.1.2
theorem dL_law_924 : decode cL_law 924 = .ok (.goto 569, 3) := dbl_36.1.2.2.1
theorem dL_law_927 : decode cL_law 927 = .ok (.aload_n 1, 1) := dbl_36.1.2.2.2
theorem dL_law_928 : decode cL_law 928 = .ok (.aload_n 0, 1) := dbl_36.2.1.1.1
theorem dL_law_929 : decode cL_law 929 = .ok (.iload_n 3, 1) := dbl_36.2.1.1.2
theorem dL_law_930 : decode cL_law 930 = .ok (.iconst 1, 1) := dbl_36.2.1.2.1
theorem dL_law_931 : decode cL_law 931 = .ok (.iadd, 1) := dbl_36.2.1.2.2
theorem dL_law_932 : decode cL_law 932 = .ok (.iaload, 1) := dbl_36.2.2.1.1
theorem dL_law_933 : decode cL_law 933 = .ok (.aload_n 0, 1) := dbl_36.2.2.1.2
theorem dL_law_934 : decode cL_law 934 = .ok (.iload_n 3, 1) := dbl_36.2.2.2.1
theorem dL_law_935 : decode cL_law 935 = .ok (.iconst 2, 1) := dbl_36.2.2.2.2
theorem dbl_37 : (((((decode cL_law 936 = .ok (.iadd, 1)) ∧ (decode cL_law 937 = .ok (.iaload, 1))) ∧ ((decode cL_law 938 = .ok (.invokevirtual 109, 3)) ∧ (decode cL_law 941 = .ok (.pop, 1)))) ∧ (((decode cL_law 942 = .ok (.aload_n 2, 1)) ∧ (decode cL_law 943 = .ok (.aload_n 0, 1))) ∧ ((decode cL_law 944 = .ok (.iload_n 3, 1)) ∧ (decode cL_law 945 = .ok (.iconst 1, 1))))) ∧ ((((decode cL_law 946 = .ok (.iadd, 1)) ∧ (decode cL_law 947 = .ok (.iaload, 1))) ∧ ((decode cL_law 948 = .ok (.aload_n 0, 1)) ∧ (decode cL_law 949 = .ok (.iload_n 3, 1)))) ∧ (((decode cL_law 950 = .ok (.iconst 2, 1)) ∧ (decode cL_law 951 = .ok (.iadd, 1))) ∧ ((decode cL_law 952 = .ok (.iaload, 1)) ∧ (decode cL_law 953 = .ok (.invokevirtual 112, 3)))))) := by decide +kernel
theorem dL_law_936 : decode cL_law 936 = .ok (.iadd, 1) := dbl_37.1.1.1.1
theorem dL_law_937 : decode cL_law 937 = .ok (.iaload, 1) := dbl_37.1.1.1.2
theorem dL_law_938 : decode cL_law 938 = .ok (.invokevirtual 109, 3) := dbl_37.1.1.2.1
theorem dL_law_941 : decode cL_law 941 = .ok (.pop, 1) := dbl_37.1.1.2.2
theorem dL_law_942 : decode cL_law 942 = .ok (.aload_n 2, 1) := dbl_37.1.2.1.1
theorem dL_law_943 : decode cL_law 943 = .ok (.aload_n 0, 1) := dbl_37.1.2.1.2
theorem dL_law_944 : decode cL_law 944 = .ok (.iload_n 3, 1) := dbl_37.1.2.2.1
theorem dL_law_945 : decode cL_law 945 = .ok (.iconst 1, 1) := dbl_37.1.2.2.2
theorem dL_law_946 : decode cL_law 946 = .ok (.iadd, 1) := dbl_37.2.1.1.1
theorem dL_law_947 : decode cL_law 947 = .ok (.iaload, 1) := dbl_37.2.1.1.2
theorem dL_law_948 : decode cL_law 948 = .ok (.aload_n 0, 1) := dbl_37.2.1.2.1
theorem dL_law_949 : decode cL_law 949 = .ok (.iload_n 3, 1) := dbl_37.2.1.2.2
theorem dL_law_950 : decode cL_law 950 = .ok (.iconst 2, 1) := dbl_37.2.2.1.1
theorem dL_law_951 : decode cL_law 951 = .ok (.iadd, 1) := dbl_37.2.2.1.2
theorem dL_law_952 : decode cL_law 952 = .ok (.iaload, 1) := dbl_37.2.2.2.1
theorem dL_law_953 : decode cL_law 953 = .ok (.invokevirtual 112, 3) := dbl_37.2.2.2.2
theorem dbl_38 : (((((decode cL_law 956 = .ok (.pop, 1)) ∧ (decode cL_law 957 = .ok (.goto 536, 3))) ∧ ((decode cL_law 960 = .ok (.aload_n 1, 1)) ∧ (decode cL_law 961 = .ok (.aload_n 0, 1)))) ∧ (((decode cL_law 962 = .ok (.iload_n 3, 1)) ∧ (decode cL_law 963 = .ok (.iconst 1, 1))) ∧ ((decode cL_law 964 = .ok (.iadd, 1)) ∧ (decode cL_law 965 = .ok (.iaload, 1))))) ∧ ((((decode cL_law 966 = .ok (.invokevirtual 113, 3)) ∧ (decode cL_law 969 = .ok (.pop, 1))) ∧ ((decode cL_law 970 = .ok (.aload_n 2, 1)) ∧ (decode cL_law 971 = .ok (.aload_n 0, 1)))) ∧ (((decode cL_law 972 = .ok (.iload_n 3, 1)) ∧ (decode cL_law 973 = .ok (.iconst 1, 1))) ∧ ((decode cL_law 974 = .ok (.iadd, 1)) ∧ (decode cL_law 975 = .ok (.iaload, 1)))))) := by decide +kernel
theorem dL_law_956 : decode cL_law 956 = .ok (.pop, 1) := dbl_38.1.1.1.1
theorem dL_law_957 : decode cL_law 957 = .ok (.goto 536, 3) := dbl_38.1.1.1.2
theorem dL_law_960 : decode cL_law 960 = .ok (.aload_n 1, 1) := dbl_38.1.1.2.1
theorem dL_law_961 : decode cL_law 961 = .ok (.aload_n 0, 1) := dbl_38.1.1.2.2
theorem dL_law_962 : decode cL_law 962 = .ok (.iload_n 3, 1) := dbl_38.1.2.1.1
theorem dL_law_963 : decode cL_law 963 = .ok (.iconst 1, 1) := dbl_38.1.2.1.2
theorem dL_law_964 : decode cL_law 964 = .ok (.iadd, 1) := dbl_38.1.2.2.1
theorem dL_law_965 : decode cL_law 965 = .ok (.iaload, 1) := dbl_38.1.2.2.2
theorem dL_law_966 : decode cL_law 966 = .ok (.invokevirtual 113, 3) := dbl_38.2.1.1.1
theorem dL_law_969 : decode cL_law 969 = .ok (.pop, 1) := dbl_38.2.1.1.2
theorem dL_law_970 : decode cL_law 970 = .ok (.aload_n 2, 1) := dbl_38.2.1.2.1
theorem dL_law_971 : decode cL_law 971 = .ok (.aload_n 0, 1) := dbl_38.2.1.2.2
theorem dL_law_972 : decode cL_law 972 = .ok (.iload_n 3, 1) := dbl_38.2.2.1.1
theorem dL_law_973 : decode cL_law 973 = .ok (.iconst 1, 1) := dbl_38.2.2.1.2
theorem dL_law_974 : decode cL_law 974 = .ok (.iadd, 1) := dbl_38.2.2.2.1
theorem dL_law_975 : decode cL_law 975 = .ok (.iaload, 1) := dbl_38.2.2.2.2
theorem dbl_39 : (((((decode cL_law 976 = .ok (.invokevirtual 116, 3)) ∧ (decode cL_law 979 = .ok (.pop, 1))) ∧ ((decode cL_law 980 = .ok (.goto 513, 3)) ∧ (decode cL_law 983 = .ok (.aload_n 1, 1)))) ∧ (((decode cL_law 984 = .ok (.aload_n 0, 1)) ∧ (decode cL_law 985 = .ok (.iload_n 3, 1))) ∧ ((decode cL_law 986 = .ok (.iconst 1, 1)) ∧ (decode cL_law 987 = .ok (.iadd, 1))))) ∧ ((((decode cL_law 988 = .ok (.iaload, 1)) ∧ (decode cL_law 989 = .ok (.invokevirtual 117, 3))) ∧ ((decode cL_law 992 = .ok (.pop, 1)) ∧ (decode cL_law 993 = .ok (.aload_n 2, 1)))) ∧ (((decode cL_law 994 = .ok (.aload_n 0, 1)) ∧ (decode cL_law 995 = .ok (.iload_n 3, 1))) ∧ ((decode cL_law 996 = .ok (.iconst 1, 1)) ∧ (decode cL_law 997 = .ok (.iadd, 1)))))) := by decide +kernel
theorem dL_law_976 : decode cL_law 976 = .ok (.invokevirtual 116, 3) := dbl_39.1.1.1.1
theorem dL_law_979 : decode cL_law 979 = .ok (.pop, 1) := dbl_39.1.1.1.2
theorem dL_law_980 : decode cL_law 980 = .ok (.goto 513, 3) := dbl_39.1.1.2.1
theorem dL_law_983 : decode cL_law 983 = .ok (.aload_n 1, 1) := dbl_39.1.1.2.2
theorem dL_law_984 : decode cL_law 984 = .ok (.aload_n 0, 1) := dbl_39.1.2.1.1
theorem dL_law_985 : decode cL_law 985 = .ok (.iload_n 3, 1) := dbl_39.1.2.1.2
theorem dL_law_986 : decode cL_law 986 = .ok (.iconst 1, 1) := dbl_39.1.2.2.1
theorem dL_law_987 : decode cL_law 987 = .ok (.iadd, 1) := dbl_39.1.2.2.2
theorem dL_law_988 : decode cL_law 988 = .ok (.iaload, 1) := dbl_39.2.1.1.1
theorem dL_law_989 : decode cL_law 989 = .ok (.invokevirtual 117, 3) := dbl_39.2.1.1.2
theorem dL_law_992 : decode cL_law 992 = .ok (.pop, 1) := dbl_39.2.1.2.1
theorem dL_law_993 : decode cL_law 993 = .ok (.aload_n 2, 1) := dbl_39.2.1.2.2
theorem dL_law_994 : decode cL_law 994 = .ok (.aload_n 0, 1) := dbl_39.2.2.1.1
theorem dL_law_995 : decode cL_law 995 = .ok (.iload_n 3, 1) := dbl_39.2.2.1.2
theorem dL_law_996 : decode cL_law 996 = .ok (.iconst 1, 1) := dbl_39.2.2.2.1
theorem dL_law_997 : decode cL_law 997 = .ok (.iadd, 1) := dbl_39.2.2.2.2
theorem dbl_40 : (((((decode cL_law 998 = .ok (.iaload, 1)) ∧ (decode cL_law 999 = .ok (.invokevirtual 120, 3))) ∧ ((decode cL_law 1002 = .ok (.pop, 1)) ∧ (decode cL_law 1003 = .ok (.goto 490, 3)))) ∧ (((decode cL_law 1006 = .ok (.aload_n 1, 1)) ∧ (decode cL_law 1007 = .ok (.aload_n 0, 1))) ∧ ((decode cL_law 1008 = .ok (.iload_n 3, 1)) ∧ (decode cL_law 1009 = .ok (.iconst 1, 1))))) ∧ ((((decode cL_law 1010 = .ok (.iadd, 1)) ∧ (decode cL_law 1011 = .ok (.iaload, 1))) ∧ ((decode cL_law 1012 = .ok (.aload_n 0, 1)) ∧ (decode cL_law 1013 = .ok (.iload_n 3, 1)))) ∧ (((decode cL_law 1014 = .ok (.iconst 2, 1)) ∧ (decode cL_law 1015 = .ok (.iadd, 1))) ∧ ((decode cL_law 1016 = .ok (.iaload, 1)) ∧ (decode cL_law 1017 = .ok (.aload_n 0, 1)))))) := by decide +kernel
theorem dL_law_998 : decode cL_law 998 = .ok (.iaload, 1) := dbl_40.1.1.1.1
theorem dL_law_999 : decode cL_law 999 = .ok (.invokevirtual 120, 3) := dbl_40.1.1.1.2
theorem dL_law_1002 : decode cL_law 1002 = .ok (.pop, 1) := dbl_40.1.1.2.1
theorem dL_law_1003 : decode cL_law 1003 = .ok (.goto 490, 3) := dbl_40.1.1.2.2
theorem dL_law_1006 : decode cL_law 1006 = .ok (.aload_n 1, 1) := dbl_40.1.2.1.1
theorem dL_law_1007 : decode cL_law 1007 = .ok (.aload_n 0, 1) := dbl_40.1.2.1.2
theorem dL_law_1008 : decode cL_law 1008 = .ok (.iload_n 3, 1) := dbl_40.1.2.2.1
theorem dL_law_1009 : decode cL_law 1009 = .ok (.iconst 1, 1) := dbl_40.1.2.2.2
theorem dL_law_1010 : decode cL_law 1010 = .ok (.iadd, 1) := dbl_40.2.1.1.1
theorem dL_law_1011 : decode cL_law 1011 = .ok (.iaload, 1) := dbl_40.2.1.1.2
theorem dL_law_1012 : decode cL_law 1012 = .ok (.aload_n 0, 1) := dbl_40.2.1.2.1
theorem dL_law_1013 : decode cL_law 1013 = .ok (.iload_n 3, 1) := dbl_40.2.1.2.2
theorem dL_law_1014 : decode cL_law 1014 = .ok (.iconst 2, 1) := dbl_40.2.2.1.1
theorem dL_law_1015 : decode cL_law 1015 = .ok (.iadd, 1) := dbl_40.2.2.1.2
theorem dL_law_1016 : decode cL_law 1016 = .ok (.iaload, 1) := dbl_40.2.2.2.1
theorem dL_law_1017 : decode cL_law 1017 = .ok (.aload_n 0, 1) := dbl_40.2.2.2.2
theorem dbl_41 : (((((decode cL_law 1018 = .ok (.iload_n 3, 1)) ∧ (decode cL_law 1019 = .ok (.iconst 3, 1))) ∧ ((decode cL_law 1020 = .ok (.iadd, 1)) ∧ (decode cL_law 1021 = .ok (.iaload, 1)))) ∧ (((decode cL_law 1022 = .ok (.invokevirtual 121, 3)) ∧ (decode cL_law 1025 = .ok (.pop, 1))) ∧ ((decode cL_law 1026 = .ok (.aload_n 2, 1)) ∧ (decode cL_law 1027 = .ok (.aload_n 0, 1))))) ∧ ((((decode cL_law 1028 = .ok (.iload_n 3, 1)) ∧ (decode cL_law 1029 = .ok (.iconst 1, 1))) ∧ ((decode cL_law 1030 = .ok (.iadd, 1)) ∧ (decode cL_law 1031 = .ok (.iaload, 1)))) ∧ (((decode cL_law 1032 = .ok (.aload_n 0, 1)) ∧ (decode cL_law 1033 = .ok (.iload_n 3, 1))) ∧ ((decode cL_law 1034 = .ok (.iconst 2, 1)) ∧ (decode cL_law 1035 = .ok (.iadd, 1)))))) := by decide +kernel
theorem dL_law_1018 : decode cL_law 1018 = .ok (.iload_n 3, 1) := dbl_41.1.1.1.1
theorem dL_law_1019 : decode cL_law 1019 = .ok (.iconst 3, 1) := dbl_41.1.1.1.2
theorem dL_law_1020 : decode cL_law 1020 = .ok (.iadd, 1) := dbl_41.1.1.2.1
theorem dL_law_1021 : decode cL_law 1021 = .ok (.iaload, 1) := dbl_41.1.1.2.2
theorem dL_law_1022 : decode cL_law 1022 = .ok (.invokevirtual 121, 3) := dbl_41.1.2.1.1
theorem dL_law_1025 : decode cL_law 1025 = .ok (.pop, 1) := dbl_41.1.2.1.2
theorem dL_law_1026 : decode cL_law 1026 = .ok (.aload_n 2, 1) := dbl_41.1.2.2.1
theorem dL_law_1027 : decode cL_law 1027 = .ok (.aload_n 0, 1) := dbl_41.1.2.2.2
theorem dL_law_1028 : decode cL_law 1028 = .ok (.iload_n 3, 1) := dbl_41.2.1.1.1
theorem dL_law_1029 : decode cL_law 1029 = .ok (.iconst 1, 1) := dbl_41.2.1.1.2
theorem dL_law_1030 : decode cL_law 1030 = .ok (.iadd, 1) := dbl_41.2.1.2.1
theorem dL_law_1031 : decode cL_law 1031 = .ok (.iaload, 1) := dbl_41.2.1.2.2
theorem dL_law_1032 : decode cL_law 1032 = .ok (.aload_n 0, 1) := dbl_41.2.2.1.1
theorem dL_law_1033 : decode cL_law 1033 = .ok (.iload_n 3, 1) := dbl_41.2.2.1.2
theorem dL_law_1034 : decode cL_law 1034 = .ok (.iconst 2, 1) := dbl_41.2.2.2.1
theorem dL_law_1035 : decode cL_law 1035 = .ok (.iadd, 1) := dbl_41.2.2.2.2
theorem dbl_42 : (((((decode cL_law 1036 = .ok (.iaload, 1)) ∧ (decode cL_law 1037 = .ok (.aload_n 0, 1))) ∧ ((decode cL_law 1038 = .ok (.iload_n 3, 1)) ∧ (decode cL_law 1039 = .ok (.iconst 3, 1)))) ∧ (((decode cL_law 1040 = .ok (.iadd, 1)) ∧ (decode cL_law 1041 = .ok (.iaload, 1))) ∧ ((decode cL_law 1042 = .ok (.invokevirtual 124, 3)) ∧ (decode cL_law 1045 = .ok (.pop, 1))))) ∧ ((((decode cL_law 1046 = .ok (.goto 447, 3)) ∧ (decode cL_law 1049 = .ok (.aload_n 1, 1))) ∧ ((decode cL_law 1050 = .ok (.aload_n 0, 1)) ∧ (decode cL_law 1051 = .ok (.iload_n 3, 1)))) ∧ (((decode cL_law 1052 = .ok (.iconst 1, 1)) ∧ (decode cL_law 1053 = .ok (.iadd, 1))) ∧ ((decode cL_law 1054 = .ok (.iaload, 1)) ∧ (decode cL_law 1055 = .ok (.aload_n 0, 1)))))) := by decide +kernel
theorem dL_law_1036 : decode cL_law 1036 = .ok (.iaload, 1) := dbl_42.1.1.1.1
theorem dL_law_1037 : decode cL_law 1037 = .ok (.aload_n 0, 1) := dbl_42.1.1.1.2
theorem dL_law_1038 : decode cL_law 1038 = .ok (.iload_n 3, 1) := dbl_42.1.1.2.1
theorem dL_law_1039 : decode cL_law 1039 = .ok (.iconst 3, 1) := dbl_42.1.1.2.2
theorem dL_law_1040 : decode cL_law 1040 = .ok (.iadd, 1) := dbl_42.1.2.1.1
theorem dL_law_1041 : decode cL_law 1041 = .ok (.iaload, 1) := dbl_42.1.2.1.2
theorem dL_law_1042 : decode cL_law 1042 = .ok (.invokevirtual 124, 3) := dbl_42.1.2.2.1
theorem dL_law_1045 : decode cL_law 1045 = .ok (.pop, 1) := dbl_42.1.2.2.2
theorem dL_law_1046 : decode cL_law 1046 = .ok (.goto 447, 3) := dbl_42.2.1.1.1
theorem dL_law_1049 : decode cL_law 1049 = .ok (.aload_n 1, 1) := dbl_42.2.1.1.2
theorem dL_law_1050 : decode cL_law 1050 = .ok (.aload_n 0, 1) := dbl_42.2.1.2.1
theorem dL_law_1051 : decode cL_law 1051 = .ok (.iload_n 3, 1) := dbl_42.2.1.2.2
theorem dL_law_1052 : decode cL_law 1052 = .ok (.iconst 1, 1) := dbl_42.2.2.1.1
theorem dL_law_1053 : decode cL_law 1053 = .ok (.iadd, 1) := dbl_42.2.2.1.2
theorem dL_law_1054 : decode cL_law 1054 = .ok (.iaload, 1) := dbl_42.2.2.2.1
theorem dL_law_1055 : decode cL_law 1055 = .ok (.aload_n 0, 1) := dbl_42.2.2.2.2
theorem dbl_43 : (((((decode cL_law 1056 = .ok (.iload_n 3, 1)) ∧ (decode cL_law 1057 = .ok (.iconst 2, 1))) ∧ ((decode cL_law 1058 = .ok (.iadd, 1)) ∧ (decode cL_law 1059 = .ok (.iaload, 1)))) ∧ (((decode cL_law 1060 = .ok (.aload_n 0, 1)) ∧ (decode cL_law 1061 = .ok (.iload_n 3, 1))) ∧ ((decode cL_law 1062 = .ok (.iconst 3, 1)) ∧ (decode cL_law 1063 = .ok (.iadd, 1))))) ∧ ((((decode cL_law 1064 = .ok (.iaload, 1)) ∧ (decode cL_law 1065 = .ok (.invokevirtual 125, 3))) ∧ ((decode cL_law 1068 = .ok (.pop, 1)) ∧ (decode cL_law 1069 = .ok (.aload_n 2, 1)))) ∧ (((decode cL_law 1070 = .ok (.aload_n 0, 1)) ∧ (decode cL_law 1071 = .ok (.iload_n 3, 1))) ∧ ((decode cL_law 1072 = .ok (.iconst 1, 1)) ∧ (decode cL_law 1073 = .ok (.iadd, 1)))))) := by decide +kernel
theorem dL_law_1056 : decode cL_law 1056 = .ok (.iload_n 3, 1) := dbl_43.1.1.1.1
theorem dL_law_1057 : decode cL_law 1057 = .ok (.iconst 2, 1) := dbl_43.1.1.1.2
theorem dL_law_1058 : decode cL_law 1058 = .ok (.iadd, 1) := dbl_43.1.1.2.1
theorem dL_law_1059 : decode cL_law 1059 = .ok (.iaload, 1) := dbl_43.1.1.2.2
theorem dL_law_1060 : decode cL_law 1060 = .ok (.aload_n 0, 1) := dbl_43.1.2.1.1
theorem dL_law_1061 : decode cL_law 1061 = .ok (.iload_n 3, 1) := dbl_43.1.2.1.2
theorem dL_law_1062 : decode cL_law 1062 = .ok (.iconst 3, 1) := dbl_43.1.2.2.1
theorem dL_law_1063 : decode cL_law 1063 = .ok (.iadd, 1) := dbl_43.1.2.2.2
theorem dL_law_1064 : decode cL_law 1064 = .ok (.iaload, 1) := dbl_43.2.1.1.1
theorem dL_law_1065 : decode cL_law 1065 = .ok (.invokevirtual 125, 3) := dbl_43.2.1.1.2
theorem dL_law_1068 : decode cL_law 1068 = .ok (.pop, 1) := dbl_43.2.1.2.1
theorem dL_law_1069 : decode cL_law 1069 = .ok (.aload_n 2, 1) := dbl_43.2.1.2.2
theorem dL_law_1070 : decode cL_law 1070 = .ok (.aload_n 0, 1) := dbl_43.2.2.1.1
theorem dL_law_1071 : decode cL_law 1071 = .ok (.iload_n 3, 1) := dbl_43.2.2.1.2
theorem dL_law_1072 : decode cL_law 1072 = .ok (.iconst 1, 1) := dbl_43.2.2.2.1
theorem dL_law_1073 : decode cL_law 1073 = .ok (.iadd, 1) := dbl_43.2.2.2.2
theorem dbl_44 : (((((decode cL_law 1074 = .ok (.iaload, 1)) ∧ (decode cL_law 1075 = .ok (.aload_n 0, 1))) ∧ ((decode cL_law 1076 = .ok (.iload_n 3, 1)) ∧ (decode cL_law 1077 = .ok (.iconst 2, 1)))) ∧ (((decode cL_law 1078 = .ok (.iadd, 1)) ∧ (decode cL_law 1079 = .ok (.iaload, 1))) ∧ ((decode cL_law 1080 = .ok (.aload_n 0, 1)) ∧ (decode cL_law 1081 = .ok (.iload_n 3, 1))))) ∧ ((((decode cL_law 1082 = .ok (.iconst 3, 1)) ∧ (decode cL_law 1083 = .ok (.iadd, 1))) ∧ ((decode cL_law 1084 = .ok (.iaload, 1)) ∧ (decode cL_law 1085 = .ok (.invokevirtual 128, 3)))) ∧ (((decode cL_law 1088 = .ok (.pop, 1)) ∧ (decode cL_law 1089 = .ok (.goto 404, 3))) ∧ ((decode cL_law 1092 = .ok (.aload_n 1, 1)) ∧ (decode cL_law 1093 = .ok (.aload_n 0, 1)))))) := by decide +kernel
theorem dL_law_1074 : decode cL_law 1074 = .ok (.iaload, 1) := dbl_44.1.1.1.1
theorem dL_law_1075 : decode cL_law 1075 = .ok (.aload_n 0, 1) := dbl_44.1.1.1.2
theorem dL_law_1076 : decode cL_law 1076 = .ok (.iload_n 3, 1) := dbl_44.1.1.2.1
theorem dL_law_1077 : decode cL_law 1077 = .ok (.iconst 2, 1) := dbl_44.1.1.2.2
theorem dL_law_1078 : decode cL_law 1078 = .ok (.iadd, 1) := dbl_44.1.2.1.1
theorem dL_law_1079 : decode cL_law 1079 = .ok (.iaload, 1) := dbl_44.1.2.1.2
theorem dL_law_1080 : decode cL_law 1080 = .ok (.aload_n 0, 1) := dbl_44.1.2.2.1
theorem dL_law_1081 : decode cL_law 1081 = .ok (.iload_n 3, 1) := dbl_44.1.2.2.2
theorem dL_law_1082 : decode cL_law 1082 = .ok (.iconst 3, 1) := dbl_44.2.1.1.1
theorem dL_law_1083 : decode cL_law 1083 = .ok (.iadd, 1) := dbl_44.2.1.1.2
theorem dL_law_1084 : decode cL_law 1084 = .ok (.iaload, 1) := dbl_44.2.1.2.1
theorem dL_law_1085 : decode cL_law 1085 = .ok (.invokevirtual 128, 3) := dbl_44.2.1.2.2
theorem dL_law_1088 : decode cL_law 1088 = .ok (.pop, 1) := dbl_44.2.2.1.1
theorem dL_law_1089 : decode cL_law 1089 = .ok (.goto 404, 3) := dbl_44.2.2.1.2
theorem dL_law_1092 : decode cL_law 1092 = .ok (.aload_n 1, 1) := dbl_44.2.2.2.1
theorem dL_law_1093 : decode cL_law 1093 = .ok (.aload_n 0, 1) := dbl_44.2.2.2.2
theorem dbl_45 : (((((decode cL_law 1094 = .ok (.iload_n 3, 1)) ∧ (decode cL_law 1095 = .ok (.iconst 1, 1))) ∧ ((decode cL_law 1096 = .ok (.iadd, 1)) ∧ (decode cL_law 1097 = .ok (.iaload, 1)))) ∧ (((decode cL_law 1098 = .ok (.aload_n 0, 1)) ∧ (decode cL_law 1099 = .ok (.iload_n 3, 1))) ∧ ((decode cL_law 1100 = .ok (.iconst 2, 1)) ∧ (decode cL_law 1101 = .ok (.iadd, 1))))) ∧ ((((decode cL_law 1102 = .ok (.iaload, 1)) ∧ (decode cL_law 1103 = .ok (.aload_n 0, 1))) ∧ ((decode cL_law 1104 = .ok (.iload_n 3, 1)) ∧ (decode cL_law 1105 = .ok (.iconst 3, 1)))) ∧ (((decode cL_law 1106 = .ok (.iadd, 1)) ∧ (decode cL_law 1107 = .ok (.iaload, 1))) ∧ ((decode cL_law 1108 = .ok (.aload_n 0, 1)) ∧ (decode cL_law 1109 = .ok (.iload_n 3, 1)))))) := by decide +kernel
theorem dL_law_1094 : decode cL_law 1094 = .ok (.iload_n 3, 1) := dbl_45.1.1.1.1
theorem dL_law_1095 : decode cL_law 1095 = .ok (.iconst 1, 1) := dbl_45.1.1.1.2
theorem dL_law_1096 : decode cL_law 1096 = .ok (.iadd, 1) := dbl_45.1.1.2.1
theorem dL_law_1097 : decode cL_law 1097 = .ok (.iaload, 1) := dbl_45.1.1.2.2
theorem dL_law_1098 : decode cL_law 1098 = .ok (.aload_n 0, 1) := dbl_45.1.2.1.1
theorem dL_law_1099 : decode cL_law 1099 = .ok (.iload_n 3, 1) := dbl_45.1.2.1.2
theorem dL_law_1100 : decode cL_law 1100 = .ok (.iconst 2, 1) := dbl_45.1.2.2.1
theorem dL_law_1101 : decode cL_law 1101 = .ok (.iadd, 1) := dbl_45.1.2.2.2
theorem dL_law_1102 : decode cL_law 1102 = .ok (.iaload, 1) := dbl_45.2.1.1.1
theorem dL_law_1103 : decode cL_law 1103 = .ok (.aload_n 0, 1) := dbl_45.2.1.1.2
theorem dL_law_1104 : decode cL_law 1104 = .ok (.iload_n 3, 1) := dbl_45.2.1.2.1
theorem dL_law_1105 : decode cL_law 1105 = .ok (.iconst 3, 1) := dbl_45.2.1.2.2
theorem dL_law_1106 : decode cL_law 1106 = .ok (.iadd, 1) := dbl_45.2.2.1.1
theorem dL_law_1107 : decode cL_law 1107 = .ok (.iaload, 1) := dbl_45.2.2.1.2
theorem dL_law_1108 : decode cL_law 1108 = .ok (.aload_n 0, 1) := dbl_45.2.2.2.1
theorem dL_law_1109 : decode cL_law 1109 = .ok (.iload_n 3, 1) := dbl_45.2.2.2.2
theorem dbl_46 : (((((decode cL_law 1110 = .ok (.iconst 4, 1)) ∧ (decode cL_law 1111 = .ok (.iadd, 1))) ∧ ((decode cL_law 1112 = .ok (.iaload, 1)) ∧ (decode cL_law 1113 = .ok (.aload_n 0, 1)))) ∧ (((decode cL_law 1114 = .ok (.iload_n 3, 1)) ∧ (decode cL_law 1115 = .ok (.iconst 5, 1))) ∧ ((decode cL_law 1116 = .ok (.iadd, 1)) ∧ (decode cL_law 1117 = .ok (.iaload, 1))))) ∧ ((((decode cL_law 1118 = .ok (.invokevirtual 129, 3)) ∧ (decode cL_law 1121 = .ok (.pop2, 1))) ∧ ((decode cL_law 1122 = .ok (.aload_n 2, 1)) ∧ (decode cL_law 1123 = .ok (.aload_n 0, 1)))) ∧ (((decode cL_law 1124 = .ok (.iload_n 3, 1)) ∧ (decode cL_law 1125 = .ok (.iconst 1, 1))) ∧ ((decode cL_law 1126 = .ok (.iadd, 1)) ∧ (decode cL_law 1127 = .ok (.iaload, 1)))))) := by decide +kernel
theorem dL_law_1110 : decode cL_law 1110 = .ok (.iconst 4, 1) := dbl_46.1.1.1.1
theorem dL_law_1111 : decode cL_law 1111 = .ok (.iadd, 1) := dbl_46.1.1.1.2
theorem dL_law_1112 : decode cL_law 1112 = .ok (.iaload, 1) := dbl_46.1.1.2.1
theorem dL_law_1113 : decode cL_law 1113 = .ok (.aload_n 0, 1) := dbl_46.1.1.2.2
theorem dL_law_1114 : decode cL_law 1114 = .ok (.iload_n 3, 1) := dbl_46.1.2.1.1
theorem dL_law_1115 : decode cL_law 1115 = .ok (.iconst 5, 1) := dbl_46.1.2.1.2
theorem dL_law_1116 : decode cL_law 1116 = .ok (.iadd, 1) := dbl_46.1.2.2.1
theorem dL_law_1117 : decode cL_law 1117 = .ok (.iaload, 1) := dbl_46.1.2.2.2
theorem dL_law_1118 : decode cL_law 1118 = .ok (.invokevirtual 129, 3) := dbl_46.2.1.1.1
theorem dL_law_1121 : decode cL_law 1121 = .ok (.pop2, 1) := dbl_46.2.1.1.2
theorem dL_law_1122 : decode cL_law 1122 = .ok (.aload_n 2, 1) := dbl_46.2.1.2.1
theorem dL_law_1123 : decode cL_law 1123 = .ok (.aload_n 0, 1) := dbl_46.2.1.2.2
theorem dL_law_1124 : decode cL_law 1124 = .ok (.iload_n 3, 1) := dbl_46.2.2.1.1
theorem dL_law_1125 : decode cL_law 1125 = .ok (.iconst 1, 1) := dbl_46.2.2.1.2
theorem dL_law_1126 : decode cL_law 1126 = .ok (.iadd, 1) := dbl_46.2.2.2.1
theorem dL_law_1127 : decode cL_law 1127 = .ok (.iaload, 1) := dbl_46.2.2.2.2
theorem dbl_47 : (((((decode cL_law 1128 = .ok (.aload_n 0, 1)) ∧ (decode cL_law 1129 = .ok (.iload_n 3, 1))) ∧ ((decode cL_law 1130 = .ok (.iconst 2, 1)) ∧ (decode cL_law 1131 = .ok (.iadd, 1)))) ∧ (((decode cL_law 1132 = .ok (.iaload, 1)) ∧ (decode cL_law 1133 = .ok (.aload_n 0, 1))) ∧ ((decode cL_law 1134 = .ok (.iload_n 3, 1)) ∧ (decode cL_law 1135 = .ok (.iconst 3, 1))))) ∧ ((((decode cL_law 1136 = .ok (.iadd, 1)) ∧ (decode cL_law 1137 = .ok (.iaload, 1))) ∧ ((decode cL_law 1138 = .ok (.aload_n 0, 1)) ∧ (decode cL_law 1139 = .ok (.iload_n 3, 1)))) ∧ (((decode cL_law 1140 = .ok (.iconst 4, 1)) ∧ (decode cL_law 1141 = .ok (.iadd, 1))) ∧ ((decode cL_law 1142 = .ok (.iaload, 1)) ∧ (decode cL_law 1143 = .ok (.aload_n 0, 1)))))) := by decide +kernel
theorem dL_law_1128 : decode cL_law 1128 = .ok (.aload_n 0, 1) := dbl_47.1.1.1.1
theorem dL_law_1129 : decode cL_law 1129 = .ok (.iload_n 3, 1) := dbl_47.1.1.1.2
theorem dL_law_1130 : decode cL_law 1130 = .ok (.iconst 2, 1) := dbl_47.1.1.2.1
theorem dL_law_1131 : decode cL_law 1131 = .ok (.iadd, 1) := dbl_47.1.1.2.2
theorem dL_law_1132 : decode cL_law 1132 = .ok (.iaload, 1) := dbl_47.1.2.1.1
theorem dL_law_1133 : decode cL_law 1133 = .ok (.aload_n 0, 1) := dbl_47.1.2.1.2
theorem dL_law_1134 : decode cL_law 1134 = .ok (.iload_n 3, 1) := dbl_47.1.2.2.1
theorem dL_law_1135 : decode cL_law 1135 = .ok (.iconst 3, 1) := dbl_47.1.2.2.2
theorem dL_law_1136 : decode cL_law 1136 = .ok (.iadd, 1) := dbl_47.2.1.1.1
theorem dL_law_1137 : decode cL_law 1137 = .ok (.iaload, 1) := dbl_47.2.1.1.2
theorem dL_law_1138 : decode cL_law 1138 = .ok (.aload_n 0, 1) := dbl_47.2.1.2.1
theorem dL_law_1139 : decode cL_law 1139 = .ok (.iload_n 3, 1) := dbl_47.2.1.2.2
theorem dL_law_1140 : decode cL_law 1140 = .ok (.iconst 4, 1) := dbl_47.2.2.1.1
theorem dL_law_1141 : decode cL_law 1141 = .ok (.iadd, 1) := dbl_47.2.2.1.2
theorem dL_law_1142 : decode cL_law 1142 = .ok (.iaload, 1) := dbl_47.2.2.2.1
theorem dL_law_1143 : decode cL_law 1143 = .ok (.aload_n 0, 1) := dbl_47.2.2.2.2
theorem dbl_48 : (((((decode cL_law 1144 = .ok (.iload_n 3, 1)) ∧ (decode cL_law 1145 = .ok (.iconst 5, 1))) ∧ ((decode cL_law 1146 = .ok (.iadd, 1)) ∧ (decode cL_law 1147 = .ok (.iaload, 1)))) ∧ (((decode cL_law 1148 = .ok (.invokevirtual 133, 3)) ∧ (decode cL_law 1151 = .ok (.pop2, 1))) ∧ ((decode cL_law 1152 = .ok (.goto 341, 3)) ∧ (decode cL_law 1155 = .ok (.aload_n 1, 1))))) ∧ ((((decode cL_law 1156 = .ok (.aload_n 0, 1)) ∧ (decode cL_law 1157 = .ok (.iload_n 3, 1))) ∧ ((decode cL_law 1158 = .ok (.iconst 1, 1)) ∧ (decode cL_law 1159 = .ok (.iadd, 1)))) ∧ (((decode cL_law 1160 = .ok (.iaload, 1)) ∧ (decode cL_law 1161 = .ok (.invokevirtual 134, 3))) ∧ ((decode cL_law 1164 = .ok (.pop, 1)) ∧ (decode cL_law 1165 = .ok (.aload_n 2, 1)))))) := by decide +kernel
theorem dL_law_1144 : decode cL_law 1144 = .ok (.iload_n 3, 1) := dbl_48.1.1.1.1
theorem dL_law_1145 : decode cL_law 1145 = .ok (.iconst 5, 1) := dbl_48.1.1.1.2
theorem dL_law_1146 : decode cL_law 1146 = .ok (.iadd, 1) := dbl_48.1.1.2.1
theorem dL_law_1147 : decode cL_law 1147 = .ok (.iaload, 1) := dbl_48.1.1.2.2
theorem dL_law_1148 : decode cL_law 1148 = .ok (.invokevirtual 133, 3) := dbl_48.1.2.1.1
theorem dL_law_1151 : decode cL_law 1151 = .ok (.pop2, 1) := dbl_48.1.2.1.2
theorem dL_law_1152 : decode cL_law 1152 = .ok (.goto 341, 3) := dbl_48.1.2.2.1
theorem dL_law_1155 : decode cL_law 1155 = .ok (.aload_n 1, 1) := dbl_48.1.2.2.2
theorem dL_law_1156 : decode cL_law 1156 = .ok (.aload_n 0, 1) := dbl_48.2.1.1.1
theorem dL_law_1157 : decode cL_law 1157 = .ok (.iload_n 3, 1) := dbl_48.2.1.1.2
theorem dL_law_1158 : decode cL_law 1158 = .ok (.iconst 1, 1) := dbl_48.2.1.2.1
theorem dL_law_1159 : decode cL_law 1159 = .ok (.iadd, 1) := dbl_48.2.1.2.2
theorem dL_law_1160 : decode cL_law 1160 = .ok (.iaload, 1) := dbl_48.2.2.1.1
theorem dL_law_1161 : decode cL_law 1161 = .ok (.invokevirtual 134, 3) := dbl_48.2.2.1.2
theorem dL_law_1164 : decode cL_law 1164 = .ok (.pop, 1) := dbl_48.2.2.2.1
theorem dL_law_1165 : decode cL_law 1165 = .ok (.aload_n 2, 1) := dbl_48.2.2.2.2
theorem dbl_49 : (((((decode cL_law 1166 = .ok (.aload_n 0, 1)) ∧ (decode cL_law 1167 = .ok (.iload_n 3, 1))) ∧ ((decode cL_law 1168 = .ok (.iconst 1, 1)) ∧ (decode cL_law 1169 = .ok (.iadd, 1)))) ∧ (((decode cL_law 1170 = .ok (.iaload, 1)) ∧ (decode cL_law 1171 = .ok (.invokevirtual 137, 3))) ∧ ((decode cL_law 1174 = .ok (.pop, 1)) ∧ (decode cL_law 1175 = .ok (.goto 318, 3))))) ∧ ((((decode cL_law 1178 = .ok (.aload_n 1, 1)) ∧ (decode cL_law 1179 = .ok (.aload_n 0, 1))) ∧ ((decode cL_law 1180 = .ok (.iload_n 3, 1)) ∧ (decode cL_law 1181 = .ok (.iconst 1, 1)))) ∧ (((decode cL_law 1182 = .ok (.iadd, 1)) ∧ (decode cL_law 1183 = .ok (.iaload, 1))) ∧ ((decode cL_law 1184 = .ok (.invokevirtual 138, 3)) ∧ (decode cL_law 1187 = .ok (.pop2, 1)))))) := by decide +kernel
theorem dL_law_1166 : decode cL_law 1166 = .ok (.aload_n 0, 1) := dbl_49.1.1.1.1
theorem dL_law_1167 : decode cL_law 1167 = .ok (.iload_n 3, 1) := dbl_49.1.1.1.2
theorem dL_law_1168 : decode cL_law 1168 = .ok (.iconst 1, 1) := dbl_49.1.1.2.1
theorem dL_law_1169 : decode cL_law 1169 = .ok (.iadd, 1) := dbl_49.1.1.2.2
theorem dL_law_1170 : decode cL_law 1170 = .ok (.iaload, 1) := dbl_49.1.2.1.1
theorem dL_law_1171 : decode cL_law 1171 = .ok (.invokevirtual 137, 3) := dbl_49.1.2.1.2
theorem dL_law_1174 : decode cL_law 1174 = .ok (.pop, 1) := dbl_49.1.2.2.1
theorem dL_law_1175 : decode cL_law 1175 = .ok (.goto 318, 3) := dbl_49.1.2.2.2
theorem dL_law_1178 : decode cL_law 1178 = .ok (.aload_n 1, 1) := dbl_49.2.1.1.1
theorem dL_law_1179 : decode cL_law 1179 = .ok (.aload_n 0, 1) := dbl_49.2.1.1.2
theorem dL_law_1180 : decode cL_law 1180 = .ok (.iload_n 3, 1) := dbl_49.2.1.2.1
theorem dL_law_1181 : decode cL_law 1181 = .ok (.iconst 1, 1) := dbl_49.2.1.2.2
theorem dL_law_1182 : decode cL_law 1182 = .ok (.iadd, 1) := dbl_49.2.2.1.1
theorem dL_law_1183 : decode cL_law 1183 = .ok (.iaload, 1) := dbl_49.2.2.1.2
theorem dL_law_1184 : decode cL_law 1184 = .ok (.invokevirtual 138, 3) := dbl_49.2.2.2.1
theorem dL_law_1187 : decode cL_law 1187 = .ok (.pop2, 1) := dbl_49.2.2.2.2
theorem dbl_50 : (((((decode cL_law 1188 = .ok (.aload_n 2, 1)) ∧ (decode cL_law 1189 = .ok (.aload_n 0, 1))) ∧ ((decode cL_law 1190 = .ok (.iload_n 3, 1)) ∧ (decode cL_law 1191 = .ok (.iconst 1, 1)))) ∧ (((decode cL_law 1192 = .ok (.iadd, 1)) ∧ (decode cL_law 1193 = .ok (.iaload, 1))) ∧ ((decode cL_law 1194 = .ok (.invokevirtual 142, 3)) ∧ (decode cL_law 1197 = .ok (.pop2, 1))))) ∧ ((((decode cL_law 1198 = .ok (.goto 295, 3)) ∧ (decode cL_law 1201 = .ok (.aload_n 1, 1))) ∧ ((decode cL_law 1202 = .ok (.invokevirtual 143, 3)) ∧ (decode cL_law 1205 = .ok (.pop, 1)))) ∧ (((decode cL_law 1206 = .ok (.aload_n 2, 1)) ∧ (decode cL_law 1207 = .ok (.invokevirtual 146, 3))) ∧ ((decode cL_law 1210 = .ok (.pop, 1)) ∧ (decode cL_law 1211 = .ok (.goto 282, 3)))))) := by decide +kernel
theorem dL_law_1188 : decode cL_law 1188 = .ok (.aload_n 2, 1) := dbl_50.1.1.1.1
theorem dL_law_1189 : decode cL_law 1189 = .ok (.aload_n 0, 1) := dbl_50.1.1.1.2
theorem dL_law_1190 : decode cL_law 1190 = .ok (.iload_n 3, 1) := dbl_50.1.1.2.1
theorem dL_law_1191 : decode cL_law 1191 = .ok (.iconst 1, 1) := dbl_50.1.1.2.2
theorem dL_law_1192 : decode cL_law 1192 = .ok (.iadd, 1) := dbl_50.1.2.1.1
theorem dL_law_1193 : decode cL_law 1193 = .ok (.iaload, 1) := dbl_50.1.2.1.2
theorem dL_law_1194 : decode cL_law 1194 = .ok (.invokevirtual 142, 3) := dbl_50.1.2.2.1
theorem dL_law_1197 : decode cL_law 1197 = .ok (.pop2, 1) := dbl_50.1.2.2.2
theorem dL_law_1198 : decode cL_law 1198 = .ok (.goto 295, 3) := dbl_50.2.1.1.1
theorem dL_law_1201 : decode cL_law 1201 = .ok (.aload_n 1, 1) := dbl_50.2.1.1.2
theorem dL_law_1202 : decode cL_law 1202 = .ok (.invokevirtual 143, 3) := dbl_50.2.1.2.1
theorem dL_law_1205 : decode cL_law 1205 = .ok (.pop, 1) := dbl_50.2.1.2.2
theorem dL_law_1206 : decode cL_law 1206 = .ok (.aload_n 2, 1) := dbl_50.2.2.1.1
theorem dL_law_1207 : decode cL_law 1207 = .ok (.invokevirtual 146, 3) := dbl_50.2.2.1.2
theorem dL_law_1210 : decode cL_law 1210 = .ok (.pop, 1) := dbl_50.2.2.2.1
theorem dL_law_1211 : decode cL_law 1211 = .ok (.goto 282, 3) := dbl_50.2.2.2.2
theorem dbl_51 : (((((decode cL_law 1214 = .ok (.aload_n 1, 1)) ∧ (decode cL_law 1215 = .ok (.aload_n 0, 1))) ∧ ((decode cL_law 1216 = .ok (.iload_n 3, 1)) ∧ (decode cL_law 1217 = .ok (.iconst 1, 1)))) ∧ (((decode cL_law 1218 = .ok (.iadd, 1)) ∧ (decode cL_law 1219 = .ok (.iaload, 1))) ∧ ((decode cL_law 1220 = .ok (.invokevirtual 147, 3)) ∧ (decode cL_law 1223 = .ok (.pop, 1))))) ∧ ((((decode cL_law 1224 = .ok (.aload_n 2, 1)) ∧ (decode cL_law 1225 = .ok (.aload_n 0, 1))) ∧ ((decode cL_law 1226 = .ok (.iload_n 3, 1)) ∧ (decode cL_law 1227 = .ok (.iconst 1, 1)))) ∧ (((decode cL_law 1228 = .ok (.iadd, 1)) ∧ (decode cL_law 1229 = .ok (.iaload, 1))) ∧ ((decode cL_law 1230 = .ok (.invokevirtual 150, 3)) ∧ (decode cL_law 1233 = .ok (.pop, 1)))))) := by decide +kernel
theorem dL_law_1214 : decode cL_law 1214 = .ok (.aload_n 1, 1) := dbl_51.1.1.1.1
theorem dL_law_1215 : decode cL_law 1215 = .ok (.aload_n 0, 1) := dbl_51.1.1.1.2
theorem dL_law_1216 : decode cL_law 1216 = .ok (.iload_n 3, 1) := dbl_51.1.1.2.1
theorem dL_law_1217 : decode cL_law 1217 = .ok (.iconst 1, 1) := dbl_51.1.1.2.2
theorem dL_law_1218 : decode cL_law 1218 = .ok (.iadd, 1) := dbl_51.1.2.1.1
theorem dL_law_1219 : decode cL_law 1219 = .ok (.iaload, 1) := dbl_51.1.2.1.2
theorem dL_law_1220 : decode cL_law 1220 = .ok (.invokevirtual 147, 3) := dbl_51.1.2.2.1
theorem dL_law_1223 : decode cL_law 1223 = .ok (.pop, 1) := dbl_51.1.2.2.2
theorem dL_law_1224 : decode cL_law 1224 = .ok (.aload_n 2, 1) := dbl_51.2.1.1.1
theorem dL_law_1225 : decode cL_law 1225 = .ok (.aload_n 0, 1) := dbl_51.2.1.1.2
theorem dL_law_1226 : decode cL_law 1226 = .ok (.iload_n 3, 1) := dbl_51.2.1.2.1
theorem dL_law_1227 : decode cL_law 1227 = .ok (.iconst 1, 1) := dbl_51.2.1.2.2
theorem dL_law_1228 : decode cL_law 1228 = .ok (.iadd, 1) := dbl_51.2.2.1.1
theorem dL_law_1229 : decode cL_law 1229 = .ok (.iaload, 1) := dbl_51.2.2.1.2
theorem dL_law_1230 : decode cL_law 1230 = .ok (.invokevirtual 150, 3) := dbl_51.2.2.2.1
theorem dL_law_1233 : decode cL_law 1233 = .ok (.pop, 1) := dbl_51.2.2.2.2
theorem dbl_52 : (((((decode cL_law 1234 = .ok (.goto 259, 3)) ∧ (decode cL_law 1237 = .ok (.aload_n 1, 1))) ∧ ((decode cL_law 1238 = .ok (.aload_n 0, 1)) ∧ (decode cL_law 1239 = .ok (.iload_n 3, 1)))) ∧ (((decode cL_law 1240 = .ok (.iconst 1, 1)) ∧ (decode cL_law 1241 = .ok (.iadd, 1))) ∧ ((decode cL_law 1242 = .ok (.iaload, 1)) ∧ (decode cL_law 1243 = .ok (.invokevirtual 151, 3))))) ∧ ((((decode cL_law 1246 = .ok (.pop, 1)) ∧ (decode cL_law 1247 = .ok (.aload_n 2, 1))) ∧ ((decode cL_law 1248 = .ok (.aload_n 0, 1)) ∧ (decode cL_law 1249 = .ok (.iload_n 3, 1)))) ∧ (((decode cL_law 1250 = .ok (.iconst 1, 1)) ∧ (decode cL_law 1251 = .ok (.iadd, 1))) ∧ ((decode cL_law 1252 = .ok (.iaload, 1)) ∧ (decode cL_law 1253 = .ok (.invokevirtual 154, 3)))))) := by decide +kernel
theorem dL_law_1234 : decode cL_law 1234 = .ok (.goto 259, 3) := dbl_52.1.1.1.1
theorem dL_law_1237 : decode cL_law 1237 = .ok (.aload_n 1, 1) := dbl_52.1.1.1.2
theorem dL_law_1238 : decode cL_law 1238 = .ok (.aload_n 0, 1) := dbl_52.1.1.2.1
theorem dL_law_1239 : decode cL_law 1239 = .ok (.iload_n 3, 1) := dbl_52.1.1.2.2
theorem dL_law_1240 : decode cL_law 1240 = .ok (.iconst 1, 1) := dbl_52.1.2.1.1
theorem dL_law_1241 : decode cL_law 1241 = .ok (.iadd, 1) := dbl_52.1.2.1.2
theorem dL_law_1242 : decode cL_law 1242 = .ok (.iaload, 1) := dbl_52.1.2.2.1
theorem dL_law_1243 : decode cL_law 1243 = .ok (.invokevirtual 151, 3) := dbl_52.1.2.2.2
theorem dL_law_1246 : decode cL_law 1246 = .ok (.pop, 1) := dbl_52.2.1.1.1
theorem dL_law_1247 : decode cL_law 1247 = .ok (.aload_n 2, 1) := dbl_52.2.1.1.2
theorem dL_law_1248 : decode cL_law 1248 = .ok (.aload_n 0, 1) := dbl_52.2.1.2.1
theorem dL_law_1249 : decode cL_law 1249 = .ok (.iload_n 3, 1) := dbl_52.2.1.2.2
theorem dL_law_1250 : decode cL_law 1250 = .ok (.iconst 1, 1) := dbl_52.2.2.1.1
theorem dL_law_1251 : decode cL_law 1251 = .ok (.iadd, 1) := dbl_52.2.2.1.2
theorem dL_law_1252 : decode cL_law 1252 = .ok (.iaload, 1) := dbl_52.2.2.2.1
theorem dL_law_1253 : decode cL_law 1253 = .ok (.invokevirtual 154, 3) := dbl_52.2.2.2.2
theorem dbl_53 : (((((decode cL_law 1256 = .ok (.pop, 1)) ∧ (decode cL_law 1257 = .ok (.goto 236, 3))) ∧ ((decode cL_law 1260 = .ok (.aload_n 1, 1)) ∧ (decode cL_law 1261 = .ok (.invokevirtual 155, 3)))) ∧ (((decode cL_law 1264 = .ok (.pop, 1)) ∧ (decode cL_law 1265 = .ok (.aload_n 2, 1))) ∧ ((decode cL_law 1266 = .ok (.invokevirtual 158, 3)) ∧ (decode cL_law 1269 = .ok (.pop, 1))))) ∧ ((((decode cL_law 1270 = .ok (.goto 223, 3)) ∧ (decode cL_law 1273 = .ok (.aload_n 1, 1))) ∧ ((decode cL_law 1274 = .ok (.invokevirtual 159, 3)) ∧ (decode cL_law 1277 = .ok (.pop, 1)))) ∧ (((decode cL_law 1278 = .ok (.aload_n 2, 1)) ∧ (decode cL_law 1279 = .ok (.invokevirtual 162, 3))) ∧ ((decode cL_law 1282 = .ok (.pop, 1)) ∧ (decode cL_law 1283 = .ok (.goto 210, 3)))))) := by decide +kernel
theorem dL_law_1256 : decode cL_law 1256 = .ok (.pop, 1) := dbl_53.1.1.1.1
theorem dL_law_1257 : decode cL_law 1257 = .ok (.goto 236, 3) := dbl_53.1.1.1.2
theorem dL_law_1260 : decode cL_law 1260 = .ok (.aload_n 1, 1) := dbl_53.1.1.2.1
theorem dL_law_1261 : decode cL_law 1261 = .ok (.invokevirtual 155, 3) := dbl_53.1.1.2.2
theorem dL_law_1264 : decode cL_law 1264 = .ok (.pop, 1) := dbl_53.1.2.1.1
theorem dL_law_1265 : decode cL_law 1265 = .ok (.aload_n 2, 1) := dbl_53.1.2.1.2
theorem dL_law_1266 : decode cL_law 1266 = .ok (.invokevirtual 158, 3) := dbl_53.1.2.2.1
theorem dL_law_1269 : decode cL_law 1269 = .ok (.pop, 1) := dbl_53.1.2.2.2
theorem dL_law_1270 : decode cL_law 1270 = .ok (.goto 223, 3) := dbl_53.2.1.1.1
theorem dL_law_1273 : decode cL_law 1273 = .ok (.aload_n 1, 1) := dbl_53.2.1.1.2
theorem dL_law_1274 : decode cL_law 1274 = .ok (.invokevirtual 159, 3) := dbl_53.2.1.2.1
theorem dL_law_1277 : decode cL_law 1277 = .ok (.pop, 1) := dbl_53.2.1.2.2
theorem dL_law_1278 : decode cL_law 1278 = .ok (.aload_n 2, 1) := dbl_53.2.2.1.1
theorem dL_law_1279 : decode cL_law 1279 = .ok (.invokevirtual 162, 3) := dbl_53.2.2.1.2
theorem dL_law_1282 : decode cL_law 1282 = .ok (.pop, 1) := dbl_53.2.2.2.1
theorem dL_law_1283 : decode cL_law 1283 = .ok (.goto 210, 3) := dbl_53.2.2.2.2
theorem dbl_54 : (((((decode cL_law 1286 = .ok (.aload_n 1, 1)) ∧ (decode cL_law 1287 = .ok (.aload_n 0, 1))) ∧ ((decode cL_law 1288 = .ok (.iload_n 3, 1)) ∧ (decode cL_law 1289 = .ok (.iconst 1, 1)))) ∧ (((decode cL_law 1290 = .ok (.iadd, 1)) ∧ (decode cL_law 1291 = .ok (.iaload, 1))) ∧ ((decode cL_law 1292 = .ok (.aload_n 0, 1)) ∧ (decode cL_law 1293 = .ok (.iload_n 3, 1))))) ∧ ((((decode cL_law 1294 = .ok (.iconst 2, 1)) ∧ (decode cL_law 1295 = .ok (.iadd, 1))) ∧ ((decode cL_law 1296 = .ok (.iaload, 1)) ∧ (decode cL_law 1297 = .ok (.aload_n 0, 1)))) ∧ (((decode cL_law 1298 = .ok (.iload_n 3, 1)) ∧ (decode cL_law 1299 = .ok (.iconst 3, 1))) ∧ ((decode cL_law 1300 = .ok (.iadd, 1)) ∧ (decode cL_law 1301 = .ok (.iaload, 1)))))) := by decide +kernel
theorem dL_law_1286 : decode cL_law 1286 = .ok (.aload_n 1, 1) := dbl_54.1.1.1.1
theorem dL_law_1287 : decode cL_law 1287 = .ok (.aload_n 0, 1) := dbl_54.1.1.1.2
theorem dL_law_1288 : decode cL_law 1288 = .ok (.iload_n 3, 1) := dbl_54.1.1.2.1
theorem dL_law_1289 : decode cL_law 1289 = .ok (.iconst 1, 1) := dbl_54.1.1.2.2
theorem dL_law_1290 : decode cL_law 1290 = .ok (.iadd, 1) := dbl_54.1.2.1.1
theorem dL_law_1291 : decode cL_law 1291 = .ok (.iaload, 1) := dbl_54.1.2.1.2
theorem dL_law_1292 : decode cL_law 1292 = .ok (.aload_n 0, 1) := dbl_54.1.2.2.1
theorem dL_law_1293 : decode cL_law 1293 = .ok (.iload_n 3, 1) := dbl_54.1.2.2.2
theorem dL_law_1294 : decode cL_law 1294 = .ok (.iconst 2, 1) := dbl_54.2.1.1.1
theorem dL_law_1295 : decode cL_law 1295 = .ok (.iadd, 1) := dbl_54.2.1.1.2
theorem dL_law_1296 : decode cL_law 1296 = .ok (.iaload, 1) := dbl_54.2.1.2.1
theorem dL_law_1297 : decode cL_law 1297 = .ok (.aload_n 0, 1) := dbl_54.2.1.2.2
theorem dL_law_1298 : decode cL_law 1298 = .ok (.iload_n 3, 1) := dbl_54.2.2.1.1
theorem dL_law_1299 : decode cL_law 1299 = .ok (.iconst 3, 1) := dbl_54.2.2.1.2
theorem dL_law_1300 : decode cL_law 1300 = .ok (.iadd, 1) := dbl_54.2.2.2.1
theorem dL_law_1301 : decode cL_law 1301 = .ok (.iaload, 1) := dbl_54.2.2.2.2
theorem dbl_55 : (((((decode cL_law 1302 = .ok (.invokevirtual 163, 3)) ∧ (decode cL_law 1305 = .ok (.pop, 1))) ∧ ((decode cL_law 1306 = .ok (.aload_n 2, 1)) ∧ (decode cL_law 1307 = .ok (.aload_n 0, 1)))) ∧ (((decode cL_law 1308 = .ok (.iload_n 3, 1)) ∧ (decode cL_law 1309 = .ok (.iconst 1, 1))) ∧ ((decode cL_law 1310 = .ok (.iadd, 1)) ∧ (decode cL_law 1311 = .ok (.iaload, 1))))) ∧ ((((decode cL_law 1312 = .ok (.aload_n 0, 1)) ∧ (decode cL_law 1313 = .ok (.iload_n 3, 1))) ∧ ((decode cL_law 1314 = .ok (.iconst 2, 1)) ∧ (decode cL_law 1315 = .ok (.iadd, 1)))) ∧ (((decode cL_law 1316 = .ok (.iaload, 1)) ∧ (decode cL_law 1317 = .ok (.aload_n 0, 1))) ∧ ((decode cL_law 1318 = .ok (.iload_n 3, 1)) ∧ (decode cL_law 1319 = .ok (.iconst 3, 1)))))) := by decide +kernel
theorem dL_law_1302 : decode cL_law 1302 = .ok (.invokevirtual 163, 3) := dbl_55.1.1.1.1
theorem dL_law_1305 : decode cL_law 1305 = .ok (.pop, 1) := dbl_55.1.1.1.2
theorem dL_law_1306 : decode cL_law 1306 = .ok (.aload_n 2, 1) := dbl_55.1.1.2.1
theorem dL_law_1307 : decode cL_law 1307 = .ok (.aload_n 0, 1) := dbl_55.1.1.2.2
theorem dL_law_1308 : decode cL_law 1308 = .ok (.iload_n 3, 1) := dbl_55.1.2.1.1
theorem dL_law_1309 : decode cL_law 1309 = .ok (.iconst 1, 1) := dbl_55.1.2.1.2
theorem dL_law_1310 : decode cL_law 1310 = .ok (.iadd, 1) := dbl_55.1.2.2.1
theorem dL_law_1311 : decode cL_law 1311 = .ok (.iaload, 1) := dbl_55.1.2.2.2
theorem dL_law_1312 : decode cL_law 1312 = .ok (.aload_n 0, 1) := dbl_55.2.1.1.1
theorem dL_law_1313 : decode cL_law 1313 = .ok (.iload_n 3, 1) := dbl_55.2.1.1.2
theorem dL_law_1314 : decode cL_law 1314 = .ok (.iconst 2, 1) := dbl_55.2.1.2.1
theorem dL_law_1315 : decode cL_law 1315 = .ok (.iadd, 1) := dbl_55.2.1.2.2
theorem dL_law_1316 : decode cL_law 1316 = .ok (.iaload, 1) := dbl_55.2.2.1.1
theorem dL_law_1317 : decode cL_law 1317 = .ok (.aload_n 0, 1) := dbl_55.2.2.1.2
theorem dL_law_1318 : decode cL_law 1318 = .ok (.iload_n 3, 1) := dbl_55.2.2.2.1
theorem dL_law_1319 : decode cL_law 1319 = .ok (.iconst 3, 1) := dbl_55.2.2.2.2
theorem dbl_56 : (((((decode cL_law 1320 = .ok (.iadd, 1)) ∧ (decode cL_law 1321 = .ok (.iaload, 1))) ∧ ((decode cL_law 1322 = .ok (.invokevirtual 166, 3)) ∧ (decode cL_law 1325 = .ok (.pop, 1)))) ∧ (((decode cL_law 1326 = .ok (.goto 167, 3)) ∧ (decode cL_law 1329 = .ok (.aload_n 1, 1))) ∧ ((decode cL_law 1330 = .ok (.aload_n 0, 1)) ∧ (decode cL_law 1331 = .ok (.iload_n 3, 1))))) ∧ ((((decode cL_law 1332 = .ok (.iconst 1, 1)) ∧ (decode cL_law 1333 = .ok (.iadd, 1))) ∧ ((decode cL_law 1334 = .ok (.iaload, 1)) ∧ (decode cL_law 1335 = .ok (.invokevirtual 167, 3)))) ∧ (((decode cL_law 1338 = .ok (.pop, 1)) ∧ (decode cL_law 1339 = .ok (.aload_n 2, 1))) ∧ ((decode cL_law 1340 = .ok (.aload_n 0, 1)) ∧ (decode cL_law 1341 = .ok (.iload_n 3, 1)))))) := by decide +kernel
theorem dL_law_1320 : decode cL_law 1320 = .ok (.iadd, 1) := dbl_56.1.1.1.1
theorem dL_law_1321 : decode cL_law 1321 = .ok (.iaload, 1) := dbl_56.1.1.1.2
theorem dL_law_1322 : decode cL_law 1322 = .ok (.invokevirtual 166, 3) := dbl_56.1.1.2.1
theorem dL_law_1325 : decode cL_law 1325 = .ok (.pop, 1) := dbl_56.1.1.2.2
theorem dL_law_1326 : decode cL_law 1326 = .ok (.goto 167, 3) := dbl_56.1.2.1.1
theorem dL_law_1329 : decode cL_law 1329 = .ok (.aload_n 1, 1) := dbl_56.1.2.1.2
theorem dL_law_1330 : decode cL_law 1330 = .ok (.aload_n 0, 1) := dbl_56.1.2.2.1
theorem dL_law_1331 : decode cL_law 1331 = .ok (.iload_n 3, 1) := dbl_56.1.2.2.2
theorem dL_law_1332 : decode cL_law 1332 = .ok (.iconst 1, 1) := dbl_56.2.1.1.1
theorem dL_law_1333 : decode cL_law 1333 = .ok (.iadd, 1) := dbl_56.2.1.1.2
theorem dL_law_1334 : decode cL_law 1334 = .ok (.iaload, 1) := dbl_56.2.1.2.1
theorem dL_law_1335 : decode cL_law 1335 = .ok (.invokevirtual 167, 3) := dbl_56.2.1.2.2
theorem dL_law_1338 : decode cL_law 1338 = .ok (.pop, 1) := dbl_56.2.2.1.1
theorem dL_law_1339 : decode cL_law 1339 = .ok (.aload_n 2, 1) := dbl_56.2.2.1.2
theorem dL_law_1340 : decode cL_law 1340 = .ok (.aload_n 0, 1) := dbl_56.2.2.2.1
theorem dL_law_1341 : decode cL_law 1341 = .ok (.iload_n 3, 1) := dbl_56.2.2.2.2
theorem dbl_57 : (((((decode cL_law 1342 = .ok (.iconst 1, 1)) ∧ (decode cL_law 1343 = .ok (.iadd, 1))) ∧ ((decode cL_law 1344 = .ok (.iaload, 1)) ∧ (decode cL_law 1345 = .ok (.invokevirtual 170, 3)))) ∧ (((decode cL_law 1348 = .ok (.pop, 1)) ∧ (decode cL_law 1349 = .ok (.goto 144, 3))) ∧ ((decode cL_law 1352 = .ok (.aload_n 1, 1)) ∧ (decode cL_law 1353 = .ok (.aload_n 0, 1))))) ∧ ((((decode cL_law 1354 = .ok (.iload_n 3, 1)) ∧ (decode cL_law 1355 = .ok (.iconst 1, 1))) ∧ ((decode cL_law 1356 = .ok (.iadd, 1)) ∧ (decode cL_law 1357 = .ok (.iaload, 1)))) ∧ (((decode cL_law 1358 = .ok (.invokevirtual 171, 3)) ∧ (decode cL_law 1361 = .ok (.pop, 1))) ∧ ((decode cL_law 1362 = .ok (.aload_n 2, 1)) ∧ (decode cL_law 1363 = .ok (.aload_n 0, 1)))))) := by decide +kernel
theorem dL_law_1342 : decode cL_law 1342 = .ok (.iconst 1, 1) := dbl_57.1.1.1.1
theorem dL_law_1343 : decode cL_law 1343 = .ok (.iadd, 1) := dbl_57.1.1.1.2
theorem dL_law_1344 : decode cL_law 1344 = .ok (.iaload, 1) := dbl_57.1.1.2.1
theorem dL_law_1345 : decode cL_law 1345 = .ok (.invokevirtual 170, 3) := dbl_57.1.1.2.2
theorem dL_law_1348 : decode cL_law 1348 = .ok (.pop, 1) := dbl_57.1.2.1.1
theorem dL_law_1349 : decode cL_law 1349 = .ok (.goto 144, 3) := dbl_57.1.2.1.2
theorem dL_law_1352 : decode cL_law 1352 = .ok (.aload_n 1, 1) := dbl_57.1.2.2.1
theorem dL_law_1353 : decode cL_law 1353 = .ok (.aload_n 0, 1) := dbl_57.1.2.2.2
theorem dL_law_1354 : decode cL_law 1354 = .ok (.iload_n 3, 1) := dbl_57.2.1.1.1
theorem dL_law_1355 : decode cL_law 1355 = .ok (.iconst 1, 1) := dbl_57.2.1.1.2
theorem dL_law_1356 : decode cL_law 1356 = .ok (.iadd, 1) := dbl_57.2.1.2.1
theorem dL_law_1357 : decode cL_law 1357 = .ok (.iaload, 1) := dbl_57.2.1.2.2
theorem dL_law_1358 : decode cL_law 1358 = .ok (.invokevirtual 171, 3) := dbl_57.2.2.1.1
theorem dL_law_1361 : decode cL_law 1361 = .ok (.pop, 1) := dbl_57.2.2.1.2
theorem dL_law_1362 : decode cL_law 1362 = .ok (.aload_n 2, 1) := dbl_57.2.2.2.1
theorem dL_law_1363 : decode cL_law 1363 = .ok (.aload_n 0, 1) := dbl_57.2.2.2.2
theorem dbl_58 : (((((decode cL_law 1364 = .ok (.iload_n 3, 1)) ∧ (decode cL_law 1365 = .ok (.iconst 1, 1))) ∧ ((decode cL_law 1366 = .ok (.iadd, 1)) ∧ (decode cL_law 1367 = .ok (.iaload, 1)))) ∧ (((decode cL_law 1368 = .ok (.invokevirtual 174, 3)) ∧ (decode cL_law 1371 = .ok (.pop, 1))) ∧ ((decode cL_law 1372 = .ok (.goto 121, 3)) ∧ (decode cL_law 1375 = .ok (.aload_n 1, 1))))) ∧ ((((decode cL_law 1376 = .ok (.invokevirtual 175, 3)) ∧ (decode cL_law 1379 = .ok (.pop, 1))) ∧ ((decode cL_law 1380 = .ok (.aload_n 2, 1)) ∧ (decode cL_law 1381 = .ok (.invokevirtual 178, 3)))) ∧ (((decode cL_law 1384 = .ok (.pop, 1)) ∧ (decode cL_law 1385 = .ok (.goto 108, 3))) ∧ ((decode cL_law 1388 = .ok (.aload_n 1, 1)) ∧ (decode cL_law 1389 = .ok (.invokevirtual 179, 3)))))) := by decide +kernel
theorem dL_law_1364 : decode cL_law 1364 = .ok (.iload_n 3, 1) := dbl_58.1.1.1.1
theorem dL_law_1365 : decode cL_law 1365 = .ok (.iconst 1, 1) := dbl_58.1.1.1.2
theorem dL_law_1366 : decode cL_law 1366 = .ok (.iadd, 1) := dbl_58.1.1.2.1
theorem dL_law_1367 : decode cL_law 1367 = .ok (.iaload, 1) := dbl_58.1.1.2.2
theorem dL_law_1368 : decode cL_law 1368 = .ok (.invokevirtual 174, 3) := dbl_58.1.2.1.1
theorem dL_law_1371 : decode cL_law 1371 = .ok (.pop, 1) := dbl_58.1.2.1.2
theorem dL_law_1372 : decode cL_law 1372 = .ok (.goto 121, 3) := dbl_58.1.2.2.1
theorem dL_law_1375 : decode cL_law 1375 = .ok (.aload_n 1, 1) := dbl_58.1.2.2.2
theorem dL_law_1376 : decode cL_law 1376 = .ok (.invokevirtual 175, 3) := dbl_58.2.1.1.1
theorem dL_law_1379 : decode cL_law 1379 = .ok (.pop, 1) := dbl_58.2.1.1.2
theorem dL_law_1380 : decode cL_law 1380 = .ok (.aload_n 2, 1) := dbl_58.2.1.2.1
theorem dL_law_1381 : decode cL_law 1381 = .ok (.invokevirtual 178, 3) := dbl_58.2.1.2.2
theorem dL_law_1384 : decode cL_law 1384 = .ok (.pop, 1) := dbl_58.2.2.1.1
theorem dL_law_1385 : decode cL_law 1385 = .ok (.goto 108, 3) := dbl_58.2.2.1.2
theorem dL_law_1388 : decode cL_law 1388 = .ok (.aload_n 1, 1) := dbl_58.2.2.2.1
theorem dL_law_1389 : decode cL_law 1389 = .ok (.invokevirtual 179, 3) := dbl_58.2.2.2.2
theorem dbl_59 : (((((decode cL_law 1392 = .ok (.pop, 1)) ∧ (decode cL_law 1393 = .ok (.aload_n 2, 1))) ∧ ((decode cL_law 1394 = .ok (.invokevirtual 182, 3)) ∧ (decode cL_law 1397 = .ok (.pop, 1)))) ∧ (((decode cL_law 1398 = .ok (.goto 95, 3)) ∧ (decode cL_law 1401 = .ok (.aload_n 1, 1))) ∧ ((decode cL_law 1402 = .ok (.aload_n 0, 1)) ∧ (decode cL_law 1403 = .ok (.iload_n 3, 1))))) ∧ ((((decode cL_law 1404 = .ok (.iconst 1, 1)) ∧ (decode cL_law 1405 = .ok (.iadd, 1))) ∧ ((decode cL_law 1406 = .ok (.iaload, 1)) ∧ (decode cL_law 1407 = .ok (.aload_n 0, 1)))) ∧ (((decode cL_law 1408 = .ok (.iload_n 3, 1)) ∧ (decode cL_law 1409 = .ok (.iconst 2, 1))) ∧ ((decode cL_law 1410 = .ok (.iadd, 1)) ∧ (decode cL_law 1411 = .ok (.iaload, 1)))))) := by decide +kernel
theorem dL_law_1392 : decode cL_law 1392 = .ok (.pop, 1) := dbl_59.1.1.1.1
theorem dL_law_1393 : decode cL_law 1393 = .ok (.aload_n 2, 1) := dbl_59.1.1.1.2
theorem dL_law_1394 : decode cL_law 1394 = .ok (.invokevirtual 182, 3) := dbl_59.1.1.2.1
theorem dL_law_1397 : decode cL_law 1397 = .ok (.pop, 1) := dbl_59.1.1.2.2
theorem dL_law_1398 : decode cL_law 1398 = .ok (.goto 95, 3) := dbl_59.1.2.1.1
theorem dL_law_1401 : decode cL_law 1401 = .ok (.aload_n 1, 1) := dbl_59.1.2.1.2
theorem dL_law_1402 : decode cL_law 1402 = .ok (.aload_n 0, 1) := dbl_59.1.2.2.1
theorem dL_law_1403 : decode cL_law 1403 = .ok (.iload_n 3, 1) := dbl_59.1.2.2.2
theorem dL_law_1404 : decode cL_law 1404 = .ok (.iconst 1, 1) := dbl_59.2.1.1.1
theorem dL_law_1405 : decode cL_law 1405 = .ok (.iadd, 1) := dbl_59.2.1.1.2
theorem dL_law_1406 : decode cL_law 1406 = .ok (.iaload, 1) := dbl_59.2.1.2.1
theorem dL_law_1407 : decode cL_law 1407 = .ok (.aload_n 0, 1) := dbl_59.2.1.2.2
theorem dL_law_1408 : decode cL_law 1408 = .ok (.iload_n 3, 1) := dbl_59.2.2.1.1
theorem dL_law_1409 : decode cL_law 1409 = .ok (.iconst 2, 1) := dbl_59.2.2.1.2
theorem dL_law_1410 : decode cL_law 1410 = .ok (.iadd, 1) := dbl_59.2.2.2.1
theorem dL_law_1411 : decode cL_law 1411 = .ok (.iaload, 1) := dbl_59.2.2.2.2
theorem dbl_60 : (((((decode cL_law 1412 = .ok (.aload_n 0, 1)) ∧ (decode cL_law 1413 = .ok (.iload_n 3, 1))) ∧ ((decode cL_law 1414 = .ok (.iconst 3, 1)) ∧ (decode cL_law 1415 = .ok (.iadd, 1)))) ∧ (((decode cL_law 1416 = .ok (.iaload, 1)) ∧ (decode cL_law 1417 = .ok (.invokevirtual 183, 3))) ∧ ((decode cL_law 1420 = .ok (.pop, 1)) ∧ (decode cL_law 1421 = .ok (.aload_n 2, 1))))) ∧ ((((decode cL_law 1422 = .ok (.aload_n 0, 1)) ∧ (decode cL_law 1423 = .ok (.iload_n 3, 1))) ∧ ((decode cL_law 1424 = .ok (.iconst 1, 1)) ∧ (decode cL_law 1425 = .ok (.iadd, 1)))) ∧ (((decode cL_law 1426 = .ok (.iaload, 1)) ∧ (decode cL_law 1427 = .ok (.aload_n 0, 1))) ∧ ((decode cL_law 1428 = .ok (.iload_n 3, 1)) ∧ (decode cL_law 1429 = .ok (.iconst 2, 1)))))) := by decide +kernel
theorem dL_law_1412 : decode cL_law 1412 = .ok (.aload_n 0, 1) := dbl_60.1.1.1.1
theorem dL_law_1413 : decode cL_law 1413 = .ok (.iload_n 3, 1) := dbl_60.1.1.1.2
theorem dL_law_1414 : decode cL_law 1414 = .ok (.iconst 3, 1) := dbl_60.1.1.2.1
theorem dL_law_1415 : decode cL_law 1415 = .ok (.iadd, 1) := dbl_60.1.1.2.2
theorem dL_law_1416 : decode cL_law 1416 = .ok (.iaload, 1) := dbl_60.1.2.1.1
theorem dL_law_1417 : decode cL_law 1417 = .ok (.invokevirtual 183, 3) := dbl_60.1.2.1.2
theorem dL_law_1420 : decode cL_law 1420 = .ok (.pop, 1) := dbl_60.1.2.2.1
theorem dL_law_1421 : decode cL_law 1421 = .ok (.aload_n 2, 1) := dbl_60.1.2.2.2
theorem dL_law_1422 : decode cL_law 1422 = .ok (.aload_n 0, 1) := dbl_60.2.1.1.1
theorem dL_law_1423 : decode cL_law 1423 = .ok (.iload_n 3, 1) := dbl_60.2.1.1.2
theorem dL_law_1424 : decode cL_law 1424 = .ok (.iconst 1, 1) := dbl_60.2.1.2.1
theorem dL_law_1425 : decode cL_law 1425 = .ok (.iadd, 1) := dbl_60.2.1.2.2
theorem dL_law_1426 : decode cL_law 1426 = .ok (.iaload, 1) := dbl_60.2.2.1.1
theorem dL_law_1427 : decode cL_law 1427 = .ok (.aload_n 0, 1) := dbl_60.2.2.1.2
theorem dL_law_1428 : decode cL_law 1428 = .ok (.iload_n 3, 1) := dbl_60.2.2.2.1
theorem dL_law_1429 : decode cL_law 1429 = .ok (.iconst 2, 1) := dbl_60.2.2.2.2
theorem dbl_61 : (((((decode cL_law 1430 = .ok (.iadd, 1)) ∧ (decode cL_law 1431 = .ok (.iaload, 1))) ∧ ((decode cL_law 1432 = .ok (.aload_n 0, 1)) ∧ (decode cL_law 1433 = .ok (.iload_n 3, 1)))) ∧ (((decode cL_law 1434 = .ok (.iconst 3, 1)) ∧ (decode cL_law 1435 = .ok (.iadd, 1))) ∧ ((decode cL_law 1436 = .ok (.iaload, 1)) ∧ (decode cL_law 1437 = .ok (.invokevirtual 186, 3))))) ∧ ((((decode cL_law 1440 = .ok (.pop, 1)) ∧ (decode cL_law 1441 = .ok (.goto 52, 3))) ∧ ((decode cL_law 1444 = .ok (.aload_n 1, 1)) ∧ (decode cL_law 1445 = .ok (.invokevirtual 187, 3)))) ∧ (((decode cL_law 1448 = .ok (.pop, 1)) ∧ (decode cL_law 1449 = .ok (.aload_n 2, 1))) ∧ ((decode cL_law 1450 = .ok (.invokevirtual 190, 3)) ∧ (decode cL_law 1453 = .ok (.pop, 1)))))) := by decide +kernel
theorem dL_law_1430 : decode cL_law 1430 = .ok (.iadd, 1) := dbl_61.1.1.1.1
theorem dL_law_1431 : decode cL_law 1431 = .ok (.iaload, 1) := dbl_61.1.1.1.2
theorem dL_law_1432 : decode cL_law 1432 = .ok (.aload_n 0, 1) := dbl_61.1.1.2.1
theorem dL_law_1433 : decode cL_law 1433 = .ok (.iload_n 3, 1) := dbl_61.1.1.2.2
theorem dL_law_1434 : decode cL_law 1434 = .ok (.iconst 3, 1) := dbl_61.1.2.1.1
theorem dL_law_1435 : decode cL_law 1435 = .ok (.iadd, 1) := dbl_61.1.2.1.2
theorem dL_law_1436 : decode cL_law 1436 = .ok (.iaload, 1) := dbl_61.1.2.2.1
theorem dL_law_1437 : decode cL_law 1437 = .ok (.invokevirtual 186, 3) := dbl_61.1.2.2.2
theorem dL_law_1440 : decode cL_law 1440 = .ok (.pop, 1) := dbl_61.2.1.1.1
theorem dL_law_1441 : decode cL_law 1441 = .ok (.goto 52, 3) := dbl_61.2.1.1.2
theorem dL_law_1444 : decode cL_law 1444 = .ok (.aload_n 1, 1) := dbl_61.2.1.2.1
theorem dL_law_1445 : decode cL_law 1445 = .ok (.invokevirtual 187, 3) := dbl_61.2.1.2.2
theorem dL_law_1448 : decode cL_law 1448 = .ok (.pop, 1) := dbl_61.2.2.1.1
theorem dL_law_1449 : decode cL_law 1449 = .ok (.aload_n 2, 1) := dbl_61.2.2.1.2
theorem dL_law_1450 : decode cL_law 1450 = .ok (.invokevirtual 190, 3) := dbl_61.2.2.2.1
theorem dL_law_1453 : decode cL_law 1453 = .ok (.pop, 1) := dbl_61.2.2.2.2
theorem dbl_62 : (((((decode cL_law 1454 = .ok (.goto 39, 3)) ∧ (decode cL_law 1457 = .ok (.aload_n 1, 1))) ∧ ((decode cL_law 1458 = .ok (.invokevirtual 191, 3)) ∧ (decode cL_law 1461 = .ok (.pop, 1)))) ∧ (((decode cL_law 1462 = .ok (.aload_n 2, 1)) ∧ (decode cL_law 1463 = .ok (.invokevirtual 194, 3))) ∧ ((decode cL_law 1466 = .ok (.pop, 1)) ∧ (decode cL_law 1467 = .ok (.goto 26, 3))))) ∧ ((((decode cL_law 1470 = .ok (.aload_n 1, 1)) ∧ (decode cL_law 1471 = .ok (.aload_n 0, 1))) ∧ ((decode cL_law 1472 = .ok (.iload_n 3, 1)) ∧ (decode cL_law 1473 = .ok (.iconst 1, 1)))) ∧ (((decode cL_law 1474 = .ok (.iadd, 1)) ∧ (decode cL_law 1475 = .ok (.iaload, 1))) ∧ ((decode cL_law 1476 = .ok (.invokevirtual 195, 3)) ∧ (decode cL_law 1479 = .ok (.pop, 1)))))) := by decide +kernel
theorem dL_law_1454 : decode cL_law 1454 = .ok (.goto 39, 3) := dbl_62.1.1.1.1
theorem dL_law_1457 : decode cL_law 1457 = .ok (.aload_n 1, 1) := dbl_62.1.1.1.2
theorem dL_law_1458 : decode cL_law 1458 = .ok (.invokevirtual 191, 3) := dbl_62.1.1.2.1
theorem dL_law_1461 : decode cL_law 1461 = .ok (.pop, 1) := dbl_62.1.1.2.2
theorem dL_law_1462 : decode cL_law 1462 = .ok (.aload_n 2, 1) := dbl_62.1.2.1.1
theorem dL_law_1463 : decode cL_law 1463 = .ok (.invokevirtual 194, 3) := dbl_62.1.2.1.2
theorem dL_law_1466 : decode cL_law 1466 = .ok (.pop, 1) := dbl_62.1.2.2.1
theorem dL_law_1467 : decode cL_law 1467 = .ok (.goto 26, 3) := dbl_62.1.2.2.2
theorem dL_law_1470 : decode cL_law 1470 = .ok (.aload_n 1, 1) := dbl_62.2.1.1.1
theorem dL_law_1471 : decode cL_law 1471 = .ok (.aload_n 0, 1) := dbl_62.2.1.1.2
theorem dL_law_1472 : decode cL_law 1472 = .ok (.iload_n 3, 1) := dbl_62.2.1.2.1
theorem dL_law_1473 : decode cL_law 1473 = .ok (.iconst 1, 1) := dbl_62.2.1.2.2
theorem dL_law_1474 : decode cL_law 1474 = .ok (.iadd, 1) := dbl_62.2.2.1.1
theorem dL_law_1475 : decode cL_law 1475 = .ok (.iaload, 1) := dbl_62.2.2.1.2
theorem dL_law_1476 : decode cL_law 1476 = .ok (.invokevirtual 195, 3) := dbl_62.2.2.2.1
theorem dL_law_1479 : decode cL_law 1479 = .ok (.pop, 1) := dbl_62.2.2.2.2
theorem dbl_63 : ((((decode cL_law 1480 = .ok (.aload_n 2, 1)) ∧ ((decode cL_law 1481 = .ok (.aload_n 0, 1)) ∧ (decode cL_law 1482 = .ok (.iload_n 3, 1)))) ∧ ((decode cL_law 1483 = .ok (.iconst 1, 1)) ∧ ((decode cL_law 1484 = .ok (.iadd, 1)) ∧ (decode cL_law 1485 = .ok (.iaload, 1))))) ∧ (((decode cL_law 1486 = .ok (.invokevirtual 198, 3)) ∧ ((decode cL_law 1489 = .ok (.pop, 1)) ∧ (decode cL_law 1490 = .ok (.goto 3, 3)))) ∧ (((decode cL_law 1493 = .ok (.iinc 3 6, 3)) ∧ (decode cL_law 1496 = .ok (.goto (-1478), 3))) ∧ ((decode cL_law 1499 = .ok (.iconst 1, 1)) ∧ (decode cL_law 1500 = .ok (.ireturn, 1)))))) := by decide +kernel
theorem dL_law_1480 : decode cL_law 1480 = .ok (.aload_n 2, 1) := dbl_63.1.1.1
theorem dL_law_1481 : decode cL_law 1481 = .ok (.aload_n 0, 1) := dbl_63.1.1.2.1
theorem dL_law_1482 : decode cL_law 1482 = .ok (.iload_n 3, 1) := dbl_63.1.1.2.2
theorem dL_law_1483 : decode cL_law 1483 = .ok (.iconst 1, 1) := dbl_63.1.2.1
theorem dL_law_1484 : decode cL_law 1484 = .ok (.iadd, 1) := dbl_63.1.2.2.1
theorem dL_law_1485 : decode cL_law 1485 = .ok (.iaload, 1) := dbl_63.1.2.2.2
theorem dL_law_1486 : decode cL_law 1486 = .ok (.invokevirtual 198, 3) := dbl_63.2.1.1
theorem dL_law_1489 : decode cL_law 1489 = .ok (.pop, 1) := dbl_63.2.1.2.1
theorem dL_law_1490 : decode cL_law 1490 = .ok (.goto 3, 3) := dbl_63.2.1.2.2
theorem dL_law_1493 : decode cL_law 1493 = .ok (.iinc 3 6, 3) := dbl_63.2.2.1.1
theorem dL_law_1496 : decode cL_law 1496 = .ok (.goto (-1478), 3) := dbl_63.2.2.1.2
theorem dL_law_1499 : decode cL_law 1499 = .ok (.iconst 1, 1) := dbl_63.2.2.2.1
theorem dL_law_1500 : decode cL_law 1500 = .ok (.ireturn, 1) := dbl_63.2.2.2.2
