set_option maxRecDepth 20000 in
set_option maxHeartbeats 4000000 in
theorem lc_road {YX YM : xY} {Z : xZ} {B : xB} {b L i : Nat} {xs : Nat → Int32} {RR : xM → xM → Prop} (hs : xs_road RR) (K : xLC YX YM Z B b L xs) (hL : L ≤ 384) (hi : i + 6 ≤ L) {σ τ : xM} (hr : RR σ τ)
    (kk : ∀ σ2 τ2, RR σ2 τ2 → xVS (xLW YX YM σ2 τ2) B 4 [(0, .ref b), (1, .ref (YX.1 0)), (2, .ref (YM.1 0)), (3, .int (nI i))] 1531 []) : xVS (xLW YX YM σ τ) B 4 [(0, .ref b), (1, .ref (YX.1 0)), (2, .ref (YM.1 0)), (3, .int (nI i))] 224 [] := by
  refine vs_aload_n (pc := 224) K.ec dL_law_224 rfl 1 rfl ?_
  refine vs_aload_n (pc := 225) K.ec dL_law_225 rfl 0 rfl ?_
  refine vs_iload_n (pc := 226) K.ec dL_law_226 rfl 3 rfl ?_
  refine vs_iconst (pc := 227) K.ec dL_law_227 ci_1 ?_
  refine vs_iadd (pc := 228) K.ec dL_law_228 ?_
  refine vs_sld (pc := 229) K dL_law_229 (j := i + 1) (by rw [← nI_add i 1]; rfl) (by omega) hL ?_
  refine vs_aload_n (pc := 230) K.ec dL_law_230 rfl 0 rfl ?_
  refine vs_iload_n (pc := 231) K.ec dL_law_231 rfl 3 rfl ?_
  refine vs_iconst (pc := 232) K.ec dL_law_232 ci_2 ?_
  refine vs_iadd (pc := 233) K.ec dL_law_233 ?_
  refine vs_sld (pc := 234) K dL_law_234 (j := i + 2) (by rw [← nI_add i 2]; rfl) (by omega) hL ?_
  obtain ⟨r, σ2, τ2, h1, h2, hr2⟩ := hs σ τ hr (xs (i + 1)) (xs (i + 2))
  refine vc_iX (pc := 235) K [.int (xs (i + 1)), .int (xs (i + 2))] [] (mX9_road h1) dL_law_235 mw_X9_road mv_X9_road kl_L_13 so_BS rfl rfl (Nat.le_of_ble_eq_true rfl) ⟨by decide, by decide⟩ ?_
  refine vs_aload_n (pc := 238) K.ec dL_law_238 rfl 2 rfl ?_
  refine vs_aload_n (pc := 239) K.ec dL_law_239 rfl 0 rfl ?_
  refine vs_iload_n (pc := 240) K.ec dL_law_240 rfl 3 rfl ?_
  refine vs_iconst (pc := 241) K.ec dL_law_241 ci_1 ?_
  refine vs_iadd (pc := 242) K.ec dL_law_242 ?_
  refine vs_sld (pc := 243) K dL_law_243 (j := i + 1) (by rw [← nI_add i 1]; rfl) (by omega) hL ?_
  refine vs_aload_n (pc := 244) K.ec dL_law_244 rfl 0 rfl ?_
  refine vs_iload_n (pc := 245) K.ec dL_law_245 rfl 3 rfl ?_
  refine vs_iconst (pc := 246) K.ec dL_law_246 ci_2 ?_
  refine vs_iadd (pc := 247) K.ec dL_law_247 ?_
  refine vs_sld (pc := 248) K dL_law_248 (j := i + 2) (by rw [← nI_add i 2]; rfl) (by omega) hL ?_
  refine vc_iM (pc := 249) K [.int (xs (i + 1)), .int (xs (i + 2))] [.int r] (mX10_road h2) dL_law_249 mw_X10_road mv_X10_road kl_L_17 so_M rfl rfl (Nat.le_of_ble_eq_true rfl) ⟨by decide, by decide⟩ ?_
  refine vs_icmp_eq (pc := 252) (tgt := 1531) K.ec dL_law_252 (by decide) (fun _ => ?_) (fun c => absurd rfl c)
  exact kk _ _ hr2
set_option maxRecDepth 20000 in
set_option maxHeartbeats 4000000 in
theorem lc_sort {YX YM : xY} {Z : xZ} {B : xB} {b L i : Nat} {xs : Nat → Int32} {RR : xM → xM → Prop} (hs : xs_sort RR) (K : xLC YX YM Z B b L xs) (hL : L ≤ 384) (hi : i + 6 ≤ L) {σ τ : xM} (hr : RR σ τ)
    (kk : ∀ σ2 τ2, RR σ2 τ2 → xVS (xLW YX YM σ2 τ2) B 4 [(0, .ref b), (1, .ref (YX.1 0)), (2, .ref (YM.1 0)), (3, .int (nI i))] 1531 []) : xVS (xLW YX YM σ τ) B 4 [(0, .ref b), (1, .ref (YX.1 0)), (2, .ref (YM.1 0)), (3, .int (nI i))] 257 [] := by
  refine vs_aload_n (pc := 257) K.ec dL_law_257 rfl 1 rfl ?_
  refine vs_aload_n (pc := 258) K.ec dL_law_258 rfl 0 rfl ?_
  refine vs_iload_n (pc := 259) K.ec dL_law_259 rfl 3 rfl ?_
  refine vs_iconst (pc := 260) K.ec dL_law_260 ci_1 ?_
  refine vs_iadd (pc := 261) K.ec dL_law_261 ?_
  refine vs_sld (pc := 262) K dL_law_262 (j := i + 1) (by rw [← nI_add i 1]; rfl) (by omega) hL ?_
  refine vs_aload_n (pc := 263) K.ec dL_law_263 rfl 0 rfl ?_
  refine vs_iload_n (pc := 264) K.ec dL_law_264 rfl 3 rfl ?_
  refine vs_iconst (pc := 265) K.ec dL_law_265 ci_2 ?_
  refine vs_iadd (pc := 266) K.ec dL_law_266 ?_
  refine vs_sld (pc := 267) K dL_law_267 (j := i + 2) (by rw [← nI_add i 2]; rfl) (by omega) hL ?_
  refine vs_aload_n (pc := 268) K.ec dL_law_268 rfl 0 rfl ?_
  refine vs_iload_n (pc := 269) K.ec dL_law_269 rfl 3 rfl ?_
  refine vs_iconst (pc := 270) K.ec dL_law_270 ci_3 ?_
  refine vs_iadd (pc := 271) K.ec dL_law_271 ?_
  refine vs_sld (pc := 272) K dL_law_272 (j := i + 3) (by rw [← nI_add i 3]; rfl) (by omega) hL ?_
  obtain ⟨r, σ2, τ2, h1, h2, hr2⟩ := hs σ τ hr (xs (i + 1)) (xs (i + 2)) (xs (i + 3))
  refine vc_iX (pc := 273) K [.int (xs (i + 1)), .int (xs (i + 2)), .int (xs (i + 3))] [] (mX9_sort h1) dL_law_273 mw_X9_sort mv_X9_sort kl_L_18 so_BS rfl rfl (Nat.le_of_ble_eq_true rfl) ⟨by decide, by decide⟩ ?_
  refine vs_aload_n (pc := 276) K.ec dL_law_276 rfl 2 rfl ?_
  refine vs_aload_n (pc := 277) K.ec dL_law_277 rfl 0 rfl ?_
  refine vs_iload_n (pc := 278) K.ec dL_law_278 rfl 3 rfl ?_
  refine vs_iconst (pc := 279) K.ec dL_law_279 ci_1 ?_
  refine vs_iadd (pc := 280) K.ec dL_law_280 ?_
  refine vs_sld (pc := 281) K dL_law_281 (j := i + 1) (by rw [← nI_add i 1]; rfl) (by omega) hL ?_
  refine vs_aload_n (pc := 282) K.ec dL_law_282 rfl 0 rfl ?_
  refine vs_iload_n (pc := 283) K.ec dL_law_283 rfl 3 rfl ?_
  refine vs_iconst (pc := 284) K.ec dL_law_284 ci_2 ?_
  refine vs_iadd (pc := 285) K.ec dL_law_285 ?_
  refine vs_sld (pc := 286) K dL_law_286 (j := i + 2) (by rw [← nI_add i 2]; rfl) (by omega) hL ?_
  refine vs_aload_n (pc := 287) K.ec dL_law_287 rfl 0 rfl ?_
  refine vs_iload_n (pc := 288) K.ec dL_law_288 rfl 3 rfl ?_
  refine vs_iconst (pc := 289) K.ec dL_law_289 ci_3 ?_
  refine vs_iadd (pc := 290) K.ec dL_law_290 ?_
  refine vs_sld (pc := 291) K dL_law_291 (j := i + 3) (by rw [← nI_add i 3]; rfl) (by omega) hL ?_
  refine vc_iM (pc := 292) K [.int (xs (i + 1)), .int (xs (i + 2)), .int (xs (i + 3))] [.int r] (mX10_sort h2) dL_law_292 mw_X10_sort mv_X10_sort kl_L_22 so_M rfl rfl (Nat.le_of_ble_eq_true rfl) ⟨by decide, by decide⟩ ?_
  refine vs_icmp_eq (pc := 295) (tgt := 1531) K.ec dL_law_295 (by decide) (fun _ => ?_) (fun c => absurd rfl c)
  exact kk _ _ hr2
set_option maxRecDepth 20000 in
set_option maxHeartbeats 4000000 in
theorem lc_car {YX YM : xY} {Z : xZ} {B : xB} {b L i : Nat} {xs : Nat → Int32} {RR : xM → xM → Prop} (hs : xs_car RR) (K : xLC YX YM Z B b L xs) (hL : L ≤ 384) (hi : i + 6 ≤ L) {σ τ : xM} (hr : RR σ τ)
    (kk : ∀ σ2 τ2, RR σ2 τ2 → xVS (xLW YX YM σ2 τ2) B 4 [(0, .ref b), (1, .ref (YX.1 0)), (2, .ref (YM.1 0)), (3, .int (nI i))] 1531 []) : xVS (xLW YX YM σ τ) B 4 [(0, .ref b), (1, .ref (YX.1 0)), (2, .ref (YM.1 0)), (3, .int (nI i))] 300 [] := by
  refine vs_aload_n (pc := 300) K.ec dL_law_300 rfl 1 rfl ?_
  refine vs_aload_n (pc := 301) K.ec dL_law_301 rfl 0 rfl ?_
  refine vs_iload_n (pc := 302) K.ec dL_law_302 rfl 3 rfl ?_
  refine vs_iconst (pc := 303) K.ec dL_law_303 ci_1 ?_
  refine vs_iadd (pc := 304) K.ec dL_law_304 ?_
  refine vs_sld (pc := 305) K dL_law_305 (j := i + 1) (by rw [← nI_add i 1]; rfl) (by omega) hL ?_
  refine vs_aload_n (pc := 306) K.ec dL_law_306 rfl 0 rfl ?_
  refine vs_iload_n (pc := 307) K.ec dL_law_307 rfl 3 rfl ?_
  refine vs_iconst (pc := 308) K.ec dL_law_308 ci_2 ?_
  refine vs_iadd (pc := 309) K.ec dL_law_309 ?_
  refine vs_sld (pc := 310) K dL_law_310 (j := i + 2) (by rw [← nI_add i 2]; rfl) (by omega) hL ?_
  obtain ⟨r, σ2, τ2, h1, h2, hr2⟩ := hs σ τ hr (xs (i + 1)) (xs (i + 2))
  refine vc_iX (pc := 311) K [.int (xs (i + 1)), .int (xs (i + 2))] [] (mX9_car h1) dL_law_311 mw_X9_car mv_X9_car kl_L_23 so_BS rfl rfl (Nat.le_of_ble_eq_true rfl) ⟨by decide, by decide⟩ ?_
  refine vs_aload_n (pc := 314) K.ec dL_law_314 rfl 2 rfl ?_
  refine vs_aload_n (pc := 315) K.ec dL_law_315 rfl 0 rfl ?_
  refine vs_iload_n (pc := 316) K.ec dL_law_316 rfl 3 rfl ?_
  refine vs_iconst (pc := 317) K.ec dL_law_317 ci_1 ?_
  refine vs_iadd (pc := 318) K.ec dL_law_318 ?_
  refine vs_sld (pc := 319) K dL_law_319 (j := i + 1) (by rw [← nI_add i 1]; rfl) (by omega) hL ?_
  refine vs_aload_n (pc := 320) K.ec dL_law_320 rfl 0 rfl ?_
  refine vs_iload_n (pc := 321) K.ec dL_law_321 rfl 3 rfl ?_
  refine vs_iconst (pc := 322) K.ec dL_law_322 ci_2 ?_
  refine vs_iadd (pc := 323) K.ec dL_law_323 ?_
  refine vs_sld (pc := 324) K dL_law_324 (j := i + 2) (by rw [← nI_add i 2]; rfl) (by omega) hL ?_
  refine vc_iM (pc := 325) K [.int (xs (i + 1)), .int (xs (i + 2))] [.int r] (mX10_car h2) dL_law_325 mw_X10_car mv_X10_car kl_L_26 so_M rfl rfl (Nat.le_of_ble_eq_true rfl) ⟨by decide, by decide⟩ ?_
  refine vs_icmp_eq (pc := 328) (tgt := 1531) K.ec dL_law_328 (by decide) (fun _ => ?_) (fun c => absurd rfl c)
  exact kk _ _ hr2
set_option maxRecDepth 20000 in
set_option maxHeartbeats 4000000 in
theorem lc_walks {YX YM : xY} {Z : xZ} {B : xB} {b L i : Nat} {xs : Nat → Int32} {RR : xM → xM → Prop} (hs : xs_walks RR) (K : xLC YX YM Z B b L xs) (hL : L ≤ 384) (hi : i + 6 ≤ L) {σ τ : xM} (hr : RR σ τ)
    (kk : ∀ σ2 τ2, RR σ2 τ2 → xVS (xLW YX YM σ2 τ2) B 4 [(0, .ref b), (1, .ref (YX.1 0)), (2, .ref (YM.1 0)), (3, .int (nI i))] 1531 []) : xVS (xLW YX YM σ τ) B 4 [(0, .ref b), (1, .ref (YX.1 0)), (2, .ref (YM.1 0)), (3, .int (nI i))] 333 [] := by
  refine vs_aload_n (pc := 333) K.ec dL_law_333 rfl 1 rfl ?_
  refine vs_aload_n (pc := 334) K.ec dL_law_334 rfl 0 rfl ?_
  refine vs_iload_n (pc := 335) K.ec dL_law_335 rfl 3 rfl ?_
  refine vs_iconst (pc := 336) K.ec dL_law_336 ci_1 ?_
  refine vs_iadd (pc := 337) K.ec dL_law_337 ?_
  refine vs_sld (pc := 338) K dL_law_338 (j := i + 1) (by rw [← nI_add i 1]; rfl) (by omega) hL ?_
  refine vs_aload_n (pc := 339) K.ec dL_law_339 rfl 0 rfl ?_
  refine vs_iload_n (pc := 340) K.ec dL_law_340 rfl 3 rfl ?_
  refine vs_iconst (pc := 341) K.ec dL_law_341 ci_2 ?_
  refine vs_iadd (pc := 342) K.ec dL_law_342 ?_
  refine vs_sld (pc := 343) K dL_law_343 (j := i + 2) (by rw [← nI_add i 2]; rfl) (by omega) hL ?_
  refine vs_aload_n (pc := 344) K.ec dL_law_344 rfl 0 rfl ?_
  refine vs_iload_n (pc := 345) K.ec dL_law_345 rfl 3 rfl ?_
  refine vs_iconst (pc := 346) K.ec dL_law_346 ci_3 ?_
  refine vs_iadd (pc := 347) K.ec dL_law_347 ?_
  refine vs_sld (pc := 348) K dL_law_348 (j := i + 3) (by rw [← nI_add i 3]; rfl) (by omega) hL ?_
  obtain ⟨r, σ2, τ2, h1, h2, hr2⟩ := hs σ τ hr (xs (i + 1)) (xs (i + 2)) (xs (i + 3))
  refine vc_iX (pc := 349) K [.int (xs (i + 1)), .int (xs (i + 2)), .int (xs (i + 3))] [] (mX9_walks h1) dL_law_349 mw_X9_walks mv_X9_walks kl_L_27 so_BS rfl rfl (Nat.le_of_ble_eq_true rfl) ⟨by decide, by decide⟩ ?_
  refine vs_aload_n (pc := 352) K.ec dL_law_352 rfl 2 rfl ?_
  refine vs_aload_n (pc := 353) K.ec dL_law_353 rfl 0 rfl ?_
  refine vs_iload_n (pc := 354) K.ec dL_law_354 rfl 3 rfl ?_
  refine vs_iconst (pc := 355) K.ec dL_law_355 ci_1 ?_
  refine vs_iadd (pc := 356) K.ec dL_law_356 ?_
  refine vs_sld (pc := 357) K dL_law_357 (j := i + 1) (by rw [← nI_add i 1]; rfl) (by omega) hL ?_
  refine vs_aload_n (pc := 358) K.ec dL_law_358 rfl 0 rfl ?_
  refine vs_iload_n (pc := 359) K.ec dL_law_359 rfl 3 rfl ?_
  refine vs_iconst (pc := 360) K.ec dL_law_360 ci_2 ?_
  refine vs_iadd (pc := 361) K.ec dL_law_361 ?_
  refine vs_sld (pc := 362) K dL_law_362 (j := i + 2) (by rw [← nI_add i 2]; rfl) (by omega) hL ?_
  refine vs_aload_n (pc := 363) K.ec dL_law_363 rfl 0 rfl ?_
  refine vs_iload_n (pc := 364) K.ec dL_law_364 rfl 3 rfl ?_
  refine vs_iconst (pc := 365) K.ec dL_law_365 ci_3 ?_
  refine vs_iadd (pc := 366) K.ec dL_law_366 ?_
  refine vs_sld (pc := 367) K dL_law_367 (j := i + 3) (by rw [← nI_add i 3]; rfl) (by omega) hL ?_
  refine vc_iM (pc := 368) K [.int (xs (i + 1)), .int (xs (i + 2)), .int (xs (i + 3))] [.int r] (mX10_walks h2) dL_law_368 mw_X10_walks mv_X10_walks kl_L_30 so_M rfl rfl (Nat.le_of_ble_eq_true rfl) ⟨by decide, by decide⟩ ?_
  refine vs_icmp_eq (pc := 371) (tgt := 1531) K.ec dL_law_371 (by decide) (fun _ => ?_) (fun c => absurd rfl c)
  exact kk _ _ hr2
set_option maxRecDepth 20000 in
set_option maxHeartbeats 4000000 in
theorem lc_stop {YX YM : xY} {Z : xZ} {B : xB} {b L i : Nat} {xs : Nat → Int32} {RR : xM → xM → Prop} (hs : xs_stop RR) (K : xLC YX YM Z B b L xs) (hL : L ≤ 384) (hi : i + 6 ≤ L) {σ τ : xM} (hr : RR σ τ)
    (kk : ∀ σ2 τ2, RR σ2 τ2 → xVS (xLW YX YM σ2 τ2) B 4 [(0, .ref b), (1, .ref (YX.1 0)), (2, .ref (YM.1 0)), (3, .int (nI i))] 1531 []) : xVS (xLW YX YM σ τ) B 4 [(0, .ref b), (1, .ref (YX.1 0)), (2, .ref (YM.1 0)), (3, .int (nI i))] 376 [] := by
  refine vs_aload_n (pc := 376) K.ec dL_law_376 rfl 1 rfl ?_
  refine vs_aload_n (pc := 377) K.ec dL_law_377 rfl 0 rfl ?_
  refine vs_iload_n (pc := 378) K.ec dL_law_378 rfl 3 rfl ?_
  refine vs_iconst (pc := 379) K.ec dL_law_379 ci_1 ?_
  refine vs_iadd (pc := 380) K.ec dL_law_380 ?_
  refine vs_sld (pc := 381) K dL_law_381 (j := i + 1) (by rw [← nI_add i 1]; rfl) (by omega) hL ?_
  refine vs_aload_n (pc := 382) K.ec dL_law_382 rfl 0 rfl ?_
  refine vs_iload_n (pc := 383) K.ec dL_law_383 rfl 3 rfl ?_
  refine vs_iconst (pc := 384) K.ec dL_law_384 ci_2 ?_
  refine vs_iadd (pc := 385) K.ec dL_law_385 ?_
  refine vs_sld (pc := 386) K dL_law_386 (j := i + 2) (by rw [← nI_add i 2]; rfl) (by omega) hL ?_
  refine vs_aload_n (pc := 387) K.ec dL_law_387 rfl 0 rfl ?_
  refine vs_iload_n (pc := 388) K.ec dL_law_388 rfl 3 rfl ?_
  refine vs_iconst (pc := 389) K.ec dL_law_389 ci_3 ?_
  refine vs_iadd (pc := 390) K.ec dL_law_390 ?_
  refine vs_sld (pc := 391) K dL_law_391 (j := i + 3) (by rw [← nI_add i 3]; rfl) (by omega) hL ?_
  refine vs_aload_n (pc := 392) K.ec dL_law_392 rfl 0 rfl ?_
  refine vs_iload_n (pc := 393) K.ec dL_law_393 rfl 3 rfl ?_
  refine vs_iconst (pc := 394) K.ec dL_law_394 ci_4 ?_
  refine vs_iadd (pc := 395) K.ec dL_law_395 ?_
  refine vs_sld (pc := 396) K dL_law_396 (j := i + 4) (by rw [← nI_add i 4]; rfl) (by omega) hL ?_
  obtain ⟨r, σ2, τ2, h1, h2, hr2⟩ := hs σ τ hr (xs (i + 1)) (xs (i + 2)) (xs (i + 3)) (xs (i + 4))
  refine vc_iX (pc := 397) K [.int (xs (i + 1)), .int (xs (i + 2)), .int (xs (i + 3)), .int (xs (i + 4))] [] (mX9_stop h1) dL_law_397 mw_X9_stop mv_X9_stop kl_L_31 so_BS rfl rfl (Nat.le_of_ble_eq_true rfl) ⟨by decide, by decide⟩ ?_
  refine vs_aload_n (pc := 400) K.ec dL_law_400 rfl 2 rfl ?_
  refine vs_aload_n (pc := 401) K.ec dL_law_401 rfl 0 rfl ?_
  refine vs_iload_n (pc := 402) K.ec dL_law_402 rfl 3 rfl ?_
  refine vs_iconst (pc := 403) K.ec dL_law_403 ci_1 ?_
  refine vs_iadd (pc := 404) K.ec dL_law_404 ?_
  refine vs_sld (pc := 405) K dL_law_405 (j := i + 1) (by rw [← nI_add i 1]; rfl) (by omega) hL ?_
  refine vs_aload_n (pc := 406) K.ec dL_law_406 rfl 0 rfl ?_
  refine vs_iload_n (pc := 407) K.ec dL_law_407 rfl 3 rfl ?_
  refine vs_iconst (pc := 408) K.ec dL_law_408 ci_2 ?_
  refine vs_iadd (pc := 409) K.ec dL_law_409 ?_
  refine vs_sld (pc := 410) K dL_law_410 (j := i + 2) (by rw [← nI_add i 2]; rfl) (by omega) hL ?_
  refine vs_aload_n (pc := 411) K.ec dL_law_411 rfl 0 rfl ?_
  refine vs_iload_n (pc := 412) K.ec dL_law_412 rfl 3 rfl ?_
  refine vs_iconst (pc := 413) K.ec dL_law_413 ci_3 ?_
  refine vs_iadd (pc := 414) K.ec dL_law_414 ?_
  refine vs_sld (pc := 415) K dL_law_415 (j := i + 3) (by rw [← nI_add i 3]; rfl) (by omega) hL ?_
  refine vs_aload_n (pc := 416) K.ec dL_law_416 rfl 0 rfl ?_
  refine vs_iload_n (pc := 417) K.ec dL_law_417 rfl 3 rfl ?_
  refine vs_iconst (pc := 418) K.ec dL_law_418 ci_4 ?_
  refine vs_iadd (pc := 419) K.ec dL_law_419 ?_
  refine vs_sld (pc := 420) K dL_law_420 (j := i + 4) (by rw [← nI_add i 4]; rfl) (by omega) hL ?_
  refine vc_iM (pc := 421) K [.int (xs (i + 1)), .int (xs (i + 2)), .int (xs (i + 3)), .int (xs (i + 4))] [.int r] (mX10_stop h2) dL_law_421 mw_X10_stop mv_X10_stop kl_L_35 so_M rfl rfl (Nat.le_of_ble_eq_true rfl) ⟨by decide, by decide⟩ ?_
  refine vs_icmp_eq (pc := 424) (tgt := 1531) K.ec dL_law_424 (by decide) (fun _ => ?_) (fun c => absurd rfl c)
  exact kk _ _ hr2
set_option maxRecDepth 20000 in
set_option maxHeartbeats 4000000 in
theorem lc_open {YX YM : xY} {Z : xZ} {B : xB} {b L i : Nat} {xs : Nat → Int32} {RR : xM → xM → Prop} (hs : xs_open RR) (K : xLC YX YM Z B b L xs) (hL : L ≤ 384) (hi : i + 6 ≤ L) {σ τ : xM} (hr : RR σ τ)
    (kk : ∀ σ2 τ2, RR σ2 τ2 → xVS (xLW YX YM σ2 τ2) B 4 [(0, .ref b), (1, .ref (YX.1 0)), (2, .ref (YM.1 0)), (3, .int (nI i))] 1531 []) : xVS (xLW YX YM σ τ) B 4 [(0, .ref b), (1, .ref (YX.1 0)), (2, .ref (YM.1 0)), (3, .int (nI i))] 429 [] := by
  refine vs_aload_n (pc := 429) K.ec dL_law_429 rfl 1 rfl ?_
  refine vs_aload_n (pc := 430) K.ec dL_law_430 rfl 0 rfl ?_
  refine vs_iload_n (pc := 431) K.ec dL_law_431 rfl 3 rfl ?_
  refine vs_iconst (pc := 432) K.ec dL_law_432 ci_1 ?_
  refine vs_iadd (pc := 433) K.ec dL_law_433 ?_
  refine vs_sld (pc := 434) K dL_law_434 (j := i + 1) (by rw [← nI_add i 1]; rfl) (by omega) hL ?_
  refine vs_aload_n (pc := 435) K.ec dL_law_435 rfl 0 rfl ?_
  refine vs_iload_n (pc := 436) K.ec dL_law_436 rfl 3 rfl ?_
  refine vs_iconst (pc := 437) K.ec dL_law_437 ci_2 ?_
  refine vs_iadd (pc := 438) K.ec dL_law_438 ?_
  refine vs_sld (pc := 439) K dL_law_439 (j := i + 2) (by rw [← nI_add i 2]; rfl) (by omega) hL ?_
  obtain ⟨r, σ2, τ2, h1, h2, hr2⟩ := hs σ τ hr (xs (i + 1)) (xs (i + 2))
  refine vc_iX (pc := 440) K [.int (xs (i + 1)), .int (xs (i + 2))] [] (mX9_open h1) dL_law_440 mw_X9_open mv_X9_open kl_L_36 so_BS rfl rfl (Nat.le_of_ble_eq_true rfl) ⟨by decide, by decide⟩ ?_
  refine vs_aload_n (pc := 443) K.ec dL_law_443 rfl 2 rfl ?_
  refine vs_aload_n (pc := 444) K.ec dL_law_444 rfl 0 rfl ?_
  refine vs_iload_n (pc := 445) K.ec dL_law_445 rfl 3 rfl ?_
  refine vs_iconst (pc := 446) K.ec dL_law_446 ci_1 ?_
  refine vs_iadd (pc := 447) K.ec dL_law_447 ?_
  refine vs_sld (pc := 448) K dL_law_448 (j := i + 1) (by rw [← nI_add i 1]; rfl) (by omega) hL ?_
  refine vs_aload_n (pc := 449) K.ec dL_law_449 rfl 0 rfl ?_
  refine vs_iload_n (pc := 450) K.ec dL_law_450 rfl 3 rfl ?_
  refine vs_iconst (pc := 451) K.ec dL_law_451 ci_2 ?_
  refine vs_iadd (pc := 452) K.ec dL_law_452 ?_
  refine vs_sld (pc := 453) K dL_law_453 (j := i + 2) (by rw [← nI_add i 2]; rfl) (by omega) hL ?_
  refine vc_iM (pc := 454) K [.int (xs (i + 1)), .int (xs (i + 2))] [.int r] (mX10_open h2) dL_law_454 mw_X10_open mv_X10_open kl_L_39 so_M rfl rfl (Nat.le_of_ble_eq_true rfl) ⟨by decide, by decide⟩ ?_
  refine vs_icmp_eq (pc := 457) (tgt := 1531) K.ec dL_law_457 (by decide) (fun _ => ?_) (fun c => absurd rfl c)
  exact kk _ _ hr2
set_option maxRecDepth 20000 in
set_option maxHeartbeats 4000000 in
theorem lc_want {YX YM : xY} {Z : xZ} {B : xB} {b L i : Nat} {xs : Nat → Int32} {RR : xM → xM → Prop} (hs : xs_want RR) (K : xLC YX YM Z B b L xs) (hL : L ≤ 384) (hi : i + 6 ≤ L) {σ τ : xM} (hr : RR σ τ)
    (kk : ∀ σ2 τ2, RR σ2 τ2 → xVS (xLW YX YM σ2 τ2) B 4 [(0, .ref b), (1, .ref (YX.1 0)), (2, .ref (YM.1 0)), (3, .int (nI i))] 1531 []) : xVS (xLW YX YM σ τ) B 4 [(0, .ref b), (1, .ref (YX.1 0)), (2, .ref (YM.1 0)), (3, .int (nI i))] 462 [] := by
  refine vs_aload_n (pc := 462) K.ec dL_law_462 rfl 1 rfl ?_
  refine vs_aload_n (pc := 463) K.ec dL_law_463 rfl 0 rfl ?_
  refine vs_iload_n (pc := 464) K.ec dL_law_464 rfl 3 rfl ?_
  refine vs_iconst (pc := 465) K.ec dL_law_465 ci_1 ?_
  refine vs_iadd (pc := 466) K.ec dL_law_466 ?_
  refine vs_sld (pc := 467) K dL_law_467 (j := i + 1) (by rw [← nI_add i 1]; rfl) (by omega) hL ?_
  refine vs_aload_n (pc := 468) K.ec dL_law_468 rfl 0 rfl ?_
  refine vs_iload_n (pc := 469) K.ec dL_law_469 rfl 3 rfl ?_
  refine vs_iconst (pc := 470) K.ec dL_law_470 ci_2 ?_
  refine vs_iadd (pc := 471) K.ec dL_law_471 ?_
  refine vs_sld (pc := 472) K dL_law_472 (j := i + 2) (by rw [← nI_add i 2]; rfl) (by omega) hL ?_
  obtain ⟨r, σ2, τ2, h1, h2, hr2⟩ := hs σ τ hr (xs (i + 1)) (xs (i + 2))
  refine vc_iX (pc := 473) K [.int (xs (i + 1)), .int (xs (i + 2))] [] (mX9_want h1) dL_law_473 mw_X9_want mv_X9_want kl_L_40 so_BS rfl rfl (Nat.le_of_ble_eq_true rfl) ⟨by decide, by decide⟩ ?_
  refine vs_aload_n (pc := 476) K.ec dL_law_476 rfl 2 rfl ?_
  refine vs_aload_n (pc := 477) K.ec dL_law_477 rfl 0 rfl ?_
  refine vs_iload_n (pc := 478) K.ec dL_law_478 rfl 3 rfl ?_
  refine vs_iconst (pc := 479) K.ec dL_law_479 ci_1 ?_
  refine vs_iadd (pc := 480) K.ec dL_law_480 ?_
  refine vs_sld (pc := 481) K dL_law_481 (j := i + 1) (by rw [← nI_add i 1]; rfl) (by omega) hL ?_
  refine vs_aload_n (pc := 482) K.ec dL_law_482 rfl 0 rfl ?_
  refine vs_iload_n (pc := 483) K.ec dL_law_483 rfl 3 rfl ?_
  refine vs_iconst (pc := 484) K.ec dL_law_484 ci_2 ?_
  refine vs_iadd (pc := 485) K.ec dL_law_485 ?_
  refine vs_sld (pc := 486) K dL_law_486 (j := i + 2) (by rw [← nI_add i 2]; rfl) (by omega) hL ?_
  refine vc_iM (pc := 487) K [.int (xs (i + 1)), .int (xs (i + 2))] [.int r] (mX10_want h2) dL_law_487 mw_X10_want mv_X10_want kl_L_43 so_M rfl rfl (Nat.le_of_ble_eq_true rfl) ⟨by decide, by decide⟩ ?_
  refine vs_icmp_eq (pc := 490) (tgt := 1531) K.ec dL_law_490 (by decide) (fun _ => ?_) (fun c => absurd rfl c)
  exact kk _ _ hr2
set_option maxRecDepth 20000 in
set_option maxHeartbeats 4000000 in
theorem lc_turns {YX YM : xY} {Z : xZ} {B : xB} {b L i : Nat} {xs : Nat → Int32} {RR : xM → xM → Prop} (hs : xs_turns RR) (K : xLC YX YM Z B b L xs) (hL : L ≤ 384) (hi : i + 6 ≤ L) {σ τ : xM} (hr : RR σ τ)
    (kk : ∀ σ2 τ2, RR σ2 τ2 → xVS (xLW YX YM σ2 τ2) B 4 [(0, .ref b), (1, .ref (YX.1 0)), (2, .ref (YM.1 0)), (3, .int (nI i))] 1531 []) : xVS (xLW YX YM σ τ) B 4 [(0, .ref b), (1, .ref (YX.1 0)), (2, .ref (YM.1 0)), (3, .int (nI i))] 495 [] := by
  refine vs_aload_n (pc := 495) K.ec dL_law_495 rfl 1 rfl ?_
  refine vs_aload_n (pc := 496) K.ec dL_law_496 rfl 0 rfl ?_
  refine vs_iload_n (pc := 497) K.ec dL_law_497 rfl 3 rfl ?_
  refine vs_iconst (pc := 498) K.ec dL_law_498 ci_1 ?_
  refine vs_iadd (pc := 499) K.ec dL_law_499 ?_
  refine vs_sld (pc := 500) K dL_law_500 (j := i + 1) (by rw [← nI_add i 1]; rfl) (by omega) hL ?_
  refine vs_aload_n (pc := 501) K.ec dL_law_501 rfl 0 rfl ?_
  refine vs_iload_n (pc := 502) K.ec dL_law_502 rfl 3 rfl ?_
  refine vs_iconst (pc := 503) K.ec dL_law_503 ci_2 ?_
  refine vs_iadd (pc := 504) K.ec dL_law_504 ?_
  refine vs_sld (pc := 505) K dL_law_505 (j := i + 2) (by rw [← nI_add i 2]; rfl) (by omega) hL ?_
  obtain ⟨r, σ2, τ2, h1, h2, hr2⟩ := hs σ τ hr (xs (i + 1)) (xs (i + 2))
  refine vc_iX (pc := 506) K [.int (xs (i + 1)), .int (xs (i + 2))] [] (mX9_turns h1) dL_law_506 mw_X9_turns mv_X9_turns kl_L_44 so_BS rfl rfl (Nat.le_of_ble_eq_true rfl) ⟨by decide, by decide⟩ ?_
  refine vs_aload_n (pc := 509) K.ec dL_law_509 rfl 2 rfl ?_
  refine vs_aload_n (pc := 510) K.ec dL_law_510 rfl 0 rfl ?_
  refine vs_iload_n (pc := 511) K.ec dL_law_511 rfl 3 rfl ?_
  refine vs_iconst (pc := 512) K.ec dL_law_512 ci_1 ?_
  refine vs_iadd (pc := 513) K.ec dL_law_513 ?_
  refine vs_sld (pc := 514) K dL_law_514 (j := i + 1) (by rw [← nI_add i 1]; rfl) (by omega) hL ?_
  refine vs_aload_n (pc := 515) K.ec dL_law_515 rfl 0 rfl ?_
  refine vs_iload_n (pc := 516) K.ec dL_law_516 rfl 3 rfl ?_
  refine vs_iconst (pc := 517) K.ec dL_law_517 ci_2 ?_
  refine vs_iadd (pc := 518) K.ec dL_law_518 ?_
  refine vs_sld (pc := 519) K dL_law_519 (j := i + 2) (by rw [← nI_add i 2]; rfl) (by omega) hL ?_
  refine vc_iM (pc := 520) K [.int (xs (i + 1)), .int (xs (i + 2))] [.int r] (mX10_turns h2) dL_law_520 mw_X10_turns mv_X10_turns kl_L_47 so_M rfl rfl (Nat.le_of_ble_eq_true rfl) ⟨by decide, by decide⟩ ?_
  refine vs_icmp_eq (pc := 523) (tgt := 1531) K.ec dL_law_523 (by decide) (fun _ => ?_) (fun c => absurd rfl c)
  exact kk _ _ hr2
set_option maxRecDepth 20000 in
set_option maxHeartbeats 4000000 in
theorem lc_told {YX YM : xY} {Z : xZ} {B : xB} {b L i : Nat} {xs : Nat → Int32} {RR : xM → xM → Prop} (hs : xs_told RR) (K : xLC YX YM Z B b L xs) (hL : L ≤ 384) (hi : i + 6 ≤ L) {σ τ : xM} (hr : RR σ τ)
    (kk : ∀ σ2 τ2, RR σ2 τ2 → xVS (xLW YX YM σ2 τ2) B 4 [(0, .ref b), (1, .ref (YX.1 0)), (2, .ref (YM.1 0)), (3, .int (nI i))] 1531 []) : xVS (xLW YX YM σ τ) B 4 [(0, .ref b), (1, .ref (YX.1 0)), (2, .ref (YM.1 0)), (3, .int (nI i))] 528 [] := by
  refine vs_aload_n (pc := 528) K.ec dL_law_528 rfl 1 rfl ?_
  refine vs_aload_n (pc := 529) K.ec dL_law_529 rfl 0 rfl ?_
  refine vs_iload_n (pc := 530) K.ec dL_law_530 rfl 3 rfl ?_
  refine vs_iconst (pc := 531) K.ec dL_law_531 ci_1 ?_
  refine vs_iadd (pc := 532) K.ec dL_law_532 ?_
  refine vs_sld (pc := 533) K dL_law_533 (j := i + 1) (by rw [← nI_add i 1]; rfl) (by omega) hL ?_
  refine vs_aload_n (pc := 534) K.ec dL_law_534 rfl 0 rfl ?_
  refine vs_iload_n (pc := 535) K.ec dL_law_535 rfl 3 rfl ?_
  refine vs_iconst (pc := 536) K.ec dL_law_536 ci_2 ?_
  refine vs_iadd (pc := 537) K.ec dL_law_537 ?_
  refine vs_sld (pc := 538) K dL_law_538 (j := i + 2) (by rw [← nI_add i 2]; rfl) (by omega) hL ?_
  obtain ⟨r, σ2, τ2, h1, h2, hr2⟩ := hs σ τ hr (xs (i + 1)) (xs (i + 2))
  refine vc_iX (pc := 539) K [.int (xs (i + 1)), .int (xs (i + 2))] [] (mX9_told h1) dL_law_539 mw_X9_told mv_X9_told kl_L_48 so_BS rfl rfl (Nat.le_of_ble_eq_true rfl) ⟨by decide, by decide⟩ ?_
  refine vs_aload_n (pc := 542) K.ec dL_law_542 rfl 2 rfl ?_
  refine vs_aload_n (pc := 543) K.ec dL_law_543 rfl 0 rfl ?_
  refine vs_iload_n (pc := 544) K.ec dL_law_544 rfl 3 rfl ?_
  refine vs_iconst (pc := 545) K.ec dL_law_545 ci_1 ?_
  refine vs_iadd (pc := 546) K.ec dL_law_546 ?_
  refine vs_sld (pc := 547) K dL_law_547 (j := i + 1) (by rw [← nI_add i 1]; rfl) (by omega) hL ?_
  refine vs_aload_n (pc := 548) K.ec dL_law_548 rfl 0 rfl ?_
  refine vs_iload_n (pc := 549) K.ec dL_law_549 rfl 3 rfl ?_
  refine vs_iconst (pc := 550) K.ec dL_law_550 ci_2 ?_
  refine vs_iadd (pc := 551) K.ec dL_law_551 ?_
  refine vs_sld (pc := 552) K dL_law_552 (j := i + 2) (by rw [← nI_add i 2]; rfl) (by omega) hL ?_
  refine vc_iM (pc := 553) K [.int (xs (i + 1)), .int (xs (i + 2))] [.int r] (mX10_told h2) dL_law_553 mw_X10_told mv_X10_told kl_L_51 so_M rfl rfl (Nat.le_of_ble_eq_true rfl) ⟨by decide, by decide⟩ ?_
  refine vs_icmp_eq (pc := 556) (tgt := 1531) K.ec dL_law_556 (by decide) (fun _ => ?_) (fun c => absurd rfl c)
  exact kk _ _ hr2
set_option maxRecDepth 20000 in
set_option maxHeartbeats 4000000 in
theorem lc_trip {YX YM : xY} {Z : xZ} {B : xB} {b L i : Nat} {xs : Nat → Int32} {RR : xM → xM → Prop} (hs : xs_trip RR) (K : xLC YX YM Z B b L xs) (hL : L ≤ 384) (hi : i + 6 ≤ L) {σ τ : xM} (hr : RR σ τ)
    (kk : ∀ σ2 τ2, RR σ2 τ2 → xVS (xLW YX YM σ2 τ2) B 4 [(0, .ref b), (1, .ref (YX.1 0)), (2, .ref (YM.1 0)), (3, .int (nI i))] 1531 []) : xVS (xLW YX YM σ τ) B 4 [(0, .ref b), (1, .ref (YX.1 0)), (2, .ref (YM.1 0)), (3, .int (nI i))] 561 [] := by
  refine vs_aload_n (pc := 561) K.ec dL_law_561 rfl 1 rfl ?_
  refine vs_aload_n (pc := 562) K.ec dL_law_562 rfl 0 rfl ?_
  refine vs_iload_n (pc := 563) K.ec dL_law_563 rfl 3 rfl ?_
  refine vs_iconst (pc := 564) K.ec dL_law_564 ci_1 ?_
  refine vs_iadd (pc := 565) K.ec dL_law_565 ?_
  refine vs_sld (pc := 566) K dL_law_566 (j := i + 1) (by rw [← nI_add i 1]; rfl) (by omega) hL ?_
  refine vs_aload_n (pc := 567) K.ec dL_law_567 rfl 0 rfl ?_
  refine vs_iload_n (pc := 568) K.ec dL_law_568 rfl 3 rfl ?_
  refine vs_iconst (pc := 569) K.ec dL_law_569 ci_2 ?_
  refine vs_iadd (pc := 570) K.ec dL_law_570 ?_
  refine vs_sld (pc := 571) K dL_law_571 (j := i + 2) (by rw [← nI_add i 2]; rfl) (by omega) hL ?_
  refine vs_aload_n (pc := 572) K.ec dL_law_572 rfl 0 rfl ?_
  refine vs_iload_n (pc := 573) K.ec dL_law_573 rfl 3 rfl ?_
  refine vs_iconst (pc := 574) K.ec dL_law_574 ci_3 ?_
  refine vs_iadd (pc := 575) K.ec dL_law_575 ?_
  refine vs_sld (pc := 576) K dL_law_576 (j := i + 3) (by rw [← nI_add i 3]; rfl) (by omega) hL ?_
  refine vs_aload_n (pc := 577) K.ec dL_law_577 rfl 0 rfl ?_
  refine vs_iload_n (pc := 578) K.ec dL_law_578 rfl 3 rfl ?_
  refine vs_iconst (pc := 579) K.ec dL_law_579 ci_4 ?_
  refine vs_iadd (pc := 580) K.ec dL_law_580 ?_
  refine vs_sld (pc := 581) K dL_law_581 (j := i + 4) (by rw [← nI_add i 4]; rfl) (by omega) hL ?_
  obtain ⟨r, σ2, τ2, h1, h2, hr2⟩ := hs σ τ hr (xs (i + 1)) (xs (i + 2)) (xs (i + 3)) (xs (i + 4))
  refine vc_iX (pc := 582) K [.int (xs (i + 1)), .int (xs (i + 2)), .int (xs (i + 3)), .int (xs (i + 4))] [] (mX9_trip h1) dL_law_582 mw_X9_trip mv_X9_trip kl_L_52 so_BS rfl rfl (Nat.le_of_ble_eq_true rfl) ⟨by decide, by decide⟩ ?_
  refine vs_aload_n (pc := 585) K.ec dL_law_585 rfl 2 rfl ?_
  refine vs_aload_n (pc := 586) K.ec dL_law_586 rfl 0 rfl ?_
  refine vs_iload_n (pc := 587) K.ec dL_law_587 rfl 3 rfl ?_
  refine vs_iconst (pc := 588) K.ec dL_law_588 ci_1 ?_
  refine vs_iadd (pc := 589) K.ec dL_law_589 ?_
  refine vs_sld (pc := 590) K dL_law_590 (j := i + 1) (by rw [← nI_add i 1]; rfl) (by omega) hL ?_
  refine vs_aload_n (pc := 591) K.ec dL_law_591 rfl 0 rfl ?_
  refine vs_iload_n (pc := 592) K.ec dL_law_592 rfl 3 rfl ?_
  refine vs_iconst (pc := 593) K.ec dL_law_593 ci_2 ?_
  refine vs_iadd (pc := 594) K.ec dL_law_594 ?_
  refine vs_sld (pc := 595) K dL_law_595 (j := i + 2) (by rw [← nI_add i 2]; rfl) (by omega) hL ?_
  refine vs_aload_n (pc := 596) K.ec dL_law_596 rfl 0 rfl ?_
  refine vs_iload_n (pc := 597) K.ec dL_law_597 rfl 3 rfl ?_
  refine vs_iconst (pc := 598) K.ec dL_law_598 ci_3 ?_
  refine vs_iadd (pc := 599) K.ec dL_law_599 ?_
  refine vs_sld (pc := 600) K dL_law_600 (j := i + 3) (by rw [← nI_add i 3]; rfl) (by omega) hL ?_
  refine vs_aload_n (pc := 601) K.ec dL_law_601 rfl 0 rfl ?_
  refine vs_iload_n (pc := 602) K.ec dL_law_602 rfl 3 rfl ?_
  refine vs_iconst (pc := 603) K.ec dL_law_603 ci_4 ?_
  refine vs_iadd (pc := 604) K.ec dL_law_604 ?_
  refine vs_sld (pc := 605) K dL_law_605 (j := i + 4) (by rw [← nI_add i 4]; rfl) (by omega) hL ?_
  refine vc_iM (pc := 606) K [.int (xs (i + 1)), .int (xs (i + 2)), .int (xs (i + 3)), .int (xs (i + 4))] [.int r] (mX10_trip h2) dL_law_606 mw_X10_trip mv_X10_trip kl_L_55 so_M rfl rfl (Nat.le_of_ble_eq_true rfl) ⟨by decide, by decide⟩ ?_
  refine vs_icmp_eq (pc := 609) (tgt := 1531) K.ec dL_law_609 (by decide) (fun _ => ?_) (fun c => absurd rfl c)
  exact kk _ _ hr2
set_option maxRecDepth 20000 in
set_option maxHeartbeats 4000000 in
theorem lc_count {YX YM : xY} {Z : xZ} {B : xB} {b L i : Nat} {xs : Nat → Int32} {RR : xM → xM → Prop} (hs : xs_count RR) (K : xLC YX YM Z B b L xs) (hL : L ≤ 384) (hi : i + 6 ≤ L) {σ τ : xM} (hr : RR σ τ)
    (kk : ∀ σ2 τ2, RR σ2 τ2 → xVS (xLW YX YM σ2 τ2) B 4 [(0, .ref b), (1, .ref (YX.1 0)), (2, .ref (YM.1 0)), (3, .int (nI i))] 1531 []) : xVS (xLW YX YM σ τ) B 4 [(0, .ref b), (1, .ref (YX.1 0)), (2, .ref (YM.1 0)), (3, .int (nI i))] 614 [] := by
  refine vs_aload_n (pc := 614) K.ec dL_law_614 rfl 1 rfl ?_
  refine vs_aload_n (pc := 615) K.ec dL_law_615 rfl 0 rfl ?_
  refine vs_iload_n (pc := 616) K.ec dL_law_616 rfl 3 rfl ?_
  refine vs_iconst (pc := 617) K.ec dL_law_617 ci_1 ?_
  refine vs_iadd (pc := 618) K.ec dL_law_618 ?_
  refine vs_sld (pc := 619) K dL_law_619 (j := i + 1) (by rw [← nI_add i 1]; rfl) (by omega) hL ?_
  obtain ⟨r, σ2, τ2, h1, h2, hr2⟩ := hs σ τ hr (xs (i + 1))
  refine vc_iX (pc := 620) K [.int (xs (i + 1))] [] (mX9_count h1) dL_law_620 mw_X9_count mv_X9_count kl_L_56 so_BS rfl rfl (Nat.le_of_ble_eq_true rfl) ⟨by decide, by decide⟩ ?_
  refine vs_aload_n (pc := 623) K.ec dL_law_623 rfl 2 rfl ?_
  refine vs_aload_n (pc := 624) K.ec dL_law_624 rfl 0 rfl ?_
  refine vs_iload_n (pc := 625) K.ec dL_law_625 rfl 3 rfl ?_
  refine vs_iconst (pc := 626) K.ec dL_law_626 ci_1 ?_
  refine vs_iadd (pc := 627) K.ec dL_law_627 ?_
  refine vs_sld (pc := 628) K dL_law_628 (j := i + 1) (by rw [← nI_add i 1]; rfl) (by omega) hL ?_
  refine vc_iM (pc := 629) K [.int (xs (i + 1))] [.int r] (mX10_count h2) dL_law_629 mw_X10_count mv_X10_count kl_L_60 so_M rfl rfl (Nat.le_of_ble_eq_true rfl) ⟨by decide, by decide⟩ ?_
  refine vs_icmp_eq (pc := 632) (tgt := 1531) K.ec dL_law_632 (by decide) (fun _ => ?_) (fun c => absurd rfl c)
  exact kk _ _ hr2
set_option maxRecDepth 20000 in
set_option maxHeartbeats 4000000 in
theorem lc_takes {YX YM : xY} {Z : xZ} {B : xB} {b L i : Nat} {xs : Nat → Int32} {RR : xM → xM → Prop} (hs : xs_takes RR) (K : xLC YX YM Z B b L xs) (hL : L ≤ 384) (hi : i + 6 ≤ L) {σ τ : xM} (hr : RR σ τ)
    (kk : ∀ σ2 τ2, RR σ2 τ2 → xVS (xLW YX YM σ2 τ2) B 4 [(0, .ref b), (1, .ref (YX.1 0)), (2, .ref (YM.1 0)), (3, .int (nI i))] 1531 []) : xVS (xLW YX YM σ τ) B 4 [(0, .ref b), (1, .ref (YX.1 0)), (2, .ref (YM.1 0)), (3, .int (nI i))] 637 [] := by
  refine vs_aload_n (pc := 637) K.ec dL_law_637 rfl 1 rfl ?_
  refine vs_aload_n (pc := 638) K.ec dL_law_638 rfl 0 rfl ?_
  refine vs_iload_n (pc := 639) K.ec dL_law_639 rfl 3 rfl ?_
  refine vs_iconst (pc := 640) K.ec dL_law_640 ci_1 ?_
  refine vs_iadd (pc := 641) K.ec dL_law_641 ?_
  refine vs_sld (pc := 642) K dL_law_642 (j := i + 1) (by rw [← nI_add i 1]; rfl) (by omega) hL ?_
  refine vs_aload_n (pc := 643) K.ec dL_law_643 rfl 0 rfl ?_
  refine vs_iload_n (pc := 644) K.ec dL_law_644 rfl 3 rfl ?_
  refine vs_iconst (pc := 645) K.ec dL_law_645 ci_2 ?_
  refine vs_iadd (pc := 646) K.ec dL_law_646 ?_
  refine vs_sld (pc := 647) K dL_law_647 (j := i + 2) (by rw [← nI_add i 2]; rfl) (by omega) hL ?_
  obtain ⟨r, σ2, τ2, h1, h2, hr2⟩ := hs σ τ hr (xs (i + 1)) (xs (i + 2))
  refine vc_iX (pc := 648) K [.int (xs (i + 1)), .int (xs (i + 2))] [] (mX9_takes h1) dL_law_648 mw_X9_takes mv_X9_takes kl_L_61 so_BS rfl rfl (Nat.le_of_ble_eq_true rfl) ⟨by decide, by decide⟩ ?_
  refine vs_aload_n (pc := 651) K.ec dL_law_651 rfl 2 rfl ?_
  refine vs_aload_n (pc := 652) K.ec dL_law_652 rfl 0 rfl ?_
  refine vs_iload_n (pc := 653) K.ec dL_law_653 rfl 3 rfl ?_
  refine vs_iconst (pc := 654) K.ec dL_law_654 ci_1 ?_
  refine vs_iadd (pc := 655) K.ec dL_law_655 ?_
  refine vs_sld (pc := 656) K dL_law_656 (j := i + 1) (by rw [← nI_add i 1]; rfl) (by omega) hL ?_
  refine vs_aload_n (pc := 657) K.ec dL_law_657 rfl 0 rfl ?_
  refine vs_iload_n (pc := 658) K.ec dL_law_658 rfl 3 rfl ?_
  refine vs_iconst (pc := 659) K.ec dL_law_659 ci_2 ?_
  refine vs_iadd (pc := 660) K.ec dL_law_660 ?_
  refine vs_sld (pc := 661) K dL_law_661 (j := i + 2) (by rw [← nI_add i 2]; rfl) (by omega) hL ?_
  refine vc_iM (pc := 662) K [.int (xs (i + 1)), .int (xs (i + 2))] [.int r] (mX10_takes h2) dL_law_662 mw_X10_takes mv_X10_takes kl_L_64 so_M rfl rfl (Nat.le_of_ble_eq_true rfl) ⟨by decide, by decide⟩ ?_
  refine vs_icmp_eq (pc := 665) (tgt := 1531) K.ec dL_law_665 (by decide) (fun _ => ?_) (fun c => absurd rfl c)
  exact kk _ _ hr2
set_option maxRecDepth 20000 in
set_option maxHeartbeats 4000000 in
theorem lc_sum {YX YM : xY} {Z : xZ} {B : xB} {b L i : Nat} {xs : Nat → Int32} {RR : xM → xM → Prop} (hs : xs_sum RR) (K : xLC YX YM Z B b L xs) (hL : L ≤ 384) (hi : i + 6 ≤ L) {σ τ : xM} (hr : RR σ τ)
    (kk : ∀ σ2 τ2, RR σ2 τ2 → xVS (xLW YX YM σ2 τ2) B 4 [(0, .ref b), (1, .ref (YX.1 0)), (2, .ref (YM.1 0)), (3, .int (nI i))] 1531 []) : xVS (xLW YX YM σ τ) B 4 [(0, .ref b), (1, .ref (YX.1 0)), (2, .ref (YM.1 0)), (3, .int (nI i))] 670 [] := by
  refine vs_aload_n (pc := 670) K.ec dL_law_670 rfl 1 rfl ?_
  refine vs_aload_n (pc := 671) K.ec dL_law_671 rfl 0 rfl ?_
  refine vs_iload_n (pc := 672) K.ec dL_law_672 rfl 3 rfl ?_
  refine vs_iconst (pc := 673) K.ec dL_law_673 ci_1 ?_
  refine vs_iadd (pc := 674) K.ec dL_law_674 ?_
  refine vs_sld (pc := 675) K dL_law_675 (j := i + 1) (by rw [← nI_add i 1]; rfl) (by omega) hL ?_
  obtain ⟨r, σ2, τ2, h1, h2, hr2⟩ := hs σ τ hr (xs (i + 1))
  refine vc_lX (pc := 676) K [.int (xs (i + 1))] [] (mX9_sum h1) dL_law_676 mw_X9_sum mv_X9_sum kl_L_65 so_BS rfl rfl (Nat.le_of_ble_eq_true rfl) ⟨by decide, by decide⟩ ?_
  refine vs_aload_n (pc := 679) K.ec dL_law_679 rfl 2 rfl ?_
  refine vs_aload_n (pc := 680) K.ec dL_law_680 rfl 0 rfl ?_
  refine vs_iload_n (pc := 681) K.ec dL_law_681 rfl 3 rfl ?_
  refine vs_iconst (pc := 682) K.ec dL_law_682 ci_1 ?_
  refine vs_iadd (pc := 683) K.ec dL_law_683 ?_
  refine vs_sld (pc := 684) K dL_law_684 (j := i + 1) (by rw [← nI_add i 1]; rfl) (by omega) hL ?_
  refine vc_lM (pc := 685) K [.int (xs (i + 1))] [.long r] (mX10_sum h2) dL_law_685 mw_X10_sum mv_X10_sum kl_L_69 so_M rfl rfl (Nat.le_of_ble_eq_true rfl) ⟨by decide, by decide⟩ ?_
  refine vs_lcmp (pc := 688) K.ec dL_law_688 ?_
  refine vs_if_eq (pc := 689) (tgt := 1531) K.ec dL_law_689 (by decide) (fun _ => ?_) (fun c => absurd (lcmp_refl r) c)
  exact kk _ _ hr2
set_option maxRecDepth 20000 in
set_option maxHeartbeats 4000000 in
theorem lc_use {YX YM : xY} {Z : xZ} {B : xB} {b L i : Nat} {xs : Nat → Int32} {RR : xM → xM → Prop} (hs : xs_use RR) (K : xLC YX YM Z B b L xs) (hL : L ≤ 384) (hi : i + 6 ≤ L) {σ τ : xM} (hr : RR σ τ)
    (kk : ∀ σ2 τ2, RR σ2 τ2 → xVS (xLW YX YM σ2 τ2) B 4 [(0, .ref b), (1, .ref (YX.1 0)), (2, .ref (YM.1 0)), (3, .int (nI i))] 1531 []) : xVS (xLW YX YM σ τ) B 4 [(0, .ref b), (1, .ref (YX.1 0)), (2, .ref (YM.1 0)), (3, .int (nI i))] 694 [] := by
  refine vs_aload_n (pc := 694) K.ec dL_law_694 rfl 1 rfl ?_
  refine vs_aload_n (pc := 695) K.ec dL_law_695 rfl 0 rfl ?_
  refine vs_iload_n (pc := 696) K.ec dL_law_696 rfl 3 rfl ?_
  refine vs_iconst (pc := 697) K.ec dL_law_697 ci_1 ?_
  refine vs_iadd (pc := 698) K.ec dL_law_698 ?_
  refine vs_sld (pc := 699) K dL_law_699 (j := i + 1) (by rw [← nI_add i 1]; rfl) (by omega) hL ?_
  obtain ⟨r, σ2, τ2, h1, h2, hr2⟩ := hs σ τ hr (xs (i + 1))
  refine vc_iX (pc := 700) K [.int (xs (i + 1))] [] (mX9_use h1) dL_law_700 mw_X9_use mv_X9_use kl_L_70 so_BS rfl rfl (Nat.le_of_ble_eq_true rfl) ⟨by decide, by decide⟩ ?_
  refine vs_aload_n (pc := 703) K.ec dL_law_703 rfl 2 rfl ?_
  refine vs_aload_n (pc := 704) K.ec dL_law_704 rfl 0 rfl ?_
  refine vs_iload_n (pc := 705) K.ec dL_law_705 rfl 3 rfl ?_
  refine vs_iconst (pc := 706) K.ec dL_law_706 ci_1 ?_
  refine vs_iadd (pc := 707) K.ec dL_law_707 ?_
  refine vs_sld (pc := 708) K dL_law_708 (j := i + 1) (by rw [← nI_add i 1]; rfl) (by omega) hL ?_
  refine vc_iM (pc := 709) K [.int (xs (i + 1))] [.int r] (mX10_use h2) dL_law_709 mw_X10_use mv_X10_use kl_L_73 so_M rfl rfl (Nat.le_of_ble_eq_true rfl) ⟨by decide, by decide⟩ ?_
  refine vs_icmp_eq (pc := 712) (tgt := 1531) K.ec dL_law_712 (by decide) (fun _ => ?_) (fun c => absurd rfl c)
  exact kk _ _ hr2
set_option maxRecDepth 20000 in
set_option maxHeartbeats 4000000 in
theorem lc_feed {YX YM : xY} {Z : xZ} {B : xB} {b L i : Nat} {xs : Nat → Int32} {RR : xM → xM → Prop} (hs : xs_feed RR) (K : xLC YX YM Z B b L xs) (hL : L ≤ 384) (hi : i + 6 ≤ L) {σ τ : xM} (hr : RR σ τ)
    (kk : ∀ σ2 τ2, RR σ2 τ2 → xVS (xLW YX YM σ2 τ2) B 4 [(0, .ref b), (1, .ref (YX.1 0)), (2, .ref (YM.1 0)), (3, .int (nI i))] 1531 []) : xVS (xLW YX YM σ τ) B 4 [(0, .ref b), (1, .ref (YX.1 0)), (2, .ref (YM.1 0)), (3, .int (nI i))] 717 [] := by
  refine vs_aload_n (pc := 717) K.ec dL_law_717 rfl 1 rfl ?_
  refine vs_aload_n (pc := 718) K.ec dL_law_718 rfl 0 rfl ?_
  refine vs_iload_n (pc := 719) K.ec dL_law_719 rfl 3 rfl ?_
  refine vs_iconst (pc := 720) K.ec dL_law_720 ci_1 ?_
  refine vs_iadd (pc := 721) K.ec dL_law_721 ?_
  refine vs_sld (pc := 722) K dL_law_722 (j := i + 1) (by rw [← nI_add i 1]; rfl) (by omega) hL ?_
  refine vs_i2l (pc := 723) K.ec dL_law_723 ?_
  refine vs_bipush (pc := 724) K.ec dL_law_724 cb_32 ?_
  refine vs_lshl (pc := 726) K.ec dL_law_726 ?_
  refine vs_aload_n (pc := 727) K.ec dL_law_727 rfl 0 rfl ?_
  refine vs_iload_n (pc := 728) K.ec dL_law_728 rfl 3 rfl ?_
  refine vs_iconst (pc := 729) K.ec dL_law_729 ci_2 ?_
  refine vs_iadd (pc := 730) K.ec dL_law_730 ?_
  refine vs_sld (pc := 731) K dL_law_731 (j := i + 2) (by rw [← nI_add i 2]; rfl) (by omega) hL ?_
  refine vs_i2l (pc := 732) K.ec dL_law_732 ?_
  refine vs_ldc2 (pc := 733) K dL_law_733 kK_L_74 ?_
  refine vs_land (pc := 736) K.ec dL_law_736 ?_
  refine vs_lor (pc := 737) K.ec dL_law_737 ?_
  refine vs_aload_n (pc := 738) K.ec dL_law_738 rfl 0 rfl ?_
  refine vs_iload_n (pc := 739) K.ec dL_law_739 rfl 3 rfl ?_
  refine vs_iconst (pc := 740) K.ec dL_law_740 ci_3 ?_
  refine vs_iadd (pc := 741) K.ec dL_law_741 ?_
  refine vs_sld (pc := 742) K dL_law_742 (j := i + 3) (by rw [← nI_add i 3]; rfl) (by omega) hL ?_
  obtain ⟨r, σ2, τ2, h1, h2, hr2⟩ := hs σ τ hr (((xs (i + 1)).toInt64 <<< ((32 : Int32).toInt64 &&& 63)) ||| ((xs (i + 2)).toInt64 &&& (4294967295 : Int64))) (xs (i + 3))
  refine vc_iX (pc := 743) K [.long (((xs (i + 1)).toInt64 <<< ((32 : Int32).toInt64 &&& 63)) ||| ((xs (i + 2)).toInt64 &&& (4294967295 : Int64))), .int (xs (i + 3))] [] (mX9_feed h1) dL_law_743 mw_X9_feed mv_X9_feed kl_L_76 so_BS rfl rfl (Nat.le_of_ble_eq_true rfl) ⟨by decide, by decide⟩ ?_
  refine vs_aload_n (pc := 746) K.ec dL_law_746 rfl 2 rfl ?_
  refine vs_aload_n (pc := 747) K.ec dL_law_747 rfl 0 rfl ?_
  refine vs_iload_n (pc := 748) K.ec dL_law_748 rfl 3 rfl ?_
  refine vs_iconst (pc := 749) K.ec dL_law_749 ci_1 ?_
  refine vs_iadd (pc := 750) K.ec dL_law_750 ?_
  refine vs_sld (pc := 751) K dL_law_751 (j := i + 1) (by rw [← nI_add i 1]; rfl) (by omega) hL ?_
  refine vs_i2l (pc := 752) K.ec dL_law_752 ?_
  refine vs_bipush (pc := 753) K.ec dL_law_753 cb_32 ?_
  refine vs_lshl (pc := 755) K.ec dL_law_755 ?_
  refine vs_aload_n (pc := 756) K.ec dL_law_756 rfl 0 rfl ?_
  refine vs_iload_n (pc := 757) K.ec dL_law_757 rfl 3 rfl ?_
  refine vs_iconst (pc := 758) K.ec dL_law_758 ci_2 ?_
  refine vs_iadd (pc := 759) K.ec dL_law_759 ?_
  refine vs_sld (pc := 760) K dL_law_760 (j := i + 2) (by rw [← nI_add i 2]; rfl) (by omega) hL ?_
  refine vs_i2l (pc := 761) K.ec dL_law_761 ?_
  refine vs_ldc2 (pc := 762) K dL_law_762 kK_L_74 ?_
  refine vs_land (pc := 765) K.ec dL_law_765 ?_
  refine vs_lor (pc := 766) K.ec dL_law_766 ?_
  refine vs_aload_n (pc := 767) K.ec dL_law_767 rfl 0 rfl ?_
  refine vs_iload_n (pc := 768) K.ec dL_law_768 rfl 3 rfl ?_
  refine vs_iconst (pc := 769) K.ec dL_law_769 ci_3 ?_
  refine vs_iadd (pc := 770) K.ec dL_law_770 ?_
  refine vs_sld (pc := 771) K dL_law_771 (j := i + 3) (by rw [← nI_add i 3]; rfl) (by omega) hL ?_
  refine vc_iM (pc := 772) K [.long (((xs (i + 1)).toInt64 <<< ((32 : Int32).toInt64 &&& 63)) ||| ((xs (i + 2)).toInt64 &&& (4294967295 : Int64))), .int (xs (i + 3))] [.int r] (mX10_feed h2) dL_law_772 mw_X10_feed mv_X10_feed kl_L_80 so_M rfl rfl (Nat.le_of_ble_eq_true rfl) ⟨by decide, by decide⟩ ?_
  refine vs_icmp_eq (pc := 775) (tgt := 1531) K.ec dL_law_775 (by decide) (fun _ => ?_) (fun c => absurd rfl c)
  exact kk _ _ hr2
set_option maxRecDepth 20000 in
set_option maxHeartbeats 4000000 in
theorem lc_text {YX YM : xY} {Z : xZ} {B : xB} {b L i : Nat} {xs : Nat → Int32} {RR : xM → xM → Prop} (hs : xs_text RR) (K : xLC YX YM Z B b L xs) (hL : L ≤ 384) (hi : i + 6 ≤ L) {σ τ : xM} (hr : RR σ τ)
    (kk : ∀ σ2 τ2, RR σ2 τ2 → xVS (xLW YX YM σ2 τ2) B 4 [(0, .ref b), (1, .ref (YX.1 0)), (2, .ref (YM.1 0)), (3, .int (nI i))] 1531 []) : xVS (xLW YX YM σ τ) B 4 [(0, .ref b), (1, .ref (YX.1 0)), (2, .ref (YM.1 0)), (3, .int (nI i))] 780 [] := by
  refine vs_aload_n (pc := 780) K.ec dL_law_780 rfl 1 rfl ?_
  obtain ⟨r, σ2, τ2, h1, h2, hr2⟩ := hs σ τ hr
  refine vc_iX (pc := 781) K [] [] (mX9_text h1) dL_law_781 mw_X9_text mv_X9_text kl_L_81 so_BS rfl rfl (Nat.le_of_ble_eq_true rfl) ⟨by decide, by decide⟩ ?_
  refine vs_aload_n (pc := 784) K.ec dL_law_784 rfl 2 rfl ?_
  refine vc_iM (pc := 785) K [] [.int r] (mX10_text h2) dL_law_785 mw_X10_text mv_X10_text kl_L_85 so_M rfl rfl (Nat.le_of_ble_eq_true rfl) ⟨by decide, by decide⟩ ?_
  refine vs_icmp_eq (pc := 788) (tgt := 1531) K.ec dL_law_788 (by decide) (fun _ => ?_) (fun c => absurd rfl c)
  exact kk _ _ hr2
set_option maxRecDepth 20000 in
set_option maxHeartbeats 4000000 in
theorem lc_force {YX YM : xY} {Z : xZ} {B : xB} {b L i : Nat} {xs : Nat → Int32} {RR : xM → xM → Prop} (hs : xs_force RR) (K : xLC YX YM Z B b L xs) (hL : L ≤ 384) (hi : i + 6 ≤ L) {σ τ : xM} (hr : RR σ τ)
    (kk : ∀ σ2 τ2, RR σ2 τ2 → xVS (xLW YX YM σ2 τ2) B 4 [(0, .ref b), (1, .ref (YX.1 0)), (2, .ref (YM.1 0)), (3, .int (nI i))] 1531 []) : xVS (xLW YX YM σ τ) B 4 [(0, .ref b), (1, .ref (YX.1 0)), (2, .ref (YM.1 0)), (3, .int (nI i))] 793 [] := by
  refine vs_aload_n (pc := 793) K.ec dL_law_793 rfl 1 rfl ?_
  refine vs_aload_n (pc := 794) K.ec dL_law_794 rfl 0 rfl ?_
  refine vs_iload_n (pc := 795) K.ec dL_law_795 rfl 3 rfl ?_
  refine vs_iconst (pc := 796) K.ec dL_law_796 ci_1 ?_
  refine vs_iadd (pc := 797) K.ec dL_law_797 ?_
  refine vs_sld (pc := 798) K dL_law_798 (j := i + 1) (by rw [← nI_add i 1]; rfl) (by omega) hL ?_
  obtain ⟨r, σ2, τ2, h1, h2, hr2⟩ := hs σ τ hr (xs (i + 1))
  refine vc_iX (pc := 799) K [.int (xs (i + 1))] [] (mX9_force h1) dL_law_799 mw_X9_force mv_X9_force kl_L_86 so_BS rfl rfl (Nat.le_of_ble_eq_true rfl) ⟨by decide, by decide⟩ ?_
  refine vs_aload_n (pc := 802) K.ec dL_law_802 rfl 2 rfl ?_
  refine vs_aload_n (pc := 803) K.ec dL_law_803 rfl 0 rfl ?_
  refine vs_iload_n (pc := 804) K.ec dL_law_804 rfl 3 rfl ?_
  refine vs_iconst (pc := 805) K.ec dL_law_805 ci_1 ?_
  refine vs_iadd (pc := 806) K.ec dL_law_806 ?_
  refine vs_sld (pc := 807) K dL_law_807 (j := i + 1) (by rw [← nI_add i 1]; rfl) (by omega) hL ?_
  refine vc_iM (pc := 808) K [.int (xs (i + 1))] [.int r] (mX10_force h2) dL_law_808 mw_X10_force mv_X10_force kl_L_89 so_M rfl rfl (Nat.le_of_ble_eq_true rfl) ⟨by decide, by decide⟩ ?_
  refine vs_icmp_eq (pc := 811) (tgt := 1531) K.ec dL_law_811 (by decide) (fun _ => ?_) (fun c => absurd rfl c)
  exact kk _ _ hr2
set_option maxRecDepth 20000 in
set_option maxHeartbeats 4000000 in
theorem lc_best {YX YM : xY} {Z : xZ} {B : xB} {b L i : Nat} {xs : Nat → Int32} {RR : xM → xM → Prop} (hs : xs_best RR) (K : xLC YX YM Z B b L xs) (hL : L ≤ 384) (hi : i + 6 ≤ L) {σ τ : xM} (hr : RR σ τ)
    (kk : ∀ σ2 τ2, RR σ2 τ2 → xVS (xLW YX YM σ2 τ2) B 4 [(0, .ref b), (1, .ref (YX.1 0)), (2, .ref (YM.1 0)), (3, .int (nI i))] 1531 []) : xVS (xLW YX YM σ τ) B 4 [(0, .ref b), (1, .ref (YX.1 0)), (2, .ref (YM.1 0)), (3, .int (nI i))] 816 [] := by
  refine vs_aload_n (pc := 816) K.ec dL_law_816 rfl 1 rfl ?_
  refine vs_aload_n (pc := 817) K.ec dL_law_817 rfl 0 rfl ?_
  refine vs_iload_n (pc := 818) K.ec dL_law_818 rfl 3 rfl ?_
  refine vs_iconst (pc := 819) K.ec dL_law_819 ci_1 ?_
  refine vs_iadd (pc := 820) K.ec dL_law_820 ?_
  refine vs_sld (pc := 821) K dL_law_821 (j := i + 1) (by rw [← nI_add i 1]; rfl) (by omega) hL ?_
  obtain ⟨r, σ2, τ2, h1, h2, hr2⟩ := hs σ τ hr (xs (i + 1))
  refine vc_lX (pc := 822) K [.int (xs (i + 1))] [] (mX9_best h1) dL_law_822 mw_X9_best mv_X9_best kl_L_90 so_BS rfl rfl (Nat.le_of_ble_eq_true rfl) ⟨by decide, by decide⟩ ?_
  refine vs_aload_n (pc := 825) K.ec dL_law_825 rfl 2 rfl ?_
  refine vs_aload_n (pc := 826) K.ec dL_law_826 rfl 0 rfl ?_
  refine vs_iload_n (pc := 827) K.ec dL_law_827 rfl 3 rfl ?_
  refine vs_iconst (pc := 828) K.ec dL_law_828 ci_1 ?_
  refine vs_iadd (pc := 829) K.ec dL_law_829 ?_
  refine vs_sld (pc := 830) K dL_law_830 (j := i + 1) (by rw [← nI_add i 1]; rfl) (by omega) hL ?_
  refine vc_lM (pc := 831) K [.int (xs (i + 1))] [.long r] (mX10_best h2) dL_law_831 mw_X10_best mv_X10_best kl_L_93 so_M rfl rfl (Nat.le_of_ble_eq_true rfl) ⟨by decide, by decide⟩ ?_
  refine vs_lcmp (pc := 834) K.ec dL_law_834 ?_
  refine vs_if_eq (pc := 835) (tgt := 1531) K.ec dL_law_835 (by decide) (fun _ => ?_) (fun c => absurd (lcmp_refl r) c)
  exact kk _ _ hr2
set_option maxRecDepth 20000 in
set_option maxHeartbeats 4000000 in
theorem lc_bound {YX YM : xY} {Z : xZ} {B : xB} {b L i : Nat} {xs : Nat → Int32} {RR : xM → xM → Prop} (hs : xs_bound RR) (K : xLC YX YM Z B b L xs) (hL : L ≤ 384) (hi : i + 6 ≤ L) {σ τ : xM} (hr : RR σ τ)
    (kk : ∀ σ2 τ2, RR σ2 τ2 → xVS (xLW YX YM σ2 τ2) B 4 [(0, .ref b), (1, .ref (YX.1 0)), (2, .ref (YM.1 0)), (3, .int (nI i))] 1531 []) : xVS (xLW YX YM σ τ) B 4 [(0, .ref b), (1, .ref (YX.1 0)), (2, .ref (YM.1 0)), (3, .int (nI i))] 840 [] := by
  refine vs_aload_n (pc := 840) K.ec dL_law_840 rfl 1 rfl ?_
  refine vs_aload_n (pc := 841) K.ec dL_law_841 rfl 0 rfl ?_
  refine vs_iload_n (pc := 842) K.ec dL_law_842 rfl 3 rfl ?_
  refine vs_iconst (pc := 843) K.ec dL_law_843 ci_1 ?_
  refine vs_iadd (pc := 844) K.ec dL_law_844 ?_
  refine vs_sld (pc := 845) K dL_law_845 (j := i + 1) (by rw [← nI_add i 1]; rfl) (by omega) hL ?_
  obtain ⟨r, σ2, τ2, h1, h2, hr2⟩ := hs σ τ hr (xs (i + 1))
  refine vc_iX (pc := 846) K [.int (xs (i + 1))] [] (mX9_bound h1) dL_law_846 mw_X9_bound mv_X9_bound kl_L_94 so_BS rfl rfl (Nat.le_of_ble_eq_true rfl) ⟨by decide, by decide⟩ ?_
  refine vs_aload_n (pc := 849) K.ec dL_law_849 rfl 2 rfl ?_
  refine vs_aload_n (pc := 850) K.ec dL_law_850 rfl 0 rfl ?_
  refine vs_iload_n (pc := 851) K.ec dL_law_851 rfl 3 rfl ?_
  refine vs_iconst (pc := 852) K.ec dL_law_852 ci_1 ?_
  refine vs_iadd (pc := 853) K.ec dL_law_853 ?_
  refine vs_sld (pc := 854) K dL_law_854 (j := i + 1) (by rw [← nI_add i 1]; rfl) (by omega) hL ?_
  refine vc_iM (pc := 855) K [.int (xs (i + 1))] [.int r] (mX10_bound h2) dL_law_855 mw_X10_bound mv_X10_bound kl_L_97 so_M rfl rfl (Nat.le_of_ble_eq_true rfl) ⟨by decide, by decide⟩ ?_
  refine vs_icmp_eq (pc := 858) (tgt := 1531) K.ec dL_law_858 (by decide) (fun _ => ?_) (fun c => absurd rfl c)
  exact kk _ _ hr2
set_option maxRecDepth 20000 in
set_option maxHeartbeats 4000000 in
theorem lc_least {YX YM : xY} {Z : xZ} {B : xB} {b L i : Nat} {xs : Nat → Int32} {RR : xM → xM → Prop} (hs : xs_least RR) (K : xLC YX YM Z B b L xs) (hL : L ≤ 384) (hi : i + 6 ≤ L) {σ τ : xM} (hr : RR σ τ)
    (kk : ∀ σ2 τ2, RR σ2 τ2 → xVS (xLW YX YM σ2 τ2) B 4 [(0, .ref b), (1, .ref (YX.1 0)), (2, .ref (YM.1 0)), (3, .int (nI i))] 1531 []) : xVS (xLW YX YM σ τ) B 4 [(0, .ref b), (1, .ref (YX.1 0)), (2, .ref (YM.1 0)), (3, .int (nI i))] 863 [] := by
  refine vs_aload_n (pc := 863) K.ec dL_law_863 rfl 1 rfl ?_
  refine vs_aload_n (pc := 864) K.ec dL_law_864 rfl 0 rfl ?_
  refine vs_iload_n (pc := 865) K.ec dL_law_865 rfl 3 rfl ?_
  refine vs_iconst (pc := 866) K.ec dL_law_866 ci_1 ?_
  refine vs_iadd (pc := 867) K.ec dL_law_867 ?_
  refine vs_sld (pc := 868) K dL_law_868 (j := i + 1) (by rw [← nI_add i 1]; rfl) (by omega) hL ?_
  obtain ⟨r, σ2, τ2, h1, h2, hr2⟩ := hs σ τ hr (xs (i + 1))
  refine vc_iX (pc := 869) K [.int (xs (i + 1))] [] (mX9_least h1) dL_law_869 mw_X9_least mv_X9_least kl_L_98 so_BS rfl rfl (Nat.le_of_ble_eq_true rfl) ⟨by decide, by decide⟩ ?_
  refine vs_aload_n (pc := 872) K.ec dL_law_872 rfl 2 rfl ?_
  refine vs_aload_n (pc := 873) K.ec dL_law_873 rfl 0 rfl ?_
  refine vs_iload_n (pc := 874) K.ec dL_law_874 rfl 3 rfl ?_
  refine vs_iconst (pc := 875) K.ec dL_law_875 ci_1 ?_
  refine vs_iadd (pc := 876) K.ec dL_law_876 ?_
  refine vs_sld (pc := 877) K dL_law_877 (j := i + 1) (by rw [← nI_add i 1]; rfl) (by omega) hL ?_
  refine vc_iM (pc := 878) K [.int (xs (i + 1))] [.int r] (mX10_least h2) dL_law_878 mw_X10_least mv_X10_least kl_L_101 so_M rfl rfl (Nat.le_of_ble_eq_true rfl) ⟨by decide, by decide⟩ ?_
  refine vs_icmp_eq (pc := 881) (tgt := 1531) K.ec dL_law_881 (by decide) (fun _ => ?_) (fun c => absurd rfl c)
  exact kk _ _ hr2
set_option maxRecDepth 20000 in
set_option maxHeartbeats 4000000 in
theorem lc_fair {YX YM : xY} {Z : xZ} {B : xB} {b L i : Nat} {xs : Nat → Int32} {RR : xM → xM → Prop} (hs : xs_fair RR) (K : xLC YX YM Z B b L xs) (hL : L ≤ 384) (hi : i + 6 ≤ L) {σ τ : xM} (hr : RR σ τ)
    (kk : ∀ σ2 τ2, RR σ2 τ2 → xVS (xLW YX YM σ2 τ2) B 4 [(0, .ref b), (1, .ref (YX.1 0)), (2, .ref (YM.1 0)), (3, .int (nI i))] 1531 []) : xVS (xLW YX YM σ τ) B 4 [(0, .ref b), (1, .ref (YX.1 0)), (2, .ref (YM.1 0)), (3, .int (nI i))] 886 [] := by
  refine vs_aload_n (pc := 886) K.ec dL_law_886 rfl 1 rfl ?_
  obtain ⟨r, σ2, τ2, h1, h2, hr2⟩ := hs σ τ hr
  refine vc_iX (pc := 887) K [] [] (mX9_fair h1) dL_law_887 mw_X9_fair mv_X9_fair kl_L_102 so_BS rfl rfl (Nat.le_of_ble_eq_true rfl) ⟨by decide, by decide⟩ ?_
  refine vs_aload_n (pc := 890) K.ec dL_law_890 rfl 2 rfl ?_
  refine vc_iM (pc := 891) K [] [.int r] (mX10_fair h2) dL_law_891 mw_X10_fair mv_X10_fair kl_L_105 so_M rfl rfl (Nat.le_of_ble_eq_true rfl) ⟨by decide, by decide⟩ ?_
  refine vs_icmp_eq (pc := 894) (tgt := 1531) K.ec dL_law_894 (by decide) (fun _ => ?_) (fun c => absurd rfl c)
  exact kk _ _ hr2
set_option maxRecDepth 20000 in
set_option maxHeartbeats 4000000 in
theorem lc_fewest {YX YM : xY} {Z : xZ} {B : xB} {b L i : Nat} {xs : Nat → Int32} {RR : xM → xM → Prop} (hs : xs_fewest RR) (K : xLC YX YM Z B b L xs) (hL : L ≤ 384) (hi : i + 6 ≤ L) {σ τ : xM} (hr : RR σ τ)
    (kk : ∀ σ2 τ2, RR σ2 τ2 → xVS (xLW YX YM σ2 τ2) B 4 [(0, .ref b), (1, .ref (YX.1 0)), (2, .ref (YM.1 0)), (3, .int (nI i))] 1531 []) : xVS (xLW YX YM σ τ) B 4 [(0, .ref b), (1, .ref (YX.1 0)), (2, .ref (YM.1 0)), (3, .int (nI i))] 899 [] := by
  refine vs_aload_n (pc := 899) K.ec dL_law_899 rfl 1 rfl ?_
  refine vs_aload_n (pc := 900) K.ec dL_law_900 rfl 0 rfl ?_
  refine vs_iload_n (pc := 901) K.ec dL_law_901 rfl 3 rfl ?_
  refine vs_iconst (pc := 902) K.ec dL_law_902 ci_1 ?_
  refine vs_iadd (pc := 903) K.ec dL_law_903 ?_
  refine vs_sld (pc := 904) K dL_law_904 (j := i + 1) (by rw [← nI_add i 1]; rfl) (by omega) hL ?_
  obtain ⟨r, σ2, τ2, h1, h2, hr2⟩ := hs σ τ hr (xs (i + 1))
  refine vc_iX (pc := 905) K [.int (xs (i + 1))] [] (mX9_fewest h1) dL_law_905 mw_X9_fewest mv_X9_fewest kl_L_106 so_BS rfl rfl (Nat.le_of_ble_eq_true rfl) ⟨by decide, by decide⟩ ?_
  refine vs_aload_n (pc := 908) K.ec dL_law_908 rfl 2 rfl ?_
  refine vs_aload_n (pc := 909) K.ec dL_law_909 rfl 0 rfl ?_
  refine vs_iload_n (pc := 910) K.ec dL_law_910 rfl 3 rfl ?_
  refine vs_iconst (pc := 911) K.ec dL_law_911 ci_1 ?_
  refine vs_iadd (pc := 912) K.ec dL_law_912 ?_
  refine vs_sld (pc := 913) K dL_law_913 (j := i + 1) (by rw [← nI_add i 1]; rfl) (by omega) hL ?_
  refine vc_iM (pc := 914) K [.int (xs (i + 1))] [.int r] (mX10_fewest h2) dL_law_914 mw_X10_fewest mv_X10_fewest kl_L_109 so_M rfl rfl (Nat.le_of_ble_eq_true rfl) ⟨by decide, by decide⟩ ?_
  refine vs_icmp_eq (pc := 917) (tgt := 1531) K.ec dL_law_917 (by decide) (fun _ => ?_) (fun c => absurd rfl c)
  exact kk _ _ hr2
set_option maxRecDepth 20000 in
set_option maxHeartbeats 4000000 in
theorem lc_judge {YX YM : xY} {Z : xZ} {B : xB} {b L i : Nat} {xs : Nat → Int32} {RR : xM → xM → Prop} (hs : xs_judge RR) (K : xLC YX YM Z B b L xs) (hL : L ≤ 384) (hi : i + 6 ≤ L) {σ τ : xM} (hr : RR σ τ)
    (kk : ∀ σ2 τ2, RR σ2 τ2 → xVS (xLW YX YM σ2 τ2) B 4 [(0, .ref b), (1, .ref (YX.1 0)), (2, .ref (YM.1 0)), (3, .int (nI i))] 1531 []) : xVS (xLW YX YM σ τ) B 4 [(0, .ref b), (1, .ref (YX.1 0)), (2, .ref (YM.1 0)), (3, .int (nI i))] 922 [] := by
  refine vs_aload_n (pc := 922) K.ec dL_law_922 rfl 1 rfl ?_
  refine vs_aload_n (pc := 923) K.ec dL_law_923 rfl 0 rfl ?_
  refine vs_iload_n (pc := 924) K.ec dL_law_924 rfl 3 rfl ?_
  refine vs_iconst (pc := 925) K.ec dL_law_925 ci_1 ?_
  refine vs_iadd (pc := 926) K.ec dL_law_926 ?_
  refine vs_sld (pc := 927) K dL_law_927 (j := i + 1) (by rw [← nI_add i 1]; rfl) (by omega) hL ?_
  obtain ⟨r, σ2, τ2, h1, h2, hr2⟩ := hs σ τ hr (xs (i + 1))
  refine vc_iX (pc := 928) K [.int (xs (i + 1))] [] (mX9_judge h1) dL_law_928 mw_X9_judge mv_X9_judge kl_L_110 so_BS rfl rfl (Nat.le_of_ble_eq_true rfl) ⟨by decide, by decide⟩ ?_
  refine vs_aload_n (pc := 931) K.ec dL_law_931 rfl 2 rfl ?_
  refine vs_aload_n (pc := 932) K.ec dL_law_932 rfl 0 rfl ?_
  refine vs_iload_n (pc := 933) K.ec dL_law_933 rfl 3 rfl ?_
  refine vs_iconst (pc := 934) K.ec dL_law_934 ci_1 ?_
  refine vs_iadd (pc := 935) K.ec dL_law_935 ?_
  refine vs_sld (pc := 936) K dL_law_936 (j := i + 1) (by rw [← nI_add i 1]; rfl) (by omega) hL ?_
  refine vc_iM (pc := 937) K [.int (xs (i + 1))] [.int r] (mX10_judge h2) dL_law_937 mw_X10_judge mv_X10_judge kl_L_113 so_M rfl rfl (Nat.le_of_ble_eq_true rfl) ⟨by decide, by decide⟩ ?_
  refine vs_icmp_eq (pc := 940) (tgt := 1531) K.ec dL_law_940 (by decide) (fun _ => ?_) (fun c => absurd rfl c)
  exact kk _ _ hr2
set_option maxRecDepth 20000 in
set_option maxHeartbeats 4000000 in
theorem lc_patterns {YX YM : xY} {Z : xZ} {B : xB} {b L i : Nat} {xs : Nat → Int32} {RR : xM → xM → Prop} (hs : xs_patterns RR) (K : xLC YX YM Z B b L xs) (hL : L ≤ 384) (hi : i + 6 ≤ L) {σ τ : xM} (hr : RR σ τ)
    (kk : ∀ σ2 τ2, RR σ2 τ2 → xVS (xLW YX YM σ2 τ2) B 4 [(0, .ref b), (1, .ref (YX.1 0)), (2, .ref (YM.1 0)), (3, .int (nI i))] 1531 []) : xVS (xLW YX YM σ τ) B 4 [(0, .ref b), (1, .ref (YX.1 0)), (2, .ref (YM.1 0)), (3, .int (nI i))] 945 [] := by
  refine vs_aload_n (pc := 945) K.ec dL_law_945 rfl 1 rfl ?_
  refine vs_aload_n (pc := 946) K.ec dL_law_946 rfl 0 rfl ?_
  refine vs_iload_n (pc := 947) K.ec dL_law_947 rfl 3 rfl ?_
  refine vs_iconst (pc := 948) K.ec dL_law_948 ci_1 ?_
  refine vs_iadd (pc := 949) K.ec dL_law_949 ?_
  refine vs_sld (pc := 950) K dL_law_950 (j := i + 1) (by rw [← nI_add i 1]; rfl) (by omega) hL ?_
  obtain ⟨r, σ2, τ2, h1, h2, hr2⟩ := hs σ τ hr (xs (i + 1))
  refine vc_lX (pc := 951) K [.int (xs (i + 1))] [] (mX9_patterns h1) dL_law_951 mw_X9_patterns mv_X9_patterns kl_L_114 so_BS rfl rfl (Nat.le_of_ble_eq_true rfl) ⟨by decide, by decide⟩ ?_
  refine vs_aload_n (pc := 954) K.ec dL_law_954 rfl 2 rfl ?_
  refine vs_aload_n (pc := 955) K.ec dL_law_955 rfl 0 rfl ?_
  refine vs_iload_n (pc := 956) K.ec dL_law_956 rfl 3 rfl ?_
  refine vs_iconst (pc := 957) K.ec dL_law_957 ci_1 ?_
  refine vs_iadd (pc := 958) K.ec dL_law_958 ?_
  refine vs_sld (pc := 959) K dL_law_959 (j := i + 1) (by rw [← nI_add i 1]; rfl) (by omega) hL ?_
  refine vc_lM (pc := 960) K [.int (xs (i + 1))] [.long r] (mX10_patterns h2) dL_law_960 mw_X10_patterns mv_X10_patterns kl_L_117 so_M rfl rfl (Nat.le_of_ble_eq_true rfl) ⟨by decide, by decide⟩ ?_
  refine vs_lcmp (pc := 963) K.ec dL_law_963 ?_
  refine vs_if_eq (pc := 964) (tgt := 1531) K.ec dL_law_964 (by decide) (fun _ => ?_) (fun c => absurd (lcmp_refl r) c)
  exact kk _ _ hr2
set_option maxRecDepth 20000 in
set_option maxHeartbeats 4000000 in
theorem lc_bench {YX YM : xY} {Z : xZ} {B : xB} {b L i : Nat} {xs : Nat → Int32} {RR : xM → xM → Prop} (hs : xs_bench RR) (K : xLC YX YM Z B b L xs) (hL : L ≤ 384) (hi : i + 6 ≤ L) {σ τ : xM} (hr : RR σ τ)
    (kk : ∀ σ2 τ2, RR σ2 τ2 → xVS (xLW YX YM σ2 τ2) B 4 [(0, .ref b), (1, .ref (YX.1 0)), (2, .ref (YM.1 0)), (3, .int (nI i))] 1531 []) : xVS (xLW YX YM σ τ) B 4 [(0, .ref b), (1, .ref (YX.1 0)), (2, .ref (YM.1 0)), (3, .int (nI i))] 969 [] := by
  refine vs_aload_n (pc := 969) K.ec dL_law_969 rfl 1 rfl ?_
  refine vs_aload_n (pc := 970) K.ec dL_law_970 rfl 0 rfl ?_
  refine vs_iload_n (pc := 971) K.ec dL_law_971 rfl 3 rfl ?_
  refine vs_iconst (pc := 972) K.ec dL_law_972 ci_1 ?_
  refine vs_iadd (pc := 973) K.ec dL_law_973 ?_
  refine vs_sld (pc := 974) K dL_law_974 (j := i + 1) (by rw [← nI_add i 1]; rfl) (by omega) hL ?_
  refine vs_aload_n (pc := 975) K.ec dL_law_975 rfl 0 rfl ?_
  refine vs_iload_n (pc := 976) K.ec dL_law_976 rfl 3 rfl ?_
  refine vs_iconst (pc := 977) K.ec dL_law_977 ci_2 ?_
  refine vs_iadd (pc := 978) K.ec dL_law_978 ?_
  refine vs_sld (pc := 979) K dL_law_979 (j := i + 2) (by rw [← nI_add i 2]; rfl) (by omega) hL ?_
  obtain ⟨r, σ2, τ2, h1, h2, hr2⟩ := hs σ τ hr (xs (i + 1)) (xs (i + 2))
  refine vc_lX (pc := 980) K [.int (xs (i + 1)), .int (xs (i + 2))] [] (mX9_bench h1) dL_law_980 mw_X9_bench mv_X9_bench kl_L_118 so_BS rfl rfl (Nat.le_of_ble_eq_true rfl) ⟨by decide, by decide⟩ ?_
  refine vs_aload_n (pc := 983) K.ec dL_law_983 rfl 2 rfl ?_
  refine vs_aload_n (pc := 984) K.ec dL_law_984 rfl 0 rfl ?_
  refine vs_iload_n (pc := 985) K.ec dL_law_985 rfl 3 rfl ?_
  refine vs_iconst (pc := 986) K.ec dL_law_986 ci_1 ?_
  refine vs_iadd (pc := 987) K.ec dL_law_987 ?_
  refine vs_sld (pc := 988) K dL_law_988 (j := i + 1) (by rw [← nI_add i 1]; rfl) (by omega) hL ?_
  refine vs_aload_n (pc := 989) K.ec dL_law_989 rfl 0 rfl ?_
  refine vs_iload_n (pc := 990) K.ec dL_law_990 rfl 3 rfl ?_
  refine vs_iconst (pc := 991) K.ec dL_law_991 ci_2 ?_
  refine vs_iadd (pc := 992) K.ec dL_law_992 ?_
  refine vs_sld (pc := 993) K dL_law_993 (j := i + 2) (by rw [← nI_add i 2]; rfl) (by omega) hL ?_
  refine vc_lM (pc := 994) K [.int (xs (i + 1)), .int (xs (i + 2))] [.long r] (mX10_bench h2) dL_law_994 mw_X10_bench mv_X10_bench kl_L_122 so_M rfl rfl (Nat.le_of_ble_eq_true rfl) ⟨by decide, by decide⟩ ?_
  refine vs_lcmp (pc := 997) K.ec dL_law_997 ?_
  refine vs_if_eq (pc := 998) (tgt := 1531) K.ec dL_law_998 (by decide) (fun _ => ?_) (fun c => absurd (lcmp_refl r) c)
  exact kk _ _ hr2
set_option maxRecDepth 20000 in
set_option maxHeartbeats 4000000 in
theorem lc_give {YX YM : xY} {Z : xZ} {B : xB} {b L i : Nat} {xs : Nat → Int32} {RR : xM → xM → Prop} (hs : xs_give RR) (K : xLC YX YM Z B b L xs) (hL : L ≤ 384) (hi : i + 6 ≤ L) {σ τ : xM} (hr : RR σ τ)
    (kk : ∀ σ2 τ2, RR σ2 τ2 → xVS (xLW YX YM σ2 τ2) B 4 [(0, .ref b), (1, .ref (YX.1 0)), (2, .ref (YM.1 0)), (3, .int (nI i))] 1531 []) : xVS (xLW YX YM σ τ) B 4 [(0, .ref b), (1, .ref (YX.1 0)), (2, .ref (YM.1 0)), (3, .int (nI i))] 1003 [] := by
  refine vs_aload_n (pc := 1003) K.ec dL_law_1003 rfl 1 rfl ?_
  obtain ⟨r, σ2, τ2, h1, h2, hr2⟩ := hs σ τ hr
  refine vc_iX (pc := 1004) K [] [] (mX9_give h1) dL_law_1004 mw_X9_give mv_X9_give kl_L_123 so_BS rfl rfl (Nat.le_of_ble_eq_true rfl) ⟨by decide, by decide⟩ ?_
  refine vs_aload_n (pc := 1007) K.ec dL_law_1007 rfl 2 rfl ?_
  refine vc_iM (pc := 1008) K [] [.int r] (mX10_give h2) dL_law_1008 mw_X10_give mv_X10_give kl_L_126 so_M rfl rfl (Nat.le_of_ble_eq_true rfl) ⟨by decide, by decide⟩ ?_
  refine vs_icmp_eq (pc := 1011) (tgt := 1531) K.ec dL_law_1011 (by decide) (fun _ => ?_) (fun c => absurd rfl c)
  exact kk _ _ hr2
set_option maxRecDepth 20000 in
set_option maxHeartbeats 4000000 in
theorem lc_order {YX YM : xY} {Z : xZ} {B : xB} {b L i : Nat} {xs : Nat → Int32} {RR : xM → xM → Prop} (hs : xs_order RR) (K : xLC YX YM Z B b L xs) (hL : L ≤ 384) (hi : i + 6 ≤ L) {σ τ : xM} (hr : RR σ τ)
    (kk : ∀ σ2 τ2, RR σ2 τ2 → xVS (xLW YX YM σ2 τ2) B 4 [(0, .ref b), (1, .ref (YX.1 0)), (2, .ref (YM.1 0)), (3, .int (nI i))] 1531 []) : xVS (xLW YX YM σ τ) B 4 [(0, .ref b), (1, .ref (YX.1 0)), (2, .ref (YM.1 0)), (3, .int (nI i))] 1016 [] := by
  refine vs_aload_n (pc := 1016) K.ec dL_law_1016 rfl 1 rfl ?_
  refine vs_aload_n (pc := 1017) K.ec dL_law_1017 rfl 0 rfl ?_
  refine vs_iload_n (pc := 1018) K.ec dL_law_1018 rfl 3 rfl ?_
  refine vs_iconst (pc := 1019) K.ec dL_law_1019 ci_1 ?_
  refine vs_iadd (pc := 1020) K.ec dL_law_1020 ?_
  refine vs_sld (pc := 1021) K dL_law_1021 (j := i + 1) (by rw [← nI_add i 1]; rfl) (by omega) hL ?_
  obtain ⟨r, σ2, τ2, h1, h2, hr2⟩ := hs σ τ hr (xs (i + 1))
  refine vc_iX (pc := 1022) K [.int (xs (i + 1))] [] (mX9_order h1) dL_law_1022 mw_X9_order mv_X9_order kl_L_127 so_BS rfl rfl (Nat.le_of_ble_eq_true rfl) ⟨by decide, by decide⟩ ?_
  refine vs_aload_n (pc := 1025) K.ec dL_law_1025 rfl 2 rfl ?_
  refine vs_aload_n (pc := 1026) K.ec dL_law_1026 rfl 0 rfl ?_
  refine vs_iload_n (pc := 1027) K.ec dL_law_1027 rfl 3 rfl ?_
  refine vs_iconst (pc := 1028) K.ec dL_law_1028 ci_1 ?_
  refine vs_iadd (pc := 1029) K.ec dL_law_1029 ?_
  refine vs_sld (pc := 1030) K dL_law_1030 (j := i + 1) (by rw [← nI_add i 1]; rfl) (by omega) hL ?_
  refine vc_iM (pc := 1031) K [.int (xs (i + 1))] [.int r] (mX10_order h2) dL_law_1031 mw_X10_order mv_X10_order kl_L_130 so_M rfl rfl (Nat.le_of_ble_eq_true rfl) ⟨by decide, by decide⟩ ?_
  refine vs_icmp_eq (pc := 1034) (tgt := 1531) K.ec dL_law_1034 (by decide) (fun _ => ?_) (fun c => absurd rfl c)
  exact kk _ _ hr2
set_option maxRecDepth 20000 in
set_option maxHeartbeats 4000000 in
theorem lc_thins {YX YM : xY} {Z : xZ} {B : xB} {b L i : Nat} {xs : Nat → Int32} {RR : xM → xM → Prop} (hs : xs_thins RR) (K : xLC YX YM Z B b L xs) (hL : L ≤ 384) (hi : i + 6 ≤ L) {σ τ : xM} (hr : RR σ τ)
    (kk : ∀ σ2 τ2, RR σ2 τ2 → xVS (xLW YX YM σ2 τ2) B 4 [(0, .ref b), (1, .ref (YX.1 0)), (2, .ref (YM.1 0)), (3, .int (nI i))] 1531 []) : xVS (xLW YX YM σ τ) B 4 [(0, .ref b), (1, .ref (YX.1 0)), (2, .ref (YM.1 0)), (3, .int (nI i))] 1039 [] := by
  refine vs_aload_n (pc := 1039) K.ec dL_law_1039 rfl 1 rfl ?_
  obtain ⟨r, σ2, τ2, h1, h2, hr2⟩ := hs σ τ hr
  refine vc_iX (pc := 1040) K [] [] (mX9_thins h1) dL_law_1040 mw_X9_thins mv_X9_thins kl_L_131 so_BS rfl rfl (Nat.le_of_ble_eq_true rfl) ⟨by decide, by decide⟩ ?_
  refine vs_aload_n (pc := 1043) K.ec dL_law_1043 rfl 2 rfl ?_
  refine vc_iM (pc := 1044) K [] [.int r] (mX10_thins h2) dL_law_1044 mw_X10_thins mv_X10_thins kl_L_134 so_M rfl rfl (Nat.le_of_ble_eq_true rfl) ⟨by decide, by decide⟩ ?_
  refine vs_icmp_eq (pc := 1047) (tgt := 1531) K.ec dL_law_1047 (by decide) (fun _ => ?_) (fun c => absurd rfl c)
  exact kk _ _ hr2
set_option maxRecDepth 20000 in
set_option maxHeartbeats 4000000 in
theorem lc_across {YX YM : xY} {Z : xZ} {B : xB} {b L i : Nat} {xs : Nat → Int32} {RR : xM → xM → Prop} (hs : xs_across RR) (K : xLC YX YM Z B b L xs) (hL : L ≤ 384) (hi : i + 6 ≤ L) {σ τ : xM} (hr : RR σ τ)
    (kk : ∀ σ2 τ2, RR σ2 τ2 → xVS (xLW YX YM σ2 τ2) B 4 [(0, .ref b), (1, .ref (YX.1 0)), (2, .ref (YM.1 0)), (3, .int (nI i))] 1531 []) : xVS (xLW YX YM σ τ) B 4 [(0, .ref b), (1, .ref (YX.1 0)), (2, .ref (YM.1 0)), (3, .int (nI i))] 1052 [] := by
  refine vs_aload_n (pc := 1052) K.ec dL_law_1052 rfl 1 rfl ?_
  refine vs_aload_n (pc := 1053) K.ec dL_law_1053 rfl 0 rfl ?_
  refine vs_iload_n (pc := 1054) K.ec dL_law_1054 rfl 3 rfl ?_
  refine vs_iconst (pc := 1055) K.ec dL_law_1055 ci_1 ?_
  refine vs_iadd (pc := 1056) K.ec dL_law_1056 ?_
  refine vs_sld (pc := 1057) K dL_law_1057 (j := i + 1) (by rw [← nI_add i 1]; rfl) (by omega) hL ?_
  obtain ⟨r, σ2, τ2, h1, h2, hr2⟩ := hs σ τ hr (xs (i + 1))
  refine vc_lX (pc := 1058) K [.int (xs (i + 1))] [] (mX9_across h1) dL_law_1058 mw_X9_across mv_X9_across kl_L_135 so_BS rfl rfl (Nat.le_of_ble_eq_true rfl) ⟨by decide, by decide⟩ ?_
  refine vs_aload_n (pc := 1061) K.ec dL_law_1061 rfl 2 rfl ?_
  refine vs_aload_n (pc := 1062) K.ec dL_law_1062 rfl 0 rfl ?_
  refine vs_iload_n (pc := 1063) K.ec dL_law_1063 rfl 3 rfl ?_
  refine vs_iconst (pc := 1064) K.ec dL_law_1064 ci_1 ?_
  refine vs_iadd (pc := 1065) K.ec dL_law_1065 ?_
  refine vs_sld (pc := 1066) K dL_law_1066 (j := i + 1) (by rw [← nI_add i 1]; rfl) (by omega) hL ?_
  refine vc_lM (pc := 1067) K [.int (xs (i + 1))] [.long r] (mX10_across h2) dL_law_1067 mw_X10_across mv_X10_across kl_L_138 so_M rfl rfl (Nat.le_of_ble_eq_true rfl) ⟨by decide, by decide⟩ ?_
  refine vs_lcmp (pc := 1070) K.ec dL_law_1070 ?_
  refine vs_if_eq (pc := 1071) (tgt := 1531) K.ec dL_law_1071 (by decide) (fun _ => ?_) (fun c => absurd (lcmp_refl r) c)
  exact kk _ _ hr2
set_option maxRecDepth 20000 in
set_option maxHeartbeats 4000000 in
theorem lc_homes {YX YM : xY} {Z : xZ} {B : xB} {b L i : Nat} {xs : Nat → Int32} {RR : xM → xM → Prop} (hs : xs_homes RR) (K : xLC YX YM Z B b L xs) (hL : L ≤ 384) (hi : i + 6 ≤ L) {σ τ : xM} (hr : RR σ τ)
    (kk : ∀ σ2 τ2, RR σ2 τ2 → xVS (xLW YX YM σ2 τ2) B 4 [(0, .ref b), (1, .ref (YX.1 0)), (2, .ref (YM.1 0)), (3, .int (nI i))] 1531 []) : xVS (xLW YX YM σ τ) B 4 [(0, .ref b), (1, .ref (YX.1 0)), (2, .ref (YM.1 0)), (3, .int (nI i))] 1076 [] := by
  refine vs_aload_n (pc := 1076) K.ec dL_law_1076 rfl 1 rfl ?_
  obtain ⟨r, σ2, τ2, h1, h2, hr2⟩ := hs σ τ hr
  refine vc_iX (pc := 1077) K [] [] (mX9_homes h1) dL_law_1077 mw_X9_homes mv_X9_homes kl_L_139 so_BS rfl rfl (Nat.le_of_ble_eq_true rfl) ⟨by decide, by decide⟩ ?_
  refine vs_aload_n (pc := 1080) K.ec dL_law_1080 rfl 2 rfl ?_
  refine vc_iM (pc := 1081) K [] [.int r] (mX10_homes h2) dL_law_1081 mw_X10_homes mv_X10_homes kl_L_142 so_M rfl rfl (Nat.le_of_ble_eq_true rfl) ⟨by decide, by decide⟩ ?_
  refine vs_icmp_eq (pc := 1084) (tgt := 1531) K.ec dL_law_1084 (by decide) (fun _ => ?_) (fun c => absurd rfl c)
  exact kk _ _ hr2
set_option maxRecDepth 20000 in
set_option maxHeartbeats 4000000 in
theorem lc_round {YX YM : xY} {Z : xZ} {B : xB} {b L i : Nat} {xs : Nat → Int32} {RR : xM → xM → Prop} (hs : xs_round RR) (K : xLC YX YM Z B b L xs) (hL : L ≤ 384) (hi : i + 6 ≤ L) {σ τ : xM} (hr : RR σ τ)
    (kk : ∀ σ2 τ2, RR σ2 τ2 → xVS (xLW YX YM σ2 τ2) B 4 [(0, .ref b), (1, .ref (YX.1 0)), (2, .ref (YM.1 0)), (3, .int (nI i))] 1531 []) : xVS (xLW YX YM σ τ) B 4 [(0, .ref b), (1, .ref (YX.1 0)), (2, .ref (YM.1 0)), (3, .int (nI i))] 1089 [] := by
  refine vs_aload_n (pc := 1089) K.ec dL_law_1089 rfl 1 rfl ?_
  refine vs_aload_n (pc := 1090) K.ec dL_law_1090 rfl 0 rfl ?_
  refine vs_iload_n (pc := 1091) K.ec dL_law_1091 rfl 3 rfl ?_
  refine vs_iconst (pc := 1092) K.ec dL_law_1092 ci_1 ?_
  refine vs_iadd (pc := 1093) K.ec dL_law_1093 ?_
  refine vs_sld (pc := 1094) K dL_law_1094 (j := i + 1) (by rw [← nI_add i 1]; rfl) (by omega) hL ?_
  obtain ⟨r, σ2, τ2, h1, h2, hr2⟩ := hs σ τ hr (xs (i + 1))
  refine vc_iX (pc := 1095) K [.int (xs (i + 1))] [] (mX9_round h1) dL_law_1095 mw_X9_round mv_X9_round kl_L_143 so_BS rfl rfl (Nat.le_of_ble_eq_true rfl) ⟨by decide, by decide⟩ ?_
  refine vs_aload_n (pc := 1098) K.ec dL_law_1098 rfl 2 rfl ?_
  refine vs_aload_n (pc := 1099) K.ec dL_law_1099 rfl 0 rfl ?_
  refine vs_iload_n (pc := 1100) K.ec dL_law_1100 rfl 3 rfl ?_
  refine vs_iconst (pc := 1101) K.ec dL_law_1101 ci_1 ?_
  refine vs_iadd (pc := 1102) K.ec dL_law_1102 ?_
  refine vs_sld (pc := 1103) K dL_law_1103 (j := i + 1) (by rw [← nI_add i 1]; rfl) (by omega) hL ?_
  refine vc_iM (pc := 1104) K [.int (xs (i + 1))] [.int r] (mX10_round h2) dL_law_1104 mw_X10_round mv_X10_round kl_L_146 so_M rfl rfl (Nat.le_of_ble_eq_true rfl) ⟨by decide, by decide⟩ ?_
  refine vs_icmp_eq (pc := 1107) (tgt := 1531) K.ec dL_law_1107 (by decide) (fun _ => ?_) (fun c => absurd rfl c)
  exact kk _ _ hr2
set_option maxRecDepth 20000 in
set_option maxHeartbeats 4000000 in
theorem lc_rest {YX YM : xY} {Z : xZ} {B : xB} {b L i : Nat} {xs : Nat → Int32} {RR : xM → xM → Prop} (hs : xs_rest RR) (K : xLC YX YM Z B b L xs) (hL : L ≤ 384) (hi : i + 6 ≤ L) {σ τ : xM} (hr : RR σ τ)
    (kk : ∀ σ2 τ2, RR σ2 τ2 → xVS (xLW YX YM σ2 τ2) B 4 [(0, .ref b), (1, .ref (YX.1 0)), (2, .ref (YM.1 0)), (3, .int (nI i))] 1531 []) : xVS (xLW YX YM σ τ) B 4 [(0, .ref b), (1, .ref (YX.1 0)), (2, .ref (YM.1 0)), (3, .int (nI i))] 1112 [] := by
  refine vs_aload_n (pc := 1112) K.ec dL_law_1112 rfl 1 rfl ?_
  refine vs_aload_n (pc := 1113) K.ec dL_law_1113 rfl 0 rfl ?_
  refine vs_iload_n (pc := 1114) K.ec dL_law_1114 rfl 3 rfl ?_
  refine vs_iconst (pc := 1115) K.ec dL_law_1115 ci_1 ?_
  refine vs_iadd (pc := 1116) K.ec dL_law_1116 ?_
  refine vs_sld (pc := 1117) K dL_law_1117 (j := i + 1) (by rw [← nI_add i 1]; rfl) (by omega) hL ?_
  obtain ⟨r, σ2, τ2, h1, h2, hr2⟩ := hs σ τ hr (xs (i + 1))
  refine vc_iX (pc := 1118) K [.int (xs (i + 1))] [] (mX9_rest h1) dL_law_1118 mw_X9_rest mv_X9_rest kl_L_147 so_BS rfl rfl (Nat.le_of_ble_eq_true rfl) ⟨by decide, by decide⟩ ?_
  refine vs_aload_n (pc := 1121) K.ec dL_law_1121 rfl 2 rfl ?_
  refine vs_aload_n (pc := 1122) K.ec dL_law_1122 rfl 0 rfl ?_
  refine vs_iload_n (pc := 1123) K.ec dL_law_1123 rfl 3 rfl ?_
  refine vs_iconst (pc := 1124) K.ec dL_law_1124 ci_1 ?_
  refine vs_iadd (pc := 1125) K.ec dL_law_1125 ?_
  refine vs_sld (pc := 1126) K dL_law_1126 (j := i + 1) (by rw [← nI_add i 1]; rfl) (by omega) hL ?_
  refine vc_iM (pc := 1127) K [.int (xs (i + 1))] [.int r] (mX10_rest h2) dL_law_1127 mw_X10_rest mv_X10_rest kl_L_150 so_M rfl rfl (Nat.le_of_ble_eq_true rfl) ⟨by decide, by decide⟩ ?_
  refine vs_icmp_eq (pc := 1130) (tgt := 1531) K.ec dL_law_1130 (by decide) (fun _ => ?_) (fun c => absurd rfl c)
  exact kk _ _ hr2
set_option maxRecDepth 20000 in
set_option maxHeartbeats 4000000 in
theorem lc_asks {YX YM : xY} {Z : xZ} {B : xB} {b L i : Nat} {xs : Nat → Int32} {RR : xM → xM → Prop} (hs : xs_asks RR) (K : xLC YX YM Z B b L xs) (hL : L ≤ 384) (hi : i + 6 ≤ L) {σ τ : xM} (hr : RR σ τ)
    (kk : ∀ σ2 τ2, RR σ2 τ2 → xVS (xLW YX YM σ2 τ2) B 4 [(0, .ref b), (1, .ref (YX.1 0)), (2, .ref (YM.1 0)), (3, .int (nI i))] 1531 []) : xVS (xLW YX YM σ τ) B 4 [(0, .ref b), (1, .ref (YX.1 0)), (2, .ref (YM.1 0)), (3, .int (nI i))] 1135 [] := by
  refine vs_aload_n (pc := 1135) K.ec dL_law_1135 rfl 1 rfl ?_
  refine vs_aload_n (pc := 1136) K.ec dL_law_1136 rfl 0 rfl ?_
  refine vs_iload_n (pc := 1137) K.ec dL_law_1137 rfl 3 rfl ?_
  refine vs_iconst (pc := 1138) K.ec dL_law_1138 ci_1 ?_
  refine vs_iadd (pc := 1139) K.ec dL_law_1139 ?_
  refine vs_sld (pc := 1140) K dL_law_1140 (j := i + 1) (by rw [← nI_add i 1]; rfl) (by omega) hL ?_
  obtain ⟨r, σ2, τ2, h1, h2, hr2⟩ := hs σ τ hr (xs (i + 1))
  refine vc_iX (pc := 1141) K [.int (xs (i + 1))] [] (mX9_asks h1) dL_law_1141 mw_X9_asks mv_X9_asks kl_L_151 so_BS rfl rfl (Nat.le_of_ble_eq_true rfl) ⟨by decide, by decide⟩ ?_
  refine vs_aload_n (pc := 1144) K.ec dL_law_1144 rfl 2 rfl ?_
  refine vs_aload_n (pc := 1145) K.ec dL_law_1145 rfl 0 rfl ?_
  refine vs_iload_n (pc := 1146) K.ec dL_law_1146 rfl 3 rfl ?_
  refine vs_iconst (pc := 1147) K.ec dL_law_1147 ci_1 ?_
  refine vs_iadd (pc := 1148) K.ec dL_law_1148 ?_
  refine vs_sld (pc := 1149) K dL_law_1149 (j := i + 1) (by rw [← nI_add i 1]; rfl) (by omega) hL ?_
  refine vc_iM (pc := 1150) K [.int (xs (i + 1))] [.int r] (mX10_asks h2) dL_law_1150 mw_X10_asks mv_X10_asks kl_L_154 so_M rfl rfl (Nat.le_of_ble_eq_true rfl) ⟨by decide, by decide⟩ ?_
  refine vs_icmp_eq (pc := 1153) (tgt := 1531) K.ec dL_law_1153 (by decide) (fun _ => ?_) (fun c => absurd rfl c)
  exact kk _ _ hr2
set_option maxRecDepth 20000 in
set_option maxHeartbeats 4000000 in
theorem lc_asked {YX YM : xY} {Z : xZ} {B : xB} {b L i : Nat} {xs : Nat → Int32} {RR : xM → xM → Prop} (hs : xs_asked RR) (K : xLC YX YM Z B b L xs) (hL : L ≤ 384) (hi : i + 6 ≤ L) {σ τ : xM} (hr : RR σ τ)
    (kk : ∀ σ2 τ2, RR σ2 τ2 → xVS (xLW YX YM σ2 τ2) B 4 [(0, .ref b), (1, .ref (YX.1 0)), (2, .ref (YM.1 0)), (3, .int (nI i))] 1531 []) : xVS (xLW YX YM σ τ) B 4 [(0, .ref b), (1, .ref (YX.1 0)), (2, .ref (YM.1 0)), (3, .int (nI i))] 1158 [] := by
  refine vs_aload_n (pc := 1158) K.ec dL_law_1158 rfl 1 rfl ?_
  obtain ⟨r, σ2, τ2, h1, h2, hr2⟩ := hs σ τ hr
  refine vc_iX (pc := 1159) K [] [] (mX9_asked h1) dL_law_1159 mw_X9_asked mv_X9_asked kl_L_155 so_BS rfl rfl (Nat.le_of_ble_eq_true rfl) ⟨by decide, by decide⟩ ?_
  refine vs_aload_n (pc := 1162) K.ec dL_law_1162 rfl 2 rfl ?_
  refine vc_iM (pc := 1163) K [] [.int r] (mX10_asked h2) dL_law_1163 mw_X10_asked mv_X10_asked kl_L_158 so_M rfl rfl (Nat.le_of_ble_eq_true rfl) ⟨by decide, by decide⟩ ?_
  refine vs_icmp_eq (pc := 1166) (tgt := 1531) K.ec dL_law_1166 (by decide) (fun _ => ?_) (fun c => absurd rfl c)
  exact kk _ _ hr2
set_option maxRecDepth 20000 in
set_option maxHeartbeats 4000000 in
theorem lc_bunch {YX YM : xY} {Z : xZ} {B : xB} {b L i : Nat} {xs : Nat → Int32} {RR : xM → xM → Prop} (hs : xs_bunch RR) (K : xLC YX YM Z B b L xs) (hL : L ≤ 384) (hi : i + 6 ≤ L) {σ τ : xM} (hr : RR σ τ)
    (kk : ∀ σ2 τ2, RR σ2 τ2 → xVS (xLW YX YM σ2 τ2) B 4 [(0, .ref b), (1, .ref (YX.1 0)), (2, .ref (YM.1 0)), (3, .int (nI i))] 1531 []) : xVS (xLW YX YM σ τ) B 4 [(0, .ref b), (1, .ref (YX.1 0)), (2, .ref (YM.1 0)), (3, .int (nI i))] 1171 [] := by
  refine vs_aload_n (pc := 1171) K.ec dL_law_1171 rfl 1 rfl ?_
  refine vs_aload_n (pc := 1172) K.ec dL_law_1172 rfl 0 rfl ?_
  refine vs_iload_n (pc := 1173) K.ec dL_law_1173 rfl 3 rfl ?_
  refine vs_iconst (pc := 1174) K.ec dL_law_1174 ci_1 ?_
  refine vs_iadd (pc := 1175) K.ec dL_law_1175 ?_
  refine vs_sld (pc := 1176) K dL_law_1176 (j := i + 1) (by rw [← nI_add i 1]; rfl) (by omega) hL ?_
  refine vs_aload_n (pc := 1177) K.ec dL_law_1177 rfl 0 rfl ?_
  refine vs_iload_n (pc := 1178) K.ec dL_law_1178 rfl 3 rfl ?_
  refine vs_iconst (pc := 1179) K.ec dL_law_1179 ci_2 ?_
  refine vs_iadd (pc := 1180) K.ec dL_law_1180 ?_
  refine vs_sld (pc := 1181) K dL_law_1181 (j := i + 2) (by rw [← nI_add i 2]; rfl) (by omega) hL ?_
  obtain ⟨r, σ2, τ2, h1, h2, hr2⟩ := hs σ τ hr (xs (i + 1)) (xs (i + 2))
  refine vc_iX (pc := 1182) K [.int (xs (i + 1)), .int (xs (i + 2))] [] (mX9_bunch h1) dL_law_1182 mw_X9_bunch mv_X9_bunch kl_L_159 so_BS rfl rfl (Nat.le_of_ble_eq_true rfl) ⟨by decide, by decide⟩ ?_
  refine vs_aload_n (pc := 1185) K.ec dL_law_1185 rfl 2 rfl ?_
  refine vs_aload_n (pc := 1186) K.ec dL_law_1186 rfl 0 rfl ?_
  refine vs_iload_n (pc := 1187) K.ec dL_law_1187 rfl 3 rfl ?_
  refine vs_iconst (pc := 1188) K.ec dL_law_1188 ci_1 ?_
  refine vs_iadd (pc := 1189) K.ec dL_law_1189 ?_
  refine vs_sld (pc := 1190) K dL_law_1190 (j := i + 1) (by rw [← nI_add i 1]; rfl) (by omega) hL ?_
  refine vs_aload_n (pc := 1191) K.ec dL_law_1191 rfl 0 rfl ?_
  refine vs_iload_n (pc := 1192) K.ec dL_law_1192 rfl 3 rfl ?_
  refine vs_iconst (pc := 1193) K.ec dL_law_1193 ci_2 ?_
  refine vs_iadd (pc := 1194) K.ec dL_law_1194 ?_
  refine vs_sld (pc := 1195) K dL_law_1195 (j := i + 2) (by rw [← nI_add i 2]; rfl) (by omega) hL ?_
  refine vc_iM (pc := 1196) K [.int (xs (i + 1)), .int (xs (i + 2))] [.int r] (mX10_bunch h2) dL_law_1196 mw_X10_bunch mv_X10_bunch kl_L_162 so_M rfl rfl (Nat.le_of_ble_eq_true rfl) ⟨by decide, by decide⟩ ?_
  refine vs_icmp_eq (pc := 1199) (tgt := 1531) K.ec dL_law_1199 (by decide) (fun _ => ?_) (fun c => absurd rfl c)
  exact kk _ _ hr2
set_option maxRecDepth 20000 in
set_option maxHeartbeats 4000000 in
theorem lc_crowd {YX YM : xY} {Z : xZ} {B : xB} {b L i : Nat} {xs : Nat → Int32} {RR : xM → xM → Prop} (hs : xs_crowd RR) (K : xLC YX YM Z B b L xs) (hL : L ≤ 384) (hi : i + 6 ≤ L) {σ τ : xM} (hr : RR σ τ)
    (kk : ∀ σ2 τ2, RR σ2 τ2 → xVS (xLW YX YM σ2 τ2) B 4 [(0, .ref b), (1, .ref (YX.1 0)), (2, .ref (YM.1 0)), (3, .int (nI i))] 1531 []) : xVS (xLW YX YM σ τ) B 4 [(0, .ref b), (1, .ref (YX.1 0)), (2, .ref (YM.1 0)), (3, .int (nI i))] 1204 [] := by
  refine vs_aload_n (pc := 1204) K.ec dL_law_1204 rfl 1 rfl ?_
  refine vs_aload_n (pc := 1205) K.ec dL_law_1205 rfl 0 rfl ?_
  refine vs_iload_n (pc := 1206) K.ec dL_law_1206 rfl 3 rfl ?_
  refine vs_iconst (pc := 1207) K.ec dL_law_1207 ci_1 ?_
  refine vs_iadd (pc := 1208) K.ec dL_law_1208 ?_
  refine vs_sld (pc := 1209) K dL_law_1209 (j := i + 1) (by rw [← nI_add i 1]; rfl) (by omega) hL ?_
  refine vs_aload_n (pc := 1210) K.ec dL_law_1210 rfl 0 rfl ?_
  refine vs_iload_n (pc := 1211) K.ec dL_law_1211 rfl 3 rfl ?_
  refine vs_iconst (pc := 1212) K.ec dL_law_1212 ci_2 ?_
  refine vs_iadd (pc := 1213) K.ec dL_law_1213 ?_
  refine vs_sld (pc := 1214) K dL_law_1214 (j := i + 2) (by rw [← nI_add i 2]; rfl) (by omega) hL ?_
  obtain ⟨r, σ2, τ2, h1, h2, hr2⟩ := hs σ τ hr (xs (i + 1)) (xs (i + 2))
  refine vc_iX (pc := 1215) K [.int (xs (i + 1)), .int (xs (i + 2))] [] (mX9_crowd h1) dL_law_1215 mw_X9_crowd mv_X9_crowd kl_L_163 so_BS rfl rfl (Nat.le_of_ble_eq_true rfl) ⟨by decide, by decide⟩ ?_
  refine vs_aload_n (pc := 1218) K.ec dL_law_1218 rfl 2 rfl ?_
  refine vs_aload_n (pc := 1219) K.ec dL_law_1219 rfl 0 rfl ?_
  refine vs_iload_n (pc := 1220) K.ec dL_law_1220 rfl 3 rfl ?_
  refine vs_iconst (pc := 1221) K.ec dL_law_1221 ci_1 ?_
  refine vs_iadd (pc := 1222) K.ec dL_law_1222 ?_
  refine vs_sld (pc := 1223) K dL_law_1223 (j := i + 1) (by rw [← nI_add i 1]; rfl) (by omega) hL ?_
  refine vs_aload_n (pc := 1224) K.ec dL_law_1224 rfl 0 rfl ?_
  refine vs_iload_n (pc := 1225) K.ec dL_law_1225 rfl 3 rfl ?_
  refine vs_iconst (pc := 1226) K.ec dL_law_1226 ci_2 ?_
  refine vs_iadd (pc := 1227) K.ec dL_law_1227 ?_
  refine vs_sld (pc := 1228) K dL_law_1228 (j := i + 2) (by rw [← nI_add i 2]; rfl) (by omega) hL ?_
  refine vc_iM (pc := 1229) K [.int (xs (i + 1)), .int (xs (i + 2))] [.int r] (mX10_crowd h2) dL_law_1229 mw_X10_crowd mv_X10_crowd kl_L_166 so_M rfl rfl (Nat.le_of_ble_eq_true rfl) ⟨by decide, by decide⟩ ?_
  refine vs_icmp_eq (pc := 1232) (tgt := 1531) K.ec dL_law_1232 (by decide) (fun _ => ?_) (fun c => absurd rfl c)
  exact kk _ _ hr2
set_option maxRecDepth 20000 in
set_option maxHeartbeats 4000000 in
theorem lc_drawn {YX YM : xY} {Z : xZ} {B : xB} {b L i : Nat} {xs : Nat → Int32} {RR : xM → xM → Prop} (hs : xs_drawn RR) (K : xLC YX YM Z B b L xs) (hL : L ≤ 384) (hi : i + 6 ≤ L) {σ τ : xM} (hr : RR σ τ)
    (kk : ∀ σ2 τ2, RR σ2 τ2 → xVS (xLW YX YM σ2 τ2) B 4 [(0, .ref b), (1, .ref (YX.1 0)), (2, .ref (YM.1 0)), (3, .int (nI i))] 1531 []) : xVS (xLW YX YM σ τ) B 4 [(0, .ref b), (1, .ref (YX.1 0)), (2, .ref (YM.1 0)), (3, .int (nI i))] 1237 [] := by
  refine vs_aload_n (pc := 1237) K.ec dL_law_1237 rfl 1 rfl ?_
  refine vs_aload_n (pc := 1238) K.ec dL_law_1238 rfl 0 rfl ?_
  refine vs_iload_n (pc := 1239) K.ec dL_law_1239 rfl 3 rfl ?_
  refine vs_iconst (pc := 1240) K.ec dL_law_1240 ci_1 ?_
  refine vs_iadd (pc := 1241) K.ec dL_law_1241 ?_
  refine vs_sld (pc := 1242) K dL_law_1242 (j := i + 1) (by rw [← nI_add i 1]; rfl) (by omega) hL ?_
  refine vs_aload_n (pc := 1243) K.ec dL_law_1243 rfl 0 rfl ?_
  refine vs_iload_n (pc := 1244) K.ec dL_law_1244 rfl 3 rfl ?_
  refine vs_iconst (pc := 1245) K.ec dL_law_1245 ci_2 ?_
  refine vs_iadd (pc := 1246) K.ec dL_law_1246 ?_
  refine vs_sld (pc := 1247) K dL_law_1247 (j := i + 2) (by rw [← nI_add i 2]; rfl) (by omega) hL ?_
  obtain ⟨r, σ2, τ2, h1, h2, hr2⟩ := hs σ τ hr (xs (i + 1)) (xs (i + 2))
  refine vc_iX (pc := 1248) K [.int (xs (i + 1)), .int (xs (i + 2))] [] (mX9_drawn h1) dL_law_1248 mw_X9_drawn mv_X9_drawn kl_L_167 so_BS rfl rfl (Nat.le_of_ble_eq_true rfl) ⟨by decide, by decide⟩ ?_
  refine vs_aload_n (pc := 1251) K.ec dL_law_1251 rfl 2 rfl ?_
  refine vs_aload_n (pc := 1252) K.ec dL_law_1252 rfl 0 rfl ?_
  refine vs_iload_n (pc := 1253) K.ec dL_law_1253 rfl 3 rfl ?_
  refine vs_iconst (pc := 1254) K.ec dL_law_1254 ci_1 ?_
  refine vs_iadd (pc := 1255) K.ec dL_law_1255 ?_
  refine vs_sld (pc := 1256) K dL_law_1256 (j := i + 1) (by rw [← nI_add i 1]; rfl) (by omega) hL ?_
  refine vs_aload_n (pc := 1257) K.ec dL_law_1257 rfl 0 rfl ?_
  refine vs_iload_n (pc := 1258) K.ec dL_law_1258 rfl 3 rfl ?_
  refine vs_iconst (pc := 1259) K.ec dL_law_1259 ci_2 ?_
  refine vs_iadd (pc := 1260) K.ec dL_law_1260 ?_
  refine vs_sld (pc := 1261) K dL_law_1261 (j := i + 2) (by rw [← nI_add i 2]; rfl) (by omega) hL ?_
  refine vc_iM (pc := 1262) K [.int (xs (i + 1)), .int (xs (i + 2))] [.int r] (mX10_drawn h2) dL_law_1262 mw_X10_drawn mv_X10_drawn kl_L_170 so_M rfl rfl (Nat.le_of_ble_eq_true rfl) ⟨by decide, by decide⟩ ?_
  refine vs_icmp_eq (pc := 1265) (tgt := 1531) K.ec dL_law_1265 (by decide) (fun _ => ?_) (fun c => absurd rfl c)
  exact kk _ _ hr2
set_option maxRecDepth 20000 in
set_option maxHeartbeats 4000000 in
theorem lc_image {YX YM : xY} {Z : xZ} {B : xB} {b L i : Nat} {xs : Nat → Int32} {RR : xM → xM → Prop} (hs : xs_image RR) (K : xLC YX YM Z B b L xs) (hL : L ≤ 384) (hi : i + 6 ≤ L) {σ τ : xM} (hr : RR σ τ)
    (kk : ∀ σ2 τ2, RR σ2 τ2 → xVS (xLW YX YM σ2 τ2) B 4 [(0, .ref b), (1, .ref (YX.1 0)), (2, .ref (YM.1 0)), (3, .int (nI i))] 1531 []) : xVS (xLW YX YM σ τ) B 4 [(0, .ref b), (1, .ref (YX.1 0)), (2, .ref (YM.1 0)), (3, .int (nI i))] 1270 [] := by
  refine vs_aload_n (pc := 1270) K.ec dL_law_1270 rfl 1 rfl ?_
  obtain ⟨r, σ2, τ2, h1, h2, hr2⟩ := hs σ τ hr
  refine vc_iX (pc := 1271) K [] [] (mX9_image h1) dL_law_1271 mw_X9_image mv_X9_image kl_L_171 so_BS rfl rfl (Nat.le_of_ble_eq_true rfl) ⟨by decide, by decide⟩ ?_
  refine vs_aload_n (pc := 1274) K.ec dL_law_1274 rfl 2 rfl ?_
  refine vc_iM (pc := 1275) K [] [.int r] (mX10_image h2) dL_law_1275 mw_X10_image mv_X10_image kl_L_174 so_M rfl rfl (Nat.le_of_ble_eq_true rfl) ⟨by decide, by decide⟩ ?_
  refine vs_icmp_eq (pc := 1278) (tgt := 1531) K.ec dL_law_1278 (by decide) (fun _ => ?_) (fun c => absurd rfl c)
  exact kk _ _ hr2
set_option maxRecDepth 20000 in
set_option maxHeartbeats 4000000 in
theorem lc_back {YX YM : xY} {Z : xZ} {B : xB} {b L i : Nat} {xs : Nat → Int32} {RR : xM → xM → Prop} (hs : xs_back RR) (K : xLC YX YM Z B b L xs) (hL : L ≤ 384) (hi : i + 6 ≤ L) {σ τ : xM} (hr : RR σ τ)
    (kk : ∀ σ2 τ2, RR σ2 τ2 → xVS (xLW YX YM σ2 τ2) B 4 [(0, .ref b), (1, .ref (YX.1 0)), (2, .ref (YM.1 0)), (3, .int (nI i))] 1531 []) : xVS (xLW YX YM σ τ) B 4 [(0, .ref b), (1, .ref (YX.1 0)), (2, .ref (YM.1 0)), (3, .int (nI i))] 1283 [] := by
  refine vs_aload_n (pc := 1283) K.ec dL_law_1283 rfl 1 rfl ?_
  obtain ⟨r, σ2, τ2, h1, h2, hr2⟩ := hs σ τ hr
  refine vc_iX (pc := 1284) K [] [] (mX9_back h1) dL_law_1284 mw_X9_back mv_X9_back kl_L_175 so_BS rfl rfl (Nat.le_of_ble_eq_true rfl) ⟨by decide, by decide⟩ ?_
  refine vs_aload_n (pc := 1287) K.ec dL_law_1287 rfl 2 rfl ?_
  refine vc_iM (pc := 1288) K [] [.int r] (mX10_back h2) dL_law_1288 mw_X10_back mv_X10_back kl_L_178 so_M rfl rfl (Nat.le_of_ble_eq_true rfl) ⟨by decide, by decide⟩ ?_
  refine vs_icmp_eq (pc := 1291) (tgt := 1531) K.ec dL_law_1291 (by decide) (fun _ => ?_) (fun c => absurd rfl c)
  exact kk _ _ hr2
set_option maxRecDepth 20000 in
set_option maxHeartbeats 4000000 in
theorem lc_sheet {YX YM : xY} {Z : xZ} {B : xB} {b L i : Nat} {xs : Nat → Int32} {RR : xM → xM → Prop} (hs : xs_sheet RR) (K : xLC YX YM Z B b L xs) (hL : L ≤ 384) (hi : i + 6 ≤ L) {σ τ : xM} (hr : RR σ τ)
    (kk : ∀ σ2 τ2, RR σ2 τ2 → xVS (xLW YX YM σ2 τ2) B 4 [(0, .ref b), (1, .ref (YX.1 0)), (2, .ref (YM.1 0)), (3, .int (nI i))] 1531 []) : xVS (xLW YX YM σ τ) B 4 [(0, .ref b), (1, .ref (YX.1 0)), (2, .ref (YM.1 0)), (3, .int (nI i))] 1296 [] := by
  refine vs_aload_n (pc := 1296) K.ec dL_law_1296 rfl 1 rfl ?_
  refine vs_aload_n (pc := 1297) K.ec dL_law_1297 rfl 0 rfl ?_
  refine vs_iload_n (pc := 1298) K.ec dL_law_1298 rfl 3 rfl ?_
  refine vs_iconst (pc := 1299) K.ec dL_law_1299 ci_1 ?_
  refine vs_iadd (pc := 1300) K.ec dL_law_1300 ?_
  refine vs_sld (pc := 1301) K dL_law_1301 (j := i + 1) (by rw [← nI_add i 1]; rfl) (by omega) hL ?_
  refine vs_aload_n (pc := 1302) K.ec dL_law_1302 rfl 0 rfl ?_
  refine vs_iload_n (pc := 1303) K.ec dL_law_1303 rfl 3 rfl ?_
  refine vs_iconst (pc := 1304) K.ec dL_law_1304 ci_2 ?_
  refine vs_iadd (pc := 1305) K.ec dL_law_1305 ?_
  refine vs_sld (pc := 1306) K dL_law_1306 (j := i + 2) (by rw [← nI_add i 2]; rfl) (by omega) hL ?_
  refine vs_aload_n (pc := 1307) K.ec dL_law_1307 rfl 0 rfl ?_
  refine vs_iload_n (pc := 1308) K.ec dL_law_1308 rfl 3 rfl ?_
  refine vs_iconst (pc := 1309) K.ec dL_law_1309 ci_3 ?_
  refine vs_iadd (pc := 1310) K.ec dL_law_1310 ?_
  refine vs_sld (pc := 1311) K dL_law_1311 (j := i + 3) (by rw [← nI_add i 3]; rfl) (by omega) hL ?_
  obtain ⟨r, σ2, τ2, h1, h2, hr2⟩ := hs σ τ hr (xs (i + 1)) (xs (i + 2)) (xs (i + 3))
  refine vc_iX (pc := 1312) K [.int (xs (i + 1)), .int (xs (i + 2)), .int (xs (i + 3))] [] (mX9_sheet h1) dL_law_1312 mw_X9_sheet mv_X9_sheet kl_L_179 so_BS rfl rfl (Nat.le_of_ble_eq_true rfl) ⟨by decide, by decide⟩ ?_
  refine vs_aload_n (pc := 1315) K.ec dL_law_1315 rfl 2 rfl ?_
  refine vs_aload_n (pc := 1316) K.ec dL_law_1316 rfl 0 rfl ?_
  refine vs_iload_n (pc := 1317) K.ec dL_law_1317 rfl 3 rfl ?_
  refine vs_iconst (pc := 1318) K.ec dL_law_1318 ci_1 ?_
  refine vs_iadd (pc := 1319) K.ec dL_law_1319 ?_
  refine vs_sld (pc := 1320) K dL_law_1320 (j := i + 1) (by rw [← nI_add i 1]; rfl) (by omega) hL ?_
  refine vs_aload_n (pc := 1321) K.ec dL_law_1321 rfl 0 rfl ?_
  refine vs_iload_n (pc := 1322) K.ec dL_law_1322 rfl 3 rfl ?_
  refine vs_iconst (pc := 1323) K.ec dL_law_1323 ci_2 ?_
  refine vs_iadd (pc := 1324) K.ec dL_law_1324 ?_
  refine vs_sld (pc := 1325) K dL_law_1325 (j := i + 2) (by rw [← nI_add i 2]; rfl) (by omega) hL ?_
  refine vs_aload_n (pc := 1326) K.ec dL_law_1326 rfl 0 rfl ?_
  refine vs_iload_n (pc := 1327) K.ec dL_law_1327 rfl 3 rfl ?_
  refine vs_iconst (pc := 1328) K.ec dL_law_1328 ci_3 ?_
  refine vs_iadd (pc := 1329) K.ec dL_law_1329 ?_
  refine vs_sld (pc := 1330) K dL_law_1330 (j := i + 3) (by rw [← nI_add i 3]; rfl) (by omega) hL ?_
  refine vc_iM (pc := 1331) K [.int (xs (i + 1)), .int (xs (i + 2)), .int (xs (i + 3))] [.int r] (mX10_sheet h2) dL_law_1331 mw_X10_sheet mv_X10_sheet kl_L_182 so_M rfl rfl (Nat.le_of_ble_eq_true rfl) ⟨by decide, by decide⟩ ?_
  refine vs_icmp_eq (pc := 1334) (tgt := 1531) K.ec dL_law_1334 (by decide) (fun _ => ?_) (fun c => absurd rfl c)
  exact kk _ _ hr2
set_option maxRecDepth 20000 in
set_option maxHeartbeats 4000000 in
theorem lc_cell {YX YM : xY} {Z : xZ} {B : xB} {b L i : Nat} {xs : Nat → Int32} {RR : xM → xM → Prop} (hs : xs_cell RR) (K : xLC YX YM Z B b L xs) (hL : L ≤ 384) (hi : i + 6 ≤ L) {σ τ : xM} (hr : RR σ τ)
    (kk : ∀ σ2 τ2, RR σ2 τ2 → xVS (xLW YX YM σ2 τ2) B 4 [(0, .ref b), (1, .ref (YX.1 0)), (2, .ref (YM.1 0)), (3, .int (nI i))] 1531 []) : xVS (xLW YX YM σ τ) B 4 [(0, .ref b), (1, .ref (YX.1 0)), (2, .ref (YM.1 0)), (3, .int (nI i))] 1339 [] := by
  refine vs_aload_n (pc := 1339) K.ec dL_law_1339 rfl 1 rfl ?_
  refine vs_aload_n (pc := 1340) K.ec dL_law_1340 rfl 0 rfl ?_
  refine vs_iload_n (pc := 1341) K.ec dL_law_1341 rfl 3 rfl ?_
  refine vs_iconst (pc := 1342) K.ec dL_law_1342 ci_1 ?_
  refine vs_iadd (pc := 1343) K.ec dL_law_1343 ?_
  refine vs_sld (pc := 1344) K dL_law_1344 (j := i + 1) (by rw [← nI_add i 1]; rfl) (by omega) hL ?_
  refine vs_aload_n (pc := 1345) K.ec dL_law_1345 rfl 0 rfl ?_
  refine vs_iload_n (pc := 1346) K.ec dL_law_1346 rfl 3 rfl ?_
  refine vs_iconst (pc := 1347) K.ec dL_law_1347 ci_2 ?_
  refine vs_iadd (pc := 1348) K.ec dL_law_1348 ?_
  refine vs_sld (pc := 1349) K dL_law_1349 (j := i + 2) (by rw [← nI_add i 2]; rfl) (by omega) hL ?_
  refine vs_aload_n (pc := 1350) K.ec dL_law_1350 rfl 0 rfl ?_
  refine vs_iload_n (pc := 1351) K.ec dL_law_1351 rfl 3 rfl ?_
  refine vs_iconst (pc := 1352) K.ec dL_law_1352 ci_3 ?_
  refine vs_iadd (pc := 1353) K.ec dL_law_1353 ?_
  refine vs_sld (pc := 1354) K dL_law_1354 (j := i + 3) (by rw [← nI_add i 3]; rfl) (by omega) hL ?_
  obtain ⟨r, σ2, τ2, h1, h2, hr2⟩ := hs σ τ hr (xs (i + 1)) (xs (i + 2)) (xs (i + 3))
  refine vc_iX (pc := 1355) K [.int (xs (i + 1)), .int (xs (i + 2)), .int (xs (i + 3))] [] (mX9_cell h1) dL_law_1355 mw_X9_cell mv_X9_cell kl_L_183 so_BS rfl rfl (Nat.le_of_ble_eq_true rfl) ⟨by decide, by decide⟩ ?_
  refine vs_aload_n (pc := 1358) K.ec dL_law_1358 rfl 2 rfl ?_
  refine vs_aload_n (pc := 1359) K.ec dL_law_1359 rfl 0 rfl ?_
  refine vs_iload_n (pc := 1360) K.ec dL_law_1360 rfl 3 rfl ?_
  refine vs_iconst (pc := 1361) K.ec dL_law_1361 ci_1 ?_
  refine vs_iadd (pc := 1362) K.ec dL_law_1362 ?_
  refine vs_sld (pc := 1363) K dL_law_1363 (j := i + 1) (by rw [← nI_add i 1]; rfl) (by omega) hL ?_
  refine vs_aload_n (pc := 1364) K.ec dL_law_1364 rfl 0 rfl ?_
  refine vs_iload_n (pc := 1365) K.ec dL_law_1365 rfl 3 rfl ?_
  refine vs_iconst (pc := 1366) K.ec dL_law_1366 ci_2 ?_
  refine vs_iadd (pc := 1367) K.ec dL_law_1367 ?_
  refine vs_sld (pc := 1368) K dL_law_1368 (j := i + 2) (by rw [← nI_add i 2]; rfl) (by omega) hL ?_
  refine vs_aload_n (pc := 1369) K.ec dL_law_1369 rfl 0 rfl ?_
  refine vs_iload_n (pc := 1370) K.ec dL_law_1370 rfl 3 rfl ?_
  refine vs_iconst (pc := 1371) K.ec dL_law_1371 ci_3 ?_
  refine vs_iadd (pc := 1372) K.ec dL_law_1372 ?_
  refine vs_sld (pc := 1373) K dL_law_1373 (j := i + 3) (by rw [← nI_add i 3]; rfl) (by omega) hL ?_
  refine vc_iM (pc := 1374) K [.int (xs (i + 1)), .int (xs (i + 2)), .int (xs (i + 3))] [.int r] (mX10_cell h2) dL_law_1374 mw_X10_cell mv_X10_cell kl_L_186 so_M rfl rfl (Nat.le_of_ble_eq_true rfl) ⟨by decide, by decide⟩ ?_
  refine vs_icmp_eq (pc := 1377) (tgt := 1531) K.ec dL_law_1377 (by decide) (fun _ => ?_) (fun c => absurd rfl c)
  exact kk _ _ hr2
set_option maxRecDepth 20000 in
set_option maxHeartbeats 4000000 in
theorem lc_copy {YX YM : xY} {Z : xZ} {B : xB} {b L i : Nat} {xs : Nat → Int32} {RR : xM → xM → Prop} (hs : xs_copy RR) (K : xLC YX YM Z B b L xs) (hL : L ≤ 384) (hi : i + 6 ≤ L) {σ τ : xM} (hr : RR σ τ)
    (kk : ∀ σ2 τ2, RR σ2 τ2 → xVS (xLW YX YM σ2 τ2) B 4 [(0, .ref b), (1, .ref (YX.1 0)), (2, .ref (YM.1 0)), (3, .int (nI i))] 1531 []) : xVS (xLW YX YM σ τ) B 4 [(0, .ref b), (1, .ref (YX.1 0)), (2, .ref (YM.1 0)), (3, .int (nI i))] 1382 [] := by
  refine vs_aload_n (pc := 1382) K.ec dL_law_1382 rfl 1 rfl ?_
  refine vs_aload_n (pc := 1383) K.ec dL_law_1383 rfl 0 rfl ?_
  refine vs_iload_n (pc := 1384) K.ec dL_law_1384 rfl 3 rfl ?_
  refine vs_iconst (pc := 1385) K.ec dL_law_1385 ci_1 ?_
  refine vs_iadd (pc := 1386) K.ec dL_law_1386 ?_
  refine vs_sld (pc := 1387) K dL_law_1387 (j := i + 1) (by rw [← nI_add i 1]; rfl) (by omega) hL ?_
  refine vs_aload_n (pc := 1388) K.ec dL_law_1388 rfl 0 rfl ?_
  refine vs_iload_n (pc := 1389) K.ec dL_law_1389 rfl 3 rfl ?_
  refine vs_iconst (pc := 1390) K.ec dL_law_1390 ci_2 ?_
  refine vs_iadd (pc := 1391) K.ec dL_law_1391 ?_
  refine vs_sld (pc := 1392) K dL_law_1392 (j := i + 2) (by rw [← nI_add i 2]; rfl) (by omega) hL ?_
  refine vs_aload_n (pc := 1393) K.ec dL_law_1393 rfl 0 rfl ?_
  refine vs_iload_n (pc := 1394) K.ec dL_law_1394 rfl 3 rfl ?_
  refine vs_iconst (pc := 1395) K.ec dL_law_1395 ci_3 ?_
  refine vs_iadd (pc := 1396) K.ec dL_law_1396 ?_
  refine vs_sld (pc := 1397) K dL_law_1397 (j := i + 3) (by rw [← nI_add i 3]; rfl) (by omega) hL ?_
  refine vs_aload_n (pc := 1398) K.ec dL_law_1398 rfl 0 rfl ?_
  refine vs_iload_n (pc := 1399) K.ec dL_law_1399 rfl 3 rfl ?_
  refine vs_iconst (pc := 1400) K.ec dL_law_1400 ci_4 ?_
  refine vs_iadd (pc := 1401) K.ec dL_law_1401 ?_
  refine vs_sld (pc := 1402) K dL_law_1402 (j := i + 4) (by rw [← nI_add i 4]; rfl) (by omega) hL ?_
  refine vs_aload_n (pc := 1403) K.ec dL_law_1403 rfl 0 rfl ?_
  refine vs_iload_n (pc := 1404) K.ec dL_law_1404 rfl 3 rfl ?_
  refine vs_iconst (pc := 1405) K.ec dL_law_1405 ci_5 ?_
  refine vs_iadd (pc := 1406) K.ec dL_law_1406 ?_
  refine vs_sld (pc := 1407) K dL_law_1407 (j := i + 5) (by rw [← nI_add i 5]; rfl) (by omega) hL ?_
  obtain ⟨r, σ2, τ2, h1, h2, hr2⟩ := hs σ τ hr (xs (i + 1)) (xs (i + 2)) (xs (i + 3)) (xs (i + 4)) (xs (i + 5))
  refine vc_iX (pc := 1408) K [.int (xs (i + 1)), .int (xs (i + 2)), .int (xs (i + 3)), .int (xs (i + 4)), .int (xs (i + 5))] [] (mX9_copy h1) dL_law_1408 mw_X9_copy mv_X9_copy kl_L_187 so_BS rfl rfl (Nat.le_of_ble_eq_true rfl) ⟨by decide, by decide⟩ ?_
  refine vs_aload_n (pc := 1411) K.ec dL_law_1411 rfl 2 rfl ?_
  refine vs_aload_n (pc := 1412) K.ec dL_law_1412 rfl 0 rfl ?_
  refine vs_iload_n (pc := 1413) K.ec dL_law_1413 rfl 3 rfl ?_
  refine vs_iconst (pc := 1414) K.ec dL_law_1414 ci_1 ?_
  refine vs_iadd (pc := 1415) K.ec dL_law_1415 ?_
  refine vs_sld (pc := 1416) K dL_law_1416 (j := i + 1) (by rw [← nI_add i 1]; rfl) (by omega) hL ?_
  refine vs_aload_n (pc := 1417) K.ec dL_law_1417 rfl 0 rfl ?_
  refine vs_iload_n (pc := 1418) K.ec dL_law_1418 rfl 3 rfl ?_
  refine vs_iconst (pc := 1419) K.ec dL_law_1419 ci_2 ?_
  refine vs_iadd (pc := 1420) K.ec dL_law_1420 ?_
  refine vs_sld (pc := 1421) K dL_law_1421 (j := i + 2) (by rw [← nI_add i 2]; rfl) (by omega) hL ?_
  refine vs_aload_n (pc := 1422) K.ec dL_law_1422 rfl 0 rfl ?_
  refine vs_iload_n (pc := 1423) K.ec dL_law_1423 rfl 3 rfl ?_
  refine vs_iconst (pc := 1424) K.ec dL_law_1424 ci_3 ?_
  refine vs_iadd (pc := 1425) K.ec dL_law_1425 ?_
  refine vs_sld (pc := 1426) K dL_law_1426 (j := i + 3) (by rw [← nI_add i 3]; rfl) (by omega) hL ?_
  refine vs_aload_n (pc := 1427) K.ec dL_law_1427 rfl 0 rfl ?_
  refine vs_iload_n (pc := 1428) K.ec dL_law_1428 rfl 3 rfl ?_
  refine vs_iconst (pc := 1429) K.ec dL_law_1429 ci_4 ?_
  refine vs_iadd (pc := 1430) K.ec dL_law_1430 ?_
  refine vs_sld (pc := 1431) K dL_law_1431 (j := i + 4) (by rw [← nI_add i 4]; rfl) (by omega) hL ?_
  refine vs_aload_n (pc := 1432) K.ec dL_law_1432 rfl 0 rfl ?_
  refine vs_iload_n (pc := 1433) K.ec dL_law_1433 rfl 3 rfl ?_
  refine vs_iconst (pc := 1434) K.ec dL_law_1434 ci_5 ?_
  refine vs_iadd (pc := 1435) K.ec dL_law_1435 ?_
  refine vs_sld (pc := 1436) K dL_law_1436 (j := i + 5) (by rw [← nI_add i 5]; rfl) (by omega) hL ?_
  refine vc_iM (pc := 1437) K [.int (xs (i + 1)), .int (xs (i + 2)), .int (xs (i + 3)), .int (xs (i + 4)), .int (xs (i + 5))] [.int r] (mX10_copy h2) dL_law_1437 mw_X10_copy mv_X10_copy kl_L_191 so_M rfl rfl (Nat.le_of_ble_eq_true rfl) ⟨by decide, by decide⟩ ?_
  refine vs_icmp_eq (pc := 1440) (tgt := 1531) K.ec dL_law_1440 (by decide) (fun _ => ?_) (fun c => absurd rfl c)
  exact kk _ _ hr2
set_option maxRecDepth 20000 in
set_option maxHeartbeats 4000000 in
theorem lc_tripsBy {YX YM : xY} {Z : xZ} {B : xB} {b L i : Nat} {xs : Nat → Int32} {RR : xM → xM → Prop} (hs : xs_tripsBy RR) (K : xLC YX YM Z B b L xs) (hL : L ≤ 384) (hi : i + 6 ≤ L) {σ τ : xM} (hr : RR σ τ)
    (kk : ∀ σ2 τ2, RR σ2 τ2 → xVS (xLW YX YM σ2 τ2) B 4 [(0, .ref b), (1, .ref (YX.1 0)), (2, .ref (YM.1 0)), (3, .int (nI i))] 1531 []) : xVS (xLW YX YM σ τ) B 4 [(0, .ref b), (1, .ref (YX.1 0)), (2, .ref (YM.1 0)), (3, .int (nI i))] 1445 [] := by
  refine vs_aload_n (pc := 1445) K.ec dL_law_1445 rfl 1 rfl ?_
  refine vs_aload_n (pc := 1446) K.ec dL_law_1446 rfl 0 rfl ?_
  refine vs_iload_n (pc := 1447) K.ec dL_law_1447 rfl 3 rfl ?_
  refine vs_iconst (pc := 1448) K.ec dL_law_1448 ci_1 ?_
  refine vs_iadd (pc := 1449) K.ec dL_law_1449 ?_
  refine vs_sld (pc := 1450) K dL_law_1450 (j := i + 1) (by rw [← nI_add i 1]; rfl) (by omega) hL ?_
  refine vs_aload_n (pc := 1451) K.ec dL_law_1451 rfl 0 rfl ?_
  refine vs_iload_n (pc := 1452) K.ec dL_law_1452 rfl 3 rfl ?_
  refine vs_iconst (pc := 1453) K.ec dL_law_1453 ci_2 ?_
  refine vs_iadd (pc := 1454) K.ec dL_law_1454 ?_
  refine vs_sld (pc := 1455) K dL_law_1455 (j := i + 2) (by rw [← nI_add i 2]; rfl) (by omega) hL ?_
  refine vs_aload_n (pc := 1456) K.ec dL_law_1456 rfl 0 rfl ?_
  refine vs_iload_n (pc := 1457) K.ec dL_law_1457 rfl 3 rfl ?_
  refine vs_iconst (pc := 1458) K.ec dL_law_1458 ci_3 ?_
  refine vs_iadd (pc := 1459) K.ec dL_law_1459 ?_
  refine vs_sld (pc := 1460) K dL_law_1460 (j := i + 3) (by rw [← nI_add i 3]; rfl) (by omega) hL ?_
  refine vs_aload_n (pc := 1461) K.ec dL_law_1461 rfl 0 rfl ?_
  refine vs_iload_n (pc := 1462) K.ec dL_law_1462 rfl 3 rfl ?_
  refine vs_iconst (pc := 1463) K.ec dL_law_1463 ci_4 ?_
  refine vs_iadd (pc := 1464) K.ec dL_law_1464 ?_
  refine vs_sld (pc := 1465) K dL_law_1465 (j := i + 4) (by rw [← nI_add i 4]; rfl) (by omega) hL ?_
  obtain ⟨r, σ2, τ2, h1, h2, hr2⟩ := hs σ τ hr (xs (i + 1)) (xs (i + 2)) (xs (i + 3)) (xs (i + 4))
  refine vc_iX (pc := 1466) K [.int (xs (i + 1)), .int (xs (i + 2)), .int (xs (i + 3)), .int (xs (i + 4))] [] (mX9_tripsBy h1) dL_law_1466 mw_X9_tripsBy mv_X9_tripsBy kl_L_192 so_BS rfl rfl (Nat.le_of_ble_eq_true rfl) ⟨by decide, by decide⟩ ?_
  refine vs_aload_n (pc := 1469) K.ec dL_law_1469 rfl 2 rfl ?_
  refine vs_aload_n (pc := 1470) K.ec dL_law_1470 rfl 0 rfl ?_
  refine vs_iload_n (pc := 1471) K.ec dL_law_1471 rfl 3 rfl ?_
  refine vs_iconst (pc := 1472) K.ec dL_law_1472 ci_1 ?_
  refine vs_iadd (pc := 1473) K.ec dL_law_1473 ?_
  refine vs_sld (pc := 1474) K dL_law_1474 (j := i + 1) (by rw [← nI_add i 1]; rfl) (by omega) hL ?_
  refine vs_aload_n (pc := 1475) K.ec dL_law_1475 rfl 0 rfl ?_
  refine vs_iload_n (pc := 1476) K.ec dL_law_1476 rfl 3 rfl ?_
  refine vs_iconst (pc := 1477) K.ec dL_law_1477 ci_2 ?_
  refine vs_iadd (pc := 1478) K.ec dL_law_1478 ?_
  refine vs_sld (pc := 1479) K dL_law_1479 (j := i + 2) (by rw [← nI_add i 2]; rfl) (by omega) hL ?_
  refine vs_aload_n (pc := 1480) K.ec dL_law_1480 rfl 0 rfl ?_
  refine vs_iload_n (pc := 1481) K.ec dL_law_1481 rfl 3 rfl ?_
  refine vs_iconst (pc := 1482) K.ec dL_law_1482 ci_3 ?_
  refine vs_iadd (pc := 1483) K.ec dL_law_1483 ?_
  refine vs_sld (pc := 1484) K dL_law_1484 (j := i + 3) (by rw [← nI_add i 3]; rfl) (by omega) hL ?_
  refine vs_aload_n (pc := 1485) K.ec dL_law_1485 rfl 0 rfl ?_
  refine vs_iload_n (pc := 1486) K.ec dL_law_1486 rfl 3 rfl ?_
  refine vs_iconst (pc := 1487) K.ec dL_law_1487 ci_4 ?_
  refine vs_iadd (pc := 1488) K.ec dL_law_1488 ?_
  refine vs_sld (pc := 1489) K dL_law_1489 (j := i + 4) (by rw [← nI_add i 4]; rfl) (by omega) hL ?_
  refine vc_iM (pc := 1490) K [.int (xs (i + 1)), .int (xs (i + 2)), .int (xs (i + 3)), .int (xs (i + 4))] [.int r] (mX10_tripsBy h2) dL_law_1490 mw_X10_tripsBy mv_X10_tripsBy kl_L_195 so_M rfl rfl (Nat.le_of_ble_eq_true rfl) ⟨by decide, by decide⟩ ?_
  refine vs_icmp_eq (pc := 1493) (tgt := 1531) K.ec dL_law_1493 (by decide) (fun _ => ?_) (fun c => absurd rfl c)
  exact kk _ _ hr2
set_option maxRecDepth 20000 in
set_option maxHeartbeats 4000000 in
theorem lc_taken {YX YM : xY} {Z : xZ} {B : xB} {b L i : Nat} {xs : Nat → Int32} {RR : xM → xM → Prop} (hs : xs_taken RR) (K : xLC YX YM Z B b L xs) (hL : L ≤ 384) (hi : i + 6 ≤ L) {σ τ : xM} (hr : RR σ τ)
    (kk : ∀ σ2 τ2, RR σ2 τ2 → xVS (xLW YX YM σ2 τ2) B 4 [(0, .ref b), (1, .ref (YX.1 0)), (2, .ref (YM.1 0)), (3, .int (nI i))] 1531 []) : xVS (xLW YX YM σ τ) B 4 [(0, .ref b), (1, .ref (YX.1 0)), (2, .ref (YM.1 0)), (3, .int (nI i))] 1498 [] := by
  refine vs_aload_n (pc := 1498) K.ec dL_law_1498 rfl 1 rfl ?_
  refine vs_aload_n (pc := 1499) K.ec dL_law_1499 rfl 0 rfl ?_
  refine vs_iload_n (pc := 1500) K.ec dL_law_1500 rfl 3 rfl ?_
  refine vs_iconst (pc := 1501) K.ec dL_law_1501 ci_1 ?_
  refine vs_iadd (pc := 1502) K.ec dL_law_1502 ?_
  refine vs_sld (pc := 1503) K dL_law_1503 (j := i + 1) (by rw [← nI_add i 1]; rfl) (by omega) hL ?_
  refine vs_aload_n (pc := 1504) K.ec dL_law_1504 rfl 0 rfl ?_
  refine vs_iload_n (pc := 1505) K.ec dL_law_1505 rfl 3 rfl ?_
  refine vs_iconst (pc := 1506) K.ec dL_law_1506 ci_2 ?_
  refine vs_iadd (pc := 1507) K.ec dL_law_1507 ?_
  refine vs_sld (pc := 1508) K dL_law_1508 (j := i + 2) (by rw [← nI_add i 2]; rfl) (by omega) hL ?_
  obtain ⟨r, σ2, τ2, h1, h2, hr2⟩ := hs σ τ hr (xs (i + 1)) (xs (i + 2))
  refine vc_iX (pc := 1509) K [.int (xs (i + 1)), .int (xs (i + 2))] [] (mX9_taken h1) dL_law_1509 mw_X9_taken mv_X9_taken kl_L_196 so_BS rfl rfl (Nat.le_of_ble_eq_true rfl) ⟨by decide, by decide⟩ ?_
  refine vs_aload_n (pc := 1512) K.ec dL_law_1512 rfl 2 rfl ?_
  refine vs_aload_n (pc := 1513) K.ec dL_law_1513 rfl 0 rfl ?_
  refine vs_iload_n (pc := 1514) K.ec dL_law_1514 rfl 3 rfl ?_
  refine vs_iconst (pc := 1515) K.ec dL_law_1515 ci_1 ?_
  refine vs_iadd (pc := 1516) K.ec dL_law_1516 ?_
  refine vs_sld (pc := 1517) K dL_law_1517 (j := i + 1) (by rw [← nI_add i 1]; rfl) (by omega) hL ?_
  refine vs_aload_n (pc := 1518) K.ec dL_law_1518 rfl 0 rfl ?_
  refine vs_iload_n (pc := 1519) K.ec dL_law_1519 rfl 3 rfl ?_
  refine vs_iconst (pc := 1520) K.ec dL_law_1520 ci_2 ?_
  refine vs_iadd (pc := 1521) K.ec dL_law_1521 ?_
  refine vs_sld (pc := 1522) K dL_law_1522 (j := i + 2) (by rw [← nI_add i 2]; rfl) (by omega) hL ?_
  refine vc_iM (pc := 1523) K [.int (xs (i + 1)), .int (xs (i + 2))] [.int r] (mX10_taken h2) dL_law_1523 mw_X10_taken mv_X10_taken kl_L_199 so_M rfl rfl (Nat.le_of_ble_eq_true rfl) ⟨by decide, by decide⟩ ?_
  refine vs_icmp_eq (pc := 1526) (tgt := 1531) K.ec dL_law_1526 (by decide) (fun _ => ?_) (fun c => absurd rfl c)
  exact kk _ _ hr2
set_option maxRecDepth 20000 in
set_option maxHeartbeats 8000000 in
/-- THE LAW'S LOOP, at its head with i ints read -/
theorem lw_loop {YX YM : xY} {Z : xZ} {B : xB} {b L : Nat} {xs : Nat → Int32} {RR : xM → xM → Prop} (hs : xSim RR) (K : xLC YX YM Z B b L xs) (hL : L ≤ 384) (hend : ∀ σ τ lv, xVS (xLW YX YM σ τ) B 4 lv 1538 [.int 1]) :
    ∀ (n i : Nat), i ≤ L → L < i + 6 * n → ∀ σ τ, RR σ τ → xVS (xLW YX YM σ τ) B 4 [(0, .ref b), (1, .ref (YX.1 0)), (2, .ref (YM.1 0)), (3, .int (nI i))] 18 [] := by
  intro n
  induction n with
  | zero =>
    intro i h1 h2
    omega
  | succ n ih =>
    intro i hi hn σ τ hr
    refine vs_iload_n (pc := 18) K.ec dL_law_18 rfl 3 rfl ?_
    refine vs_aload_n (pc := 19) K.ec dL_law_19 rfl 0 rfl ?_
    refine vs_slen (pc := 20) K dL_law_20 ?_
    refine vs_bipush (pc := 21) K.ec dL_law_21 cb_6 ?_
    refine vs_isub (pc := 23) K.ec dL_law_23 ?_
    refine vs_icmp_gt (pc := 24) (tgt := 1537) K.ec dL_law_24 (by decide) (fun _ => ?_) (fun c => ?_)
    · refine vs_iconst (pc := 1537) K.ec dL_law_1537 ci_1 ?_
      exact hend σ τ _
    · have h6 := lw_guard hL hi c
      have kk : ∀ σ2 τ2, RR σ2 τ2 → xVS (xLW YX YM σ2 τ2) B 4 [(0, .ref b), (1, .ref (YX.1 0)), (2, .ref (YM.1 0)), (3, .int (nI i))] 1531 [] := by
        intro σ2 τ2 hr2
        refine vs_iinc (j := 3) (v := nI (i + 6)) (pc := 1531) K.ec dL_law_1531 rfl (by rw [cn_6, ← nI_add i 6]; rfl) (by decide) rfl ?_
        refine vs_goto (pc := 1534) (tgt := 18) K.ec dL_law_1534 (by decide) ?_
        refine vs_less [1, 2, 3, 0] rfl ?_
        exact ih (i + 6) h6 (by omega) σ2 τ2 hr2
      refine vs_aload_n (pc := 27) K.ec dL_law_27 rfl 0 rfl ?_
      refine vs_iload_n (pc := 28) K.ec dL_law_28 rfl 3 rfl ?_
      refine vs_sld (pc := 29) K dL_law_29 (j := i) rfl (by omega) hL ?_
      refine vs_bipush (pc := 30) K.ec dL_law_30 cb_63 ?_
      refine vs_iand (pc := 32) K.ec dL_law_32 ?_
      generalize xs i &&& 63 = v
      by_cases c0 : v = (0 : Int32)
      · refine vs_tab (pc := 33) (off := 191) (tgt := 224) K.ec c0 dL_law_33 (by decide) (by decide) (by decide) (by decide) ?_
        exact lc_road hs.1 K hL h6 hr kk
      by_cases c1 : v = (1 : Int32)
      · refine vs_tab (pc := 33) (off := 224) (tgt := 257) K.ec c1 dL_law_33 (by decide) (by decide) (by decide) (by decide) ?_
        exact lc_sort hs.2.1 K hL h6 hr kk
      by_cases c2 : v = (2 : Int32)
      · refine vs_tab (pc := 33) (off := 267) (tgt := 300) K.ec c2 dL_law_33 (by decide) (by decide) (by decide) (by decide) ?_
        exact lc_car hs.2.2.1 K hL h6 hr kk
      by_cases c3 : v = (3 : Int32)
      · refine vs_tab (pc := 33) (off := 300) (tgt := 333) K.ec c3 dL_law_33 (by decide) (by decide) (by decide) (by decide) ?_
        exact lc_walks hs.2.2.2.1 K hL h6 hr kk
      by_cases c4 : v = (4 : Int32)
      · refine vs_tab (pc := 33) (off := 343) (tgt := 376) K.ec c4 dL_law_33 (by decide) (by decide) (by decide) (by decide) ?_
        exact lc_stop hs.2.2.2.2.1 K hL h6 hr kk
      by_cases c5 : v = (5 : Int32)
      · refine vs_tab (pc := 33) (off := 396) (tgt := 429) K.ec c5 dL_law_33 (by decide) (by decide) (by decide) (by decide) ?_
        exact lc_open hs.2.2.2.2.2.1 K hL h6 hr kk
      by_cases c6 : v = (6 : Int32)
      · refine vs_tab (pc := 33) (off := 429) (tgt := 462) K.ec c6 dL_law_33 (by decide) (by decide) (by decide) (by decide) ?_
        exact lc_want hs.2.2.2.2.2.2.1 K hL h6 hr kk
      by_cases c7 : v = (7 : Int32)
      · refine vs_tab (pc := 33) (off := 462) (tgt := 495) K.ec c7 dL_law_33 (by decide) (by decide) (by decide) (by decide) ?_
        exact lc_turns hs.2.2.2.2.2.2.2.1 K hL h6 hr kk
      by_cases c8 : v = (8 : Int32)
      · refine vs_tab (pc := 33) (off := 495) (tgt := 528) K.ec c8 dL_law_33 (by decide) (by decide) (by decide) (by decide) ?_
        exact lc_told hs.2.2.2.2.2.2.2.2.1 K hL h6 hr kk
      by_cases c9 : v = (9 : Int32)
      · refine vs_tab (pc := 33) (off := 528) (tgt := 561) K.ec c9 dL_law_33 (by decide) (by decide) (by decide) (by decide) ?_
        exact lc_trip hs.2.2.2.2.2.2.2.2.2.1 K hL h6 hr kk
      by_cases c10 : v = (10 : Int32)
      · refine vs_tab (pc := 33) (off := 581) (tgt := 614) K.ec c10 dL_law_33 (by decide) (by decide) (by decide) (by decide) ?_
        exact lc_count hs.2.2.2.2.2.2.2.2.2.2.1 K hL h6 hr kk
      by_cases c11 : v = (11 : Int32)
      · refine vs_tab (pc := 33) (off := 604) (tgt := 637) K.ec c11 dL_law_33 (by decide) (by decide) (by decide) (by decide) ?_
        exact lc_takes hs.2.2.2.2.2.2.2.2.2.2.2.1 K hL h6 hr kk
      by_cases c12 : v = (12 : Int32)
      · refine vs_tab (pc := 33) (off := 637) (tgt := 670) K.ec c12 dL_law_33 (by decide) (by decide) (by decide) (by decide) ?_
        exact lc_sum hs.2.2.2.2.2.2.2.2.2.2.2.2.1 K hL h6 hr kk
      by_cases c13 : v = (13 : Int32)
      · refine vs_tab (pc := 33) (off := 661) (tgt := 694) K.ec c13 dL_law_33 (by decide) (by decide) (by decide) (by decide) ?_
        exact lc_use hs.2.2.2.2.2.2.2.2.2.2.2.2.2.1 K hL h6 hr kk
      by_cases c14 : v = (14 : Int32)
      · refine vs_tab (pc := 33) (off := 684) (tgt := 717) K.ec c14 dL_law_33 (by decide) (by decide) (by decide) (by decide) ?_
        exact lc_feed hs.2.2.2.2.2.2.2.2.2.2.2.2.2.2.1 K hL h6 hr kk
      by_cases c15 : v = (15 : Int32)
      · refine vs_tab (pc := 33) (off := 747) (tgt := 780) K.ec c15 dL_law_33 (by decide) (by decide) (by decide) (by decide) ?_
        exact lc_text hs.2.2.2.2.2.2.2.2.2.2.2.2.2.2.2.1 K hL h6 hr kk
      by_cases c16 : v = (16 : Int32)
      · refine vs_tab (pc := 33) (off := 760) (tgt := 793) K.ec c16 dL_law_33 (by decide) (by decide) (by decide) (by decide) ?_
        exact lc_force hs.2.2.2.2.2.2.2.2.2.2.2.2.2.2.2.2.1 K hL h6 hr kk
      by_cases c17 : v = (17 : Int32)
      · refine vs_tab (pc := 33) (off := 783) (tgt := 816) K.ec c17 dL_law_33 (by decide) (by decide) (by decide) (by decide) ?_
        exact lc_best hs.2.2.2.2.2.2.2.2.2.2.2.2.2.2.2.2.2.1 K hL h6 hr kk
      by_cases c18 : v = (18 : Int32)
      · refine vs_tab (pc := 33) (off := 807) (tgt := 840) K.ec c18 dL_law_33 (by decide) (by decide) (by decide) (by decide) ?_
        exact lc_bound hs.2.2.2.2.2.2.2.2.2.2.2.2.2.2.2.2.2.2.1 K hL h6 hr kk
      by_cases c19 : v = (19 : Int32)
      · refine vs_tab (pc := 33) (off := 830) (tgt := 863) K.ec c19 dL_law_33 (by decide) (by decide) (by decide) (by decide) ?_
        exact lc_least hs.2.2.2.2.2.2.2.2.2.2.2.2.2.2.2.2.2.2.2.1 K hL h6 hr kk
      by_cases c20 : v = (20 : Int32)
      · refine vs_tab (pc := 33) (off := 853) (tgt := 886) K.ec c20 dL_law_33 (by decide) (by decide) (by decide) (by decide) ?_
        exact lc_fair hs.2.2.2.2.2.2.2.2.2.2.2.2.2.2.2.2.2.2.2.2.1 K hL h6 hr kk
      by_cases c21 : v = (21 : Int32)
      · refine vs_tab (pc := 33) (off := 866) (tgt := 899) K.ec c21 dL_law_33 (by decide) (by decide) (by decide) (by decide) ?_
        exact lc_fewest hs.2.2.2.2.2.2.2.2.2.2.2.2.2.2.2.2.2.2.2.2.2.1 K hL h6 hr kk
      by_cases c22 : v = (22 : Int32)
      · refine vs_tab (pc := 33) (off := 889) (tgt := 922) K.ec c22 dL_law_33 (by decide) (by decide) (by decide) (by decide) ?_
        exact lc_judge hs.2.2.2.2.2.2.2.2.2.2.2.2.2.2.2.2.2.2.2.2.2.2.1 K hL h6 hr kk
      by_cases c23 : v = (23 : Int32)
      · refine vs_tab (pc := 33) (off := 912) (tgt := 945) K.ec c23 dL_law_33 (by decide) (by decide) (by decide) (by decide) ?_
        exact lc_patterns hs.2.2.2.2.2.2.2.2.2.2.2.2.2.2.2.2.2.2.2.2.2.2.2.1 K hL h6 hr kk
      by_cases c24 : v = (24 : Int32)
      · refine vs_tab (pc := 33) (off := 936) (tgt := 969) K.ec c24 dL_law_33 (by decide) (by decide) (by decide) (by decide) ?_
        exact lc_bench hs.2.2.2.2.2.2.2.2.2.2.2.2.2.2.2.2.2.2.2.2.2.2.2.2.1 K hL h6 hr kk
      by_cases c25 : v = (25 : Int32)
      · refine vs_tab (pc := 33) (off := 970) (tgt := 1003) K.ec c25 dL_law_33 (by decide) (by decide) (by decide) (by decide) ?_
        exact lc_give hs.2.2.2.2.2.2.2.2.2.2.2.2.2.2.2.2.2.2.2.2.2.2.2.2.2.1 K hL h6 hr kk
      by_cases c26 : v = (26 : Int32)
      · refine vs_tab (pc := 33) (off := 983) (tgt := 1016) K.ec c26 dL_law_33 (by decide) (by decide) (by decide) (by decide) ?_
        exact lc_order hs.2.2.2.2.2.2.2.2.2.2.2.2.2.2.2.2.2.2.2.2.2.2.2.2.2.2.1 K hL h6 hr kk
      by_cases c27 : v = (27 : Int32)
      · refine vs_tab (pc := 33) (off := 1006) (tgt := 1039) K.ec c27 dL_law_33 (by decide) (by decide) (by decide) (by decide) ?_
        exact lc_thins hs.2.2.2.2.2.2.2.2.2.2.2.2.2.2.2.2.2.2.2.2.2.2.2.2.2.2.2.1 K hL h6 hr kk
      by_cases c28 : v = (28 : Int32)
      · refine vs_tab (pc := 33) (off := 1019) (tgt := 1052) K.ec c28 dL_law_33 (by decide) (by decide) (by decide) (by decide) ?_
        exact lc_across hs.2.2.2.2.2.2.2.2.2.2.2.2.2.2.2.2.2.2.2.2.2.2.2.2.2.2.2.2.1 K hL h6 hr kk
      by_cases c29 : v = (29 : Int32)
      · refine vs_tab (pc := 33) (off := 1043) (tgt := 1076) K.ec c29 dL_law_33 (by decide) (by decide) (by decide) (by decide) ?_
        exact lc_homes hs.2.2.2.2.2.2.2.2.2.2.2.2.2.2.2.2.2.2.2.2.2.2.2.2.2.2.2.2.2.1 K hL h6 hr kk
      by_cases c30 : v = (30 : Int32)
      · refine vs_tab (pc := 33) (off := 1056) (tgt := 1089) K.ec c30 dL_law_33 (by decide) (by decide) (by decide) (by decide) ?_
        exact lc_round hs.2.2.2.2.2.2.2.2.2.2.2.2.2.2.2.2.2.2.2.2.2.2.2.2.2.2.2.2.2.2.1 K hL h6 hr kk
      by_cases c31 : v = (31 : Int32)
      · refine vs_tab (pc := 33) (off := 1079) (tgt := 1112) K.ec c31 dL_law_33 (by decide) (by decide) (by decide) (by decide) ?_
        exact lc_rest hs.2.2.2.2.2.2.2.2.2.2.2.2.2.2.2.2.2.2.2.2.2.2.2.2.2.2.2.2.2.2.2.1 K hL h6 hr kk
      by_cases c32 : v = (32 : Int32)
      · refine vs_tab (pc := 33) (off := 1102) (tgt := 1135) K.ec c32 dL_law_33 (by decide) (by decide) (by decide) (by decide) ?_
        exact lc_asks hs.2.2.2.2.2.2.2.2.2.2.2.2.2.2.2.2.2.2.2.2.2.2.2.2.2.2.2.2.2.2.2.2.1 K hL h6 hr kk
      by_cases c33 : v = (33 : Int32)
      · refine vs_tab (pc := 33) (off := 1125) (tgt := 1158) K.ec c33 dL_law_33 (by decide) (by decide) (by decide) (by decide) ?_
        exact lc_asked hs.2.2.2.2.2.2.2.2.2.2.2.2.2.2.2.2.2.2.2.2.2.2.2.2.2.2.2.2.2.2.2.2.2.1 K hL h6 hr kk
      by_cases c34 : v = (34 : Int32)
      · refine vs_tab (pc := 33) (off := 1138) (tgt := 1171) K.ec c34 dL_law_33 (by decide) (by decide) (by decide) (by decide) ?_
        exact lc_bunch hs.2.2.2.2.2.2.2.2.2.2.2.2.2.2.2.2.2.2.2.2.2.2.2.2.2.2.2.2.2.2.2.2.2.2.1 K hL h6 hr kk
      by_cases c35 : v = (35 : Int32)
      · refine vs_tab (pc := 33) (off := 1171) (tgt := 1204) K.ec c35 dL_law_33 (by decide) (by decide) (by decide) (by decide) ?_
        exact lc_crowd hs.2.2.2.2.2.2.2.2.2.2.2.2.2.2.2.2.2.2.2.2.2.2.2.2.2.2.2.2.2.2.2.2.2.2.2.1 K hL h6 hr kk
      by_cases c36 : v = (36 : Int32)
      · refine vs_tab (pc := 33) (off := 1204) (tgt := 1237) K.ec c36 dL_law_33 (by decide) (by decide) (by decide) (by decide) ?_
        exact lc_drawn hs.2.2.2.2.2.2.2.2.2.2.2.2.2.2.2.2.2.2.2.2.2.2.2.2.2.2.2.2.2.2.2.2.2.2.2.2.1 K hL h6 hr kk
      by_cases c37 : v = (37 : Int32)
      · refine vs_tab (pc := 33) (off := 1237) (tgt := 1270) K.ec c37 dL_law_33 (by decide) (by decide) (by decide) (by decide) ?_
        exact lc_image hs.2.2.2.2.2.2.2.2.2.2.2.2.2.2.2.2.2.2.2.2.2.2.2.2.2.2.2.2.2.2.2.2.2.2.2.2.2.1 K hL h6 hr kk
      by_cases c38 : v = (38 : Int32)
      · refine vs_tab (pc := 33) (off := 1250) (tgt := 1283) K.ec c38 dL_law_33 (by decide) (by decide) (by decide) (by decide) ?_
        exact lc_back hs.2.2.2.2.2.2.2.2.2.2.2.2.2.2.2.2.2.2.2.2.2.2.2.2.2.2.2.2.2.2.2.2.2.2.2.2.2.2.1 K hL h6 hr kk
      by_cases c39 : v = (39 : Int32)
      · refine vs_tab (pc := 33) (off := 1263) (tgt := 1296) K.ec c39 dL_law_33 (by decide) (by decide) (by decide) (by decide) ?_
        exact lc_sheet hs.2.2.2.2.2.2.2.2.2.2.2.2.2.2.2.2.2.2.2.2.2.2.2.2.2.2.2.2.2.2.2.2.2.2.2.2.2.2.2.1 K hL h6 hr kk
      by_cases c40 : v = (40 : Int32)
      · refine vs_tab (pc := 33) (off := 1306) (tgt := 1339) K.ec c40 dL_law_33 (by decide) (by decide) (by decide) (by decide) ?_
        exact lc_cell hs.2.2.2.2.2.2.2.2.2.2.2.2.2.2.2.2.2.2.2.2.2.2.2.2.2.2.2.2.2.2.2.2.2.2.2.2.2.2.2.2.1 K hL h6 hr kk
      by_cases c41 : v = (41 : Int32)
      · refine vs_tab (pc := 33) (off := 1349) (tgt := 1382) K.ec c41 dL_law_33 (by decide) (by decide) (by decide) (by decide) ?_
        exact lc_copy hs.2.2.2.2.2.2.2.2.2.2.2.2.2.2.2.2.2.2.2.2.2.2.2.2.2.2.2.2.2.2.2.2.2.2.2.2.2.2.2.2.2.1 K hL h6 hr kk
      by_cases c42 : v = (42 : Int32)
      · refine vs_tab (pc := 33) (off := 1412) (tgt := 1445) K.ec c42 dL_law_33 (by decide) (by decide) (by decide) (by decide) ?_
        exact lc_tripsBy hs.2.2.2.2.2.2.2.2.2.2.2.2.2.2.2.2.2.2.2.2.2.2.2.2.2.2.2.2.2.2.2.2.2.2.2.2.2.2.2.2.2.2.1 K hL h6 hr kk
      by_cases c43 : v = (43 : Int32)
      · refine vs_tab (pc := 33) (off := 1465) (tgt := 1498) K.ec c43 dL_law_33 (by decide) (by decide) (by decide) (by decide) ?_
        exact lc_taken hs.2.2.2.2.2.2.2.2.2.2.2.2.2.2.2.2.2.2.2.2.2.2.2.2.2.2.2.2.2.2.2.2.2.2.2.2.2.2.2.2.2.2.2 K hL h6 hr kk
      have e0 : ¬ v.toInt = 0 := lv_neT c0 (by decide)
      have e1 : ¬ v.toInt = 1 := lv_neT c1 (by decide)
      have e2 : ¬ v.toInt = 2 := lv_neT c2 (by decide)
      have e3 : ¬ v.toInt = 3 := lv_neT c3 (by decide)
      have e4 : ¬ v.toInt = 4 := lv_neT c4 (by decide)
      have e5 : ¬ v.toInt = 5 := lv_neT c5 (by decide)
      have e6 : ¬ v.toInt = 6 := lv_neT c6 (by decide)
      have e7 : ¬ v.toInt = 7 := lv_neT c7 (by decide)
      have e8 : ¬ v.toInt = 8 := lv_neT c8 (by decide)
      have e9 : ¬ v.toInt = 9 := lv_neT c9 (by decide)
      have e10 : ¬ v.toInt = 10 := lv_neT c10 (by decide)
      have e11 : ¬ v.toInt = 11 := lv_neT c11 (by decide)
      have e12 : ¬ v.toInt = 12 := lv_neT c12 (by decide)
      have e13 : ¬ v.toInt = 13 := lv_neT c13 (by decide)
      have e14 : ¬ v.toInt = 14 := lv_neT c14 (by decide)
      have e15 : ¬ v.toInt = 15 := lv_neT c15 (by decide)
      have e16 : ¬ v.toInt = 16 := lv_neT c16 (by decide)
      have e17 : ¬ v.toInt = 17 := lv_neT c17 (by decide)
      have e18 : ¬ v.toInt = 18 := lv_neT c18 (by decide)
      have e19 : ¬ v.toInt = 19 := lv_neT c19 (by decide)
      have e20 : ¬ v.toInt = 20 := lv_neT c20 (by decide)
      have e21 : ¬ v.toInt = 21 := lv_neT c21 (by decide)
      have e22 : ¬ v.toInt = 22 := lv_neT c22 (by decide)
      have e23 : ¬ v.toInt = 23 := lv_neT c23 (by decide)
      have e24 : ¬ v.toInt = 24 := lv_neT c24 (by decide)
      have e25 : ¬ v.toInt = 25 := lv_neT c25 (by decide)
      have e26 : ¬ v.toInt = 26 := lv_neT c26 (by decide)
      have e27 : ¬ v.toInt = 27 := lv_neT c27 (by decide)
      have e28 : ¬ v.toInt = 28 := lv_neT c28 (by decide)
      have e29 : ¬ v.toInt = 29 := lv_neT c29 (by decide)
      have e30 : ¬ v.toInt = 30 := lv_neT c30 (by decide)
      have e31 : ¬ v.toInt = 31 := lv_neT c31 (by decide)
      have e32 : ¬ v.toInt = 32 := lv_neT c32 (by decide)
      have e33 : ¬ v.toInt = 33 := lv_neT c33 (by decide)
      have e34 : ¬ v.toInt = 34 := lv_neT c34 (by decide)
      have e35 : ¬ v.toInt = 35 := lv_neT c35 (by decide)
      have e36 : ¬ v.toInt = 36 := lv_neT c36 (by decide)
      have e37 : ¬ v.toInt = 37 := lv_neT c37 (by decide)
      have e38 : ¬ v.toInt = 38 := lv_neT c38 (by decide)
      have e39 : ¬ v.toInt = 39 := lv_neT c39 (by decide)
      have e40 : ¬ v.toInt = 40 := lv_neT c40 (by decide)
      have e41 : ¬ v.toInt = 41 := lv_neT c41 (by decide)
      have e42 : ¬ v.toInt = 42 := lv_neT c42 (by decide)
      have e43 : ¬ v.toInt = 43 := lv_neT c43 (by decide)
      refine vs_tableOut (pc := 33) (tgt := 1531) K.ec dL_law_33 (by omega) (by decide) ?_
      exact kk σ τ hr
