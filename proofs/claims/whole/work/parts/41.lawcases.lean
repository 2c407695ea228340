theorem lcmp_self (r : Int64) : lg_cmp r r = 0 := by unfold lg_cmp; simp
section LCS
variable {p : Program} {l : Launch} {e : Env} {s : State} {m : MethodId} {below : List Frame} {meth : Method} {c : Code} {b L : Nat} {xs : Nat → Int32} {D : va_G} {cy : Nat → ClassId} {cells slots : Nat} {ad : Nat → Nat → Nat} {k : Nat} {Sx Sm : St}
theorem k_lift (cx : CL p s m meth c b L xs D cy cells slots) (lj : LJ ad k s) (hRel : Rel k Sx Sm) {i : Int32} (h1 : vp_in (i + (1 : Int32)) L) (h2 : vp_in (i + (2 : Int32)) L) (h3 : vp_in (i + (3 : Int32)) L) (h4 : vp_in (i + (4 : Int32)) L) (h5 : vp_in (i + (5 : Int32)) L) (kk : ∀ Sx' Sm', Rel k Sx' Sm' → LT p l e s m below meth c b D cy cells slots ad k Sx' Sm' 1542 [(0, .ref b), (1, .ref (ad 7 0)), (2, .ref (ad 8 0)), (3, .int i)] []) : LT p l e s m below meth c b D cy cells slots ad k Sx Sm 220 [(0, .ref b), (1, .ref (ad 7 0)), (2, .ref (ad 8 0)), (3, .int i)] [] := by
  obtain ⟨r, Sx', Sm', hx, hm, hq⟩ := m_lift hRel (xs (i + (1 : Int32)).toNatClampNeg) (xs (i + (2 : Int32)).toNatClampNeg) (xs (i + (3 : Int32)).toNatClampNeg) (xs (i + (4 : Int32)).toNatClampNeg)
  refine L_aload_n (q := 221) cx dL_law_220 rfl rfl ?_
  refine L_aload_n (q := 222) cx dL_law_221 rfl rfl ?_
  refine L_iload_n (q := 223) cx dL_law_222 rfl rfl ?_
  refine L_iconst (q := 224) (v := (1 : Int32)) cx dL_law_223 rfl (by decide) ?_
  refine L_iadd (q := 225) cx dL_law_224 rfl ?_
  refine L_sld (q := 226) cx dL_law_225 rfl h1 ?_
  refine L_aload_n (q := 227) cx dL_law_226 rfl rfl ?_
  refine L_iload_n (q := 228) cx dL_law_227 rfl rfl ?_
  refine L_iconst (q := 229) (v := (2 : Int32)) cx dL_law_228 rfl (by decide) ?_
  refine L_iadd (q := 230) cx dL_law_229 rfl ?_
  refine L_sld (q := 231) cx dL_law_230 rfl h2 ?_
  refine L_aload_n (q := 232) cx dL_law_231 rfl rfl ?_
  refine L_iload_n (q := 233) cx dL_law_232 rfl rfl ?_
  refine L_iconst (q := 234) (v := (3 : Int32)) cx dL_law_233 rfl (by decide) ?_
  refine L_iadd (q := 235) cx dL_law_234 rfl ?_
  refine L_sld (q := 236) cx dL_law_235 rfl h3 ?_
  refine L_aload_n (q := 237) cx dL_law_236 rfl rfl ?_
  refine L_iload_n (q := 238) cx dL_law_237 rfl rfl ?_
  refine L_iconst (q := 239) (v := (4 : Int32)) cx dL_law_238 rfl (by decide) ?_
  refine L_iadd (q := 240) cx dL_law_239 rfl ?_
  refine L_sld (q := 241) cx dL_law_240 rfl h4 ?_
  refine L_callX (q := 244) (d' := 2) (As := [.int (xs (i + (1 : Int32)).toNatClampNeg), .int (xs (i + (2 : Int32)).toNatClampNeg), .int (xs (i + (3 : Int32)).toNatClampNeg), .int (xs (i + (4 : Int32)).toNatClampNeg)]) (rest := []) (st' := [.int r]) cx lj dL_law_241 rfl ml_RL_13 rfl rfl (Nat.le_of_ble_eq_true rfl) (Nat.le_of_ble_eq_true rfl) (Nat.le_of_ble_eq_true rfl) (c_X7_lift l lj.1 _ (xs (i + (1 : Int32)).toNatClampNeg) (xs (i + (2 : Int32)).toNatClampNeg) (xs (i + (3 : Int32)).toNatClampNeg) (xs (i + (4 : Int32)).toNatClampNeg)) hx rfl ?_
  refine L_aload_n (q := 245) cx dL_law_244 rfl rfl ?_
  refine L_aload_n (q := 246) cx dL_law_245 rfl rfl ?_
  refine L_iload_n (q := 247) cx dL_law_246 rfl rfl ?_
  refine L_iconst (q := 248) (v := (1 : Int32)) cx dL_law_247 rfl (by decide) ?_
  refine L_iadd (q := 249) cx dL_law_248 rfl ?_
  refine L_sld (q := 250) cx dL_law_249 rfl h1 ?_
  refine L_aload_n (q := 251) cx dL_law_250 rfl rfl ?_
  refine L_iload_n (q := 252) cx dL_law_251 rfl rfl ?_
  refine L_iconst (q := 253) (v := (2 : Int32)) cx dL_law_252 rfl (by decide) ?_
  refine L_iadd (q := 254) cx dL_law_253 rfl ?_
  refine L_sld (q := 255) cx dL_law_254 rfl h2 ?_
  refine L_aload_n (q := 256) cx dL_law_255 rfl rfl ?_
  refine L_iload_n (q := 257) cx dL_law_256 rfl rfl ?_
  refine L_iconst (q := 258) (v := (3 : Int32)) cx dL_law_257 rfl (by decide) ?_
  refine L_iadd (q := 259) cx dL_law_258 rfl ?_
  refine L_sld (q := 260) cx dL_law_259 rfl h3 ?_
  refine L_aload_n (q := 261) cx dL_law_260 rfl rfl ?_
  refine L_iload_n (q := 262) cx dL_law_261 rfl rfl ?_
  refine L_iconst (q := 263) (v := (4 : Int32)) cx dL_law_262 rfl (by decide) ?_
  refine L_iadd (q := 264) cx dL_law_263 rfl ?_
  refine L_sld (q := 265) cx dL_law_264 rfl h4 ?_
  refine L_callM (q := 268) (d' := 2) (As := [.int (xs (i + (1 : Int32)).toNatClampNeg), .int (xs (i + (2 : Int32)).toNatClampNeg), .int (xs (i + (3 : Int32)).toNatClampNeg), .int (xs (i + (4 : Int32)).toNatClampNeg)]) (rest := [.int r]) (st' := [.int r, .int r]) cx lj dL_law_265 rfl ml_RL_17 rfl rfl (Nat.le_of_ble_eq_true rfl) (Nat.le_of_ble_eq_true rfl) (Nat.le_of_ble_eq_true rfl) (c_X8_lift l lj.2.1 _ (xs (i + (1 : Int32)).toNatClampNeg) (xs (i + (2 : Int32)).toNatClampNeg) (xs (i + (3 : Int32)).toNatClampNeg) (xs (i + (4 : Int32)).toNatClampNeg)) hm rfl ?_
  refine L_eqy (t := 1542) cx dL_law_268 (by decide) ?_
  exact kk _ _ hq
theorem k_of (cx : CL p s m meth c b L xs D cy cells slots) (lj : LJ ad k s) (hRel : Rel k Sx Sm) {i : Int32} (h1 : vp_in (i + (1 : Int32)) L) (h2 : vp_in (i + (2 : Int32)) L) (h3 : vp_in (i + (3 : Int32)) L) (h4 : vp_in (i + (4 : Int32)) L) (h5 : vp_in (i + (5 : Int32)) L) (kk : ∀ Sx' Sm', Rel k Sx' Sm' → LT p l e s m below meth c b D cy cells slots ad k Sx' Sm' 1542 [(0, .ref b), (1, .ref (ad 7 0)), (2, .ref (ad 8 0)), (3, .int i)] []) : LT p l e s m below meth c b D cy cells slots ad k Sx Sm 273 [(0, .ref b), (1, .ref (ad 7 0)), (2, .ref (ad 8 0)), (3, .int i)] [] := by
  obtain ⟨r, Sx', Sm', hx, hm, hq⟩ := m_of hRel (xs (i + (1 : Int32)).toNatClampNeg) (xs (i + (2 : Int32)).toNatClampNeg)
  refine L_aload_n (q := 274) cx dL_law_273 rfl rfl ?_
  refine L_aload_n (q := 275) cx dL_law_274 rfl rfl ?_
  refine L_iload_n (q := 276) cx dL_law_275 rfl rfl ?_
  refine L_iconst (q := 277) (v := (1 : Int32)) cx dL_law_276 rfl (by decide) ?_
  refine L_iadd (q := 278) cx dL_law_277 rfl ?_
  refine L_sld (q := 279) cx dL_law_278 rfl h1 ?_
  refine L_aload_n (q := 280) cx dL_law_279 rfl rfl ?_
  refine L_iload_n (q := 281) cx dL_law_280 rfl rfl ?_
  refine L_iconst (q := 282) (v := (2 : Int32)) cx dL_law_281 rfl (by decide) ?_
  refine L_iadd (q := 283) cx dL_law_282 rfl ?_
  refine L_sld (q := 284) cx dL_law_283 rfl h2 ?_
  refine L_callX (q := 287) (d' := 4) (As := [.int (xs (i + (1 : Int32)).toNatClampNeg), .int (xs (i + (2 : Int32)).toNatClampNeg)]) (rest := []) (st' := [.int r]) cx lj dL_law_284 rfl ml_RL_18 rfl rfl (Nat.le_of_ble_eq_true rfl) (Nat.le_of_ble_eq_true rfl) (Nat.le_of_ble_eq_true rfl) (c_X7_of l lj.1 _ (xs (i + (1 : Int32)).toNatClampNeg) (xs (i + (2 : Int32)).toNatClampNeg)) hx rfl ?_
  refine L_aload_n (q := 288) cx dL_law_287 rfl rfl ?_
  refine L_aload_n (q := 289) cx dL_law_288 rfl rfl ?_
  refine L_iload_n (q := 290) cx dL_law_289 rfl rfl ?_
  refine L_iconst (q := 291) (v := (1 : Int32)) cx dL_law_290 rfl (by decide) ?_
  refine L_iadd (q := 292) cx dL_law_291 rfl ?_
  refine L_sld (q := 293) cx dL_law_292 rfl h1 ?_
  refine L_aload_n (q := 294) cx dL_law_293 rfl rfl ?_
  refine L_iload_n (q := 295) cx dL_law_294 rfl rfl ?_
  refine L_iconst (q := 296) (v := (2 : Int32)) cx dL_law_295 rfl (by decide) ?_
  refine L_iadd (q := 297) cx dL_law_296 rfl ?_
  refine L_sld (q := 298) cx dL_law_297 rfl h2 ?_
  refine L_callM (q := 301) (d' := 4) (As := [.int (xs (i + (1 : Int32)).toNatClampNeg), .int (xs (i + (2 : Int32)).toNatClampNeg)]) (rest := [.int r]) (st' := [.int r, .int r]) cx lj dL_law_298 rfl ml_RL_22 rfl rfl (Nat.le_of_ble_eq_true rfl) (Nat.le_of_ble_eq_true rfl) (Nat.le_of_ble_eq_true rfl) (c_X8_of l lj.2.1 _ (xs (i + (1 : Int32)).toNatClampNeg) (xs (i + (2 : Int32)).toNatClampNeg)) hm rfl ?_
  refine L_eqy (t := 1542) cx dL_law_301 (by decide) ?_
  exact kk _ _ hq
theorem k_pull (cx : CL p s m meth c b L xs D cy cells slots) (lj : LJ ad k s) (hRel : Rel k Sx Sm) {i : Int32} (h1 : vp_in (i + (1 : Int32)) L) (h2 : vp_in (i + (2 : Int32)) L) (h3 : vp_in (i + (3 : Int32)) L) (h4 : vp_in (i + (4 : Int32)) L) (h5 : vp_in (i + (5 : Int32)) L) (kk : ∀ Sx' Sm', Rel k Sx' Sm' → LT p l e s m below meth c b D cy cells slots ad k Sx' Sm' 1542 [(0, .ref b), (1, .ref (ad 7 0)), (2, .ref (ad 8 0)), (3, .int i)] []) : LT p l e s m below meth c b D cy cells slots ad k Sx Sm 306 [(0, .ref b), (1, .ref (ad 7 0)), (2, .ref (ad 8 0)), (3, .int i)] [] := by
  obtain ⟨r, Sx', Sm', hx, hm, hq⟩ := m_pull hRel (xs (i + (1 : Int32)).toNatClampNeg) (xs (i + (2 : Int32)).toNatClampNeg)
  refine L_aload_n (q := 307) cx dL_law_306 rfl rfl ?_
  refine L_aload_n (q := 308) cx dL_law_307 rfl rfl ?_
  refine L_iload_n (q := 309) cx dL_law_308 rfl rfl ?_
  refine L_iconst (q := 310) (v := (1 : Int32)) cx dL_law_309 rfl (by decide) ?_
  refine L_iadd (q := 311) cx dL_law_310 rfl ?_
  refine L_sld (q := 312) cx dL_law_311 rfl h1 ?_
  refine L_aload_n (q := 313) cx dL_law_312 rfl rfl ?_
  refine L_iload_n (q := 314) cx dL_law_313 rfl rfl ?_
  refine L_iconst (q := 315) (v := (2 : Int32)) cx dL_law_314 rfl (by decide) ?_
  refine L_iadd (q := 316) cx dL_law_315 rfl ?_
  refine L_sld (q := 317) cx dL_law_316 rfl h2 ?_
  refine L_callX (q := 320) (d' := 1) (As := [.int (xs (i + (1 : Int32)).toNatClampNeg), .int (xs (i + (2 : Int32)).toNatClampNeg)]) (rest := []) (st' := [.int r]) cx lj dL_law_317 rfl ml_RL_23 rfl rfl (Nat.le_of_ble_eq_true rfl) (Nat.le_of_ble_eq_true rfl) (Nat.le_of_ble_eq_true rfl) (c_X7_pull l lj.1 _ (xs (i + (1 : Int32)).toNatClampNeg) (xs (i + (2 : Int32)).toNatClampNeg)) hx rfl ?_
  refine L_aload_n (q := 321) cx dL_law_320 rfl rfl ?_
  refine L_aload_n (q := 322) cx dL_law_321 rfl rfl ?_
  refine L_iload_n (q := 323) cx dL_law_322 rfl rfl ?_
  refine L_iconst (q := 324) (v := (1 : Int32)) cx dL_law_323 rfl (by decide) ?_
  refine L_iadd (q := 325) cx dL_law_324 rfl ?_
  refine L_sld (q := 326) cx dL_law_325 rfl h1 ?_
  refine L_aload_n (q := 327) cx dL_law_326 rfl rfl ?_
  refine L_iload_n (q := 328) cx dL_law_327 rfl rfl ?_
  refine L_iconst (q := 329) (v := (2 : Int32)) cx dL_law_328 rfl (by decide) ?_
  refine L_iadd (q := 330) cx dL_law_329 rfl ?_
  refine L_sld (q := 331) cx dL_law_330 rfl h2 ?_
  refine L_callM (q := 334) (d' := 2) (As := [.int (xs (i + (1 : Int32)).toNatClampNeg), .int (xs (i + (2 : Int32)).toNatClampNeg)]) (rest := [.int r]) (st' := [.int r, .int r]) cx lj dL_law_331 rfl ml_RL_26 rfl rfl (Nat.le_of_ble_eq_true rfl) (Nat.le_of_ble_eq_true rfl) (Nat.le_of_ble_eq_true rfl) (c_X8_pull l lj.2.1 _ (xs (i + (1 : Int32)).toNatClampNeg) (xs (i + (2 : Int32)).toNatClampNeg)) hm rfl ?_
  refine L_eqy (t := 1542) cx dL_law_334 (by decide) ?_
  exact kk _ _ hq
theorem k_row (cx : CL p s m meth c b L xs D cy cells slots) (lj : LJ ad k s) (hRel : Rel k Sx Sm) {i : Int32} (h1 : vp_in (i + (1 : Int32)) L) (h2 : vp_in (i + (2 : Int32)) L) (h3 : vp_in (i + (3 : Int32)) L) (h4 : vp_in (i + (4 : Int32)) L) (h5 : vp_in (i + (5 : Int32)) L) (kk : ∀ Sx' Sm', Rel k Sx' Sm' → LT p l e s m below meth c b D cy cells slots ad k Sx' Sm' 1542 [(0, .ref b), (1, .ref (ad 7 0)), (2, .ref (ad 8 0)), (3, .int i)] []) : LT p l e s m below meth c b D cy cells slots ad k Sx Sm 339 [(0, .ref b), (1, .ref (ad 7 0)), (2, .ref (ad 8 0)), (3, .int i)] [] := by
  obtain ⟨r, Sx', Sm', hx, hm, hq⟩ := m_row hRel (xs (i + (1 : Int32)).toNatClampNeg) (xs (i + (2 : Int32)).toNatClampNeg) (xs (i + (3 : Int32)).toNatClampNeg)
  refine L_aload_n (q := 340) cx dL_law_339 rfl rfl ?_
  refine L_aload_n (q := 341) cx dL_law_340 rfl rfl ?_
  refine L_iload_n (q := 342) cx dL_law_341 rfl rfl ?_
  refine L_iconst (q := 343) (v := (1 : Int32)) cx dL_law_342 rfl (by decide) ?_
  refine L_iadd (q := 344) cx dL_law_343 rfl ?_
  refine L_sld (q := 345) cx dL_law_344 rfl h1 ?_
  refine L_aload_n (q := 346) cx dL_law_345 rfl rfl ?_
  refine L_iload_n (q := 347) cx dL_law_346 rfl rfl ?_
  refine L_iconst (q := 348) (v := (2 : Int32)) cx dL_law_347 rfl (by decide) ?_
  refine L_iadd (q := 349) cx dL_law_348 rfl ?_
  refine L_sld (q := 350) cx dL_law_349 rfl h2 ?_
  refine L_aload_n (q := 351) cx dL_law_350 rfl rfl ?_
  refine L_iload_n (q := 352) cx dL_law_351 rfl rfl ?_
  refine L_iconst (q := 353) (v := (3 : Int32)) cx dL_law_352 rfl (by decide) ?_
  refine L_iadd (q := 354) cx dL_law_353 rfl ?_
  refine L_sld (q := 355) cx dL_law_354 rfl h3 ?_
  refine L_callX (q := 358) (d' := 1) (As := [.int (xs (i + (1 : Int32)).toNatClampNeg), .int (xs (i + (2 : Int32)).toNatClampNeg), .int (xs (i + (3 : Int32)).toNatClampNeg)]) (rest := []) (st' := [.int r]) cx lj dL_law_355 rfl ml_RL_27 rfl rfl (Nat.le_of_ble_eq_true rfl) (Nat.le_of_ble_eq_true rfl) (Nat.le_of_ble_eq_true rfl) (c_X7_row l lj.1 _ (xs (i + (1 : Int32)).toNatClampNeg) (xs (i + (2 : Int32)).toNatClampNeg) (xs (i + (3 : Int32)).toNatClampNeg)) hx rfl ?_
  refine L_aload_n (q := 359) cx dL_law_358 rfl rfl ?_
  refine L_aload_n (q := 360) cx dL_law_359 rfl rfl ?_
  refine L_iload_n (q := 361) cx dL_law_360 rfl rfl ?_
  refine L_iconst (q := 362) (v := (1 : Int32)) cx dL_law_361 rfl (by decide) ?_
  refine L_iadd (q := 363) cx dL_law_362 rfl ?_
  refine L_sld (q := 364) cx dL_law_363 rfl h1 ?_
  refine L_aload_n (q := 365) cx dL_law_364 rfl rfl ?_
  refine L_iload_n (q := 366) cx dL_law_365 rfl rfl ?_
  refine L_iconst (q := 367) (v := (2 : Int32)) cx dL_law_366 rfl (by decide) ?_
  refine L_iadd (q := 368) cx dL_law_367 rfl ?_
  refine L_sld (q := 369) cx dL_law_368 rfl h2 ?_
  refine L_aload_n (q := 370) cx dL_law_369 rfl rfl ?_
  refine L_iload_n (q := 371) cx dL_law_370 rfl rfl ?_
  refine L_iconst (q := 372) (v := (3 : Int32)) cx dL_law_371 rfl (by decide) ?_
  refine L_iadd (q := 373) cx dL_law_372 rfl ?_
  refine L_sld (q := 374) cx dL_law_373 rfl h3 ?_
  refine L_callM (q := 377) (d' := 2) (As := [.int (xs (i + (1 : Int32)).toNatClampNeg), .int (xs (i + (2 : Int32)).toNatClampNeg), .int (xs (i + (3 : Int32)).toNatClampNeg)]) (rest := [.int r]) (st' := [.int r, .int r]) cx lj dL_law_374 rfl ml_RL_31 rfl rfl (Nat.le_of_ble_eq_true rfl) (Nat.le_of_ble_eq_true rfl) (Nat.le_of_ble_eq_true rfl) (c_X8_row l lj.2.1 _ (xs (i + (1 : Int32)).toNatClampNeg) (xs (i + (2 : Int32)).toNatClampNeg) (xs (i + (3 : Int32)).toNatClampNeg)) hm rfl ?_
  refine L_eqy (t := 1542) cx dL_law_377 (by decide) ?_
  exact kk _ _ hq
theorem k_feed (cx : CL p s m meth c b L xs D cy cells slots) (lj : LJ ad k s) (hRel : Rel k Sx Sm) {i : Int32} (h1 : vp_in (i + (1 : Int32)) L) (h2 : vp_in (i + (2 : Int32)) L) (h3 : vp_in (i + (3 : Int32)) L) (h4 : vp_in (i + (4 : Int32)) L) (h5 : vp_in (i + (5 : Int32)) L) (kk : ∀ Sx' Sm', Rel k Sx' Sm' → LT p l e s m below meth c b D cy cells slots ad k Sx' Sm' 1542 [(0, .ref b), (1, .ref (ad 7 0)), (2, .ref (ad 8 0)), (3, .int i)] []) : LT p l e s m below meth c b D cy cells slots ad k Sx Sm 382 [(0, .ref b), (1, .ref (ad 7 0)), (2, .ref (ad 8 0)), (3, .int i)] [] := by
  obtain ⟨r, Sx', Sm', hx, hm, hq⟩ := m_feed hRel (xs (i + (1 : Int32)).toNatClampNeg)
  refine L_aload_n (q := 383) cx dL_law_382 rfl rfl ?_
  refine L_aload_n (q := 384) cx dL_law_383 rfl rfl ?_
  refine L_iload_n (q := 385) cx dL_law_384 rfl rfl ?_
  refine L_iconst (q := 386) (v := (1 : Int32)) cx dL_law_385 rfl (by decide) ?_
  refine L_iadd (q := 387) cx dL_law_386 rfl ?_
  refine L_sld (q := 388) cx dL_law_387 rfl h1 ?_
  refine L_callX (q := 391) (d' := 1) (As := [.int (xs (i + (1 : Int32)).toNatClampNeg)]) (rest := []) (st' := [.int r]) cx lj dL_law_388 rfl ml_RL_32 rfl rfl (Nat.le_of_ble_eq_true rfl) (Nat.le_of_ble_eq_true rfl) (Nat.le_of_ble_eq_true rfl) (c_X7_feed l lj.1 _ (xs (i + (1 : Int32)).toNatClampNeg)) hx rfl ?_
  refine L_aload_n (q := 392) cx dL_law_391 rfl rfl ?_
  refine L_aload_n (q := 393) cx dL_law_392 rfl rfl ?_
  refine L_iload_n (q := 394) cx dL_law_393 rfl rfl ?_
  refine L_iconst (q := 395) (v := (1 : Int32)) cx dL_law_394 rfl (by decide) ?_
  refine L_iadd (q := 396) cx dL_law_395 rfl ?_
  refine L_sld (q := 397) cx dL_law_396 rfl h1 ?_
  refine L_callM (q := 400) (d' := 1) (As := [.int (xs (i + (1 : Int32)).toNatClampNeg)]) (rest := [.int r]) (st' := [.int r, .int r]) cx lj dL_law_397 rfl ml_RL_36 rfl rfl (Nat.le_of_ble_eq_true rfl) (Nat.le_of_ble_eq_true rfl) (Nat.le_of_ble_eq_true rfl) (c_X8_feed l lj.2.1 _ (xs (i + (1 : Int32)).toNatClampNeg)) hm rfl ?_
  refine L_eqy (t := 1542) cx dL_law_400 (by decide) ?_
  exact kk _ _ hq
theorem k_home (cx : CL p s m meth c b L xs D cy cells slots) (lj : LJ ad k s) (hRel : Rel k Sx Sm) {i : Int32} (h1 : vp_in (i + (1 : Int32)) L) (h2 : vp_in (i + (2 : Int32)) L) (h3 : vp_in (i + (3 : Int32)) L) (h4 : vp_in (i + (4 : Int32)) L) (h5 : vp_in (i + (5 : Int32)) L) (kk : ∀ Sx' Sm', Rel k Sx' Sm' → LT p l e s m below meth c b D cy cells slots ad k Sx' Sm' 1542 [(0, .ref b), (1, .ref (ad 7 0)), (2, .ref (ad 8 0)), (3, .int i)] []) : LT p l e s m below meth c b D cy cells slots ad k Sx Sm 418 [(0, .ref b), (1, .ref (ad 7 0)), (2, .ref (ad 8 0)), (3, .int i)] [] := by
  obtain ⟨r, Sx', Sm', hx, hm, hq⟩ := m_home hRel (xs (i + (1 : Int32)).toNatClampNeg)
  refine L_aload_n (q := 419) cx dL_law_418 rfl rfl ?_
  refine L_aload_n (q := 420) cx dL_law_419 rfl rfl ?_
  refine L_iload_n (q := 421) cx dL_law_420 rfl rfl ?_
  refine L_iconst (q := 422) (v := (1 : Int32)) cx dL_law_421 rfl (by decide) ?_
  refine L_iadd (q := 423) cx dL_law_422 rfl ?_
  refine L_sld (q := 424) cx dL_law_423 rfl h1 ?_
  refine L_callX (q := 427) (d' := 2) (As := [.int (xs (i + (1 : Int32)).toNatClampNeg)]) (rest := []) (st' := [.int r]) cx lj dL_law_424 rfl ml_RL_42 rfl rfl (Nat.le_of_ble_eq_true rfl) (Nat.le_of_ble_eq_true rfl) (Nat.le_of_ble_eq_true rfl) (c_X7_home l lj.1 _ (xs (i + (1 : Int32)).toNatClampNeg)) hx rfl ?_
  refine L_aload_n (q := 428) cx dL_law_427 rfl rfl ?_
  refine L_aload_n (q := 429) cx dL_law_428 rfl rfl ?_
  refine L_iload_n (q := 430) cx dL_law_429 rfl rfl ?_
  refine L_iconst (q := 431) (v := (1 : Int32)) cx dL_law_430 rfl (by decide) ?_
  refine L_iadd (q := 432) cx dL_law_431 rfl ?_
  refine L_sld (q := 433) cx dL_law_432 rfl h1 ?_
  refine L_callM (q := 436) (d' := 2) (As := [.int (xs (i + (1 : Int32)).toNatClampNeg)]) (rest := [.int r]) (st' := [.int r, .int r]) cx lj dL_law_433 rfl ml_RL_45 rfl rfl (Nat.le_of_ble_eq_true rfl) (Nat.le_of_ble_eq_true rfl) (Nat.le_of_ble_eq_true rfl) (c_X8_home l lj.2.1 _ (xs (i + (1 : Int32)).toNatClampNeg)) hm rfl ?_
  refine L_eqy (t := 1542) cx dL_law_436 (by decide) ?_
  exact kk _ _ hq
theorem k_height (cx : CL p s m meth c b L xs D cy cells slots) (lj : LJ ad k s) (hRel : Rel k Sx Sm) {i : Int32} (h1 : vp_in (i + (1 : Int32)) L) (h2 : vp_in (i + (2 : Int32)) L) (h3 : vp_in (i + (3 : Int32)) L) (h4 : vp_in (i + (4 : Int32)) L) (h5 : vp_in (i + (5 : Int32)) L) (kk : ∀ Sx' Sm', Rel k Sx' Sm' → LT p l e s m below meth c b D cy cells slots ad k Sx' Sm' 1542 [(0, .ref b), (1, .ref (ad 7 0)), (2, .ref (ad 8 0)), (3, .int i)] []) : LT p l e s m below meth c b D cy cells slots ad k Sx Sm 441 [(0, .ref b), (1, .ref (ad 7 0)), (2, .ref (ad 8 0)), (3, .int i)] [] := by
  obtain ⟨r, Sx', Sm', hx, hm, hq⟩ := m_height hRel (xs (i + (1 : Int32)).toNatClampNeg)
  refine L_aload_n (q := 442) cx dL_law_441 rfl rfl ?_
  refine L_aload_n (q := 443) cx dL_law_442 rfl rfl ?_
  refine L_iload_n (q := 444) cx dL_law_443 rfl rfl ?_
  refine L_iconst (q := 445) (v := (1 : Int32)) cx dL_law_444 rfl (by decide) ?_
  refine L_iadd (q := 446) cx dL_law_445 rfl ?_
  refine L_sld (q := 447) cx dL_law_446 rfl h1 ?_
  refine L_callX (q := 450) (d' := 1) (As := [.int (xs (i + (1 : Int32)).toNatClampNeg)]) (rest := []) (st' := [.int r]) cx lj dL_law_447 rfl ml_RL_46 rfl rfl (Nat.le_of_ble_eq_true rfl) (Nat.le_of_ble_eq_true rfl) (Nat.le_of_ble_eq_true rfl) (c_X7_height l lj.1 _ (xs (i + (1 : Int32)).toNatClampNeg)) hx rfl ?_
  refine L_aload_n (q := 451) cx dL_law_450 rfl rfl ?_
  refine L_aload_n (q := 452) cx dL_law_451 rfl rfl ?_
  refine L_iload_n (q := 453) cx dL_law_452 rfl rfl ?_
  refine L_iconst (q := 454) (v := (1 : Int32)) cx dL_law_453 rfl (by decide) ?_
  refine L_iadd (q := 455) cx dL_law_454 rfl ?_
  refine L_sld (q := 456) cx dL_law_455 rfl h1 ?_
  refine L_callM (q := 459) (d' := 1) (As := [.int (xs (i + (1 : Int32)).toNatClampNeg)]) (rest := [.int r]) (st' := [.int r, .int r]) cx lj dL_law_456 rfl ml_RL_49 rfl rfl (Nat.le_of_ble_eq_true rfl) (Nat.le_of_ble_eq_true rfl) (Nat.le_of_ble_eq_true rfl) (c_X8_height l lj.2.1 _ (xs (i + (1 : Int32)).toNatClampNeg)) hm rfl ?_
  refine L_eqy (t := 1542) cx dL_law_459 (by decide) ?_
  exact kk _ _ hq
theorem k_told (cx : CL p s m meth c b L xs D cy cells slots) (lj : LJ ad k s) (hRel : Rel k Sx Sm) {i : Int32} (h1 : vp_in (i + (1 : Int32)) L) (h2 : vp_in (i + (2 : Int32)) L) (h3 : vp_in (i + (3 : Int32)) L) (h4 : vp_in (i + (4 : Int32)) L) (h5 : vp_in (i + (5 : Int32)) L) (kk : ∀ Sx' Sm', Rel k Sx' Sm' → LT p l e s m below meth c b D cy cells slots ad k Sx' Sm' 1542 [(0, .ref b), (1, .ref (ad 7 0)), (2, .ref (ad 8 0)), (3, .int i)] []) : LT p l e s m below meth c b D cy cells slots ad k Sx Sm 464 [(0, .ref b), (1, .ref (ad 7 0)), (2, .ref (ad 8 0)), (3, .int i)] [] := by
  obtain ⟨r, Sx', Sm', hx, hm, hq⟩ := m_told hRel (xs (i + (1 : Int32)).toNatClampNeg)
  refine L_aload_n (q := 465) cx dL_law_464 rfl rfl ?_
  refine L_aload_n (q := 466) cx dL_law_465 rfl rfl ?_
  refine L_iload_n (q := 467) cx dL_law_466 rfl rfl ?_
  refine L_iconst (q := 468) (v := (1 : Int32)) cx dL_law_467 rfl (by decide) ?_
  refine L_iadd (q := 469) cx dL_law_468 rfl ?_
  refine L_sld (q := 470) cx dL_law_469 rfl h1 ?_
  refine L_callX (q := 473) (d' := 0) (As := [.int (xs (i + (1 : Int32)).toNatClampNeg)]) (rest := []) (st' := [.int r]) cx lj dL_law_470 rfl ml_RL_50 rfl rfl (Nat.le_of_ble_eq_true rfl) (Nat.le_of_ble_eq_true rfl) (Nat.le_of_ble_eq_true rfl) (c_X7_told l lj.1 _ (xs (i + (1 : Int32)).toNatClampNeg)) hx rfl ?_
  refine L_aload_n (q := 474) cx dL_law_473 rfl rfl ?_
  refine L_aload_n (q := 475) cx dL_law_474 rfl rfl ?_
  refine L_iload_n (q := 476) cx dL_law_475 rfl rfl ?_
  refine L_iconst (q := 477) (v := (1 : Int32)) cx dL_law_476 rfl (by decide) ?_
  refine L_iadd (q := 478) cx dL_law_477 rfl ?_
  refine L_sld (q := 479) cx dL_law_478 rfl h1 ?_
  refine L_callM (q := 482) (d' := 3) (As := [.int (xs (i + (1 : Int32)).toNatClampNeg)]) (rest := [.int r]) (st' := [.int r, .int r]) cx lj dL_law_479 rfl ml_RL_53 rfl rfl (Nat.le_of_ble_eq_true rfl) (Nat.le_of_ble_eq_true rfl) (Nat.le_of_ble_eq_true rfl) (c_X8_told l lj.2.1 _ (xs (i + (1 : Int32)).toNatClampNeg)) hm rfl ?_
  refine L_eqy (t := 1542) cx dL_law_482 (by decide) ?_
  exact kk _ _ hq
theorem k_enter (cx : CL p s m meth c b L xs D cy cells slots) (lj : LJ ad k s) (hRel : Rel k Sx Sm) {i : Int32} (h1 : vp_in (i + (1 : Int32)) L) (h2 : vp_in (i + (2 : Int32)) L) (h3 : vp_in (i + (3 : Int32)) L) (h4 : vp_in (i + (4 : Int32)) L) (h5 : vp_in (i + (5 : Int32)) L) (kk : ∀ Sx' Sm', Rel k Sx' Sm' → LT p l e s m below meth c b D cy cells slots ad k Sx' Sm' 1542 [(0, .ref b), (1, .ref (ad 7 0)), (2, .ref (ad 8 0)), (3, .int i)] []) : LT p l e s m below meth c b D cy cells slots ad k Sx Sm 487 [(0, .ref b), (1, .ref (ad 7 0)), (2, .ref (ad 8 0)), (3, .int i)] [] := by
  obtain ⟨r, Sx', Sm', hx, hm, hq⟩ := m_enter hRel (xs (i + (1 : Int32)).toNatClampNeg)
  refine L_aload_n (q := 488) cx dL_law_487 rfl rfl ?_
  refine L_aload_n (q := 489) cx dL_law_488 rfl rfl ?_
  refine L_iload_n (q := 490) cx dL_law_489 rfl rfl ?_
  refine L_iconst (q := 491) (v := (1 : Int32)) cx dL_law_490 rfl (by decide) ?_
  refine L_iadd (q := 492) cx dL_law_491 rfl ?_
  refine L_sld (q := 493) cx dL_law_492 rfl h1 ?_
  refine L_callX (q := 496) (d' := 4) (As := [.int (xs (i + (1 : Int32)).toNatClampNeg)]) (rest := []) (st' := [.int r]) cx lj dL_law_493 rfl ml_RL_54 rfl rfl (Nat.le_of_ble_eq_true rfl) (Nat.le_of_ble_eq_true rfl) (Nat.le_of_ble_eq_true rfl) (c_X7_enter l lj.1 _ (xs (i + (1 : Int32)).toNatClampNeg)) hx rfl ?_
  refine L_aload_n (q := 497) cx dL_law_496 rfl rfl ?_
  refine L_aload_n (q := 498) cx dL_law_497 rfl rfl ?_
  refine L_iload_n (q := 499) cx dL_law_498 rfl rfl ?_
  refine L_iconst (q := 500) (v := (1 : Int32)) cx dL_law_499 rfl (by decide) ?_
  refine L_iadd (q := 501) cx dL_law_500 rfl ?_
  refine L_sld (q := 502) cx dL_law_501 rfl h1 ?_
  refine L_callM (q := 505) (d' := 4) (As := [.int (xs (i + (1 : Int32)).toNatClampNeg)]) (rest := [.int r]) (st' := [.int r, .int r]) cx lj dL_law_502 rfl ml_RL_57 rfl rfl (Nat.le_of_ble_eq_true rfl) (Nat.le_of_ble_eq_true rfl) (Nat.le_of_ble_eq_true rfl) (c_X8_enter l lj.2.1 _ (xs (i + (1 : Int32)).toNatClampNeg)) hm rfl ?_
  refine L_eqy (t := 1542) cx dL_law_505 (by decide) ?_
  exact kk _ _ hq
theorem k_turn (cx : CL p s m meth c b L xs D cy cells slots) (lj : LJ ad k s) (hRel : Rel k Sx Sm) {i : Int32} (h1 : vp_in (i + (1 : Int32)) L) (h2 : vp_in (i + (2 : Int32)) L) (h3 : vp_in (i + (3 : Int32)) L) (h4 : vp_in (i + (4 : Int32)) L) (h5 : vp_in (i + (5 : Int32)) L) (kk : ∀ Sx' Sm', Rel k Sx' Sm' → LT p l e s m below meth c b D cy cells slots ad k Sx' Sm' 1542 [(0, .ref b), (1, .ref (ad 7 0)), (2, .ref (ad 8 0)), (3, .int i)] []) : LT p l e s m below meth c b D cy cells slots ad k Sx Sm 510 [(0, .ref b), (1, .ref (ad 7 0)), (2, .ref (ad 8 0)), (3, .int i)] [] := by
  obtain ⟨r, Sx', Sm', hx, hm, hq⟩ := m_turn hRel (xs (i + (1 : Int32)).toNatClampNeg)
  refine L_aload_n (q := 511) cx dL_law_510 rfl rfl ?_
  refine L_aload_n (q := 512) cx dL_law_511 rfl rfl ?_
  refine L_iload_n (q := 513) cx dL_law_512 rfl rfl ?_
  refine L_iconst (q := 514) (v := (1 : Int32)) cx dL_law_513 rfl (by decide) ?_
  refine L_iadd (q := 515) cx dL_law_514 rfl ?_
  refine L_sld (q := 516) cx dL_law_515 rfl h1 ?_
  refine L_callX (q := 519) (d' := 5) (As := [.int (xs (i + (1 : Int32)).toNatClampNeg)]) (rest := []) (st' := [.int r]) cx lj dL_law_516 rfl ml_RL_58 rfl rfl (Nat.le_of_ble_eq_true rfl) (Nat.le_of_ble_eq_true rfl) (Nat.le_of_ble_eq_true rfl) (c_X7_turn l lj.1 _ (xs (i + (1 : Int32)).toNatClampNeg)) hx rfl ?_
  refine L_aload_n (q := 520) cx dL_law_519 rfl rfl ?_
  refine L_aload_n (q := 521) cx dL_law_520 rfl rfl ?_
  refine L_iload_n (q := 522) cx dL_law_521 rfl rfl ?_
  refine L_iconst (q := 523) (v := (1 : Int32)) cx dL_law_522 rfl (by decide) ?_
  refine L_iadd (q := 524) cx dL_law_523 rfl ?_
  refine L_sld (q := 525) cx dL_law_524 rfl h1 ?_
  refine L_callM (q := 528) (d' := 5) (As := [.int (xs (i + (1 : Int32)).toNatClampNeg)]) (rest := [.int r]) (st' := [.int r, .int r]) cx lj dL_law_525 rfl ml_RL_61 rfl rfl (Nat.le_of_ble_eq_true rfl) (Nat.le_of_ble_eq_true rfl) (Nat.le_of_ble_eq_true rfl) (c_X8_turn l lj.2.1 _ (xs (i + (1 : Int32)).toNatClampNeg)) hm rfl ?_
  refine L_eqy (t := 1542) cx dL_law_528 (by decide) ?_
  exact kk _ _ hq
theorem k_glide (cx : CL p s m meth c b L xs D cy cells slots) (lj : LJ ad k s) (hRel : Rel k Sx Sm) {i : Int32} (h1 : vp_in (i + (1 : Int32)) L) (h2 : vp_in (i + (2 : Int32)) L) (h3 : vp_in (i + (3 : Int32)) L) (h4 : vp_in (i + (4 : Int32)) L) (h5 : vp_in (i + (5 : Int32)) L) (kk : ∀ Sx' Sm', Rel k Sx' Sm' → LT p l e s m below meth c b D cy cells slots ad k Sx' Sm' 1542 [(0, .ref b), (1, .ref (ad 7 0)), (2, .ref (ad 8 0)), (3, .int i)] []) : LT p l e s m below meth c b D cy cells slots ad k Sx Sm 533 [(0, .ref b), (1, .ref (ad 7 0)), (2, .ref (ad 8 0)), (3, .int i)] [] := by
  obtain ⟨r, Sx', Sm', hx, hm, hq⟩ := m_glide hRel (xs (i + (1 : Int32)).toNatClampNeg) (xs (i + (2 : Int32)).toNatClampNeg)
  refine L_aload_n (q := 534) cx dL_law_533 rfl rfl ?_
  refine L_aload_n (q := 535) cx dL_law_534 rfl rfl ?_
  refine L_iload_n (q := 536) cx dL_law_535 rfl rfl ?_
  refine L_iconst (q := 537) (v := (1 : Int32)) cx dL_law_536 rfl (by decide) ?_
  refine L_iadd (q := 538) cx dL_law_537 rfl ?_
  refine L_sld (q := 539) cx dL_law_538 rfl h1 ?_
  refine L_aload_n (q := 540) cx dL_law_539 rfl rfl ?_
  refine L_iload_n (q := 541) cx dL_law_540 rfl rfl ?_
  refine L_iconst (q := 542) (v := (2 : Int32)) cx dL_law_541 rfl (by decide) ?_
  refine L_iadd (q := 543) cx dL_law_542 rfl ?_
  refine L_sld (q := 544) cx dL_law_543 rfl h2 ?_
  refine L_callX (q := 547) (d' := 2) (As := [.int (xs (i + (1 : Int32)).toNatClampNeg), .int (xs (i + (2 : Int32)).toNatClampNeg)]) (rest := []) (st' := [.int r]) cx lj dL_law_544 rfl ml_RL_62 rfl rfl (Nat.le_of_ble_eq_true rfl) (Nat.le_of_ble_eq_true rfl) (Nat.le_of_ble_eq_true rfl) (c_X7_glide l lj.1 _ (xs (i + (1 : Int32)).toNatClampNeg) (xs (i + (2 : Int32)).toNatClampNeg)) hx rfl ?_
  refine L_aload_n (q := 548) cx dL_law_547 rfl rfl ?_
  refine L_aload_n (q := 549) cx dL_law_548 rfl rfl ?_
  refine L_iload_n (q := 550) cx dL_law_549 rfl rfl ?_
  refine L_iconst (q := 551) (v := (1 : Int32)) cx dL_law_550 rfl (by decide) ?_
  refine L_iadd (q := 552) cx dL_law_551 rfl ?_
  refine L_sld (q := 553) cx dL_law_552 rfl h1 ?_
  refine L_aload_n (q := 554) cx dL_law_553 rfl rfl ?_
  refine L_iload_n (q := 555) cx dL_law_554 rfl rfl ?_
  refine L_iconst (q := 556) (v := (2 : Int32)) cx dL_law_555 rfl (by decide) ?_
  refine L_iadd (q := 557) cx dL_law_556 rfl ?_
  refine L_sld (q := 558) cx dL_law_557 rfl h2 ?_
  refine L_callM (q := 561) (d' := 3) (As := [.int (xs (i + (1 : Int32)).toNatClampNeg), .int (xs (i + (2 : Int32)).toNatClampNeg)]) (rest := [.int r]) (st' := [.int r, .int r]) cx lj dL_law_558 rfl ml_RL_65 rfl rfl (Nat.le_of_ble_eq_true rfl) (Nat.le_of_ble_eq_true rfl) (Nat.le_of_ble_eq_true rfl) (c_X8_glide l lj.2.1 _ (xs (i + (1 : Int32)).toNatClampNeg) (xs (i + (2 : Int32)).toNatClampNeg)) hm rfl ?_
  refine L_eqy (t := 1542) cx dL_law_561 (by decide) ?_
  exact kk _ _ hq
theorem k_up (cx : CL p s m meth c b L xs D cy cells slots) (lj : LJ ad k s) (hRel : Rel k Sx Sm) {i : Int32} (h1 : vp_in (i + (1 : Int32)) L) (h2 : vp_in (i + (2 : Int32)) L) (h3 : vp_in (i + (3 : Int32)) L) (h4 : vp_in (i + (4 : Int32)) L) (h5 : vp_in (i + (5 : Int32)) L) (kk : ∀ Sx' Sm', Rel k Sx' Sm' → LT p l e s m below meth c b D cy cells slots ad k Sx' Sm' 1542 [(0, .ref b), (1, .ref (ad 7 0)), (2, .ref (ad 8 0)), (3, .int i)] []) : LT p l e s m below meth c b D cy cells slots ad k Sx Sm 566 [(0, .ref b), (1, .ref (ad 7 0)), (2, .ref (ad 8 0)), (3, .int i)] [] := by
  obtain ⟨r, Sx', Sm', hx, hm, hq⟩ := m_up hRel (xs (i + (1 : Int32)).toNatClampNeg) (xs (i + (2 : Int32)).toNatClampNeg)
  refine L_aload_n (q := 567) cx dL_law_566 rfl rfl ?_
  refine L_aload_n (q := 568) cx dL_law_567 rfl rfl ?_
  refine L_iload_n (q := 569) cx dL_law_568 rfl rfl ?_
  refine L_iconst (q := 570) (v := (1 : Int32)) cx dL_law_569 rfl (by decide) ?_
  refine L_iadd (q := 571) cx dL_law_570 rfl ?_
  refine L_sld (q := 572) cx dL_law_571 rfl h1 ?_
  refine L_aload_n (q := 573) cx dL_law_572 rfl rfl ?_
  refine L_iload_n (q := 574) cx dL_law_573 rfl rfl ?_
  refine L_iconst (q := 575) (v := (2 : Int32)) cx dL_law_574 rfl (by decide) ?_
  refine L_iadd (q := 576) cx dL_law_575 rfl ?_
  refine L_sld (q := 577) cx dL_law_576 rfl h2 ?_
  refine L_callX (q := 580) (d' := 6) (As := [.int (xs (i + (1 : Int32)).toNatClampNeg), .int (xs (i + (2 : Int32)).toNatClampNeg)]) (rest := []) (st' := [.int r]) cx lj dL_law_577 rfl ml_RL_66 rfl rfl (Nat.le_of_ble_eq_true rfl) (Nat.le_of_ble_eq_true rfl) (Nat.le_of_ble_eq_true rfl) (c_X7_up l lj.1 _ (xs (i + (1 : Int32)).toNatClampNeg) (xs (i + (2 : Int32)).toNatClampNeg)) hx rfl ?_
  refine L_aload_n (q := 581) cx dL_law_580 rfl rfl ?_
  refine L_aload_n (q := 582) cx dL_law_581 rfl rfl ?_
  refine L_iload_n (q := 583) cx dL_law_582 rfl rfl ?_
  refine L_iconst (q := 584) (v := (1 : Int32)) cx dL_law_583 rfl (by decide) ?_
  refine L_iadd (q := 585) cx dL_law_584 rfl ?_
  refine L_sld (q := 586) cx dL_law_585 rfl h1 ?_
  refine L_aload_n (q := 587) cx dL_law_586 rfl rfl ?_
  refine L_iload_n (q := 588) cx dL_law_587 rfl rfl ?_
  refine L_iconst (q := 589) (v := (2 : Int32)) cx dL_law_588 rfl (by decide) ?_
  refine L_iadd (q := 590) cx dL_law_589 rfl ?_
  refine L_sld (q := 591) cx dL_law_590 rfl h2 ?_
  refine L_callM (q := 594) (d' := 6) (As := [.int (xs (i + (1 : Int32)).toNatClampNeg), .int (xs (i + (2 : Int32)).toNatClampNeg)]) (rest := [.int r]) (st' := [.int r, .int r]) cx lj dL_law_591 rfl ml_RL_69 rfl rfl (Nat.le_of_ble_eq_true rfl) (Nat.le_of_ble_eq_true rfl) (Nat.le_of_ble_eq_true rfl) (c_X8_up l lj.2.1 _ (xs (i + (1 : Int32)).toNatClampNeg) (xs (i + (2 : Int32)).toNatClampNeg)) hm rfl ?_
  refine L_eqy (t := 1542) cx dL_law_594 (by decide) ?_
  exact kk _ _ hq
theorem k_top (cx : CL p s m meth c b L xs D cy cells slots) (lj : LJ ad k s) (hRel : Rel k Sx Sm) {i : Int32} (h1 : vp_in (i + (1 : Int32)) L) (h2 : vp_in (i + (2 : Int32)) L) (h3 : vp_in (i + (3 : Int32)) L) (h4 : vp_in (i + (4 : Int32)) L) (h5 : vp_in (i + (5 : Int32)) L) (kk : ∀ Sx' Sm', Rel k Sx' Sm' → LT p l e s m below meth c b D cy cells slots ad k Sx' Sm' 1542 [(0, .ref b), (1, .ref (ad 7 0)), (2, .ref (ad 8 0)), (3, .int i)] []) : LT p l e s m below meth c b D cy cells slots ad k Sx Sm 599 [(0, .ref b), (1, .ref (ad 7 0)), (2, .ref (ad 8 0)), (3, .int i)] [] := by
  obtain ⟨r, Sx', Sm', hx, hm, hq⟩ := m_top hRel (xs (i + (1 : Int32)).toNatClampNeg) (xs (i + (2 : Int32)).toNatClampNeg)
  refine L_aload_n (q := 600) cx dL_law_599 rfl rfl ?_
  refine L_aload_n (q := 601) cx dL_law_600 rfl rfl ?_
  refine L_iload_n (q := 602) cx dL_law_601 rfl rfl ?_
  refine L_iconst (q := 603) (v := (1 : Int32)) cx dL_law_602 rfl (by decide) ?_
  refine L_iadd (q := 604) cx dL_law_603 rfl ?_
  refine L_sld (q := 605) cx dL_law_604 rfl h1 ?_
  refine L_aload_n (q := 606) cx dL_law_605 rfl rfl ?_
  refine L_iload_n (q := 607) cx dL_law_606 rfl rfl ?_
  refine L_iconst (q := 608) (v := (2 : Int32)) cx dL_law_607 rfl (by decide) ?_
  refine L_iadd (q := 609) cx dL_law_608 rfl ?_
  refine L_sld (q := 610) cx dL_law_609 rfl h2 ?_
  refine L_callX (q := 613) (d' := 5) (As := [.int (xs (i + (1 : Int32)).toNatClampNeg), .int (xs (i + (2 : Int32)).toNatClampNeg)]) (rest := []) (st' := [.int r]) cx lj dL_law_610 rfl ml_RL_70 rfl rfl (Nat.le_of_ble_eq_true rfl) (Nat.le_of_ble_eq_true rfl) (Nat.le_of_ble_eq_true rfl) (c_X7_top l lj.1 _ (xs (i + (1 : Int32)).toNatClampNeg) (xs (i + (2 : Int32)).toNatClampNeg)) hx rfl ?_
  refine L_aload_n (q := 614) cx dL_law_613 rfl rfl ?_
  refine L_aload_n (q := 615) cx dL_law_614 rfl rfl ?_
  refine L_iload_n (q := 616) cx dL_law_615 rfl rfl ?_
  refine L_iconst (q := 617) (v := (1 : Int32)) cx dL_law_616 rfl (by decide) ?_
  refine L_iadd (q := 618) cx dL_law_617 rfl ?_
  refine L_sld (q := 619) cx dL_law_618 rfl h1 ?_
  refine L_aload_n (q := 620) cx dL_law_619 rfl rfl ?_
  refine L_iload_n (q := 621) cx dL_law_620 rfl rfl ?_
  refine L_iconst (q := 622) (v := (2 : Int32)) cx dL_law_621 rfl (by decide) ?_
  refine L_iadd (q := 623) cx dL_law_622 rfl ?_
  refine L_sld (q := 624) cx dL_law_623 rfl h2 ?_
  refine L_callM (q := 627) (d' := 5) (As := [.int (xs (i + (1 : Int32)).toNatClampNeg), .int (xs (i + (2 : Int32)).toNatClampNeg)]) (rest := [.int r]) (st' := [.int r, .int r]) cx lj dL_law_624 rfl ml_RL_73 rfl rfl (Nat.le_of_ble_eq_true rfl) (Nat.le_of_ble_eq_true rfl) (Nat.le_of_ble_eq_true rfl) (c_X8_top l lj.2.1 _ (xs (i + (1 : Int32)).toNatClampNeg) (xs (i + (2 : Int32)).toNatClampNeg)) hm rfl ?_
  refine L_eqy (t := 1542) cx dL_law_627 (by decide) ?_
  exact kk _ _ hq
theorem k_arrives (cx : CL p s m meth c b L xs D cy cells slots) (lj : LJ ad k s) (hRel : Rel k Sx Sm) {i : Int32} (h1 : vp_in (i + (1 : Int32)) L) (h2 : vp_in (i + (2 : Int32)) L) (h3 : vp_in (i + (3 : Int32)) L) (h4 : vp_in (i + (4 : Int32)) L) (h5 : vp_in (i + (5 : Int32)) L) (kk : ∀ Sx' Sm', Rel k Sx' Sm' → LT p l e s m below meth c b D cy cells slots ad k Sx' Sm' 1542 [(0, .ref b), (1, .ref (ad 7 0)), (2, .ref (ad 8 0)), (3, .int i)] []) : LT p l e s m below meth c b D cy cells slots ad k Sx Sm 632 [(0, .ref b), (1, .ref (ad 7 0)), (2, .ref (ad 8 0)), (3, .int i)] [] := by
  obtain ⟨r, Sx', Sm', hx, hm, hq⟩ := m_arrives hRel (xs (i + (1 : Int32)).toNatClampNeg) (xs (i + (2 : Int32)).toNatClampNeg)
  refine L_aload_n (q := 633) cx dL_law_632 rfl rfl ?_
  refine L_aload_n (q := 634) cx dL_law_633 rfl rfl ?_
  refine L_iload_n (q := 635) cx dL_law_634 rfl rfl ?_
  refine L_iconst (q := 636) (v := (1 : Int32)) cx dL_law_635 rfl (by decide) ?_
  refine L_iadd (q := 637) cx dL_law_636 rfl ?_
  refine L_sld (q := 638) cx dL_law_637 rfl h1 ?_
  refine L_aload_n (q := 639) cx dL_law_638 rfl rfl ?_
  refine L_iload_n (q := 640) cx dL_law_639 rfl rfl ?_
  refine L_iconst (q := 641) (v := (2 : Int32)) cx dL_law_640 rfl (by decide) ?_
  refine L_iadd (q := 642) cx dL_law_641 rfl ?_
  refine L_sld (q := 643) cx dL_law_642 rfl h2 ?_
  refine L_callX (q := 646) (d' := 2) (As := [.int (xs (i + (1 : Int32)).toNatClampNeg), .int (xs (i + (2 : Int32)).toNatClampNeg)]) (rest := []) (st' := [.int r]) cx lj dL_law_643 rfl ml_RL_74 rfl rfl (Nat.le_of_ble_eq_true rfl) (Nat.le_of_ble_eq_true rfl) (Nat.le_of_ble_eq_true rfl) (c_X7_arrives l lj.1 _ (xs (i + (1 : Int32)).toNatClampNeg) (xs (i + (2 : Int32)).toNatClampNeg)) hx rfl ?_
  refine L_aload_n (q := 647) cx dL_law_646 rfl rfl ?_
  refine L_aload_n (q := 648) cx dL_law_647 rfl rfl ?_
  refine L_iload_n (q := 649) cx dL_law_648 rfl rfl ?_
  refine L_iconst (q := 650) (v := (1 : Int32)) cx dL_law_649 rfl (by decide) ?_
  refine L_iadd (q := 651) cx dL_law_650 rfl ?_
  refine L_sld (q := 652) cx dL_law_651 rfl h1 ?_
  refine L_aload_n (q := 653) cx dL_law_652 rfl rfl ?_
  refine L_iload_n (q := 654) cx dL_law_653 rfl rfl ?_
  refine L_iconst (q := 655) (v := (2 : Int32)) cx dL_law_654 rfl (by decide) ?_
  refine L_iadd (q := 656) cx dL_law_655 rfl ?_
  refine L_sld (q := 657) cx dL_law_656 rfl h2 ?_
  refine L_callM (q := 660) (d' := 2) (As := [.int (xs (i + (1 : Int32)).toNatClampNeg), .int (xs (i + (2 : Int32)).toNatClampNeg)]) (rest := [.int r]) (st' := [.int r, .int r]) cx lj dL_law_657 rfl ml_RL_77 rfl rfl (Nat.le_of_ble_eq_true rfl) (Nat.le_of_ble_eq_true rfl) (Nat.le_of_ble_eq_true rfl) (c_X8_arrives l lj.2.1 _ (xs (i + (1 : Int32)).toNatClampNeg) (xs (i + (2 : Int32)).toNatClampNeg)) hm rfl ?_
  refine L_eqy (t := 1542) cx dL_law_660 (by decide) ?_
  exact kk _ _ hq
theorem k_outed (cx : CL p s m meth c b L xs D cy cells slots) (lj : LJ ad k s) (hRel : Rel k Sx Sm) {i : Int32} (h1 : vp_in (i + (1 : Int32)) L) (h2 : vp_in (i + (2 : Int32)) L) (h3 : vp_in (i + (3 : Int32)) L) (h4 : vp_in (i + (4 : Int32)) L) (h5 : vp_in (i + (5 : Int32)) L) (kk : ∀ Sx' Sm', Rel k Sx' Sm' → LT p l e s m below meth c b D cy cells slots ad k Sx' Sm' 1542 [(0, .ref b), (1, .ref (ad 7 0)), (2, .ref (ad 8 0)), (3, .int i)] []) : LT p l e s m below meth c b D cy cells slots ad k Sx Sm 665 [(0, .ref b), (1, .ref (ad 7 0)), (2, .ref (ad 8 0)), (3, .int i)] [] := by
  obtain ⟨r, Sx', Sm', hx, hm, hq⟩ := m_outed hRel (xs (i + (1 : Int32)).toNatClampNeg) (xs (i + (2 : Int32)).toNatClampNeg)
  refine L_aload_n (q := 666) cx dL_law_665 rfl rfl ?_
  refine L_aload_n (q := 667) cx dL_law_666 rfl rfl ?_
  refine L_iload_n (q := 668) cx dL_law_667 rfl rfl ?_
  refine L_iconst (q := 669) (v := (1 : Int32)) cx dL_law_668 rfl (by decide) ?_
  refine L_iadd (q := 670) cx dL_law_669 rfl ?_
  refine L_sld (q := 671) cx dL_law_670 rfl h1 ?_
  refine L_aload_n (q := 672) cx dL_law_671 rfl rfl ?_
  refine L_iload_n (q := 673) cx dL_law_672 rfl rfl ?_
  refine L_iconst (q := 674) (v := (2 : Int32)) cx dL_law_673 rfl (by decide) ?_
  refine L_iadd (q := 675) cx dL_law_674 rfl ?_
  refine L_sld (q := 676) cx dL_law_675 rfl h2 ?_
  refine L_callX (q := 679) (d' := 2) (As := [.int (xs (i + (1 : Int32)).toNatClampNeg), .int (xs (i + (2 : Int32)).toNatClampNeg)]) (rest := []) (st' := [.int r]) cx lj dL_law_676 rfl ml_RL_78 rfl rfl (Nat.le_of_ble_eq_true rfl) (Nat.le_of_ble_eq_true rfl) (Nat.le_of_ble_eq_true rfl) (c_X7_outed l lj.1 _ (xs (i + (1 : Int32)).toNatClampNeg) (xs (i + (2 : Int32)).toNatClampNeg)) hx rfl ?_
  refine L_aload_n (q := 680) cx dL_law_679 rfl rfl ?_
  refine L_aload_n (q := 681) cx dL_law_680 rfl rfl ?_
  refine L_iload_n (q := 682) cx dL_law_681 rfl rfl ?_
  refine L_iconst (q := 683) (v := (1 : Int32)) cx dL_law_682 rfl (by decide) ?_
  refine L_iadd (q := 684) cx dL_law_683 rfl ?_
  refine L_sld (q := 685) cx dL_law_684 rfl h1 ?_
  refine L_aload_n (q := 686) cx dL_law_685 rfl rfl ?_
  refine L_iload_n (q := 687) cx dL_law_686 rfl rfl ?_
  refine L_iconst (q := 688) (v := (2 : Int32)) cx dL_law_687 rfl (by decide) ?_
  refine L_iadd (q := 689) cx dL_law_688 rfl ?_
  refine L_sld (q := 690) cx dL_law_689 rfl h2 ?_
  refine L_callM (q := 693) (d' := 2) (As := [.int (xs (i + (1 : Int32)).toNatClampNeg), .int (xs (i + (2 : Int32)).toNatClampNeg)]) (rest := [.int r]) (st' := [.int r, .int r]) cx lj dL_law_690 rfl ml_RL_81 rfl rfl (Nat.le_of_ble_eq_true rfl) (Nat.le_of_ble_eq_true rfl) (Nat.le_of_ble_eq_true rfl) (c_X8_outed l lj.2.1 _ (xs (i + (1 : Int32)).toNatClampNeg) (xs (i + (2 : Int32)).toNatClampNeg)) hm rfl ?_
  refine L_eqy (t := 1542) cx dL_law_693 (by decide) ?_
  exact kk _ _ hq
theorem k_reach (cx : CL p s m meth c b L xs D cy cells slots) (lj : LJ ad k s) (hRel : Rel k Sx Sm) {i : Int32} (h1 : vp_in (i + (1 : Int32)) L) (h2 : vp_in (i + (2 : Int32)) L) (h3 : vp_in (i + (3 : Int32)) L) (h4 : vp_in (i + (4 : Int32)) L) (h5 : vp_in (i + (5 : Int32)) L) (kk : ∀ Sx' Sm', Rel k Sx' Sm' → LT p l e s m below meth c b D cy cells slots ad k Sx' Sm' 1542 [(0, .ref b), (1, .ref (ad 7 0)), (2, .ref (ad 8 0)), (3, .int i)] []) : LT p l e s m below meth c b D cy cells slots ad k Sx Sm 698 [(0, .ref b), (1, .ref (ad 7 0)), (2, .ref (ad 8 0)), (3, .int i)] [] := by
  obtain ⟨r, Sx', Sm', hx, hm, hq⟩ := m_reach hRel (xs (i + (1 : Int32)).toNatClampNeg)
  refine L_aload_n (q := 699) cx dL_law_698 rfl rfl ?_
  refine L_aload_n (q := 700) cx dL_law_699 rfl rfl ?_
  refine L_iload_n (q := 701) cx dL_law_700 rfl rfl ?_
  refine L_iconst (q := 702) (v := (1 : Int32)) cx dL_law_701 rfl (by decide) ?_
  refine L_iadd (q := 703) cx dL_law_702 rfl ?_
  refine L_sld (q := 704) cx dL_law_703 rfl h1 ?_
  refine L_callX (q := 707) (d' := 3) (As := [.int (xs (i + (1 : Int32)).toNatClampNeg)]) (rest := []) (st' := [.int r]) cx lj dL_law_704 rfl ml_RL_82 rfl rfl (Nat.le_of_ble_eq_true rfl) (Nat.le_of_ble_eq_true rfl) (Nat.le_of_ble_eq_true rfl) (c_X7_reach l lj.1 _ (xs (i + (1 : Int32)).toNatClampNeg)) hx rfl ?_
  refine L_aload_n (q := 708) cx dL_law_707 rfl rfl ?_
  refine L_aload_n (q := 709) cx dL_law_708 rfl rfl ?_
  refine L_iload_n (q := 710) cx dL_law_709 rfl rfl ?_
  refine L_iconst (q := 711) (v := (1 : Int32)) cx dL_law_710 rfl (by decide) ?_
  refine L_iadd (q := 712) cx dL_law_711 rfl ?_
  refine L_sld (q := 713) cx dL_law_712 rfl h1 ?_
  refine L_callM (q := 716) (d' := 4) (As := [.int (xs (i + (1 : Int32)).toNatClampNeg)]) (rest := [.int r]) (st' := [.int r, .int r]) cx lj dL_law_713 rfl ml_RL_85 rfl rfl (Nat.le_of_ble_eq_true rfl) (Nat.le_of_ble_eq_true rfl) (Nat.le_of_ble_eq_true rfl) (c_X8_reach l lj.2.1 _ (xs (i + (1 : Int32)).toNatClampNeg)) hm rfl ?_
  refine L_eqy (t := 1542) cx dL_law_716 (by decide) ?_
  exact kk _ _ hq
theorem k_next (cx : CL p s m meth c b L xs D cy cells slots) (lj : LJ ad k s) (hRel : Rel k Sx Sm) {i : Int32} (h1 : vp_in (i + (1 : Int32)) L) (h2 : vp_in (i + (2 : Int32)) L) (h3 : vp_in (i + (3 : Int32)) L) (h4 : vp_in (i + (4 : Int32)) L) (h5 : vp_in (i + (5 : Int32)) L) (kk : ∀ Sx' Sm', Rel k Sx' Sm' → LT p l e s m below meth c b D cy cells slots ad k Sx' Sm' 1542 [(0, .ref b), (1, .ref (ad 7 0)), (2, .ref (ad 8 0)), (3, .int i)] []) : LT p l e s m below meth c b D cy cells slots ad k Sx Sm 721 [(0, .ref b), (1, .ref (ad 7 0)), (2, .ref (ad 8 0)), (3, .int i)] [] := by
  obtain ⟨r, Sx', Sm', hx, hm, hq⟩ := m_next hRel (xs (i + (1 : Int32)).toNatClampNeg)
  refine L_aload_n (q := 722) cx dL_law_721 rfl rfl ?_
  refine L_aload_n (q := 723) cx dL_law_722 rfl rfl ?_
  refine L_iload_n (q := 724) cx dL_law_723 rfl rfl ?_
  refine L_iconst (q := 725) (v := (1 : Int32)) cx dL_law_724 rfl (by decide) ?_
  refine L_iadd (q := 726) cx dL_law_725 rfl ?_
  refine L_sld (q := 727) cx dL_law_726 rfl h1 ?_
  refine L_callX (q := 730) (d' := 4) (As := [.int (xs (i + (1 : Int32)).toNatClampNeg)]) (rest := []) (st' := [.int r]) cx lj dL_law_727 rfl ml_RL_86 rfl rfl (Nat.le_of_ble_eq_true rfl) (Nat.le_of_ble_eq_true rfl) (Nat.le_of_ble_eq_true rfl) (c_X7_next l lj.1 _ (xs (i + (1 : Int32)).toNatClampNeg)) hx rfl ?_
  refine L_aload_n (q := 731) cx dL_law_730 rfl rfl ?_
  refine L_aload_n (q := 732) cx dL_law_731 rfl rfl ?_
  refine L_iload_n (q := 733) cx dL_law_732 rfl rfl ?_
  refine L_iconst (q := 734) (v := (1 : Int32)) cx dL_law_733 rfl (by decide) ?_
  refine L_iadd (q := 735) cx dL_law_734 rfl ?_
  refine L_sld (q := 736) cx dL_law_735 rfl h1 ?_
  refine L_callM (q := 739) (d' := 4) (As := [.int (xs (i + (1 : Int32)).toNatClampNeg)]) (rest := [.int r]) (st' := [.int r, .int r]) cx lj dL_law_736 rfl ml_RL_89 rfl rfl (Nat.le_of_ble_eq_true rfl) (Nat.le_of_ble_eq_true rfl) (Nat.le_of_ble_eq_true rfl) (c_X8_next l lj.2.1 _ (xs (i + (1 : Int32)).toNatClampNeg)) hm rfl ?_
  refine L_eqy (t := 1542) cx dL_law_739 (by decide) ?_
  exact kk _ _ hq
theorem k_lowest (cx : CL p s m meth c b L xs D cy cells slots) (lj : LJ ad k s) (hRel : Rel k Sx Sm) {i : Int32} (h1 : vp_in (i + (1 : Int32)) L) (h2 : vp_in (i + (2 : Int32)) L) (h3 : vp_in (i + (3 : Int32)) L) (h4 : vp_in (i + (4 : Int32)) L) (h5 : vp_in (i + (5 : Int32)) L) (kk : ∀ Sx' Sm', Rel k Sx' Sm' → LT p l e s m below meth c b D cy cells slots ad k Sx' Sm' 1542 [(0, .ref b), (1, .ref (ad 7 0)), (2, .ref (ad 8 0)), (3, .int i)] []) : LT p l e s m below meth c b D cy cells slots ad k Sx Sm 744 [(0, .ref b), (1, .ref (ad 7 0)), (2, .ref (ad 8 0)), (3, .int i)] [] := by
  obtain ⟨r, Sx', Sm', hx, hm, hq⟩ := m_lowest hRel (xs (i + (1 : Int32)).toNatClampNeg) (xs (i + (2 : Int32)).toNatClampNeg)
  refine L_aload_n (q := 745) cx dL_law_744 rfl rfl ?_
  refine L_aload_n (q := 746) cx dL_law_745 rfl rfl ?_
  refine L_iload_n (q := 747) cx dL_law_746 rfl rfl ?_
  refine L_iconst (q := 748) (v := (1 : Int32)) cx dL_law_747 rfl (by decide) ?_
  refine L_iadd (q := 749) cx dL_law_748 rfl ?_
  refine L_sld (q := 750) cx dL_law_749 rfl h1 ?_
  refine L_aload_n (q := 751) cx dL_law_750 rfl rfl ?_
  refine L_iload_n (q := 752) cx dL_law_751 rfl rfl ?_
  refine L_iconst (q := 753) (v := (2 : Int32)) cx dL_law_752 rfl (by decide) ?_
  refine L_iadd (q := 754) cx dL_law_753 rfl ?_
  refine L_sld (q := 755) cx dL_law_754 rfl h2 ?_
  refine L_callX (q := 758) (d' := 2) (As := [.int (xs (i + (1 : Int32)).toNatClampNeg), .int (xs (i + (2 : Int32)).toNatClampNeg)]) (rest := []) (st' := [.int r]) cx lj dL_law_755 rfl ml_RL_90 rfl rfl (Nat.le_of_ble_eq_true rfl) (Nat.le_of_ble_eq_true rfl) (Nat.le_of_ble_eq_true rfl) (c_X7_lowest l lj.1 _ (xs (i + (1 : Int32)).toNatClampNeg) (xs (i + (2 : Int32)).toNatClampNeg)) hx rfl ?_
  refine L_aload_n (q := 759) cx dL_law_758 rfl rfl ?_
  refine L_aload_n (q := 760) cx dL_law_759 rfl rfl ?_
  refine L_iload_n (q := 761) cx dL_law_760 rfl rfl ?_
  refine L_iconst (q := 762) (v := (1 : Int32)) cx dL_law_761 rfl (by decide) ?_
  refine L_iadd (q := 763) cx dL_law_762 rfl ?_
  refine L_sld (q := 764) cx dL_law_763 rfl h1 ?_
  refine L_aload_n (q := 765) cx dL_law_764 rfl rfl ?_
  refine L_iload_n (q := 766) cx dL_law_765 rfl rfl ?_
  refine L_iconst (q := 767) (v := (2 : Int32)) cx dL_law_766 rfl (by decide) ?_
  refine L_iadd (q := 768) cx dL_law_767 rfl ?_
  refine L_sld (q := 769) cx dL_law_768 rfl h2 ?_
  refine L_callM (q := 772) (d' := 3) (As := [.int (xs (i + (1 : Int32)).toNatClampNeg), .int (xs (i + (2 : Int32)).toNatClampNeg)]) (rest := [.int r]) (st' := [.int r, .int r]) cx lj dL_law_769 rfl ml_RL_93 rfl rfl (Nat.le_of_ble_eq_true rfl) (Nat.le_of_ble_eq_true rfl) (Nat.le_of_ble_eq_true rfl) (c_X8_lowest l lj.2.1 _ (xs (i + (1 : Int32)).toNatClampNeg) (xs (i + (2 : Int32)).toNatClampNeg)) hm rfl ?_
  refine L_eqy (t := 1542) cx dL_law_772 (by decide) ?_
  exact kk _ _ hq
theorem k_by (cx : CL p s m meth c b L xs D cy cells slots) (lj : LJ ad k s) (hRel : Rel k Sx Sm) {i : Int32} (h1 : vp_in (i + (1 : Int32)) L) (h2 : vp_in (i + (2 : Int32)) L) (h3 : vp_in (i + (3 : Int32)) L) (h4 : vp_in (i + (4 : Int32)) L) (h5 : vp_in (i + (5 : Int32)) L) (kk : ∀ Sx' Sm', Rel k Sx' Sm' → LT p l e s m below meth c b D cy cells slots ad k Sx' Sm' 1542 [(0, .ref b), (1, .ref (ad 7 0)), (2, .ref (ad 8 0)), (3, .int i)] []) : LT p l e s m below meth c b D cy cells slots ad k Sx Sm 777 [(0, .ref b), (1, .ref (ad 7 0)), (2, .ref (ad 8 0)), (3, .int i)] [] := by
  obtain ⟨r, Sx', Sm', hx, hm, hq⟩ := m_by hRel (xs (i + (1 : Int32)).toNatClampNeg) (xs (i + (2 : Int32)).toNatClampNeg) (xs (i + (3 : Int32)).toNatClampNeg)
  refine L_aload_n (q := 778) cx dL_law_777 rfl rfl ?_
  refine L_aload_n (q := 779) cx dL_law_778 rfl rfl ?_
  refine L_iload_n (q := 780) cx dL_law_779 rfl rfl ?_
  refine L_iconst (q := 781) (v := (1 : Int32)) cx dL_law_780 rfl (by decide) ?_
  refine L_iadd (q := 782) cx dL_law_781 rfl ?_
  refine L_sld (q := 783) cx dL_law_782 rfl h1 ?_
  refine L_aload_n (q := 784) cx dL_law_783 rfl rfl ?_
  refine L_iload_n (q := 785) cx dL_law_784 rfl rfl ?_
  refine L_iconst (q := 786) (v := (2 : Int32)) cx dL_law_785 rfl (by decide) ?_
  refine L_iadd (q := 787) cx dL_law_786 rfl ?_
  refine L_sld (q := 788) cx dL_law_787 rfl h2 ?_
  refine L_aload_n (q := 789) cx dL_law_788 rfl rfl ?_
  refine L_iload_n (q := 790) cx dL_law_789 rfl rfl ?_
  refine L_iconst (q := 791) (v := (3 : Int32)) cx dL_law_790 rfl (by decide) ?_
  refine L_iadd (q := 792) cx dL_law_791 rfl ?_
  refine L_sld (q := 793) cx dL_law_792 rfl h3 ?_
  refine L_callX (q := 796) (d' := 6) (As := [.int (xs (i + (1 : Int32)).toNatClampNeg), .int (xs (i + (2 : Int32)).toNatClampNeg), .int (xs (i + (3 : Int32)).toNatClampNeg)]) (rest := []) (st' := [.int r]) cx lj dL_law_793 rfl ml_RL_94 rfl rfl (Nat.le_of_ble_eq_true rfl) (Nat.le_of_ble_eq_true rfl) (Nat.le_of_ble_eq_true rfl) (c_X7_by l lj.1 _ (xs (i + (1 : Int32)).toNatClampNeg) (xs (i + (2 : Int32)).toNatClampNeg) (xs (i + (3 : Int32)).toNatClampNeg)) hx rfl ?_
  refine L_aload_n (q := 797) cx dL_law_796 rfl rfl ?_
  refine L_aload_n (q := 798) cx dL_law_797 rfl rfl ?_
  refine L_iload_n (q := 799) cx dL_law_798 rfl rfl ?_
  refine L_iconst (q := 800) (v := (1 : Int32)) cx dL_law_799 rfl (by decide) ?_
  refine L_iadd (q := 801) cx dL_law_800 rfl ?_
  refine L_sld (q := 802) cx dL_law_801 rfl h1 ?_
  refine L_aload_n (q := 803) cx dL_law_802 rfl rfl ?_
  refine L_iload_n (q := 804) cx dL_law_803 rfl rfl ?_
  refine L_iconst (q := 805) (v := (2 : Int32)) cx dL_law_804 rfl (by decide) ?_
  refine L_iadd (q := 806) cx dL_law_805 rfl ?_
  refine L_sld (q := 807) cx dL_law_806 rfl h2 ?_
  refine L_aload_n (q := 808) cx dL_law_807 rfl rfl ?_
  refine L_iload_n (q := 809) cx dL_law_808 rfl rfl ?_
  refine L_iconst (q := 810) (v := (3 : Int32)) cx dL_law_809 rfl (by decide) ?_
  refine L_iadd (q := 811) cx dL_law_810 rfl ?_
  refine L_sld (q := 812) cx dL_law_811 rfl h3 ?_
  refine L_callM (q := 815) (d' := 7) (As := [.int (xs (i + (1 : Int32)).toNatClampNeg), .int (xs (i + (2 : Int32)).toNatClampNeg), .int (xs (i + (3 : Int32)).toNatClampNeg)]) (rest := [.int r]) (st' := [.int r, .int r]) cx lj dL_law_812 rfl ml_RL_97 rfl rfl (Nat.le_of_ble_eq_true rfl) (Nat.le_of_ble_eq_true rfl) (Nat.le_of_ble_eq_true rfl) (c_X8_by l lj.2.1 _ (xs (i + (1 : Int32)).toNatClampNeg) (xs (i + (2 : Int32)).toNatClampNeg) (xs (i + (3 : Int32)).toNatClampNeg)) hm rfl ?_
  refine L_eqy (t := 1542) cx dL_law_815 (by decide) ?_
  exact kk _ _ hq
theorem k_straight (cx : CL p s m meth c b L xs D cy cells slots) (lj : LJ ad k s) (hRel : Rel k Sx Sm) {i : Int32} (h1 : vp_in (i + (1 : Int32)) L) (h2 : vp_in (i + (2 : Int32)) L) (h3 : vp_in (i + (3 : Int32)) L) (h4 : vp_in (i + (4 : Int32)) L) (h5 : vp_in (i + (5 : Int32)) L) (kk : ∀ Sx' Sm', Rel k Sx' Sm' → LT p l e s m below meth c b D cy cells slots ad k Sx' Sm' 1542 [(0, .ref b), (1, .ref (ad 7 0)), (2, .ref (ad 8 0)), (3, .int i)] []) : LT p l e s m below meth c b D cy cells slots ad k Sx Sm 820 [(0, .ref b), (1, .ref (ad 7 0)), (2, .ref (ad 8 0)), (3, .int i)] [] := by
  obtain ⟨r, Sx', Sm', hx, hm, hq⟩ := m_straight hRel (xs (i + (1 : Int32)).toNatClampNeg)
  refine L_aload_n (q := 821) cx dL_law_820 rfl rfl ?_
  refine L_aload_n (q := 822) cx dL_law_821 rfl rfl ?_
  refine L_iload_n (q := 823) cx dL_law_822 rfl rfl ?_
  refine L_iconst (q := 824) (v := (1 : Int32)) cx dL_law_823 rfl (by decide) ?_
  refine L_iadd (q := 825) cx dL_law_824 rfl ?_
  refine L_sld (q := 826) cx dL_law_825 rfl h1 ?_
  refine L_callX (q := 829) (d' := 3) (As := [.int (xs (i + (1 : Int32)).toNatClampNeg)]) (rest := []) (st' := [.int r]) cx lj dL_law_826 rfl ml_RL_98 rfl rfl (Nat.le_of_ble_eq_true rfl) (Nat.le_of_ble_eq_true rfl) (Nat.le_of_ble_eq_true rfl) (c_X7_straight l lj.1 _ (xs (i + (1 : Int32)).toNatClampNeg)) hx rfl ?_
  refine L_aload_n (q := 830) cx dL_law_829 rfl rfl ?_
  refine L_aload_n (q := 831) cx dL_law_830 rfl rfl ?_
  refine L_iload_n (q := 832) cx dL_law_831 rfl rfl ?_
  refine L_iconst (q := 833) (v := (1 : Int32)) cx dL_law_832 rfl (by decide) ?_
  refine L_iadd (q := 834) cx dL_law_833 rfl ?_
  refine L_sld (q := 835) cx dL_law_834 rfl h1 ?_
  refine L_callM (q := 838) (d' := 4) (As := [.int (xs (i + (1 : Int32)).toNatClampNeg)]) (rest := [.int r]) (st' := [.int r, .int r]) cx lj dL_law_835 rfl ml_RL_101 rfl rfl (Nat.le_of_ble_eq_true rfl) (Nat.le_of_ble_eq_true rfl) (Nat.le_of_ble_eq_true rfl) (c_X8_straight l lj.2.1 _ (xs (i + (1 : Int32)).toNatClampNeg)) hm rfl ?_
  refine L_eqy (t := 1542) cx dL_law_838 (by decide) ?_
  exact kk _ _ hq
theorem k_best (cx : CL p s m meth c b L xs D cy cells slots) (lj : LJ ad k s) (hRel : Rel k Sx Sm) {i : Int32} (h1 : vp_in (i + (1 : Int32)) L) (h2 : vp_in (i + (2 : Int32)) L) (h3 : vp_in (i + (3 : Int32)) L) (h4 : vp_in (i + (4 : Int32)) L) (h5 : vp_in (i + (5 : Int32)) L) (kk : ∀ Sx' Sm', Rel k Sx' Sm' → LT p l e s m below meth c b D cy cells slots ad k Sx' Sm' 1542 [(0, .ref b), (1, .ref (ad 7 0)), (2, .ref (ad 8 0)), (3, .int i)] []) : LT p l e s m below meth c b D cy cells slots ad k Sx Sm 843 [(0, .ref b), (1, .ref (ad 7 0)), (2, .ref (ad 8 0)), (3, .int i)] [] := by
  obtain ⟨r, Sx', Sm', hx, hm, hq⟩ := m_best hRel (xs (i + (1 : Int32)).toNatClampNeg)
  refine L_aload_n (q := 844) cx dL_law_843 rfl rfl ?_
  refine L_aload_n (q := 845) cx dL_law_844 rfl rfl ?_
  refine L_iload_n (q := 846) cx dL_law_845 rfl rfl ?_
  refine L_iconst (q := 847) (v := (1 : Int32)) cx dL_law_846 rfl (by decide) ?_
  refine L_iadd (q := 848) cx dL_law_847 rfl ?_
  refine L_sld (q := 849) cx dL_law_848 rfl h1 ?_
  refine L_callX (q := 852) (d' := 7) (As := [.int (xs (i + (1 : Int32)).toNatClampNeg)]) (rest := []) (st' := [.int r]) cx lj dL_law_849 rfl ml_RL_102 rfl rfl (Nat.le_of_ble_eq_true rfl) (Nat.le_of_ble_eq_true rfl) (Nat.le_of_ble_eq_true rfl) (c_X7_best l lj.1 _ (xs (i + (1 : Int32)).toNatClampNeg)) hx rfl ?_
  refine L_aload_n (q := 853) cx dL_law_852 rfl rfl ?_
  refine L_aload_n (q := 854) cx dL_law_853 rfl rfl ?_
  refine L_iload_n (q := 855) cx dL_law_854 rfl rfl ?_
  refine L_iconst (q := 856) (v := (1 : Int32)) cx dL_law_855 rfl (by decide) ?_
  refine L_iadd (q := 857) cx dL_law_856 rfl ?_
  refine L_sld (q := 858) cx dL_law_857 rfl h1 ?_
  refine L_callM (q := 861) (d' := 8) (As := [.int (xs (i + (1 : Int32)).toNatClampNeg)]) (rest := [.int r]) (st' := [.int r, .int r]) cx lj dL_law_858 rfl ml_RL_105 rfl rfl (Nat.le_of_ble_eq_true rfl) (Nat.le_of_ble_eq_true rfl) (Nat.le_of_ble_eq_true rfl) (c_X8_best l lj.2.1 _ (xs (i + (1 : Int32)).toNatClampNeg)) hm rfl ?_
  refine L_eqy (t := 1542) cx dL_law_861 (by decide) ?_
  exact kk _ _ hq
theorem k_two (cx : CL p s m meth c b L xs D cy cells slots) (lj : LJ ad k s) (hRel : Rel k Sx Sm) {i : Int32} (h1 : vp_in (i + (1 : Int32)) L) (h2 : vp_in (i + (2 : Int32)) L) (h3 : vp_in (i + (3 : Int32)) L) (h4 : vp_in (i + (4 : Int32)) L) (h5 : vp_in (i + (5 : Int32)) L) (kk : ∀ Sx' Sm', Rel k Sx' Sm' → LT p l e s m below meth c b D cy cells slots ad k Sx' Sm' 1542 [(0, .ref b), (1, .ref (ad 7 0)), (2, .ref (ad 8 0)), (3, .int i)] []) : LT p l e s m below meth c b D cy cells slots ad k Sx Sm 866 [(0, .ref b), (1, .ref (ad 7 0)), (2, .ref (ad 8 0)), (3, .int i)] [] := by
  obtain ⟨r, Sx', Sm', hx, hm, hq⟩ := m_two hRel (xs (i + (1 : Int32)).toNatClampNeg) (xs (i + (2 : Int32)).toNatClampNeg)
  refine L_aload_n (q := 867) cx dL_law_866 rfl rfl ?_
  refine L_aload_n (q := 868) cx dL_law_867 rfl rfl ?_
  refine L_iload_n (q := 869) cx dL_law_868 rfl rfl ?_
  refine L_iconst (q := 870) (v := (1 : Int32)) cx dL_law_869 rfl (by decide) ?_
  refine L_iadd (q := 871) cx dL_law_870 rfl ?_
  refine L_sld (q := 872) cx dL_law_871 rfl h1 ?_
  refine L_aload_n (q := 873) cx dL_law_872 rfl rfl ?_
  refine L_iload_n (q := 874) cx dL_law_873 rfl rfl ?_
  refine L_iconst (q := 875) (v := (2 : Int32)) cx dL_law_874 rfl (by decide) ?_
  refine L_iadd (q := 876) cx dL_law_875 rfl ?_
  refine L_sld (q := 877) cx dL_law_876 rfl h2 ?_
  refine L_callX (q := 880) (d' := 7) (As := [.int (xs (i + (1 : Int32)).toNatClampNeg), .int (xs (i + (2 : Int32)).toNatClampNeg)]) (rest := []) (st' := [.int r]) cx lj dL_law_877 rfl ml_RL_106 rfl rfl (Nat.le_of_ble_eq_true rfl) (Nat.le_of_ble_eq_true rfl) (Nat.le_of_ble_eq_true rfl) (c_X7_two l lj.1 _ (xs (i + (1 : Int32)).toNatClampNeg) (xs (i + (2 : Int32)).toNatClampNeg)) hx rfl ?_
  refine L_aload_n (q := 881) cx dL_law_880 rfl rfl ?_
  refine L_aload_n (q := 882) cx dL_law_881 rfl rfl ?_
  refine L_iload_n (q := 883) cx dL_law_882 rfl rfl ?_
  refine L_iconst (q := 884) (v := (1 : Int32)) cx dL_law_883 rfl (by decide) ?_
  refine L_iadd (q := 885) cx dL_law_884 rfl ?_
  refine L_sld (q := 886) cx dL_law_885 rfl h1 ?_
  refine L_aload_n (q := 887) cx dL_law_886 rfl rfl ?_
  refine L_iload_n (q := 888) cx dL_law_887 rfl rfl ?_
  refine L_iconst (q := 889) (v := (2 : Int32)) cx dL_law_888 rfl (by decide) ?_
  refine L_iadd (q := 890) cx dL_law_889 rfl ?_
  refine L_sld (q := 891) cx dL_law_890 rfl h2 ?_
  refine L_callM (q := 894) (d' := 7) (As := [.int (xs (i + (1 : Int32)).toNatClampNeg), .int (xs (i + (2 : Int32)).toNatClampNeg)]) (rest := [.int r]) (st' := [.int r, .int r]) cx lj dL_law_891 rfl ml_RL_109 rfl rfl (Nat.le_of_ble_eq_true rfl) (Nat.le_of_ble_eq_true rfl) (Nat.le_of_ble_eq_true rfl) (c_X8_two l lj.2.1 _ (xs (i + (1 : Int32)).toNatClampNeg) (xs (i + (2 : Int32)).toNatClampNeg)) hm rfl ?_
  refine L_eqy (t := 1542) cx dL_law_894 (by decide) ?_
  exact kk _ _ hq
theorem k_worth (cx : CL p s m meth c b L xs D cy cells slots) (lj : LJ ad k s) (hRel : Rel k Sx Sm) {i : Int32} (h1 : vp_in (i + (1 : Int32)) L) (h2 : vp_in (i + (2 : Int32)) L) (h3 : vp_in (i + (3 : Int32)) L) (h4 : vp_in (i + (4 : Int32)) L) (h5 : vp_in (i + (5 : Int32)) L) (kk : ∀ Sx' Sm', Rel k Sx' Sm' → LT p l e s m below meth c b D cy cells slots ad k Sx' Sm' 1542 [(0, .ref b), (1, .ref (ad 7 0)), (2, .ref (ad 8 0)), (3, .int i)] []) : LT p l e s m below meth c b D cy cells slots ad k Sx Sm 899 [(0, .ref b), (1, .ref (ad 7 0)), (2, .ref (ad 8 0)), (3, .int i)] [] := by
  obtain ⟨r, Sx', Sm', hx, hm, hq⟩ := m_worth hRel (xs (i + (1 : Int32)).toNatClampNeg)
  refine L_aload_n (q := 900) cx dL_law_899 rfl rfl ?_
  refine L_aload_n (q := 901) cx dL_law_900 rfl rfl ?_
  refine L_iload_n (q := 902) cx dL_law_901 rfl rfl ?_
  refine L_iconst (q := 903) (v := (1 : Int32)) cx dL_law_902 rfl (by decide) ?_
  refine L_iadd (q := 904) cx dL_law_903 rfl ?_
  refine L_sld (q := 905) cx dL_law_904 rfl h1 ?_
  refine L_callX (q := 908) (d' := 7) (As := [.int (xs (i + (1 : Int32)).toNatClampNeg)]) (rest := []) (st' := [.int r]) cx lj dL_law_905 rfl ml_RL_110 rfl rfl (Nat.le_of_ble_eq_true rfl) (Nat.le_of_ble_eq_true rfl) (Nat.le_of_ble_eq_true rfl) (c_X7_worth l lj.1 _ (xs (i + (1 : Int32)).toNatClampNeg)) hx rfl ?_
  refine L_aload_n (q := 909) cx dL_law_908 rfl rfl ?_
  refine L_aload_n (q := 910) cx dL_law_909 rfl rfl ?_
  refine L_iload_n (q := 911) cx dL_law_910 rfl rfl ?_
  refine L_iconst (q := 912) (v := (1 : Int32)) cx dL_law_911 rfl (by decide) ?_
  refine L_iadd (q := 913) cx dL_law_912 rfl ?_
  refine L_sld (q := 914) cx dL_law_913 rfl h1 ?_
  refine L_callM (q := 917) (d' := 8) (As := [.int (xs (i + (1 : Int32)).toNatClampNeg)]) (rest := [.int r]) (st' := [.int r, .int r]) cx lj dL_law_914 rfl ml_RL_113 rfl rfl (Nat.le_of_ble_eq_true rfl) (Nat.le_of_ble_eq_true rfl) (Nat.le_of_ble_eq_true rfl) (c_X8_worth l lj.2.1 _ (xs (i + (1 : Int32)).toNatClampNeg)) hm rfl ?_
  refine L_eqy (t := 1542) cx dL_law_917 (by decide) ?_
  exact kk _ _ hq
theorem k_leg (cx : CL p s m meth c b L xs D cy cells slots) (lj : LJ ad k s) (hRel : Rel k Sx Sm) {i : Int32} (h1 : vp_in (i + (1 : Int32)) L) (h2 : vp_in (i + (2 : Int32)) L) (h3 : vp_in (i + (3 : Int32)) L) (h4 : vp_in (i + (4 : Int32)) L) (h5 : vp_in (i + (5 : Int32)) L) (kk : ∀ Sx' Sm', Rel k Sx' Sm' → LT p l e s m below meth c b D cy cells slots ad k Sx' Sm' 1542 [(0, .ref b), (1, .ref (ad 7 0)), (2, .ref (ad 8 0)), (3, .int i)] []) : LT p l e s m below meth c b D cy cells slots ad k Sx Sm 922 [(0, .ref b), (1, .ref (ad 7 0)), (2, .ref (ad 8 0)), (3, .int i)] [] := by
  obtain ⟨r, Sx', Sm', hx, hm, hq⟩ := m_leg hRel (xs (i + (1 : Int32)).toNatClampNeg) (xs (i + (2 : Int32)).toNatClampNeg)
  refine L_aload_n (q := 923) cx dL_law_922 rfl rfl ?_
  refine L_aload_n (q := 924) cx dL_law_923 rfl rfl ?_
  refine L_iload_n (q := 925) cx dL_law_924 rfl rfl ?_
  refine L_iconst (q := 926) (v := (1 : Int32)) cx dL_law_925 rfl (by decide) ?_
  refine L_iadd (q := 927) cx dL_law_926 rfl ?_
  refine L_sld (q := 928) cx dL_law_927 rfl h1 ?_
  refine L_aload_n (q := 929) cx dL_law_928 rfl rfl ?_
  refine L_iload_n (q := 930) cx dL_law_929 rfl rfl ?_
  refine L_iconst (q := 931) (v := (2 : Int32)) cx dL_law_930 rfl (by decide) ?_
  refine L_iadd (q := 932) cx dL_law_931 rfl ?_
  refine L_sld (q := 933) cx dL_law_932 rfl h2 ?_
  refine L_callX (q := 936) (d' := 2) (As := [.int (xs (i + (1 : Int32)).toNatClampNeg), .int (xs (i + (2 : Int32)).toNatClampNeg)]) (rest := []) (st' := [.int r]) cx lj dL_law_933 rfl ml_RL_114 rfl rfl (Nat.le_of_ble_eq_true rfl) (Nat.le_of_ble_eq_true rfl) (Nat.le_of_ble_eq_true rfl) (c_X7_leg l lj.1 _ (xs (i + (1 : Int32)).toNatClampNeg) (xs (i + (2 : Int32)).toNatClampNeg)) hx rfl ?_
  refine L_aload_n (q := 937) cx dL_law_936 rfl rfl ?_
  refine L_aload_n (q := 938) cx dL_law_937 rfl rfl ?_
  refine L_iload_n (q := 939) cx dL_law_938 rfl rfl ?_
  refine L_iconst (q := 940) (v := (1 : Int32)) cx dL_law_939 rfl (by decide) ?_
  refine L_iadd (q := 941) cx dL_law_940 rfl ?_
  refine L_sld (q := 942) cx dL_law_941 rfl h1 ?_
  refine L_aload_n (q := 943) cx dL_law_942 rfl rfl ?_
  refine L_iload_n (q := 944) cx dL_law_943 rfl rfl ?_
  refine L_iconst (q := 945) (v := (2 : Int32)) cx dL_law_944 rfl (by decide) ?_
  refine L_iadd (q := 946) cx dL_law_945 rfl ?_
  refine L_sld (q := 947) cx dL_law_946 rfl h2 ?_
  refine L_callM (q := 950) (d' := 2) (As := [.int (xs (i + (1 : Int32)).toNatClampNeg), .int (xs (i + (2 : Int32)).toNatClampNeg)]) (rest := [.int r]) (st' := [.int r, .int r]) cx lj dL_law_947 rfl ml_RL_117 rfl rfl (Nat.le_of_ble_eq_true rfl) (Nat.le_of_ble_eq_true rfl) (Nat.le_of_ble_eq_true rfl) (c_X8_leg l lj.2.1 _ (xs (i + (1 : Int32)).toNatClampNeg) (xs (i + (2 : Int32)).toNatClampNeg)) hm rfl ?_
  refine L_eqy (t := 1542) cx dL_law_950 (by decide) ?_
  exact kk _ _ hq
theorem k_flown (cx : CL p s m meth c b L xs D cy cells slots) (lj : LJ ad k s) (hRel : Rel k Sx Sm) {i : Int32} (h1 : vp_in (i + (1 : Int32)) L) (h2 : vp_in (i + (2 : Int32)) L) (h3 : vp_in (i + (3 : Int32)) L) (h4 : vp_in (i + (4 : Int32)) L) (h5 : vp_in (i + (5 : Int32)) L) (kk : ∀ Sx' Sm', Rel k Sx' Sm' → LT p l e s m below meth c b D cy cells slots ad k Sx' Sm' 1542 [(0, .ref b), (1, .ref (ad 7 0)), (2, .ref (ad 8 0)), (3, .int i)] []) : LT p l e s m below meth c b D cy cells slots ad k Sx Sm 955 [(0, .ref b), (1, .ref (ad 7 0)), (2, .ref (ad 8 0)), (3, .int i)] [] := by
  obtain ⟨r, Sx', Sm', hx, hm, hq⟩ := m_flown hRel (xs (i + (1 : Int32)).toNatClampNeg) (xs (i + (2 : Int32)).toNatClampNeg)
  refine L_aload_n (q := 956) cx dL_law_955 rfl rfl ?_
  refine L_aload_n (q := 957) cx dL_law_956 rfl rfl ?_
  refine L_iload_n (q := 958) cx dL_law_957 rfl rfl ?_
  refine L_iconst (q := 959) (v := (1 : Int32)) cx dL_law_958 rfl (by decide) ?_
  refine L_iadd (q := 960) cx dL_law_959 rfl ?_
  refine L_sld (q := 961) cx dL_law_960 rfl h1 ?_
  refine L_aload_n (q := 962) cx dL_law_961 rfl rfl ?_
  refine L_iload_n (q := 963) cx dL_law_962 rfl rfl ?_
  refine L_iconst (q := 964) (v := (2 : Int32)) cx dL_law_963 rfl (by decide) ?_
  refine L_iadd (q := 965) cx dL_law_964 rfl ?_
  refine L_sld (q := 966) cx dL_law_965 rfl h2 ?_
  refine L_callX (q := 969) (d' := 5) (As := [.int (xs (i + (1 : Int32)).toNatClampNeg), .int (xs (i + (2 : Int32)).toNatClampNeg)]) (rest := []) (st' := [.int r]) cx lj dL_law_966 rfl ml_RL_118 rfl rfl (Nat.le_of_ble_eq_true rfl) (Nat.le_of_ble_eq_true rfl) (Nat.le_of_ble_eq_true rfl) (c_X7_flown l lj.1 _ (xs (i + (1 : Int32)).toNatClampNeg) (xs (i + (2 : Int32)).toNatClampNeg)) hx rfl ?_
  refine L_aload_n (q := 970) cx dL_law_969 rfl rfl ?_
  refine L_aload_n (q := 971) cx dL_law_970 rfl rfl ?_
  refine L_iload_n (q := 972) cx dL_law_971 rfl rfl ?_
  refine L_iconst (q := 973) (v := (1 : Int32)) cx dL_law_972 rfl (by decide) ?_
  refine L_iadd (q := 974) cx dL_law_973 rfl ?_
  refine L_sld (q := 975) cx dL_law_974 rfl h1 ?_
  refine L_aload_n (q := 976) cx dL_law_975 rfl rfl ?_
  refine L_iload_n (q := 977) cx dL_law_976 rfl rfl ?_
  refine L_iconst (q := 978) (v := (2 : Int32)) cx dL_law_977 rfl (by decide) ?_
  refine L_iadd (q := 979) cx dL_law_978 rfl ?_
  refine L_sld (q := 980) cx dL_law_979 rfl h2 ?_
  refine L_callM (q := 983) (d' := 5) (As := [.int (xs (i + (1 : Int32)).toNatClampNeg), .int (xs (i + (2 : Int32)).toNatClampNeg)]) (rest := [.int r]) (st' := [.int r, .int r]) cx lj dL_law_980 rfl ml_RL_121 rfl rfl (Nat.le_of_ble_eq_true rfl) (Nat.le_of_ble_eq_true rfl) (Nat.le_of_ble_eq_true rfl) (c_X8_flown l lj.2.1 _ (xs (i + (1 : Int32)).toNatClampNeg) (xs (i + (2 : Int32)).toNatClampNeg)) hm rfl ?_
  refine L_eqy (t := 1542) cx dL_law_983 (by decide) ?_
  exact kk _ _ hq
theorem k_see (cx : CL p s m meth c b L xs D cy cells slots) (lj : LJ ad k s) (hRel : Rel k Sx Sm) {i : Int32} (h1 : vp_in (i + (1 : Int32)) L) (h2 : vp_in (i + (2 : Int32)) L) (h3 : vp_in (i + (3 : Int32)) L) (h4 : vp_in (i + (4 : Int32)) L) (h5 : vp_in (i + (5 : Int32)) L) (kk : ∀ Sx' Sm', Rel k Sx' Sm' → LT p l e s m below meth c b D cy cells slots ad k Sx' Sm' 1542 [(0, .ref b), (1, .ref (ad 7 0)), (2, .ref (ad 8 0)), (3, .int i)] []) : LT p l e s m below meth c b D cy cells slots ad k Sx Sm 988 [(0, .ref b), (1, .ref (ad 7 0)), (2, .ref (ad 8 0)), (3, .int i)] [] := by
  obtain ⟨r, Sx', Sm', hx, hm, hq⟩ := m_see hRel (xs (i + (1 : Int32)).toNatClampNeg)
  refine L_aload_n (q := 989) cx dL_law_988 rfl rfl ?_
  refine L_aload_n (q := 990) cx dL_law_989 rfl rfl ?_
  refine L_iload_n (q := 991) cx dL_law_990 rfl rfl ?_
  refine L_iconst (q := 992) (v := (1 : Int32)) cx dL_law_991 rfl (by decide) ?_
  refine L_iadd (q := 993) cx dL_law_992 rfl ?_
  refine L_sld (q := 994) cx dL_law_993 rfl h1 ?_
  refine L_callX (q := 997) (d' := 1) (As := [.int (xs (i + (1 : Int32)).toNatClampNeg)]) (rest := []) (st' := [.int r]) cx lj dL_law_994 rfl ml_RL_122 rfl rfl (Nat.le_of_ble_eq_true rfl) (Nat.le_of_ble_eq_true rfl) (Nat.le_of_ble_eq_true rfl) (c_X7_see l lj.1 _ (xs (i + (1 : Int32)).toNatClampNeg)) hx rfl ?_
  refine L_aload_n (q := 998) cx dL_law_997 rfl rfl ?_
  refine L_aload_n (q := 999) cx dL_law_998 rfl rfl ?_
  refine L_iload_n (q := 1000) cx dL_law_999 rfl rfl ?_
  refine L_iconst (q := 1001) (v := (1 : Int32)) cx dL_law_1000 rfl (by decide) ?_
  refine L_iadd (q := 1002) cx dL_law_1001 rfl ?_
  refine L_sld (q := 1003) cx dL_law_1002 rfl h1 ?_
  refine L_callM (q := 1006) (d' := 1) (As := [.int (xs (i + (1 : Int32)).toNatClampNeg)]) (rest := [.int r]) (st' := [.int r, .int r]) cx lj dL_law_1003 rfl ml_RL_125 rfl rfl (Nat.le_of_ble_eq_true rfl) (Nat.le_of_ble_eq_true rfl) (Nat.le_of_ble_eq_true rfl) (c_X8_see l lj.2.1 _ (xs (i + (1 : Int32)).toNatClampNeg)) hm rfl ?_
  refine L_eqy (t := 1542) cx dL_law_1006 (by decide) ?_
  exact kk _ _ hq
theorem k_who (cx : CL p s m meth c b L xs D cy cells slots) (lj : LJ ad k s) (hRel : Rel k Sx Sm) {i : Int32} (h1 : vp_in (i + (1 : Int32)) L) (h2 : vp_in (i + (2 : Int32)) L) (h3 : vp_in (i + (3 : Int32)) L) (h4 : vp_in (i + (4 : Int32)) L) (h5 : vp_in (i + (5 : Int32)) L) (kk : ∀ Sx' Sm', Rel k Sx' Sm' → LT p l e s m below meth c b D cy cells slots ad k Sx' Sm' 1542 [(0, .ref b), (1, .ref (ad 7 0)), (2, .ref (ad 8 0)), (3, .int i)] []) : LT p l e s m below meth c b D cy cells slots ad k Sx Sm 1011 [(0, .ref b), (1, .ref (ad 7 0)), (2, .ref (ad 8 0)), (3, .int i)] [] := by
  obtain ⟨r, Sx', Sm', hx, hm, hq⟩ := m_who hRel 
  refine L_aload_n (q := 1012) cx dL_law_1011 rfl rfl ?_
  refine L_callX (q := 1015) (d' := 6) (As := []) (rest := []) (st' := [.int r]) cx lj dL_law_1012 rfl ml_RL_126 rfl rfl (Nat.le_of_ble_eq_true rfl) (Nat.le_of_ble_eq_true rfl) (Nat.le_of_ble_eq_true rfl) (c_X7_who l lj.1 _ ) hx rfl ?_
  refine L_aload_n (q := 1016) cx dL_law_1015 rfl rfl ?_
  refine L_callM (q := 1019) (d' := 6) (As := []) (rest := [.int r]) (st' := [.int r, .int r]) cx lj dL_law_1016 rfl ml_RL_129 rfl rfl (Nat.le_of_ble_eq_true rfl) (Nat.le_of_ble_eq_true rfl) (Nat.le_of_ble_eq_true rfl) (c_X8_who l lj.2.1 _ ) hm rfl ?_
  refine L_eqy (t := 1542) cx dL_law_1019 (by decide) ?_
  exact kk _ _ hq
theorem k_odds (cx : CL p s m meth c b L xs D cy cells slots) (lj : LJ ad k s) (hRel : Rel k Sx Sm) {i : Int32} (h1 : vp_in (i + (1 : Int32)) L) (h2 : vp_in (i + (2 : Int32)) L) (h3 : vp_in (i + (3 : Int32)) L) (h4 : vp_in (i + (4 : Int32)) L) (h5 : vp_in (i + (5 : Int32)) L) (kk : ∀ Sx' Sm', Rel k Sx' Sm' → LT p l e s m below meth c b D cy cells slots ad k Sx' Sm' 1542 [(0, .ref b), (1, .ref (ad 7 0)), (2, .ref (ad 8 0)), (3, .int i)] []) : LT p l e s m below meth c b D cy cells slots ad k Sx Sm 1024 [(0, .ref b), (1, .ref (ad 7 0)), (2, .ref (ad 8 0)), (3, .int i)] [] := by
  obtain ⟨r, Sx', Sm', hx, hm, hq⟩ := m_odds hRel (xs (i + (1 : Int32)).toNatClampNeg) (xs (i + (2 : Int32)).toNatClampNeg) (xs (i + (3 : Int32)).toNatClampNeg)
  refine L_aload_n (q := 1025) cx dL_law_1024 rfl rfl ?_
  refine L_aload_n (q := 1026) cx dL_law_1025 rfl rfl ?_
  refine L_iload_n (q := 1027) cx dL_law_1026 rfl rfl ?_
  refine L_iconst (q := 1028) (v := (1 : Int32)) cx dL_law_1027 rfl (by decide) ?_
  refine L_iadd (q := 1029) cx dL_law_1028 rfl ?_
  refine L_sld (q := 1030) cx dL_law_1029 rfl h1 ?_
  refine L_aload_n (q := 1031) cx dL_law_1030 rfl rfl ?_
  refine L_iload_n (q := 1032) cx dL_law_1031 rfl rfl ?_
  refine L_iconst (q := 1033) (v := (2 : Int32)) cx dL_law_1032 rfl (by decide) ?_
  refine L_iadd (q := 1034) cx dL_law_1033 rfl ?_
  refine L_sld (q := 1035) cx dL_law_1034 rfl h2 ?_
  refine L_aload_n (q := 1036) cx dL_law_1035 rfl rfl ?_
  refine L_iload_n (q := 1037) cx dL_law_1036 rfl rfl ?_
  refine L_iconst (q := 1038) (v := (3 : Int32)) cx dL_law_1037 rfl (by decide) ?_
  refine L_iadd (q := 1039) cx dL_law_1038 rfl ?_
  refine L_sld (q := 1040) cx dL_law_1039 rfl h3 ?_
  refine L_callX (q := 1043) (d' := 6) (As := [.int (xs (i + (1 : Int32)).toNatClampNeg), .int (xs (i + (2 : Int32)).toNatClampNeg), .int (xs (i + (3 : Int32)).toNatClampNeg)]) (rest := []) (st' := [.long r]) cx lj dL_law_1040 rfl ml_RL_130 rfl rfl (Nat.le_of_ble_eq_true rfl) (Nat.le_of_ble_eq_true rfl) (Nat.le_of_ble_eq_true rfl) (c_X7_odds l lj.1 _ (xs (i + (1 : Int32)).toNatClampNeg) (xs (i + (2 : Int32)).toNatClampNeg) (xs (i + (3 : Int32)).toNatClampNeg)) hx rfl ?_
  refine L_aload_n (q := 1044) cx dL_law_1043 rfl rfl ?_
  refine L_aload_n (q := 1045) cx dL_law_1044 rfl rfl ?_
  refine L_iload_n (q := 1046) cx dL_law_1045 rfl rfl ?_
  refine L_iconst (q := 1047) (v := (1 : Int32)) cx dL_law_1046 rfl (by decide) ?_
  refine L_iadd (q := 1048) cx dL_law_1047 rfl ?_
  refine L_sld (q := 1049) cx dL_law_1048 rfl h1 ?_
  refine L_aload_n (q := 1050) cx dL_law_1049 rfl rfl ?_
  refine L_iload_n (q := 1051) cx dL_law_1050 rfl rfl ?_
  refine L_iconst (q := 1052) (v := (2 : Int32)) cx dL_law_1051 rfl (by decide) ?_
  refine L_iadd (q := 1053) cx dL_law_1052 rfl ?_
  refine L_sld (q := 1054) cx dL_law_1053 rfl h2 ?_
  refine L_aload_n (q := 1055) cx dL_law_1054 rfl rfl ?_
  refine L_iload_n (q := 1056) cx dL_law_1055 rfl rfl ?_
  refine L_iconst (q := 1057) (v := (3 : Int32)) cx dL_law_1056 rfl (by decide) ?_
  refine L_iadd (q := 1058) cx dL_law_1057 rfl ?_
  refine L_sld (q := 1059) cx dL_law_1058 rfl h3 ?_
  refine L_callM (q := 1062) (d' := 6) (As := [.int (xs (i + (1 : Int32)).toNatClampNeg), .int (xs (i + (2 : Int32)).toNatClampNeg), .int (xs (i + (3 : Int32)).toNatClampNeg)]) (rest := [.long r]) (st' := [.long r, .long r]) cx lj dL_law_1059 rfl ml_RL_134 rfl rfl (Nat.le_of_ble_eq_true rfl) (Nat.le_of_ble_eq_true rfl) (Nat.le_of_ble_eq_true rfl) (c_X8_odds l lj.2.1 _ (xs (i + (1 : Int32)).toNatClampNeg) (xs (i + (2 : Int32)).toNatClampNeg) (xs (i + (3 : Int32)).toNatClampNeg)) hm rfl ?_
  refine L_lcmp (q := 1063) cx dL_law_1062 rfl ?_
  refine L_eq0y (t := 1542) cx (lcmp_self r) dL_law_1063 (by decide) ?_
  exact kk _ _ hq
theorem k_mean (cx : CL p s m meth c b L xs D cy cells slots) (lj : LJ ad k s) (hRel : Rel k Sx Sm) {i : Int32} (h1 : vp_in (i + (1 : Int32)) L) (h2 : vp_in (i + (2 : Int32)) L) (h3 : vp_in (i + (3 : Int32)) L) (h4 : vp_in (i + (4 : Int32)) L) (h5 : vp_in (i + (5 : Int32)) L) (kk : ∀ Sx' Sm', Rel k Sx' Sm' → LT p l e s m below meth c b D cy cells slots ad k Sx' Sm' 1542 [(0, .ref b), (1, .ref (ad 7 0)), (2, .ref (ad 8 0)), (3, .int i)] []) : LT p l e s m below meth c b D cy cells slots ad k Sx Sm 1068 [(0, .ref b), (1, .ref (ad 7 0)), (2, .ref (ad 8 0)), (3, .int i)] [] := by
  obtain ⟨r, Sx', Sm', hx, hm, hq⟩ := m_mean hRel (xs (i + (1 : Int32)).toNatClampNeg) (xs (i + (2 : Int32)).toNatClampNeg)
  refine L_aload_n (q := 1069) cx dL_law_1068 rfl rfl ?_
  refine L_aload_n (q := 1070) cx dL_law_1069 rfl rfl ?_
  refine L_iload_n (q := 1071) cx dL_law_1070 rfl rfl ?_
  refine L_iconst (q := 1072) (v := (1 : Int32)) cx dL_law_1071 rfl (by decide) ?_
  refine L_iadd (q := 1073) cx dL_law_1072 rfl ?_
  refine L_sld (q := 1074) cx dL_law_1073 rfl h1 ?_
  refine L_aload_n (q := 1075) cx dL_law_1074 rfl rfl ?_
  refine L_iload_n (q := 1076) cx dL_law_1075 rfl rfl ?_
  refine L_iconst (q := 1077) (v := (2 : Int32)) cx dL_law_1076 rfl (by decide) ?_
  refine L_iadd (q := 1078) cx dL_law_1077 rfl ?_
  refine L_sld (q := 1079) cx dL_law_1078 rfl h2 ?_
  refine L_callX (q := 1082) (d' := 6) (As := [.int (xs (i + (1 : Int32)).toNatClampNeg), .int (xs (i + (2 : Int32)).toNatClampNeg)]) (rest := []) (st' := [.long r]) cx lj dL_law_1079 rfl ml_RL_135 rfl rfl (Nat.le_of_ble_eq_true rfl) (Nat.le_of_ble_eq_true rfl) (Nat.le_of_ble_eq_true rfl) (c_X7_mean l lj.1 _ (xs (i + (1 : Int32)).toNatClampNeg) (xs (i + (2 : Int32)).toNatClampNeg)) hx rfl ?_
  refine L_aload_n (q := 1083) cx dL_law_1082 rfl rfl ?_
  refine L_aload_n (q := 1084) cx dL_law_1083 rfl rfl ?_
  refine L_iload_n (q := 1085) cx dL_law_1084 rfl rfl ?_
  refine L_iconst (q := 1086) (v := (1 : Int32)) cx dL_law_1085 rfl (by decide) ?_
  refine L_iadd (q := 1087) cx dL_law_1086 rfl ?_
  refine L_sld (q := 1088) cx dL_law_1087 rfl h1 ?_
  refine L_aload_n (q := 1089) cx dL_law_1088 rfl rfl ?_
  refine L_iload_n (q := 1090) cx dL_law_1089 rfl rfl ?_
  refine L_iconst (q := 1091) (v := (2 : Int32)) cx dL_law_1090 rfl (by decide) ?_
  refine L_iadd (q := 1092) cx dL_law_1091 rfl ?_
  refine L_sld (q := 1093) cx dL_law_1092 rfl h2 ?_
  refine L_callM (q := 1096) (d' := 6) (As := [.int (xs (i + (1 : Int32)).toNatClampNeg), .int (xs (i + (2 : Int32)).toNatClampNeg)]) (rest := [.long r]) (st' := [.long r, .long r]) cx lj dL_law_1093 rfl ml_RL_139 rfl rfl (Nat.le_of_ble_eq_true rfl) (Nat.le_of_ble_eq_true rfl) (Nat.le_of_ble_eq_true rfl) (c_X8_mean l lj.2.1 _ (xs (i + (1 : Int32)).toNatClampNeg) (xs (i + (2 : Int32)).toNatClampNeg)) hm rfl ?_
  refine L_lcmp (q := 1097) cx dL_law_1096 rfl ?_
  refine L_eq0y (t := 1542) cx (lcmp_self r) dL_law_1097 (by decide) ?_
  exact kk _ _ hq
theorem k_book (cx : CL p s m meth c b L xs D cy cells slots) (lj : LJ ad k s) (hRel : Rel k Sx Sm) {i : Int32} (h1 : vp_in (i + (1 : Int32)) L) (h2 : vp_in (i + (2 : Int32)) L) (h3 : vp_in (i + (3 : Int32)) L) (h4 : vp_in (i + (4 : Int32)) L) (h5 : vp_in (i + (5 : Int32)) L) (kk : ∀ Sx' Sm', Rel k Sx' Sm' → LT p l e s m below meth c b D cy cells slots ad k Sx' Sm' 1542 [(0, .ref b), (1, .ref (ad 7 0)), (2, .ref (ad 8 0)), (3, .int i)] []) : LT p l e s m below meth c b D cy cells slots ad k Sx Sm 1102 [(0, .ref b), (1, .ref (ad 7 0)), (2, .ref (ad 8 0)), (3, .int i)] [] := by
  obtain ⟨r, Sx', Sm', hx, hm, hq⟩ := m_book hRel (xs (i + (1 : Int32)).toNatClampNeg) (xs (i + (2 : Int32)).toNatClampNeg)
  refine L_aload_n (q := 1103) cx dL_law_1102 rfl rfl ?_
  refine L_aload_n (q := 1104) cx dL_law_1103 rfl rfl ?_
  refine L_iload_n (q := 1105) cx dL_law_1104 rfl rfl ?_
  refine L_iconst (q := 1106) (v := (1 : Int32)) cx dL_law_1105 rfl (by decide) ?_
  refine L_iadd (q := 1107) cx dL_law_1106 rfl ?_
  refine L_sld (q := 1108) cx dL_law_1107 rfl h1 ?_
  refine L_aload_n (q := 1109) cx dL_law_1108 rfl rfl ?_
  refine L_iload_n (q := 1110) cx dL_law_1109 rfl rfl ?_
  refine L_iconst (q := 1111) (v := (2 : Int32)) cx dL_law_1110 rfl (by decide) ?_
  refine L_iadd (q := 1112) cx dL_law_1111 rfl ?_
  refine L_sld (q := 1113) cx dL_law_1112 rfl h2 ?_
  refine L_callX (q := 1116) (d' := 2) (As := [.int (xs (i + (1 : Int32)).toNatClampNeg), .int (xs (i + (2 : Int32)).toNatClampNeg)]) (rest := []) (st' := [.int r]) cx lj dL_law_1113 rfl ml_RL_140 rfl rfl (Nat.le_of_ble_eq_true rfl) (Nat.le_of_ble_eq_true rfl) (Nat.le_of_ble_eq_true rfl) (c_X7_book l lj.1 _ (xs (i + (1 : Int32)).toNatClampNeg) (xs (i + (2 : Int32)).toNatClampNeg)) hx rfl ?_
  refine L_aload_n (q := 1117) cx dL_law_1116 rfl rfl ?_
  refine L_aload_n (q := 1118) cx dL_law_1117 rfl rfl ?_
  refine L_iload_n (q := 1119) cx dL_law_1118 rfl rfl ?_
  refine L_iconst (q := 1120) (v := (1 : Int32)) cx dL_law_1119 rfl (by decide) ?_
  refine L_iadd (q := 1121) cx dL_law_1120 rfl ?_
  refine L_sld (q := 1122) cx dL_law_1121 rfl h1 ?_
  refine L_aload_n (q := 1123) cx dL_law_1122 rfl rfl ?_
  refine L_iload_n (q := 1124) cx dL_law_1123 rfl rfl ?_
  refine L_iconst (q := 1125) (v := (2 : Int32)) cx dL_law_1124 rfl (by decide) ?_
  refine L_iadd (q := 1126) cx dL_law_1125 rfl ?_
  refine L_sld (q := 1127) cx dL_law_1126 rfl h2 ?_
  refine L_callM (q := 1130) (d' := 2) (As := [.int (xs (i + (1 : Int32)).toNatClampNeg), .int (xs (i + (2 : Int32)).toNatClampNeg)]) (rest := [.int r]) (st' := [.int r, .int r]) cx lj dL_law_1127 rfl ml_RL_143 rfl rfl (Nat.le_of_ble_eq_true rfl) (Nat.le_of_ble_eq_true rfl) (Nat.le_of_ble_eq_true rfl) (c_X8_book l lj.2.1 _ (xs (i + (1 : Int32)).toNatClampNeg) (xs (i + (2 : Int32)).toNatClampNeg)) hm rfl ?_
  refine L_eqy (t := 1542) cx dL_law_1130 (by decide) ?_
  exact kk _ _ hq
theorem k_looked (cx : CL p s m meth c b L xs D cy cells slots) (lj : LJ ad k s) (hRel : Rel k Sx Sm) {i : Int32} (h1 : vp_in (i + (1 : Int32)) L) (h2 : vp_in (i + (2 : Int32)) L) (h3 : vp_in (i + (3 : Int32)) L) (h4 : vp_in (i + (4 : Int32)) L) (h5 : vp_in (i + (5 : Int32)) L) (kk : ∀ Sx' Sm', Rel k Sx' Sm' → LT p l e s m below meth c b D cy cells slots ad k Sx' Sm' 1542 [(0, .ref b), (1, .ref (ad 7 0)), (2, .ref (ad 8 0)), (3, .int i)] []) : LT p l e s m below meth c b D cy cells slots ad k Sx Sm 1135 [(0, .ref b), (1, .ref (ad 7 0)), (2, .ref (ad 8 0)), (3, .int i)] [] := by
  obtain ⟨r, Sx', Sm', hx, hm, hq⟩ := m_looked hRel 
  refine L_aload_n (q := 1136) cx dL_law_1135 rfl rfl ?_
  refine L_callX (q := 1139) (d' := 4) (As := []) (rest := []) (st' := [.int r]) cx lj dL_law_1136 rfl ml_RL_144 rfl rfl (Nat.le_of_ble_eq_true rfl) (Nat.le_of_ble_eq_true rfl) (Nat.le_of_ble_eq_true rfl) (c_X7_looked l lj.1 _ ) hx rfl ?_
  refine L_aload_n (q := 1140) cx dL_law_1139 rfl rfl ?_
  refine L_callM (q := 1143) (d' := 4) (As := []) (rest := [.int r]) (st' := [.int r, .int r]) cx lj dL_law_1140 rfl ml_RL_147 rfl rfl (Nat.le_of_ble_eq_true rfl) (Nat.le_of_ble_eq_true rfl) (Nat.le_of_ble_eq_true rfl) (c_X8_looked l lj.2.1 _ ) hm rfl ?_
  refine L_eqy (t := 1542) cx dL_law_1143 (by decide) ?_
  exact kk _ _ hq
theorem k_judge (cx : CL p s m meth c b L xs D cy cells slots) (lj : LJ ad k s) (hRel : Rel k Sx Sm) {i : Int32} (h1 : vp_in (i + (1 : Int32)) L) (h2 : vp_in (i + (2 : Int32)) L) (h3 : vp_in (i + (3 : Int32)) L) (h4 : vp_in (i + (4 : Int32)) L) (h5 : vp_in (i + (5 : Int32)) L) (kk : ∀ Sx' Sm', Rel k Sx' Sm' → LT p l e s m below meth c b D cy cells slots ad k Sx' Sm' 1542 [(0, .ref b), (1, .ref (ad 7 0)), (2, .ref (ad 8 0)), (3, .int i)] []) : LT p l e s m below meth c b D cy cells slots ad k Sx Sm 1148 [(0, .ref b), (1, .ref (ad 7 0)), (2, .ref (ad 8 0)), (3, .int i)] [] := by
  obtain ⟨r, Sx', Sm', hx, hm, hq⟩ := m_judge hRel (xs (i + (1 : Int32)).toNatClampNeg) (xs (i + (2 : Int32)).toNatClampNeg)
  refine L_aload_n (q := 1149) cx dL_law_1148 rfl rfl ?_
  refine L_aload_n (q := 1150) cx dL_law_1149 rfl rfl ?_
  refine L_iload_n (q := 1151) cx dL_law_1150 rfl rfl ?_
  refine L_iconst (q := 1152) (v := (1 : Int32)) cx dL_law_1151 rfl (by decide) ?_
  refine L_iadd (q := 1153) cx dL_law_1152 rfl ?_
  refine L_sld (q := 1154) cx dL_law_1153 rfl h1 ?_
  refine L_aload_n (q := 1155) cx dL_law_1154 rfl rfl ?_
  refine L_iload_n (q := 1156) cx dL_law_1155 rfl rfl ?_
  refine L_iconst (q := 1157) (v := (2 : Int32)) cx dL_law_1156 rfl (by decide) ?_
  refine L_iadd (q := 1158) cx dL_law_1157 rfl ?_
  refine L_sld (q := 1159) cx dL_law_1158 rfl h2 ?_
  refine L_callX (q := 1162) (d' := 2) (As := [.int (xs (i + (1 : Int32)).toNatClampNeg), .int (xs (i + (2 : Int32)).toNatClampNeg)]) (rest := []) (st' := [.int r]) cx lj dL_law_1159 rfl ml_RL_148 rfl rfl (Nat.le_of_ble_eq_true rfl) (Nat.le_of_ble_eq_true rfl) (Nat.le_of_ble_eq_true rfl) (c_X7_judge l lj.1 _ (xs (i + (1 : Int32)).toNatClampNeg) (xs (i + (2 : Int32)).toNatClampNeg)) hx rfl ?_
  refine L_aload_n (q := 1163) cx dL_law_1162 rfl rfl ?_
  refine L_aload_n (q := 1164) cx dL_law_1163 rfl rfl ?_
  refine L_iload_n (q := 1165) cx dL_law_1164 rfl rfl ?_
  refine L_iconst (q := 1166) (v := (1 : Int32)) cx dL_law_1165 rfl (by decide) ?_
  refine L_iadd (q := 1167) cx dL_law_1166 rfl ?_
  refine L_sld (q := 1168) cx dL_law_1167 rfl h1 ?_
  refine L_aload_n (q := 1169) cx dL_law_1168 rfl rfl ?_
  refine L_iload_n (q := 1170) cx dL_law_1169 rfl rfl ?_
  refine L_iconst (q := 1171) (v := (2 : Int32)) cx dL_law_1170 rfl (by decide) ?_
  refine L_iadd (q := 1172) cx dL_law_1171 rfl ?_
  refine L_sld (q := 1173) cx dL_law_1172 rfl h2 ?_
  refine L_callM (q := 1176) (d' := 2) (As := [.int (xs (i + (1 : Int32)).toNatClampNeg), .int (xs (i + (2 : Int32)).toNatClampNeg)]) (rest := [.int r]) (st' := [.int r, .int r]) cx lj dL_law_1173 rfl ml_RL_151 rfl rfl (Nat.le_of_ble_eq_true rfl) (Nat.le_of_ble_eq_true rfl) (Nat.le_of_ble_eq_true rfl) (c_X8_judge l lj.2.1 _ (xs (i + (1 : Int32)).toNatClampNeg) (xs (i + (2 : Int32)).toNatClampNeg)) hm rfl ?_
  refine L_eqy (t := 1542) cx dL_law_1176 (by decide) ?_
  exact kk _ _ hq
theorem k_image (cx : CL p s m meth c b L xs D cy cells slots) (lj : LJ ad k s) (hRel : Rel k Sx Sm) {i : Int32} (h1 : vp_in (i + (1 : Int32)) L) (h2 : vp_in (i + (2 : Int32)) L) (h3 : vp_in (i + (3 : Int32)) L) (h4 : vp_in (i + (4 : Int32)) L) (h5 : vp_in (i + (5 : Int32)) L) (kk : ∀ Sx' Sm', Rel k Sx' Sm' → LT p l e s m below meth c b D cy cells slots ad k Sx' Sm' 1542 [(0, .ref b), (1, .ref (ad 7 0)), (2, .ref (ad 8 0)), (3, .int i)] []) : LT p l e s m below meth c b D cy cells slots ad k Sx Sm 1181 [(0, .ref b), (1, .ref (ad 7 0)), (2, .ref (ad 8 0)), (3, .int i)] [] := by
  obtain ⟨r, Sx', Sm', hx, hm, hq⟩ := m_image hRel 
  refine L_aload_n (q := 1182) cx dL_law_1181 rfl rfl ?_
  refine L_callX (q := 1185) (d' := 4) (As := []) (rest := []) (st' := [.int r]) cx lj dL_law_1182 rfl ml_RL_152 rfl rfl (Nat.le_of_ble_eq_true rfl) (Nat.le_of_ble_eq_true rfl) (Nat.le_of_ble_eq_true rfl) (c_X7_image l lj.1 _ ) hx rfl ?_
  refine L_aload_n (q := 1186) cx dL_law_1185 rfl rfl ?_
  refine L_callM (q := 1189) (d' := 0) (As := []) (rest := [.int r]) (st' := [.int r, .int r]) cx lj dL_law_1186 rfl ml_RL_155 rfl rfl (Nat.le_of_ble_eq_true rfl) (Nat.le_of_ble_eq_true rfl) (Nat.le_of_ble_eq_true rfl) (c_X8_image l lj.2.1 _ ) hm rfl ?_
  refine L_eqy (t := 1542) cx dL_law_1189 (by decide) ?_
  exact kk _ _ hq
theorem k_undo (cx : CL p s m meth c b L xs D cy cells slots) (lj : LJ ad k s) (hRel : Rel k Sx Sm) {i : Int32} (h1 : vp_in (i + (1 : Int32)) L) (h2 : vp_in (i + (2 : Int32)) L) (h3 : vp_in (i + (3 : Int32)) L) (h4 : vp_in (i + (4 : Int32)) L) (h5 : vp_in (i + (5 : Int32)) L) (kk : ∀ Sx' Sm', Rel k Sx' Sm' → LT p l e s m below meth c b D cy cells slots ad k Sx' Sm' 1542 [(0, .ref b), (1, .ref (ad 7 0)), (2, .ref (ad 8 0)), (3, .int i)] []) : LT p l e s m below meth c b D cy cells slots ad k Sx Sm 1194 [(0, .ref b), (1, .ref (ad 7 0)), (2, .ref (ad 8 0)), (3, .int i)] [] := by
  obtain ⟨r, Sx', Sm', hx, hm, hq⟩ := m_undo hRel 
  refine L_aload_n (q := 1195) cx dL_law_1194 rfl rfl ?_
  refine L_callX (q := 1198) (d' := 4) (As := []) (rest := []) (st' := [.int r]) cx lj dL_law_1195 rfl ml_RL_156 rfl rfl (Nat.le_of_ble_eq_true rfl) (Nat.le_of_ble_eq_true rfl) (Nat.le_of_ble_eq_true rfl) (c_X7_undo l lj.1 _ ) hx rfl ?_
  refine L_aload_n (q := 1199) cx dL_law_1198 rfl rfl ?_
  refine L_callM (q := 1202) (d' := 0) (As := []) (rest := [.int r]) (st' := [.int r, .int r]) cx lj dL_law_1199 rfl ml_RL_159 rfl rfl (Nat.le_of_ble_eq_true rfl) (Nat.le_of_ble_eq_true rfl) (Nat.le_of_ble_eq_true rfl) (c_X8_undo l lj.2.1 _ ) hm rfl ?_
  refine L_eqy (t := 1542) cx dL_law_1202 (by decide) ?_
  exact kk _ _ hq
theorem k_act (cx : CL p s m meth c b L xs D cy cells slots) (lj : LJ ad k s) (hRel : Rel k Sx Sm) {i : Int32} (h1 : vp_in (i + (1 : Int32)) L) (h2 : vp_in (i + (2 : Int32)) L) (h3 : vp_in (i + (3 : Int32)) L) (h4 : vp_in (i + (4 : Int32)) L) (h5 : vp_in (i + (5 : Int32)) L) (kk : ∀ Sx' Sm', Rel k Sx' Sm' → LT p l e s m below meth c b D cy cells slots ad k Sx' Sm' 1542 [(0, .ref b), (1, .ref (ad 7 0)), (2, .ref (ad 8 0)), (3, .int i)] []) : LT p l e s m below meth c b D cy cells slots ad k Sx Sm 1207 [(0, .ref b), (1, .ref (ad 7 0)), (2, .ref (ad 8 0)), (3, .int i)] [] := by
  obtain ⟨r, Sx', Sm', hx, hm, hq⟩ := m_act hRel (xs (i + (1 : Int32)).toNatClampNeg) (xs (i + (2 : Int32)).toNatClampNeg) (xs (i + (3 : Int32)).toNatClampNeg)
  refine L_aload_n (q := 1208) cx dL_law_1207 rfl rfl ?_
  refine L_aload_n (q := 1209) cx dL_law_1208 rfl rfl ?_
  refine L_iload_n (q := 1210) cx dL_law_1209 rfl rfl ?_
  refine L_iconst (q := 1211) (v := (1 : Int32)) cx dL_law_1210 rfl (by decide) ?_
  refine L_iadd (q := 1212) cx dL_law_1211 rfl ?_
  refine L_sld (q := 1213) cx dL_law_1212 rfl h1 ?_
  refine L_aload_n (q := 1214) cx dL_law_1213 rfl rfl ?_
  refine L_iload_n (q := 1215) cx dL_law_1214 rfl rfl ?_
  refine L_iconst (q := 1216) (v := (2 : Int32)) cx dL_law_1215 rfl (by decide) ?_
  refine L_iadd (q := 1217) cx dL_law_1216 rfl ?_
  refine L_sld (q := 1218) cx dL_law_1217 rfl h2 ?_
  refine L_aload_n (q := 1219) cx dL_law_1218 rfl rfl ?_
  refine L_iload_n (q := 1220) cx dL_law_1219 rfl rfl ?_
  refine L_iconst (q := 1221) (v := (3 : Int32)) cx dL_law_1220 rfl (by decide) ?_
  refine L_iadd (q := 1222) cx dL_law_1221 rfl ?_
  refine L_sld (q := 1223) cx dL_law_1222 rfl h3 ?_
  refine L_callX (q := 1226) (d' := 14) (As := [.int (xs (i + (1 : Int32)).toNatClampNeg), .int (xs (i + (2 : Int32)).toNatClampNeg), .int (xs (i + (3 : Int32)).toNatClampNeg)]) (rest := []) (st' := [.int r]) cx lj dL_law_1223 rfl ml_RL_160 rfl rfl (Nat.le_of_ble_eq_true rfl) (Nat.le_of_ble_eq_true rfl) (Nat.le_of_ble_eq_true rfl) (c_X7_act l lj.1 _ (xs (i + (1 : Int32)).toNatClampNeg) (xs (i + (2 : Int32)).toNatClampNeg) (xs (i + (3 : Int32)).toNatClampNeg)) hx rfl ?_
  refine L_aload_n (q := 1227) cx dL_law_1226 rfl rfl ?_
  refine L_aload_n (q := 1228) cx dL_law_1227 rfl rfl ?_
  refine L_iload_n (q := 1229) cx dL_law_1228 rfl rfl ?_
  refine L_iconst (q := 1230) (v := (1 : Int32)) cx dL_law_1229 rfl (by decide) ?_
  refine L_iadd (q := 1231) cx dL_law_1230 rfl ?_
  refine L_sld (q := 1232) cx dL_law_1231 rfl h1 ?_
  refine L_aload_n (q := 1233) cx dL_law_1232 rfl rfl ?_
  refine L_iload_n (q := 1234) cx dL_law_1233 rfl rfl ?_
  refine L_iconst (q := 1235) (v := (2 : Int32)) cx dL_law_1234 rfl (by decide) ?_
  refine L_iadd (q := 1236) cx dL_law_1235 rfl ?_
  refine L_sld (q := 1237) cx dL_law_1236 rfl h2 ?_
  refine L_aload_n (q := 1238) cx dL_law_1237 rfl rfl ?_
  refine L_iload_n (q := 1239) cx dL_law_1238 rfl rfl ?_
  refine L_iconst (q := 1240) (v := (3 : Int32)) cx dL_law_1239 rfl (by decide) ?_
  refine L_iadd (q := 1241) cx dL_law_1240 rfl ?_
  refine L_sld (q := 1242) cx dL_law_1241 rfl h3 ?_
  refine L_callM (q := 1245) (d' := 8) (As := [.int (xs (i + (1 : Int32)).toNatClampNeg), .int (xs (i + (2 : Int32)).toNatClampNeg), .int (xs (i + (3 : Int32)).toNatClampNeg)]) (rest := [.int r]) (st' := [.int r, .int r]) cx lj dL_law_1242 rfl ml_RL_163 rfl rfl (Nat.le_of_ble_eq_true rfl) (Nat.le_of_ble_eq_true rfl) (Nat.le_of_ble_eq_true rfl) (c_X8_act l lj.2.1 _ (xs (i + (1 : Int32)).toNatClampNeg) (xs (i + (2 : Int32)).toNatClampNeg) (xs (i + (3 : Int32)).toNatClampNeg)) hm rfl ?_
  refine L_eqy (t := 1542) cx dL_law_1245 (by decide) ?_
  exact kk _ _ hq
theorem k_trace (cx : CL p s m meth c b L xs D cy cells slots) (lj : LJ ad k s) (hRel : Rel k Sx Sm) {i : Int32} (h1 : vp_in (i + (1 : Int32)) L) (h2 : vp_in (i + (2 : Int32)) L) (h3 : vp_in (i + (3 : Int32)) L) (h4 : vp_in (i + (4 : Int32)) L) (h5 : vp_in (i + (5 : Int32)) L) (kk : ∀ Sx' Sm', Rel k Sx' Sm' → LT p l e s m below meth c b D cy cells slots ad k Sx' Sm' 1542 [(0, .ref b), (1, .ref (ad 7 0)), (2, .ref (ad 8 0)), (3, .int i)] []) : LT p l e s m below meth c b D cy cells slots ad k Sx Sm 1250 [(0, .ref b), (1, .ref (ad 7 0)), (2, .ref (ad 8 0)), (3, .int i)] [] := by
  obtain ⟨r, Sx', Sm', hx, hm, hq⟩ := m_trace hRel (xs (i + (1 : Int32)).toNatClampNeg)
  refine L_aload_n (q := 1251) cx dL_law_1250 rfl rfl ?_
  refine L_aload_n (q := 1252) cx dL_law_1251 rfl rfl ?_
  refine L_iload_n (q := 1253) cx dL_law_1252 rfl rfl ?_
  refine L_iconst (q := 1254) (v := (1 : Int32)) cx dL_law_1253 rfl (by decide) ?_
  refine L_iadd (q := 1255) cx dL_law_1254 rfl ?_
  refine L_sld (q := 1256) cx dL_law_1255 rfl h1 ?_
  refine L_callX (q := 1259) (d' := 0) (As := [.int (xs (i + (1 : Int32)).toNatClampNeg)]) (rest := []) (st' := [.int r]) cx lj dL_law_1256 rfl ml_RL_164 rfl rfl (Nat.le_of_ble_eq_true rfl) (Nat.le_of_ble_eq_true rfl) (Nat.le_of_ble_eq_true rfl) (c_X7_trace l lj.1 _ (xs (i + (1 : Int32)).toNatClampNeg)) hx rfl ?_
  refine L_aload_n (q := 1260) cx dL_law_1259 rfl rfl ?_
  refine L_aload_n (q := 1261) cx dL_law_1260 rfl rfl ?_
  refine L_iload_n (q := 1262) cx dL_law_1261 rfl rfl ?_
  refine L_iconst (q := 1263) (v := (1 : Int32)) cx dL_law_1262 rfl (by decide) ?_
  refine L_iadd (q := 1264) cx dL_law_1263 rfl ?_
  refine L_sld (q := 1265) cx dL_law_1264 rfl h1 ?_
  refine L_callM (q := 1268) (d' := 1) (As := [.int (xs (i + (1 : Int32)).toNatClampNeg)]) (rest := [.int r]) (st' := [.int r, .int r]) cx lj dL_law_1265 rfl ml_RL_167 rfl rfl (Nat.le_of_ble_eq_true rfl) (Nat.le_of_ble_eq_true rfl) (Nat.le_of_ble_eq_true rfl) (c_X8_trace l lj.2.1 _ (xs (i + (1 : Int32)).toNatClampNeg)) hm rfl ?_
  refine L_eqy (t := 1542) cx dL_law_1268 (by decide) ?_
  exact kk _ _ hq
theorem k_taken (cx : CL p s m meth c b L xs D cy cells slots) (lj : LJ ad k s) (hRel : Rel k Sx Sm) {i : Int32} (h1 : vp_in (i + (1 : Int32)) L) (h2 : vp_in (i + (2 : Int32)) L) (h3 : vp_in (i + (3 : Int32)) L) (h4 : vp_in (i + (4 : Int32)) L) (h5 : vp_in (i + (5 : Int32)) L) (kk : ∀ Sx' Sm', Rel k Sx' Sm' → LT p l e s m below meth c b D cy cells slots ad k Sx' Sm' 1542 [(0, .ref b), (1, .ref (ad 7 0)), (2, .ref (ad 8 0)), (3, .int i)] []) : LT p l e s m below meth c b D cy cells slots ad k Sx Sm 1273 [(0, .ref b), (1, .ref (ad 7 0)), (2, .ref (ad 8 0)), (3, .int i)] [] := by
  obtain ⟨r, Sx', Sm', hx, hm, hq⟩ := m_taken hRel (xs (i + (1 : Int32)).toNatClampNeg) (xs (i + (2 : Int32)).toNatClampNeg)
  refine L_aload_n (q := 1274) cx dL_law_1273 rfl rfl ?_
  refine L_aload_n (q := 1275) cx dL_law_1274 rfl rfl ?_
  refine L_iload_n (q := 1276) cx dL_law_1275 rfl rfl ?_
  refine L_iconst (q := 1277) (v := (1 : Int32)) cx dL_law_1276 rfl (by decide) ?_
  refine L_iadd (q := 1278) cx dL_law_1277 rfl ?_
  refine L_sld (q := 1279) cx dL_law_1278 rfl h1 ?_
  refine L_aload_n (q := 1280) cx dL_law_1279 rfl rfl ?_
  refine L_iload_n (q := 1281) cx dL_law_1280 rfl rfl ?_
  refine L_iconst (q := 1282) (v := (2 : Int32)) cx dL_law_1281 rfl (by decide) ?_
  refine L_iadd (q := 1283) cx dL_law_1282 rfl ?_
  refine L_sld (q := 1284) cx dL_law_1283 rfl h2 ?_
  refine L_callX (q := 1287) (d' := 2) (As := [.int (xs (i + (1 : Int32)).toNatClampNeg), .int (xs (i + (2 : Int32)).toNatClampNeg)]) (rest := []) (st' := [.int r]) cx lj dL_law_1284 rfl ml_RL_168 rfl rfl (Nat.le_of_ble_eq_true rfl) (Nat.le_of_ble_eq_true rfl) (Nat.le_of_ble_eq_true rfl) (c_X7_taken l lj.1 _ (xs (i + (1 : Int32)).toNatClampNeg) (xs (i + (2 : Int32)).toNatClampNeg)) hx rfl ?_
  refine L_aload_n (q := 1288) cx dL_law_1287 rfl rfl ?_
  refine L_aload_n (q := 1289) cx dL_law_1288 rfl rfl ?_
  refine L_iload_n (q := 1290) cx dL_law_1289 rfl rfl ?_
  refine L_iconst (q := 1291) (v := (1 : Int32)) cx dL_law_1290 rfl (by decide) ?_
  refine L_iadd (q := 1292) cx dL_law_1291 rfl ?_
  refine L_sld (q := 1293) cx dL_law_1292 rfl h1 ?_
  refine L_aload_n (q := 1294) cx dL_law_1293 rfl rfl ?_
  refine L_iload_n (q := 1295) cx dL_law_1294 rfl rfl ?_
  refine L_iconst (q := 1296) (v := (2 : Int32)) cx dL_law_1295 rfl (by decide) ?_
  refine L_iadd (q := 1297) cx dL_law_1296 rfl ?_
  refine L_sld (q := 1298) cx dL_law_1297 rfl h2 ?_
  refine L_callM (q := 1301) (d' := 2) (As := [.int (xs (i + (1 : Int32)).toNatClampNeg), .int (xs (i + (2 : Int32)).toNatClampNeg)]) (rest := [.int r]) (st' := [.int r, .int r]) cx lj dL_law_1298 rfl ml_RL_171 rfl rfl (Nat.le_of_ble_eq_true rfl) (Nat.le_of_ble_eq_true rfl) (Nat.le_of_ble_eq_true rfl) (c_X8_taken l lj.2.1 _ (xs (i + (1 : Int32)).toNatClampNeg) (xs (i + (2 : Int32)).toNatClampNeg)) hm rfl ?_
  refine L_eqy (t := 1542) cx dL_law_1301 (by decide) ?_
  exact kk _ _ hq
theorem k_count (cx : CL p s m meth c b L xs D cy cells slots) (lj : LJ ad k s) (hRel : Rel k Sx Sm) {i : Int32} (h1 : vp_in (i + (1 : Int32)) L) (h2 : vp_in (i + (2 : Int32)) L) (h3 : vp_in (i + (3 : Int32)) L) (h4 : vp_in (i + (4 : Int32)) L) (h5 : vp_in (i + (5 : Int32)) L) (kk : ∀ Sx' Sm', Rel k Sx' Sm' → LT p l e s m below meth c b D cy cells slots ad k Sx' Sm' 1542 [(0, .ref b), (1, .ref (ad 7 0)), (2, .ref (ad 8 0)), (3, .int i)] []) : LT p l e s m below meth c b D cy cells slots ad k Sx Sm 1306 [(0, .ref b), (1, .ref (ad 7 0)), (2, .ref (ad 8 0)), (3, .int i)] [] := by
  obtain ⟨r, Sx', Sm', hx, hm, hq⟩ := m_count hRel (xs (i + (1 : Int32)).toNatClampNeg)
  refine L_aload_n (q := 1307) cx dL_law_1306 rfl rfl ?_
  refine L_aload_n (q := 1308) cx dL_law_1307 rfl rfl ?_
  refine L_iload_n (q := 1309) cx dL_law_1308 rfl rfl ?_
  refine L_iconst (q := 1310) (v := (1 : Int32)) cx dL_law_1309 rfl (by decide) ?_
  refine L_iadd (q := 1311) cx dL_law_1310 rfl ?_
  refine L_sld (q := 1312) cx dL_law_1311 rfl h1 ?_
  refine L_callX (q := 1315) (d' := 0) (As := [.int (xs (i + (1 : Int32)).toNatClampNeg)]) (rest := []) (st' := [.int r]) cx lj dL_law_1312 rfl ml_RL_172 rfl rfl (Nat.le_of_ble_eq_true rfl) (Nat.le_of_ble_eq_true rfl) (Nat.le_of_ble_eq_true rfl) (c_X7_count l lj.1 _ (xs (i + (1 : Int32)).toNatClampNeg)) hx rfl ?_
  refine L_aload_n (q := 1316) cx dL_law_1315 rfl rfl ?_
  refine L_aload_n (q := 1317) cx dL_law_1316 rfl rfl ?_
  refine L_iload_n (q := 1318) cx dL_law_1317 rfl rfl ?_
  refine L_iconst (q := 1319) (v := (1 : Int32)) cx dL_law_1318 rfl (by decide) ?_
  refine L_iadd (q := 1320) cx dL_law_1319 rfl ?_
  refine L_sld (q := 1321) cx dL_law_1320 rfl h1 ?_
  refine L_callM (q := 1324) (d' := 0) (As := [.int (xs (i + (1 : Int32)).toNatClampNeg)]) (rest := [.int r]) (st' := [.int r, .int r]) cx lj dL_law_1321 rfl ml_RL_175 rfl rfl (Nat.le_of_ble_eq_true rfl) (Nat.le_of_ble_eq_true rfl) (Nat.le_of_ble_eq_true rfl) (c_X8_count l lj.2.1 _ (xs (i + (1 : Int32)).toNatClampNeg)) hm rfl ?_
  refine L_eqy (t := 1542) cx dL_law_1324 (by decide) ?_
  exact kk _ _ hq
theorem k_tape (cx : CL p s m meth c b L xs D cy cells slots) (lj : LJ ad k s) (hRel : Rel k Sx Sm) {i : Int32} (h1 : vp_in (i + (1 : Int32)) L) (h2 : vp_in (i + (2 : Int32)) L) (h3 : vp_in (i + (3 : Int32)) L) (h4 : vp_in (i + (4 : Int32)) L) (h5 : vp_in (i + (5 : Int32)) L) (kk : ∀ Sx' Sm', Rel k Sx' Sm' → LT p l e s m below meth c b D cy cells slots ad k Sx' Sm' 1542 [(0, .ref b), (1, .ref (ad 7 0)), (2, .ref (ad 8 0)), (3, .int i)] []) : LT p l e s m below meth c b D cy cells slots ad k Sx Sm 1329 [(0, .ref b), (1, .ref (ad 7 0)), (2, .ref (ad 8 0)), (3, .int i)] [] := by
  obtain ⟨r, Sx', Sm', hx, hm, hq⟩ := m_tape hRel (xs (i + (1 : Int32)).toNatClampNeg) (xs (i + (2 : Int32)).toNatClampNeg) (xs (i + (3 : Int32)).toNatClampNeg)
  refine L_aload_n (q := 1330) cx dL_law_1329 rfl rfl ?_
  refine L_aload_n (q := 1331) cx dL_law_1330 rfl rfl ?_
  refine L_iload_n (q := 1332) cx dL_law_1331 rfl rfl ?_
  refine L_iconst (q := 1333) (v := (1 : Int32)) cx dL_law_1332 rfl (by decide) ?_
  refine L_iadd (q := 1334) cx dL_law_1333 rfl ?_
  refine L_sld (q := 1335) cx dL_law_1334 rfl h1 ?_
  refine L_aload_n (q := 1336) cx dL_law_1335 rfl rfl ?_
  refine L_iload_n (q := 1337) cx dL_law_1336 rfl rfl ?_
  refine L_iconst (q := 1338) (v := (2 : Int32)) cx dL_law_1337 rfl (by decide) ?_
  refine L_iadd (q := 1339) cx dL_law_1338 rfl ?_
  refine L_sld (q := 1340) cx dL_law_1339 rfl h2 ?_
  refine L_aload_n (q := 1341) cx dL_law_1340 rfl rfl ?_
  refine L_iload_n (q := 1342) cx dL_law_1341 rfl rfl ?_
  refine L_iconst (q := 1343) (v := (3 : Int32)) cx dL_law_1342 rfl (by decide) ?_
  refine L_iadd (q := 1344) cx dL_law_1343 rfl ?_
  refine L_sld (q := 1345) cx dL_law_1344 rfl h3 ?_
  refine L_callX (q := 1348) (d' := 2) (As := [.int (xs (i + (1 : Int32)).toNatClampNeg), .int (xs (i + (2 : Int32)).toNatClampNeg), .int (xs (i + (3 : Int32)).toNatClampNeg)]) (rest := []) (st' := [.int r]) cx lj dL_law_1345 rfl ml_RL_176 rfl rfl (Nat.le_of_ble_eq_true rfl) (Nat.le_of_ble_eq_true rfl) (Nat.le_of_ble_eq_true rfl) (c_X7_tape l lj.1 _ (xs (i + (1 : Int32)).toNatClampNeg) (xs (i + (2 : Int32)).toNatClampNeg) (xs (i + (3 : Int32)).toNatClampNeg)) hx rfl ?_
  refine L_aload_n (q := 1349) cx dL_law_1348 rfl rfl ?_
  refine L_aload_n (q := 1350) cx dL_law_1349 rfl rfl ?_
  refine L_iload_n (q := 1351) cx dL_law_1350 rfl rfl ?_
  refine L_iconst (q := 1352) (v := (1 : Int32)) cx dL_law_1351 rfl (by decide) ?_
  refine L_iadd (q := 1353) cx dL_law_1352 rfl ?_
  refine L_sld (q := 1354) cx dL_law_1353 rfl h1 ?_
  refine L_aload_n (q := 1355) cx dL_law_1354 rfl rfl ?_
  refine L_iload_n (q := 1356) cx dL_law_1355 rfl rfl ?_
  refine L_iconst (q := 1357) (v := (2 : Int32)) cx dL_law_1356 rfl (by decide) ?_
  refine L_iadd (q := 1358) cx dL_law_1357 rfl ?_
  refine L_sld (q := 1359) cx dL_law_1358 rfl h2 ?_
  refine L_aload_n (q := 1360) cx dL_law_1359 rfl rfl ?_
  refine L_iload_n (q := 1361) cx dL_law_1360 rfl rfl ?_
  refine L_iconst (q := 1362) (v := (3 : Int32)) cx dL_law_1361 rfl (by decide) ?_
  refine L_iadd (q := 1363) cx dL_law_1362 rfl ?_
  refine L_sld (q := 1364) cx dL_law_1363 rfl h3 ?_
  refine L_callM (q := 1367) (d' := 2) (As := [.int (xs (i + (1 : Int32)).toNatClampNeg), .int (xs (i + (2 : Int32)).toNatClampNeg), .int (xs (i + (3 : Int32)).toNatClampNeg)]) (rest := [.int r]) (st' := [.int r, .int r]) cx lj dL_law_1364 rfl ml_RL_179 rfl rfl (Nat.le_of_ble_eq_true rfl) (Nat.le_of_ble_eq_true rfl) (Nat.le_of_ble_eq_true rfl) (c_X8_tape l lj.2.1 _ (xs (i + (1 : Int32)).toNatClampNeg) (xs (i + (2 : Int32)).toNatClampNeg) (xs (i + (3 : Int32)).toNatClampNeg)) hm rfl ?_
  refine L_eqy (t := 1542) cx dL_law_1367 (by decide) ?_
  exact kk _ _ hq
theorem k_item (cx : CL p s m meth c b L xs D cy cells slots) (lj : LJ ad k s) (hRel : Rel k Sx Sm) {i : Int32} (h1 : vp_in (i + (1 : Int32)) L) (h2 : vp_in (i + (2 : Int32)) L) (h3 : vp_in (i + (3 : Int32)) L) (h4 : vp_in (i + (4 : Int32)) L) (h5 : vp_in (i + (5 : Int32)) L) (kk : ∀ Sx' Sm', Rel k Sx' Sm' → LT p l e s m below meth c b D cy cells slots ad k Sx' Sm' 1542 [(0, .ref b), (1, .ref (ad 7 0)), (2, .ref (ad 8 0)), (3, .int i)] []) : LT p l e s m below meth c b D cy cells slots ad k Sx Sm 1372 [(0, .ref b), (1, .ref (ad 7 0)), (2, .ref (ad 8 0)), (3, .int i)] [] := by
  obtain ⟨r, Sx', Sm', hx, hm, hq⟩ := m_item hRel (xs (i + (1 : Int32)).toNatClampNeg) (xs (i + (2 : Int32)).toNatClampNeg) ((((xs (i + (3 : Int32)).toNatClampNeg).toInt64) <<< ((32 : Int32).toInt64 &&& 63)) ||| (((xs (i + (4 : Int32)).toNatClampNeg).toInt64) &&& (4294967295 : Int64)))
  refine L_aload_n (q := 1373) cx dL_law_1372 rfl rfl ?_
  refine L_aload_n (q := 1374) cx dL_law_1373 rfl rfl ?_
  refine L_iload_n (q := 1375) cx dL_law_1374 rfl rfl ?_
  refine L_iconst (q := 1376) (v := (1 : Int32)) cx dL_law_1375 rfl (by decide) ?_
  refine L_iadd (q := 1377) cx dL_law_1376 rfl ?_
  refine L_sld (q := 1378) cx dL_law_1377 rfl h1 ?_
  refine L_aload_n (q := 1379) cx dL_law_1378 rfl rfl ?_
  refine L_iload_n (q := 1380) cx dL_law_1379 rfl rfl ?_
  refine L_iconst (q := 1381) (v := (2 : Int32)) cx dL_law_1380 rfl (by decide) ?_
  refine L_iadd (q := 1382) cx dL_law_1381 rfl ?_
  refine L_sld (q := 1383) cx dL_law_1382 rfl h2 ?_
  refine L_aload_n (q := 1384) cx dL_law_1383 rfl rfl ?_
  refine L_iload_n (q := 1385) cx dL_law_1384 rfl rfl ?_
  refine L_iconst (q := 1386) (v := (3 : Int32)) cx dL_law_1385 rfl (by decide) ?_
  refine L_iadd (q := 1387) cx dL_law_1386 rfl ?_
  refine L_sld (q := 1388) cx dL_law_1387 rfl h3 ?_
  refine L_i2l (q := 1389) cx dL_law_1388 rfl ?_
  refine L_bipush (q := 1391) (v := (32 : Int32)) cx dL_law_1389 rfl (by decide) ?_
  refine L_lshl (q := 1392) cx dL_law_1391 rfl ?_
  refine L_aload_n (q := 1393) cx dL_law_1392 rfl rfl ?_
  refine L_iload_n (q := 1394) cx dL_law_1393 rfl rfl ?_
  refine L_iconst (q := 1395) (v := (4 : Int32)) cx dL_law_1394 rfl (by decide) ?_
  refine L_iadd (q := 1396) cx dL_law_1395 rfl ?_
  refine L_sld (q := 1397) cx dL_law_1396 rfl h4 ?_
  refine L_i2l (q := 1398) cx dL_law_1397 rfl ?_
  refine L_ldc2 (q := 1401) cx dL_law_1398 rfl ?_
  refine L_land (q := 1402) cx dL_law_1401 rfl ?_
  refine L_lor (q := 1403) cx dL_law_1402 rfl ?_
  refine L_callX (q := 1406) (d' := 2) (As := [.int (xs (i + (1 : Int32)).toNatClampNeg), .int (xs (i + (2 : Int32)).toNatClampNeg), .long ((((xs (i + (3 : Int32)).toNatClampNeg).toInt64) <<< ((32 : Int32).toInt64 &&& 63)) ||| (((xs (i + (4 : Int32)).toNatClampNeg).toInt64) &&& (4294967295 : Int64)))]) (rest := []) (st' := [.int r]) cx lj dL_law_1403 rfl ml_RL_182 rfl rfl (Nat.le_of_ble_eq_true rfl) (Nat.le_of_ble_eq_true rfl) (Nat.le_of_ble_eq_true rfl) (c_X7_item l lj.1 _ (xs (i + (1 : Int32)).toNatClampNeg) (xs (i + (2 : Int32)).toNatClampNeg) ((((xs (i + (3 : Int32)).toNatClampNeg).toInt64) <<< ((32 : Int32).toInt64 &&& 63)) ||| (((xs (i + (4 : Int32)).toNatClampNeg).toInt64) &&& (4294967295 : Int64)))) hx rfl ?_
  refine L_aload_n (q := 1407) cx dL_law_1406 rfl rfl ?_
  refine L_aload_n (q := 1408) cx dL_law_1407 rfl rfl ?_
  refine L_iload_n (q := 1409) cx dL_law_1408 rfl rfl ?_
  refine L_iconst (q := 1410) (v := (1 : Int32)) cx dL_law_1409 rfl (by decide) ?_
  refine L_iadd (q := 1411) cx dL_law_1410 rfl ?_
  refine L_sld (q := 1412) cx dL_law_1411 rfl h1 ?_
  refine L_aload_n (q := 1413) cx dL_law_1412 rfl rfl ?_
  refine L_iload_n (q := 1414) cx dL_law_1413 rfl rfl ?_
  refine L_iconst (q := 1415) (v := (2 : Int32)) cx dL_law_1414 rfl (by decide) ?_
  refine L_iadd (q := 1416) cx dL_law_1415 rfl ?_
  refine L_sld (q := 1417) cx dL_law_1416 rfl h2 ?_
  refine L_aload_n (q := 1418) cx dL_law_1417 rfl rfl ?_
  refine L_iload_n (q := 1419) cx dL_law_1418 rfl rfl ?_
  refine L_iconst (q := 1420) (v := (3 : Int32)) cx dL_law_1419 rfl (by decide) ?_
  refine L_iadd (q := 1421) cx dL_law_1420 rfl ?_
  refine L_sld (q := 1422) cx dL_law_1421 rfl h3 ?_
  refine L_i2l (q := 1423) cx dL_law_1422 rfl ?_
  refine L_bipush (q := 1425) (v := (32 : Int32)) cx dL_law_1423 rfl (by decide) ?_
  refine L_lshl (q := 1426) cx dL_law_1425 rfl ?_
  refine L_aload_n (q := 1427) cx dL_law_1426 rfl rfl ?_
  refine L_iload_n (q := 1428) cx dL_law_1427 rfl rfl ?_
  refine L_iconst (q := 1429) (v := (4 : Int32)) cx dL_law_1428 rfl (by decide) ?_
  refine L_iadd (q := 1430) cx dL_law_1429 rfl ?_
  refine L_sld (q := 1431) cx dL_law_1430 rfl h4 ?_
  refine L_i2l (q := 1432) cx dL_law_1431 rfl ?_
  refine L_ldc2 (q := 1435) cx dL_law_1432 rfl ?_
  refine L_land (q := 1436) cx dL_law_1435 rfl ?_
  refine L_lor (q := 1437) cx dL_law_1436 rfl ?_
  refine L_callM (q := 1440) (d' := 2) (As := [.int (xs (i + (1 : Int32)).toNatClampNeg), .int (xs (i + (2 : Int32)).toNatClampNeg), .long ((((xs (i + (3 : Int32)).toNatClampNeg).toInt64) <<< ((32 : Int32).toInt64 &&& 63)) ||| (((xs (i + (4 : Int32)).toNatClampNeg).toInt64) &&& (4294967295 : Int64)))]) (rest := [.int r]) (st' := [.int r, .int r]) cx lj dL_law_1437 rfl ml_RL_186 rfl rfl (Nat.le_of_ble_eq_true rfl) (Nat.le_of_ble_eq_true rfl) (Nat.le_of_ble_eq_true rfl) (c_X8_item l lj.2.1 _ (xs (i + (1 : Int32)).toNatClampNeg) (xs (i + (2 : Int32)).toNatClampNeg) ((((xs (i + (3 : Int32)).toNatClampNeg).toInt64) <<< ((32 : Int32).toInt64 &&& 63)) ||| (((xs (i + (4 : Int32)).toNatClampNeg).toInt64) &&& (4294967295 : Int64)))) hm rfl ?_
  refine L_eqy (t := 1542) cx dL_law_1440 (by decide) ?_
  exact kk _ _ hq
theorem k_read (cx : CL p s m meth c b L xs D cy cells slots) (lj : LJ ad k s) (hRel : Rel k Sx Sm) {i : Int32} (h1 : vp_in (i + (1 : Int32)) L) (h2 : vp_in (i + (2 : Int32)) L) (h3 : vp_in (i + (3 : Int32)) L) (h4 : vp_in (i + (4 : Int32)) L) (h5 : vp_in (i + (5 : Int32)) L) (kk : ∀ Sx' Sm', Rel k Sx' Sm' → LT p l e s m below meth c b D cy cells slots ad k Sx' Sm' 1542 [(0, .ref b), (1, .ref (ad 7 0)), (2, .ref (ad 8 0)), (3, .int i)] []) : LT p l e s m below meth c b D cy cells slots ad k Sx Sm 1445 [(0, .ref b), (1, .ref (ad 7 0)), (2, .ref (ad 8 0)), (3, .int i)] [] := by
  obtain ⟨r, Sx', Sm', hx, hm, hq⟩ := m_read hRel (xs (i + (1 : Int32)).toNatClampNeg) (xs (i + (2 : Int32)).toNatClampNeg)
  refine L_aload_n (q := 1446) cx dL_law_1445 rfl rfl ?_
  refine L_aload_n (q := 1447) cx dL_law_1446 rfl rfl ?_
  refine L_iload_n (q := 1448) cx dL_law_1447 rfl rfl ?_
  refine L_iconst (q := 1449) (v := (1 : Int32)) cx dL_law_1448 rfl (by decide) ?_
  refine L_iadd (q := 1450) cx dL_law_1449 rfl ?_
  refine L_sld (q := 1451) cx dL_law_1450 rfl h1 ?_
  refine L_aload_n (q := 1452) cx dL_law_1451 rfl rfl ?_
  refine L_iload_n (q := 1453) cx dL_law_1452 rfl rfl ?_
  refine L_iconst (q := 1454) (v := (2 : Int32)) cx dL_law_1453 rfl (by decide) ?_
  refine L_iadd (q := 1455) cx dL_law_1454 rfl ?_
  refine L_sld (q := 1456) cx dL_law_1455 rfl h2 ?_
  refine L_callX (q := 1459) (d' := 2) (As := [.int (xs (i + (1 : Int32)).toNatClampNeg), .int (xs (i + (2 : Int32)).toNatClampNeg)]) (rest := []) (st' := [.long r]) cx lj dL_law_1456 rfl ml_RL_187 rfl rfl (Nat.le_of_ble_eq_true rfl) (Nat.le_of_ble_eq_true rfl) (Nat.le_of_ble_eq_true rfl) (c_X7_read l lj.1 _ (xs (i + (1 : Int32)).toNatClampNeg) (xs (i + (2 : Int32)).toNatClampNeg)) hx rfl ?_
  refine L_aload_n (q := 1460) cx dL_law_1459 rfl rfl ?_
  refine L_aload_n (q := 1461) cx dL_law_1460 rfl rfl ?_
  refine L_iload_n (q := 1462) cx dL_law_1461 rfl rfl ?_
  refine L_iconst (q := 1463) (v := (1 : Int32)) cx dL_law_1462 rfl (by decide) ?_
  refine L_iadd (q := 1464) cx dL_law_1463 rfl ?_
  refine L_sld (q := 1465) cx dL_law_1464 rfl h1 ?_
  refine L_aload_n (q := 1466) cx dL_law_1465 rfl rfl ?_
  refine L_iload_n (q := 1467) cx dL_law_1466 rfl rfl ?_
  refine L_iconst (q := 1468) (v := (2 : Int32)) cx dL_law_1467 rfl (by decide) ?_
  refine L_iadd (q := 1469) cx dL_law_1468 rfl ?_
  refine L_sld (q := 1470) cx dL_law_1469 rfl h2 ?_
  refine L_callM (q := 1473) (d' := 2) (As := [.int (xs (i + (1 : Int32)).toNatClampNeg), .int (xs (i + (2 : Int32)).toNatClampNeg)]) (rest := [.long r]) (st' := [.long r, .long r]) cx lj dL_law_1470 rfl ml_RL_190 rfl rfl (Nat.le_of_ble_eq_true rfl) (Nat.le_of_ble_eq_true rfl) (Nat.le_of_ble_eq_true rfl) (c_X8_read l lj.2.1 _ (xs (i + (1 : Int32)).toNatClampNeg) (xs (i + (2 : Int32)).toNatClampNeg)) hm rfl ?_
  refine L_lcmp (q := 1474) cx dL_law_1473 rfl ?_
  refine L_eq0y (t := 1542) cx (lcmp_self r) dL_law_1474 (by decide) ?_
  exact kk _ _ hq
theorem k_shift (cx : CL p s m meth c b L xs D cy cells slots) (lj : LJ ad k s) (hRel : Rel k Sx Sm) {i : Int32} (h1 : vp_in (i + (1 : Int32)) L) (h2 : vp_in (i + (2 : Int32)) L) (h3 : vp_in (i + (3 : Int32)) L) (h4 : vp_in (i + (4 : Int32)) L) (h5 : vp_in (i + (5 : Int32)) L) (kk : ∀ Sx' Sm', Rel k Sx' Sm' → LT p l e s m below meth c b D cy cells slots ad k Sx' Sm' 1542 [(0, .ref b), (1, .ref (ad 7 0)), (2, .ref (ad 8 0)), (3, .int i)] []) : LT p l e s m below meth c b D cy cells slots ad k Sx Sm 1479 [(0, .ref b), (1, .ref (ad 7 0)), (2, .ref (ad 8 0)), (3, .int i)] [] := by
  obtain ⟨r, Sx', Sm', hx, hm, hq⟩ := m_shift hRel (xs (i + (1 : Int32)).toNatClampNeg) (xs (i + (2 : Int32)).toNatClampNeg) (xs (i + (3 : Int32)).toNatClampNeg) (xs (i + (4 : Int32)).toNatClampNeg) (xs (i + (5 : Int32)).toNatClampNeg)
  refine L_aload_n (q := 1480) cx dL_law_1479 rfl rfl ?_
  refine L_aload_n (q := 1481) cx dL_law_1480 rfl rfl ?_
  refine L_iload_n (q := 1482) cx dL_law_1481 rfl rfl ?_
  refine L_iconst (q := 1483) (v := (1 : Int32)) cx dL_law_1482 rfl (by decide) ?_
  refine L_iadd (q := 1484) cx dL_law_1483 rfl ?_
  refine L_sld (q := 1485) cx dL_law_1484 rfl h1 ?_
  refine L_aload_n (q := 1486) cx dL_law_1485 rfl rfl ?_
  refine L_iload_n (q := 1487) cx dL_law_1486 rfl rfl ?_
  refine L_iconst (q := 1488) (v := (2 : Int32)) cx dL_law_1487 rfl (by decide) ?_
  refine L_iadd (q := 1489) cx dL_law_1488 rfl ?_
  refine L_sld (q := 1490) cx dL_law_1489 rfl h2 ?_
  refine L_aload_n (q := 1491) cx dL_law_1490 rfl rfl ?_
  refine L_iload_n (q := 1492) cx dL_law_1491 rfl rfl ?_
  refine L_iconst (q := 1493) (v := (3 : Int32)) cx dL_law_1492 rfl (by decide) ?_
  refine L_iadd (q := 1494) cx dL_law_1493 rfl ?_
  refine L_sld (q := 1495) cx dL_law_1494 rfl h3 ?_
  refine L_aload_n (q := 1496) cx dL_law_1495 rfl rfl ?_
  refine L_iload_n (q := 1497) cx dL_law_1496 rfl rfl ?_
  refine L_iconst (q := 1498) (v := (4 : Int32)) cx dL_law_1497 rfl (by decide) ?_
  refine L_iadd (q := 1499) cx dL_law_1498 rfl ?_
  refine L_sld (q := 1500) cx dL_law_1499 rfl h4 ?_
  refine L_aload_n (q := 1501) cx dL_law_1500 rfl rfl ?_
  refine L_iload_n (q := 1502) cx dL_law_1501 rfl rfl ?_
  refine L_iconst (q := 1503) (v := (5 : Int32)) cx dL_law_1502 rfl (by decide) ?_
  refine L_iadd (q := 1504) cx dL_law_1503 rfl ?_
  refine L_sld (q := 1505) cx dL_law_1504 rfl h5 ?_
  refine L_callX (q := 1508) (d' := 2) (As := [.int (xs (i + (1 : Int32)).toNatClampNeg), .int (xs (i + (2 : Int32)).toNatClampNeg), .int (xs (i + (3 : Int32)).toNatClampNeg), .int (xs (i + (4 : Int32)).toNatClampNeg), .int (xs (i + (5 : Int32)).toNatClampNeg)]) (rest := []) (st' := [.int r]) cx lj dL_law_1505 rfl ml_RL_191 rfl rfl (Nat.le_of_ble_eq_true rfl) (Nat.le_of_ble_eq_true rfl) (Nat.le_of_ble_eq_true rfl) (c_X7_shift l lj.1 _ (xs (i + (1 : Int32)).toNatClampNeg) (xs (i + (2 : Int32)).toNatClampNeg) (xs (i + (3 : Int32)).toNatClampNeg) (xs (i + (4 : Int32)).toNatClampNeg) (xs (i + (5 : Int32)).toNatClampNeg)) hx rfl ?_
  refine L_aload_n (q := 1509) cx dL_law_1508 rfl rfl ?_
  refine L_aload_n (q := 1510) cx dL_law_1509 rfl rfl ?_
  refine L_iload_n (q := 1511) cx dL_law_1510 rfl rfl ?_
  refine L_iconst (q := 1512) (v := (1 : Int32)) cx dL_law_1511 rfl (by decide) ?_
  refine L_iadd (q := 1513) cx dL_law_1512 rfl ?_
  refine L_sld (q := 1514) cx dL_law_1513 rfl h1 ?_
  refine L_aload_n (q := 1515) cx dL_law_1514 rfl rfl ?_
  refine L_iload_n (q := 1516) cx dL_law_1515 rfl rfl ?_
  refine L_iconst (q := 1517) (v := (2 : Int32)) cx dL_law_1516 rfl (by decide) ?_
  refine L_iadd (q := 1518) cx dL_law_1517 rfl ?_
  refine L_sld (q := 1519) cx dL_law_1518 rfl h2 ?_
  refine L_aload_n (q := 1520) cx dL_law_1519 rfl rfl ?_
  refine L_iload_n (q := 1521) cx dL_law_1520 rfl rfl ?_
  refine L_iconst (q := 1522) (v := (3 : Int32)) cx dL_law_1521 rfl (by decide) ?_
  refine L_iadd (q := 1523) cx dL_law_1522 rfl ?_
  refine L_sld (q := 1524) cx dL_law_1523 rfl h3 ?_
  refine L_aload_n (q := 1525) cx dL_law_1524 rfl rfl ?_
  refine L_iload_n (q := 1526) cx dL_law_1525 rfl rfl ?_
  refine L_iconst (q := 1527) (v := (4 : Int32)) cx dL_law_1526 rfl (by decide) ?_
  refine L_iadd (q := 1528) cx dL_law_1527 rfl ?_
  refine L_sld (q := 1529) cx dL_law_1528 rfl h4 ?_
  refine L_aload_n (q := 1530) cx dL_law_1529 rfl rfl ?_
  refine L_iload_n (q := 1531) cx dL_law_1530 rfl rfl ?_
  refine L_iconst (q := 1532) (v := (5 : Int32)) cx dL_law_1531 rfl (by decide) ?_
  refine L_iadd (q := 1533) cx dL_law_1532 rfl ?_
  refine L_sld (q := 1534) cx dL_law_1533 rfl h5 ?_
  refine L_callM (q := 1537) (d' := 2) (As := [.int (xs (i + (1 : Int32)).toNatClampNeg), .int (xs (i + (2 : Int32)).toNatClampNeg), .int (xs (i + (3 : Int32)).toNatClampNeg), .int (xs (i + (4 : Int32)).toNatClampNeg), .int (xs (i + (5 : Int32)).toNatClampNeg)]) (rest := [.int r]) (st' := [.int r, .int r]) cx lj dL_law_1534 rfl ml_RL_195 rfl rfl (Nat.le_of_ble_eq_true rfl) (Nat.le_of_ble_eq_true rfl) (Nat.le_of_ble_eq_true rfl) (c_X8_shift l lj.2.1 _ (xs (i + (1 : Int32)).toNatClampNeg) (xs (i + (2 : Int32)).toNatClampNeg) (xs (i + (3 : Int32)).toNatClampNeg) (xs (i + (4 : Int32)).toNatClampNeg) (xs (i + (5 : Int32)).toNatClampNeg)) hm rfl ?_
  refine L_eqy (t := 1542) cx dL_law_1537 (by decide) ?_
  exact kk _ _ hq
end LCS
