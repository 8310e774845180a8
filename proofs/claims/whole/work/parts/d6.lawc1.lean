/-! ===== the law: its cases, 1 ===== -/
theorem law_0 {p : Program} {l : Launch} {e : Env} {s : State} {m : MethodId} {below : List Frame} {meth : Method} {c : Code} {b L : Nat} {xs : Nat → Int32} {Q : State → Prop} {H : Heap} {locs : List Loc} {cs ss : Nat} {ls : Array Slot} {D : va_G} {cA : ClassId} {qo qx qm n0 i cc : Nat} {M : Mem} {μ : Sl} {Gx Gm : Geo} (hF : LF p s m c b L xs) (hP : KP0 s D cA qo qx qm b L i cc n0 M μ Gx Gm H locs ls cs ss) (kk : KK p l e s m below meth c b Q D cA qo qx qm Gm i cc cs ss) : W p l e room_1 s m #[Value.ref b] below meth c H locs cs ss Q (F0 m 212 ls []) := by
  obtain ⟨hLS, hqx, hqm, hI, hcc, hl, hi, hLb, hcs⟩ := hP
  obtain ⟨hx, hb, hml, hown, hts, hX, hbl⟩ := id hF
  obtain ⟨⟨a1, a2, a3, a4, a5⟩, ⟨b1, b2, b3⟩, -, -, hS⟩ := id hLS
  have h0 := lv_at hl 0 rfl
  have h4 := lv_at hl 4 rfl
  obtain ⟨r, M1, μ1, e1, e2, hI1⟩ := top_feed hI (xs (i + 1)) (xs (i + 2)) (xs (i + 3)) (xs (i + 4)) (xs (i + 5))
  refine lv_aload_n hx hb d_law_212 rfl (lv_at hl 1 rfl) ?_
  refine lw_arg (j := 1) hF hLb hS hl h0 h4 (by omega) rfl d_law_213 d_law_214 d_law_216 d_law_217 d_law_218 ?_
  refine lw_arg (j := 2) hF hLb hS hl h0 h4 (by omega) rfl d_law_219 d_law_220 d_law_222 d_law_223 d_law_224 ?_
  refine lw_arg (j := 3) hF hLb hS hl h0 h4 (by omega) rfl d_law_225 d_law_226 d_law_228 d_law_229 d_law_230 ?_
  refine lw_arg (j := 4) hF hLb hS hl h0 h4 (by omega) rfl d_law_231 d_law_232 d_law_234 d_law_235 d_law_236 ?_
  refine lw_arg (j := 5) hF hLb hS hl h0 h4 (by omega) rfl d_law_237 d_law_238 d_law_240 d_law_241 d_law_242 ?_
  refine lw_q (n := 5) (st := []) (M1 := M1) hF hLS y_X5_feed q462 [.inl (.int (xs (i + 1))), .inl (.int (xs (i + 2))), .inl (.int (xs (i + 3))), .inl (.int (xs (i + 4))), .inl (.int (xs (i + 5)))] rfl rfl (r := r) (c_X5_feed a1.2.2.1 a2.cl a2.X a2.T l _ _ e1) ⟨rfl, rfl, Nat.le_of_ble_eq_true rfl, Nat.le_of_ble_eq_true rfl⟩ (Nat.le_of_ble_eq_true rfl) ⟨by have := hcs.1; omega, by have := hcs.2; omega⟩ hl d_law_243 (by rw [hqx]; rfl) (fun H1 locs1 hLS1 => ?_)
  have hS2 := hLS1.2.2.2.2
  refine lv_aload_n hx hb d_law_246 rfl (lv_at hl 2 rfl) ?_
  refine lw_arg (j := 1) hF hLb hS2 hl h0 h4 (by omega) rfl d_law_247 d_law_248 d_law_250 d_law_251 d_law_252 ?_
  refine lw_arg (j := 2) hF hLb hS2 hl h0 h4 (by omega) rfl d_law_253 d_law_254 d_law_256 d_law_257 d_law_258 ?_
  refine lw_arg (j := 3) hF hLb hS2 hl h0 h4 (by omega) rfl d_law_259 d_law_260 d_law_262 d_law_263 d_law_264 ?_
  refine lw_arg (j := 4) hF hLb hS2 hl h0 h4 (by omega) rfl d_law_265 d_law_266 d_law_268 d_law_269 d_law_270 ?_
  refine lw_arg (j := 5) hF hLb hS2 hl h0 h4 (by omega) rfl d_law_271 d_law_272 d_law_274 d_law_275 d_law_276 ?_
  refine lw_m (n := 5) (st := [.int r]) (μ1 := μ1) hF hLS1 y_X6_feed q1372 [.inl (.int (xs (i + 1))), .inl (.int (xs (i + 2))), .inl (.int (xs (i + 3))), .inl (.int (xs (i + 4))), .inl (.int (xs (i + 5)))] rfl rfl (r := r) (c_X6_feed b1.2.2.1 b2 l _ _ e2) ⟨rfl, rfl, Nat.le_of_ble_eq_true rfl, Nat.le_of_ble_eq_true rfl⟩ (Nat.le_of_ble_eq_true rfl) ⟨by have := hcs.1; omega, by have := hcs.2; omega⟩ hl d_law_277 (by rw [hqm]; rfl) (fun H2 locs2 hLS2 => ?_)
  refine lv_icmp_eq (tgt := 1630) hx hb d_law_280 (by decide) (fun _ => ?_) (fun z => absurd rfl z)
  refine W.widen (k := cs + 40) (n := ss + 4000) (by omega) (by omega) ?_
  exact kk _ _ _ _ _ _ _ hLS2 hqx hI1 hl
theorem law_1 {p : Program} {l : Launch} {e : Env} {s : State} {m : MethodId} {below : List Frame} {meth : Method} {c : Code} {b L : Nat} {xs : Nat → Int32} {Q : State → Prop} {H : Heap} {locs : List Loc} {cs ss : Nat} {ls : Array Slot} {D : va_G} {cA : ClassId} {qo qx qm n0 i cc : Nat} {M : Mem} {μ : Sl} {Gx Gm : Geo} (hF : LF p s m c b L xs) (hP : KP0 s D cA qo qx qm b L i cc n0 M μ Gx Gm H locs ls cs ss) (kk : KK p l e s m below meth c b Q D cA qo qx qm Gm i cc cs ss) : W p l e room_1 s m #[Value.ref b] below meth c H locs cs ss Q (F0 m 285 ls []) := by
  obtain ⟨hLS, hqx, hqm, hI, hcc, hl, hi, hLb, hcs⟩ := hP
  obtain ⟨hx, hb, hml, hown, hts, hX, hbl⟩ := id hF
  obtain ⟨⟨a1, a2, a3, a4, a5⟩, ⟨b1, b2, b3⟩, -, -, hS⟩ := id hLS
  have h0 := lv_at hl 0 rfl
  have h4 := lv_at hl 4 rfl
  obtain ⟨r, M1, μ1, e1, e2, hI1⟩ := top_text hI (xs (i + 1))
  refine lv_aload_n hx hb d_law_285 rfl (lv_at hl 1 rfl) ?_
  refine lw_arg (j := 1) hF hLb hS hl h0 h4 (by omega) rfl d_law_286 d_law_287 d_law_289 d_law_290 d_law_291 ?_
  refine lw_q (n := 1) (st := []) (M1 := M1) hF hLS y_X5_text q470 [.inl (.int (xs (i + 1)))] rfl rfl (r := r) (c_X5_text a1.2.2.1 a2.cl a2.X a2.T l _ _ e1) ⟨rfl, rfl, Nat.le_of_ble_eq_true rfl, Nat.le_of_ble_eq_true rfl⟩ (Nat.le_of_ble_eq_true rfl) ⟨by have := hcs.1; omega, by have := hcs.2; omega⟩ hl d_law_292 (by rw [hqx]; rfl) (fun H1 locs1 hLS1 => ?_)
  have hS2 := hLS1.2.2.2.2
  refine lv_aload_n hx hb d_law_295 rfl (lv_at hl 2 rfl) ?_
  refine lw_arg (j := 1) hF hLb hS2 hl h0 h4 (by omega) rfl d_law_296 d_law_297 d_law_299 d_law_300 d_law_301 ?_
  refine lw_m (n := 1) (st := [.int r]) (μ1 := μ1) hF hLS1 y_X6_text q1376 [.inl (.int (xs (i + 1)))] rfl rfl (r := r) (c_X6_text b1.2.2.1 b2 l _ _ e2) ⟨rfl, rfl, Nat.le_of_ble_eq_true rfl, Nat.le_of_ble_eq_true rfl⟩ (Nat.le_of_ble_eq_true rfl) ⟨by have := hcs.1; omega, by have := hcs.2; omega⟩ hl d_law_302 (by rw [hqm]; rfl) (fun H2 locs2 hLS2 => ?_)
  refine lv_icmp_eq (tgt := 1630) hx hb d_law_305 (by decide) (fun _ => ?_) (fun z => absurd rfl z)
  refine W.widen (k := cs + 40) (n := ss + 4000) (by omega) (by omega) ?_
  exact kk _ _ _ _ _ _ _ hLS2 hqx hI1 hl
theorem law_2 {p : Program} {l : Launch} {e : Env} {s : State} {m : MethodId} {below : List Frame} {meth : Method} {c : Code} {b L : Nat} {xs : Nat → Int32} {Q : State → Prop} {H : Heap} {locs : List Loc} {cs ss : Nat} {ls : Array Slot} {D : va_G} {cA : ClassId} {qo qx qm n0 i cc : Nat} {M : Mem} {μ : Sl} {Gx Gm : Geo} (hF : LF p s m c b L xs) (hP : KP0 s D cA qo qx qm b L i cc n0 M μ Gx Gm H locs ls cs ss) (kk : KK p l e s m below meth c b Q D cA qo qx qm Gm i cc cs ss) : W p l e room_1 s m #[Value.ref b] below meth c H locs cs ss Q (F0 m 310 ls []) := by
  obtain ⟨hLS, hqx, hqm, hI, hcc, hl, hi, hLb, hcs⟩ := hP
  obtain ⟨hx, hb, hml, hown, hts, hX, hbl⟩ := id hF
  obtain ⟨⟨a1, a2, a3, a4, a5⟩, ⟨b1, b2, b3⟩, -, -, hS⟩ := id hLS
  have h0 := lv_at hl 0 rfl
  have h4 := lv_at hl 4 rfl
  obtain ⟨r, μ1, e1, e2, hI1⟩ := top_fault hI (xs (i + 1))
  refine lv_aload_n hx hb d_law_310 rfl (lv_at hl 1 rfl) ?_
  refine lw_arg (j := 1) hF hLb hS hl h0 h4 (by omega) rfl d_law_311 d_law_312 d_law_314 d_law_315 d_law_316 ?_
  refine lw_q (n := 1) (st := []) (M1 := M) hF hLS y_X5_fault q599 [.inl (.int (xs (i + 1)))] rfl rfl (r := r) (c_X5_fault a1.2.2.1 a2.cl a2.X a2.T l _ e1) ⟨rfl, rfl, Nat.le_of_ble_eq_true rfl, Nat.le_of_ble_eq_true rfl⟩ (Nat.le_of_ble_eq_true rfl) ⟨by have := hcs.1; omega, by have := hcs.2; omega⟩ hl d_law_317 (by rw [hqx]; rfl) (fun H1 locs1 hLS1 => ?_)
  have hS2 := hLS1.2.2.2.2
  refine lv_aload_n hx hb d_law_320 rfl (lv_at hl 2 rfl) ?_
  refine lw_arg (j := 1) hF hLb hS2 hl h0 h4 (by omega) rfl d_law_321 d_law_322 d_law_324 d_law_325 d_law_326 ?_
  refine lw_m (n := 1) (st := [.int r]) (μ1 := μ1) hF hLS1 y_X6_fault q1460 [.inl (.int (xs (i + 1)))] rfl rfl (r := r) (c_X6_fault b1.2.2.1 b2 l _ _ e2) ⟨rfl, rfl, Nat.le_of_ble_eq_true rfl, Nat.le_of_ble_eq_true rfl⟩ (Nat.le_of_ble_eq_true rfl) ⟨by have := hcs.1; omega, by have := hcs.2; omega⟩ hl d_law_327 (by rw [hqm]; rfl) (fun H2 locs2 hLS2 => ?_)
  refine lv_icmp_eq (tgt := 1630) hx hb d_law_330 (by decide) (fun _ => ?_) (fun z => absurd rfl z)
  refine W.widen (k := cs + 40) (n := ss + 4000) (by omega) (by omega) ?_
  exact kk _ _ _ _ _ _ _ hLS2 hqx hI1 hl
theorem law_3 {p : Program} {l : Launch} {e : Env} {s : State} {m : MethodId} {below : List Frame} {meth : Method} {c : Code} {b L : Nat} {xs : Nat → Int32} {Q : State → Prop} {H : Heap} {locs : List Loc} {cs ss : Nat} {ls : Array Slot} {D : va_G} {cA : ClassId} {qo qx qm n0 i cc : Nat} {M : Mem} {μ : Sl} {Gx Gm : Geo} (hF : LF p s m c b L xs) (hP : KP0 s D cA qo qx qm b L i cc n0 M μ Gx Gm H locs ls cs ss) (kk : KK p l e s m below meth c b Q D cA qo qx qm Gm i cc cs ss) : W p l e room_1 s m #[Value.ref b] below meth c H locs cs ss Q (F0 m 335 ls []) := by
  obtain ⟨hLS, hqx, hqm, hI, hcc, hl, hi, hLb, hcs⟩ := hP
  obtain ⟨hx, hb, hml, hown, hts, hX, hbl⟩ := id hF
  obtain ⟨⟨a1, a2, a3, a4, a5⟩, ⟨b1, b2, b3⟩, -, -, hS⟩ := id hLS
  have h0 := lv_at hl 0 rfl
  have h4 := lv_at hl 4 rfl
  obtain ⟨r, μ1, e1, e2, hI1⟩ := top_named hI (xs (i + 1))
  refine lv_aload_n hx hb d_law_335 rfl (lv_at hl 1 rfl) ?_
  refine lw_arg (j := 1) hF hLb hS hl h0 h4 (by omega) rfl d_law_336 d_law_337 d_law_339 d_law_340 d_law_341 ?_
  refine lw_q (n := 1) (st := []) (M1 := M) hF hLS y_X5_named q603 [.inl (.int (xs (i + 1)))] rfl rfl (r := r) (c_X5_named a1.2.2.1 a2.cl a2.X a2.T l _ e1) ⟨rfl, rfl, Nat.le_of_ble_eq_true rfl, Nat.le_of_ble_eq_true rfl⟩ (Nat.le_of_ble_eq_true rfl) ⟨by have := hcs.1; omega, by have := hcs.2; omega⟩ hl d_law_342 (by rw [hqx]; rfl) (fun H1 locs1 hLS1 => ?_)
  have hS2 := hLS1.2.2.2.2
  refine lv_aload_n hx hb d_law_345 rfl (lv_at hl 2 rfl) ?_
  refine lw_arg (j := 1) hF hLb hS2 hl h0 h4 (by omega) rfl d_law_346 d_law_347 d_law_349 d_law_350 d_law_351 ?_
  refine lw_m (n := 1) (st := [.int r]) (μ1 := μ1) hF hLS1 y_X6_named q1464 [.inl (.int (xs (i + 1)))] rfl rfl (r := r) (c_X6_named b1.2.2.1 b2 l _ _ e2) ⟨rfl, rfl, Nat.le_of_ble_eq_true rfl, Nat.le_of_ble_eq_true rfl⟩ (Nat.le_of_ble_eq_true rfl) ⟨by have := hcs.1; omega, by have := hcs.2; omega⟩ hl d_law_352 (by rw [hqm]; rfl) (fun H2 locs2 hLS2 => ?_)
  refine lv_icmp_eq (tgt := 1630) hx hb d_law_355 (by decide) (fun _ => ?_) (fun z => absurd rfl z)
  refine W.widen (k := cs + 40) (n := ss + 4000) (by omega) (by omega) ?_
  exact kk _ _ _ _ _ _ _ hLS2 hqx hI1 hl
theorem law_4 {p : Program} {l : Launch} {e : Env} {s : State} {m : MethodId} {below : List Frame} {meth : Method} {c : Code} {b L : Nat} {xs : Nat → Int32} {Q : State → Prop} {H : Heap} {locs : List Loc} {cs ss : Nat} {ls : Array Slot} {D : va_G} {cA : ClassId} {qo qx qm n0 i cc : Nat} {M : Mem} {μ : Sl} {Gx Gm : Geo} (hF : LF p s m c b L xs) (hP : KP0 s D cA qo qx qm b L i cc n0 M μ Gx Gm H locs ls cs ss) (kk : KK p l e s m below meth c b Q D cA qo qx qm Gm i cc cs ss) : W p l e room_1 s m #[Value.ref b] below meth c H locs cs ss Q (F0 m 360 ls []) := by
  obtain ⟨hLS, hqx, hqm, hI, hcc, hl, hi, hLb, hcs⟩ := hP
  obtain ⟨hx, hb, hml, hown, hts, hX, hbl⟩ := id hF
  obtain ⟨⟨a1, a2, a3, a4, a5⟩, ⟨b1, b2, b3⟩, -, -, hS⟩ := id hLS
  have h0 := lv_at hl 0 rfl
  have h4 := lv_at hl 4 rfl
  obtain ⟨r, n1, M1, μ1, e1, e2, hI1⟩ := top_map hI hcc (xs (i + 1)) (xs (i + 2)) (xs (i + 3)) (xs (i + 4)) (xs (i + 5))
  refine lv_aload_n hx hb d_law_360 rfl (lv_at hl 1 rfl) ?_
  refine lw_arg (j := 1) hF hLb hS hl h0 h4 (by omega) rfl d_law_361 d_law_362 d_law_364 d_law_365 d_law_366 ?_
  refine lw_arg (j := 2) hF hLb hS hl h0 h4 (by omega) rfl d_law_367 d_law_368 d_law_370 d_law_371 d_law_372 ?_
  refine lw_arg (j := 3) hF hLb hS hl h0 h4 (by omega) rfl d_law_373 d_law_374 d_law_376 d_law_377 d_law_378 ?_
  refine lw_arg (j := 4) hF hLb hS hl h0 h4 (by omega) rfl d_law_379 d_law_380 d_law_382 d_law_383 d_law_384 ?_
  refine lw_arg (j := 5) hF hLb hS hl h0 h4 (by omega) rfl d_law_385 d_law_386 d_law_388 d_law_389 d_law_390 ?_
  refine lw_k (n := 5) (st := []) hF hLS y_X5_map q608 [.inl (.int (xs (i + 1))), .inl (.int (xs (i + 2))), .inl (.int (xs (i + 3))), .inl (.int (xs (i + 4))), .inl (.int (xs (i + 5)))] rfl rfl (t := (r, n1, M1)) (inv_n0 hI1) (c_X5_map a1.2.2.1 a2 a3 l _ e1) ⟨rfl, rfl, Nat.le_of_ble_eq_true rfl, Nat.le_of_ble_eq_true rfl⟩ (Nat.le_of_ble_eq_true rfl) ⟨by have := hcs.1; show _ + 24 ≤ _; omega, by have := hcs.2; show _ + 3179 ≤ _; omega⟩ hl d_law_391 (by rw [hqx]; rfl) (fun H1 locs1 G1 hLS1 hq1 => ?_)
  have hS2 := hLS1.2.2.2.2
  refine lv_aload_n hx hb d_law_394 rfl (lv_at hl 2 rfl) ?_
  refine lw_arg (j := 1) hF hLb hS2 hl h0 h4 (by omega) rfl d_law_395 d_law_396 d_law_398 d_law_399 d_law_400 ?_
  refine lw_arg (j := 2) hF hLb hS2 hl h0 h4 (by omega) rfl d_law_401 d_law_402 d_law_404 d_law_405 d_law_406 ?_
  refine lw_arg (j := 3) hF hLb hS2 hl h0 h4 (by omega) rfl d_law_407 d_law_408 d_law_410 d_law_411 d_law_412 ?_
  refine lw_arg (j := 4) hF hLb hS2 hl h0 h4 (by omega) rfl d_law_413 d_law_414 d_law_416 d_law_417 d_law_418 ?_
  refine lw_arg (j := 5) hF hLb hS2 hl h0 h4 (by omega) rfl d_law_419 d_law_420 d_law_422 d_law_423 d_law_424 ?_
  refine lw_m (n := 5) (st := [.int r]) (μ1 := μ1) hF hLS1 y_X6_map q1476 [.inl (.int (xs (i + 1))), .inl (.int (xs (i + 2))), .inl (.int (xs (i + 3))), .inl (.int (xs (i + 4))), .inl (.int (xs (i + 5)))] rfl rfl (r := r) (c_X6_map b1.2.2.1 b2 l _ _ e2) ⟨rfl, rfl, Nat.le_of_ble_eq_true rfl, Nat.le_of_ble_eq_true rfl⟩ (Nat.le_of_ble_eq_true rfl) ⟨by have := hcs.1; show _ + 24 ≤ _; omega, by have := hcs.2; show _ + 3179 ≤ _; omega⟩ hl d_law_425 (by rw [hqm]; rfl) (fun H2 locs2 hLS2 => ?_)
  refine lv_icmp_eq (tgt := 1630) hx hb d_law_428 (by decide) (fun _ => ?_) (fun z => absurd rfl z)
  refine W.widen (k := cs + 40) (n := ss + 4000) (by show _ + 24 ≤ _; omega) (by show _ + 3179 ≤ _; omega) ?_
  exact kk _ _ _ _ _ _ _ hLS2 (hq1.trans hqx) hI1 hl
theorem law_5 {p : Program} {l : Launch} {e : Env} {s : State} {m : MethodId} {below : List Frame} {meth : Method} {c : Code} {b L : Nat} {xs : Nat → Int32} {Q : State → Prop} {H : Heap} {locs : List Loc} {cs ss : Nat} {ls : Array Slot} {D : va_G} {cA : ClassId} {qo qx qm n0 i cc : Nat} {M : Mem} {μ : Sl} {Gx Gm : Geo} (hF : LF p s m c b L xs) (hP : KP0 s D cA qo qx qm b L i cc n0 M μ Gx Gm H locs ls cs ss) (kk : KK p l e s m below meth c b Q D cA qo qx qm Gm i cc cs ss) : W p l e room_1 s m #[Value.ref b] below meth c H locs cs ss Q (F0 m 433 ls []) := by
  obtain ⟨hLS, hqx, hqm, hI, hcc, hl, hi, hLb, hcs⟩ := hP
  obtain ⟨hx, hb, hml, hown, hts, hX, hbl⟩ := id hF
  obtain ⟨⟨a1, a2, a3, a4, a5⟩, ⟨b1, b2, b3⟩, -, -, hS⟩ := id hLS
  have h0 := lv_at hl 0 rfl
  have h4 := lv_at hl 4 rfl
  obtain ⟨r, n1, M1, μ1, e1, e2, hI1⟩ := top_grant hI hcc (xs (i + 1)) (xs (i + 2)) (xs (i + 3)) (xs (i + 4))
  refine lv_aload_n hx hb d_law_433 rfl (lv_at hl 1 rfl) ?_
  refine lw_arg (j := 1) hF hLb hS hl h0 h4 (by omega) rfl d_law_434 d_law_435 d_law_437 d_law_438 d_law_439 ?_
  refine lw_arg (j := 2) hF hLb hS hl h0 h4 (by omega) rfl d_law_440 d_law_441 d_law_443 d_law_444 d_law_445 ?_
  refine lw_arg (j := 3) hF hLb hS hl h0 h4 (by omega) rfl d_law_446 d_law_447 d_law_449 d_law_450 d_law_451 ?_
  refine lw_arg (j := 4) hF hLb hS hl h0 h4 (by omega) rfl d_law_452 d_law_453 d_law_455 d_law_456 d_law_457 ?_
  refine lw_k (n := 4) (st := []) hF hLS y_X5_grant q710 [.inl (.int (xs (i + 1))), .inl (.int (xs (i + 2))), .inl (.int (xs (i + 3))), .inl (.int (xs (i + 4)))] rfl rfl (t := (r, n1, M1)) (inv_n0 hI1) (c_X5_grant a1.2.2.1 a2 a3 l _ e1) ⟨rfl, rfl, Nat.le_of_ble_eq_true rfl, Nat.le_of_ble_eq_true rfl⟩ (Nat.le_of_ble_eq_true rfl) ⟨by have := hcs.1; show _ + 24 ≤ _; omega, by have := hcs.2; show _ + 3179 ≤ _; omega⟩ hl d_law_458 (by rw [hqx]; rfl) (fun H1 locs1 G1 hLS1 hq1 => ?_)
  have hS2 := hLS1.2.2.2.2
  refine lv_aload_n hx hb d_law_461 rfl (lv_at hl 2 rfl) ?_
  refine lw_arg (j := 1) hF hLb hS2 hl h0 h4 (by omega) rfl d_law_462 d_law_463 d_law_465 d_law_466 d_law_467 ?_
  refine lw_arg (j := 2) hF hLb hS2 hl h0 h4 (by omega) rfl d_law_468 d_law_469 d_law_471 d_law_472 d_law_473 ?_
  refine lw_arg (j := 3) hF hLb hS2 hl h0 h4 (by omega) rfl d_law_474 d_law_475 d_law_477 d_law_478 d_law_479 ?_
  refine lw_arg (j := 4) hF hLb hS2 hl h0 h4 (by omega) rfl d_law_480 d_law_481 d_law_483 d_law_484 d_law_485 ?_
  refine lw_m (n := 4) (st := [.int r]) (μ1 := μ1) hF hLS1 y_X6_grant q1552 [.inl (.int (xs (i + 1))), .inl (.int (xs (i + 2))), .inl (.int (xs (i + 3))), .inl (.int (xs (i + 4)))] rfl rfl (r := r) (c_X6_grant b1.2.2.1 b2 l _ _ e2) ⟨rfl, rfl, Nat.le_of_ble_eq_true rfl, Nat.le_of_ble_eq_true rfl⟩ (Nat.le_of_ble_eq_true rfl) ⟨by have := hcs.1; show _ + 24 ≤ _; omega, by have := hcs.2; show _ + 3179 ≤ _; omega⟩ hl d_law_486 (by rw [hqm]; rfl) (fun H2 locs2 hLS2 => ?_)
  refine lv_icmp_eq (tgt := 1630) hx hb d_law_489 (by decide) (fun _ => ?_) (fun z => absurd rfl z)
  refine W.widen (k := cs + 40) (n := ss + 4000) (by show _ + 24 ≤ _; omega) (by show _ + 3179 ≤ _; omega) ?_
  exact kk _ _ _ _ _ _ _ hLS2 (hq1.trans hqx) hI1 hl
theorem law_6 {p : Program} {l : Launch} {e : Env} {s : State} {m : MethodId} {below : List Frame} {meth : Method} {c : Code} {b L : Nat} {xs : Nat → Int32} {Q : State → Prop} {H : Heap} {locs : List Loc} {cs ss : Nat} {ls : Array Slot} {D : va_G} {cA : ClassId} {qo qx qm n0 i cc : Nat} {M : Mem} {μ : Sl} {Gx Gm : Geo} (hF : LF p s m c b L xs) (hP : KP0 s D cA qo qx qm b L i cc n0 M μ Gx Gm H locs ls cs ss) (kk : KK p l e s m below meth c b Q D cA qo qx qm Gm i cc cs ss) : W p l e room_1 s m #[Value.ref b] below meth c H locs cs ss Q (F0 m 494 ls []) := by
  obtain ⟨hLS, hqx, hqm, hI, hcc, hl, hi, hLb, hcs⟩ := hP
  obtain ⟨hx, hb, hml, hown, hts, hX, hbl⟩ := id hF
  obtain ⟨⟨a1, a2, a3, a4, a5⟩, ⟨b1, b2, b3⟩, -, -, hS⟩ := id hLS
  have h0 := lv_at hl 0 rfl
  have h4 := lv_at hl 4 rfl
  obtain ⟨r, n1, M1, μ1, e1, e2, hI1⟩ := top_flush hI hcc (xs (i + 1)) (xs (i + 2)) (xs (i + 3)) (bz (xs (i + 4)))
  refine lv_aload_n hx hb d_law_494 rfl (lv_at hl 1 rfl) ?_
  refine lw_arg (j := 1) hF hLb hS hl h0 h4 (by omega) rfl d_law_495 d_law_496 d_law_498 d_law_499 d_law_500 ?_
  refine lw_arg (j := 2) hF hLb hS hl h0 h4 (by omega) rfl d_law_501 d_law_502 d_law_504 d_law_505 d_law_506 ?_
  refine lw_arg (j := 3) hF hLb hS hl h0 h4 (by omega) rfl d_law_507 d_law_508 d_law_510 d_law_511 d_law_512 ?_
  refine lw_arg (j := 4) hF hLb hS hl h0 h4 (by omega) rfl d_law_513 d_law_514 d_law_516 d_law_517 d_law_518 ?_
  refine lw_bool hF d_law_519 d_law_522 d_law_523 d_law_526 ?_
  refine lw_k (n := 4) (st := []) hF hLS y_X5_flush q745 [.inl (.int (xs (i + 1))), .inl (.int (xs (i + 2))), .inl (.int (xs (i + 3))), .inl (.int (bz (xs (i + 4))))] rfl rfl (t := (r, n1, M1)) (inv_n0 hI1) (c_X5_flush a1.2.2.1 a2 a3 l _ e1) ⟨rfl, rfl, Nat.le_of_ble_eq_true rfl, Nat.le_of_ble_eq_true rfl⟩ (Nat.le_of_ble_eq_true rfl) ⟨by have := hcs.1; show _ + 24 ≤ _; omega, by have := hcs.2; show _ + 3179 ≤ _; omega⟩ hl d_law_527 (by rw [hqx]; rfl) (fun H1 locs1 G1 hLS1 hq1 => ?_)
  have hS2 := hLS1.2.2.2.2
  refine lv_aload_n hx hb d_law_530 rfl (lv_at hl 2 rfl) ?_
  refine lw_arg (j := 1) hF hLb hS2 hl h0 h4 (by omega) rfl d_law_531 d_law_532 d_law_534 d_law_535 d_law_536 ?_
  refine lw_arg (j := 2) hF hLb hS2 hl h0 h4 (by omega) rfl d_law_537 d_law_538 d_law_540 d_law_541 d_law_542 ?_
  refine lw_arg (j := 3) hF hLb hS2 hl h0 h4 (by omega) rfl d_law_543 d_law_544 d_law_546 d_law_547 d_law_548 ?_
  refine lw_arg (j := 4) hF hLb hS2 hl h0 h4 (by omega) rfl d_law_549 d_law_550 d_law_552 d_law_553 d_law_554 ?_
  refine lw_bool hF d_law_555 d_law_558 d_law_559 d_law_562 ?_
  refine lw_m (n := 4) (st := [.int r]) (μ1 := μ1) hF hLS1 y_X6_flush q1604 [.inl (.int (xs (i + 1))), .inl (.int (xs (i + 2))), .inl (.int (xs (i + 3))), .inl (.int (bz (xs (i + 4))))] rfl rfl (r := r) (c_X6_flush b1.2.2.1 b2 l _ _ e2) ⟨rfl, rfl, Nat.le_of_ble_eq_true rfl, Nat.le_of_ble_eq_true rfl⟩ (Nat.le_of_ble_eq_true rfl) ⟨by have := hcs.1; show _ + 24 ≤ _; omega, by have := hcs.2; show _ + 3179 ≤ _; omega⟩ hl d_law_563 (by rw [hqm]; rfl) (fun H2 locs2 hLS2 => ?_)
  refine lv_icmp_eq (tgt := 1630) hx hb d_law_566 (by decide) (fun _ => ?_) (fun z => absurd rfl z)
  refine W.widen (k := cs + 40) (n := ss + 4000) (by show _ + 24 ≤ _; omega) (by show _ + 3179 ≤ _; omega) ?_
  exact kk _ _ _ _ _ _ _ hLS2 (hq1.trans hqx) hI1 hl
theorem law_7 {p : Program} {l : Launch} {e : Env} {s : State} {m : MethodId} {below : List Frame} {meth : Method} {c : Code} {b L : Nat} {xs : Nat → Int32} {Q : State → Prop} {H : Heap} {locs : List Loc} {cs ss : Nat} {ls : Array Slot} {D : va_G} {cA : ClassId} {qo qx qm n0 i cc : Nat} {M : Mem} {μ : Sl} {Gx Gm : Geo} (hF : LF p s m c b L xs) (hP : KP0 s D cA qo qx qm b L i cc n0 M μ Gx Gm H locs ls cs ss) (kk : KK p l e s m below meth c b Q D cA qo qx qm Gm i cc cs ss) : W p l e room_1 s m #[Value.ref b] below meth c H locs cs ss Q (F0 m 571 ls []) := by
  obtain ⟨hLS, hqx, hqm, hI, hcc, hl, hi, hLb, hcs⟩ := hP
  obtain ⟨hx, hb, hml, hown, hts, hX, hbl⟩ := id hF
  obtain ⟨⟨a1, a2, a3, a4, a5⟩, ⟨b1, b2, b3⟩, -, -, hS⟩ := id hLS
  have h0 := lv_at hl 0 rfl
  have h4 := lv_at hl 4 rfl
  obtain ⟨r, n1, M1, μ1, e1, e2, hI1⟩ := top_work hI hcc (xs (i + 1))
  refine lv_aload_n hx hb d_law_571 rfl (lv_at hl 1 rfl) ?_
  refine lw_arg (j := 1) hF hLb hS hl h0 h4 (by omega) rfl d_law_572 d_law_573 d_law_575 d_law_576 d_law_577 ?_
  refine lw_k (n := 1) (st := []) hF hLS y_X5_work q777 [.inl (.int (xs (i + 1)))] rfl rfl (t := (r, n1, M1)) (inv_n0 hI1) (c_X5_work a1.2.2.1 a2 a3 l _ e1) ⟨rfl, rfl, Nat.le_of_ble_eq_true rfl, Nat.le_of_ble_eq_true rfl⟩ (Nat.le_of_ble_eq_true rfl) ⟨by have := hcs.1; show _ + 24 ≤ _; omega, by have := hcs.2; show _ + 3179 ≤ _; omega⟩ hl d_law_578 (by rw [hqx]; rfl) (fun H1 locs1 G1 hLS1 hq1 => ?_)
  have hS2 := hLS1.2.2.2.2
  refine lv_aload_n hx hb d_law_581 rfl (lv_at hl 2 rfl) ?_
  refine lw_arg (j := 1) hF hLb hS2 hl h0 h4 (by omega) rfl d_law_582 d_law_583 d_law_585 d_law_586 d_law_587 ?_
  refine lw_m (n := 1) (st := [.int r]) (μ1 := μ1) hF hLS1 y_X6_work q1624 [.inl (.int (xs (i + 1)))] rfl rfl (r := r) (c_X6_work b1.2.2.1 b2 l _ _ e2) ⟨rfl, rfl, Nat.le_of_ble_eq_true rfl, Nat.le_of_ble_eq_true rfl⟩ (Nat.le_of_ble_eq_true rfl) ⟨by have := hcs.1; show _ + 24 ≤ _; omega, by have := hcs.2; show _ + 3179 ≤ _; omega⟩ hl d_law_588 (by rw [hqm]; rfl) (fun H2 locs2 hLS2 => ?_)
  refine lv_icmp_eq (tgt := 1630) hx hb d_law_591 (by decide) (fun _ => ?_) (fun z => absurd rfl z)
  refine W.widen (k := cs + 40) (n := ss + 4000) (by show _ + 24 ≤ _; omega) (by show _ + 3179 ≤ _; omega) ?_
  exact kk _ _ _ _ _ _ _ hLS2 (hq1.trans hqx) hI1 hl
theorem law_8 {p : Program} {l : Launch} {e : Env} {s : State} {m : MethodId} {below : List Frame} {meth : Method} {c : Code} {b L : Nat} {xs : Nat → Int32} {Q : State → Prop} {H : Heap} {locs : List Loc} {cs ss : Nat} {ls : Array Slot} {D : va_G} {cA : ClassId} {qo qx qm n0 i cc : Nat} {M : Mem} {μ : Sl} {Gx Gm : Geo} (hF : LF p s m c b L xs) (hP : KP0 s D cA qo qx qm b L i cc n0 M μ Gx Gm H locs ls cs ss) (kk : KK p l e s m below meth c b Q D cA qo qx qm Gm i cc cs ss) : W p l e room_1 s m #[Value.ref b] below meth c H locs cs ss Q (F0 m 596 ls []) := by
  obtain ⟨hLS, hqx, hqm, hI, hcc, hl, hi, hLb, hcs⟩ := hP
  obtain ⟨hx, hb, hml, hown, hts, hX, hbl⟩ := id hF
  obtain ⟨⟨a1, a2, a3, a4, a5⟩, ⟨b1, b2, b3⟩, -, -, hS⟩ := id hLS
  have h0 := lv_at hl 0 rfl
  have h4 := lv_at hl 4 rfl
  obtain ⟨r, n1, M1, μ1, e1, e2, hI1⟩ := top_touch hI hcc (xs (i + 1)) (xs (i + 2)) (xs (i + 3))
  refine lv_aload_n hx hb d_law_596 rfl (lv_at hl 1 rfl) ?_
  refine lw_arg (j := 1) hF hLb hS hl h0 h4 (by omega) rfl d_law_597 d_law_598 d_law_600 d_law_601 d_law_602 ?_
  refine lw_arg (j := 2) hF hLb hS hl h0 h4 (by omega) rfl d_law_603 d_law_604 d_law_606 d_law_607 d_law_608 ?_
  refine lw_arg (j := 3) hF hLb hS hl h0 h4 (by omega) rfl d_law_609 d_law_610 d_law_612 d_law_613 d_law_614 ?_
  refine lw_k (n := 3) (st := []) hF hLS y_X5_touch q801 [.inl (.int (xs (i + 1))), .inl (.int (xs (i + 2))), .inl (.int (xs (i + 3)))] rfl rfl (t := (r, n1, M1)) (inv_n0 hI1) (c_X5_touch a1.2.2.1 a2 a3 l _ e1) ⟨rfl, rfl, Nat.le_of_ble_eq_true rfl, Nat.le_of_ble_eq_true rfl⟩ (Nat.le_of_ble_eq_true rfl) ⟨by have := hcs.1; show _ + 24 ≤ _; omega, by have := hcs.2; show _ + 3179 ≤ _; omega⟩ hl d_law_615 (by rw [hqx]; rfl) (fun H1 locs1 G1 hLS1 hq1 => ?_)
  have hS2 := hLS1.2.2.2.2
  refine lv_aload_n hx hb d_law_618 rfl (lv_at hl 2 rfl) ?_
  refine lw_arg (j := 1) hF hLb hS2 hl h0 h4 (by omega) rfl d_law_619 d_law_620 d_law_622 d_law_623 d_law_624 ?_
  refine lw_arg (j := 2) hF hLb hS2 hl h0 h4 (by omega) rfl d_law_625 d_law_626 d_law_628 d_law_629 d_law_630 ?_
  refine lw_arg (j := 3) hF hLb hS2 hl h0 h4 (by omega) rfl d_law_631 d_law_632 d_law_634 d_law_635 d_law_636 ?_
  refine lw_m (n := 3) (st := [.int r]) (μ1 := μ1) hF hLS1 y_X6_touch q1689 [.inl (.int (xs (i + 1))), .inl (.int (xs (i + 2))), .inl (.int (xs (i + 3)))] rfl rfl (r := r) (c_X6_touch b1.2.2.1 b2 l _ _ e2) ⟨rfl, rfl, Nat.le_of_ble_eq_true rfl, Nat.le_of_ble_eq_true rfl⟩ (Nat.le_of_ble_eq_true rfl) ⟨by have := hcs.1; show _ + 24 ≤ _; omega, by have := hcs.2; show _ + 3179 ≤ _; omega⟩ hl d_law_637 (by rw [hqm]; rfl) (fun H2 locs2 hLS2 => ?_)
  refine lv_icmp_eq (tgt := 1630) hx hb d_law_640 (by decide) (fun _ => ?_) (fun z => absurd rfl z)
  refine W.widen (k := cs + 40) (n := ss + 4000) (by show _ + 24 ≤ _; omega) (by show _ + 3179 ≤ _; omega) ?_
  exact kk _ _ _ _ _ _ _ hLS2 (hq1.trans hqx) hI1 hl
theorem law_9 {p : Program} {l : Launch} {e : Env} {s : State} {m : MethodId} {below : List Frame} {meth : Method} {c : Code} {b L : Nat} {xs : Nat → Int32} {Q : State → Prop} {H : Heap} {locs : List Loc} {cs ss : Nat} {ls : Array Slot} {D : va_G} {cA : ClassId} {qo qx qm n0 i cc : Nat} {M : Mem} {μ : Sl} {Gx Gm : Geo} (hF : LF p s m c b L xs) (hP : KP0 s D cA qo qx qm b L i cc n0 M μ Gx Gm H locs ls cs ss) (kk : KK p l e s m below meth c b Q D cA qo qx qm Gm i cc cs ss) : W p l e room_1 s m #[Value.ref b] below meth c H locs cs ss Q (F0 m 645 ls []) := by
  obtain ⟨hLS, hqx, hqm, hI, hcc, hl, hi, hLb, hcs⟩ := hP
  obtain ⟨hx, hb, hml, hown, hts, hX, hbl⟩ := id hF
  obtain ⟨⟨a1, a2, a3, a4, a5⟩, ⟨b1, b2, b3⟩, -, -, hS⟩ := id hLS
  have h0 := lv_at hl 0 rfl
  have h4 := lv_at hl 4 rfl
  obtain ⟨r, n1, M1, μ1, e1, e2, hI1⟩ := top_serve hI hcc (xs (i + 1))
  refine lv_aload_n hx hb d_law_645 rfl (lv_at hl 1 rfl) ?_
  refine lw_arg (j := 1) hF hLb hS hl h0 h4 (by omega) rfl d_law_646 d_law_647 d_law_649 d_law_650 d_law_651 ?_
  refine lw_k (n := 1) (st := []) hF hLS y_X5_serve q817 [.inl (.int (xs (i + 1)))] rfl rfl (t := (r, n1, M1)) (inv_n0 hI1) (c_X5_serve a1.2.2.1 a2 a3 l _ e1) ⟨rfl, rfl, Nat.le_of_ble_eq_true rfl, Nat.le_of_ble_eq_true rfl⟩ (Nat.le_of_ble_eq_true rfl) ⟨by have := hcs.1; show _ + 24 ≤ _; omega, by have := hcs.2; show _ + 3179 ≤ _; omega⟩ hl d_law_652 (by rw [hqx]; rfl) (fun H1 locs1 G1 hLS1 hq1 => ?_)
  have hS2 := hLS1.2.2.2.2
  refine lv_aload_n hx hb d_law_655 rfl (lv_at hl 2 rfl) ?_
  refine lw_arg (j := 1) hF hLb hS2 hl h0 h4 (by omega) rfl d_law_656 d_law_657 d_law_659 d_law_660 d_law_661 ?_
  refine lw_m (n := 1) (st := [.int r]) (μ1 := μ1) hF hLS1 y_X6_serve q1721 [.inl (.int (xs (i + 1)))] rfl rfl (r := r) (c_X6_serve b1.2.2.1 b2 l _ _ e2) ⟨rfl, rfl, Nat.le_of_ble_eq_true rfl, Nat.le_of_ble_eq_true rfl⟩ (Nat.le_of_ble_eq_true rfl) ⟨by have := hcs.1; show _ + 24 ≤ _; omega, by have := hcs.2; show _ + 3179 ≤ _; omega⟩ hl d_law_662 (by rw [hqm]; rfl) (fun H2 locs2 hLS2 => ?_)
  refine lv_icmp_eq (tgt := 1630) hx hb d_law_665 (by decide) (fun _ => ?_) (fun z => absurd rfl z)
  refine W.widen (k := cs + 40) (n := ss + 4000) (by show _ + 24 ≤ _; omega) (by show _ + 3179 ≤ _; omega) ?_
  exact kk _ _ _ _ _ _ _ hLS2 (hq1.trans hqx) hI1 hl
theorem law_10 {p : Program} {l : Launch} {e : Env} {s : State} {m : MethodId} {below : List Frame} {meth : Method} {c : Code} {b L : Nat} {xs : Nat → Int32} {Q : State → Prop} {H : Heap} {locs : List Loc} {cs ss : Nat} {ls : Array Slot} {D : va_G} {cA : ClassId} {qo qx qm n0 i cc : Nat} {M : Mem} {μ : Sl} {Gx Gm : Geo} (hF : LF p s m c b L xs) (hP : KP0 s D cA qo qx qm b L i cc n0 M μ Gx Gm H locs ls cs ss) (kk : KK p l e s m below meth c b Q D cA qo qx qm Gm i cc cs ss) : W p l e room_1 s m #[Value.ref b] below meth c H locs cs ss Q (F0 m 670 ls []) := by
  obtain ⟨hLS, hqx, hqm, hI, hcc, hl, hi, hLb, hcs⟩ := hP
  obtain ⟨hx, hb, hml, hown, hts, hX, hbl⟩ := id hF
  obtain ⟨⟨a1, a2, a3, a4, a5⟩, ⟨b1, b2, b3⟩, -, -, hS⟩ := id hLS
  have h0 := lv_at hl 0 rfl
  have h4 := lv_at hl 4 rfl
  obtain ⟨r, n1, M1, μ1, e1, e2, hI1⟩ := top_settle hI hcc 
  refine lv_aload_n hx hb d_law_670 rfl (lv_at hl 1 rfl) ?_
  refine lw_k (n := 0) (st := []) hF hLS y_X5_settle q863 [] rfl rfl (t := (r, n1, M1)) (inv_n0 hI1) (c_X5_settle a1.2.2.1 a2 a3 l _ e1) ⟨rfl, rfl, Nat.le_of_ble_eq_true rfl, Nat.le_of_ble_eq_true rfl⟩ (Nat.le_of_ble_eq_true rfl) ⟨by have := hcs.1; show _ + 24 ≤ _; omega, by have := hcs.2; show _ + 3179 ≤ _; omega⟩ hl d_law_671 (by rw [hqx]; rfl) (fun H1 locs1 G1 hLS1 hq1 => ?_)
  have hS2 := hLS1.2.2.2.2
  refine lv_aload_n hx hb d_law_674 rfl (lv_at hl 2 rfl) ?_
  refine lw_m (n := 0) (st := [.int r]) (μ1 := μ1) hF hLS1 y_X6_settle q1749 [] rfl rfl (r := r) (c_X6_settle b1.2.2.1 b2 l _ _ e2) ⟨rfl, rfl, Nat.le_of_ble_eq_true rfl, Nat.le_of_ble_eq_true rfl⟩ (Nat.le_of_ble_eq_true rfl) ⟨by have := hcs.1; show _ + 24 ≤ _; omega, by have := hcs.2; show _ + 3179 ≤ _; omega⟩ hl d_law_675 (by rw [hqm]; rfl) (fun H2 locs2 hLS2 => ?_)
  refine lv_icmp_eq (tgt := 1630) hx hb d_law_678 (by decide) (fun _ => ?_) (fun z => absurd rfl z)
  refine W.widen (k := cs + 40) (n := ss + 4000) (by show _ + 24 ≤ _; omega) (by show _ + 3179 ≤ _; omega) ?_
  exact kk _ _ _ _ _ _ _ hLS2 (hq1.trans hqx) hI1 hl
theorem law_11 {p : Program} {l : Launch} {e : Env} {s : State} {m : MethodId} {below : List Frame} {meth : Method} {c : Code} {b L : Nat} {xs : Nat → Int32} {Q : State → Prop} {H : Heap} {locs : List Loc} {cs ss : Nat} {ls : Array Slot} {D : va_G} {cA : ClassId} {qo qx qm n0 i cc : Nat} {M : Mem} {μ : Sl} {Gx Gm : Geo} (hF : LF p s m c b L xs) (hP : KP0 s D cA qo qx qm b L i cc n0 M μ Gx Gm H locs ls cs ss) (kk : KK p l e s m below meth c b Q D cA qo qx qm Gm i cc cs ss) : W p l e room_1 s m #[Value.ref b] below meth c H locs cs ss Q (F0 m 683 ls []) := by
  obtain ⟨hLS, hqx, hqm, hI, hcc, hl, hi, hLb, hcs⟩ := hP
  obtain ⟨hx, hb, hml, hown, hts, hX, hbl⟩ := id hF
  obtain ⟨⟨a1, a2, a3, a4, a5⟩, ⟨b1, b2, b3⟩, -, -, hS⟩ := id hLS
  have h0 := lv_at hl 0 rfl
  have h4 := lv_at hl 4 rfl
  obtain ⟨r, n1, M1, μ1, e1, e2, hI1⟩ := top_tick hI hcc 
  refine lv_aload_n hx hb d_law_683 rfl (lv_at hl 1 rfl) ?_
  refine lw_k (n := 0) (st := []) hF hLS y_X5_tick q872 [] rfl rfl (t := (r, n1, M1)) (inv_n0 hI1) (c_X5_tick a1.2.2.1 a2 a3 l _ e1) ⟨rfl, rfl, Nat.le_of_ble_eq_true rfl, Nat.le_of_ble_eq_true rfl⟩ (Nat.le_of_ble_eq_true rfl) ⟨by have := hcs.1; show _ + 24 ≤ _; omega, by have := hcs.2; show _ + 3179 ≤ _; omega⟩ hl d_law_684 (by rw [hqx]; rfl) (fun H1 locs1 G1 hLS1 hq1 => ?_)
  have hS2 := hLS1.2.2.2.2
  refine lv_aload_n hx hb d_law_687 rfl (lv_at hl 2 rfl) ?_
  refine lw_m (n := 0) (st := [.int r]) (μ1 := μ1) hF hLS1 y_X6_tick q1652 [] rfl rfl (r := r) (c_X6_tick b1.2.2.1 b2 l _ _ e2) ⟨rfl, rfl, Nat.le_of_ble_eq_true rfl, Nat.le_of_ble_eq_true rfl⟩ (Nat.le_of_ble_eq_true rfl) ⟨by have := hcs.1; show _ + 24 ≤ _; omega, by have := hcs.2; show _ + 3179 ≤ _; omega⟩ hl d_law_688 (by rw [hqm]; rfl) (fun H2 locs2 hLS2 => ?_)
  refine lv_icmp_eq (tgt := 1630) hx hb d_law_691 (by decide) (fun _ => ?_) (fun z => absurd rfl z)
  refine W.widen (k := cs + 40) (n := ss + 4000) (by show _ + 24 ≤ _; omega) (by show _ + 3179 ≤ _; omega) ?_
  exact kk _ _ _ _ _ _ _ hLS2 (hq1.trans hqx) hI1 hl
theorem law_12 {p : Program} {l : Launch} {e : Env} {s : State} {m : MethodId} {below : List Frame} {meth : Method} {c : Code} {b L : Nat} {xs : Nat → Int32} {Q : State → Prop} {H : Heap} {locs : List Loc} {cs ss : Nat} {ls : Array Slot} {D : va_G} {cA : ClassId} {qo qx qm n0 i cc : Nat} {M : Mem} {μ : Sl} {Gx Gm : Geo} (hF : LF p s m c b L xs) (hP : KP0 s D cA qo qx qm b L i cc n0 M μ Gx Gm H locs ls cs ss) (kk : KK p l e s m below meth c b Q D cA qo qx qm Gm i cc cs ss) : W p l e room_1 s m #[Value.ref b] below meth c H locs cs ss Q (F0 m 696 ls []) := by
  obtain ⟨hLS, hqx, hqm, hI, hcc, hl, hi, hLb, hcs⟩ := hP
  obtain ⟨hx, hb, hml, hown, hts, hX, hbl⟩ := id hF
  obtain ⟨⟨a1, a2, a3, a4, a5⟩, ⟨b1, b2, b3⟩, -, -, hS⟩ := id hLS
  have h0 := lv_at hl 0 rfl
  have h4 := lv_at hl 4 rfl
  obtain ⟨r, n1, M1, μ1, e1, e2, hI1⟩ := top_tidy hI hcc (xs (i + 1))
  refine lv_aload_n hx hb d_law_696 rfl (lv_at hl 1 rfl) ?_
  refine lw_arg (j := 1) hF hLb hS hl h0 h4 (by omega) rfl d_law_697 d_law_698 d_law_700 d_law_701 d_law_702 ?_
  refine lw_k (n := 1) (st := []) hF hLS y_X5_tidy q881 [.inl (.int (xs (i + 1)))] rfl rfl (t := (r, n1, M1)) (inv_n0 hI1) (c_X5_tidy a1.2.2.1 a2 a3 l _ e1) ⟨rfl, rfl, Nat.le_of_ble_eq_true rfl, Nat.le_of_ble_eq_true rfl⟩ (Nat.le_of_ble_eq_true rfl) ⟨by have := hcs.1; show _ + 24 ≤ _; omega, by have := hcs.2; show _ + 3179 ≤ _; omega⟩ hl d_law_703 (by rw [hqx]; rfl) (fun H1 locs1 G1 hLS1 hq1 => ?_)
  have hS2 := hLS1.2.2.2.2
  refine lv_aload_n hx hb d_law_706 rfl (lv_at hl 2 rfl) ?_
  refine lw_arg (j := 1) hF hLb hS2 hl h0 h4 (by omega) rfl d_law_707 d_law_708 d_law_710 d_law_711 d_law_712 ?_
  refine lw_m (n := 1) (st := [.int r]) (μ1 := μ1) hF hLS1 y_X6_tidy q1757 [.inl (.int (xs (i + 1)))] rfl rfl (r := r) (c_X6_tidy b1.2.2.1 b2 l _ _ e2) ⟨rfl, rfl, Nat.le_of_ble_eq_true rfl, Nat.le_of_ble_eq_true rfl⟩ (Nat.le_of_ble_eq_true rfl) ⟨by have := hcs.1; show _ + 24 ≤ _; omega, by have := hcs.2; show _ + 3179 ≤ _; omega⟩ hl d_law_713 (by rw [hqm]; rfl) (fun H2 locs2 hLS2 => ?_)
  refine lv_icmp_eq (tgt := 1630) hx hb d_law_716 (by decide) (fun _ => ?_) (fun z => absurd rfl z)
  refine W.widen (k := cs + 40) (n := ss + 4000) (by show _ + 24 ≤ _; omega) (by show _ + 3179 ≤ _; omega) ?_
  exact kk _ _ _ _ _ _ _ hLS2 (hq1.trans hqx) hI1 hl
theorem law_13 {p : Program} {l : Launch} {e : Env} {s : State} {m : MethodId} {below : List Frame} {meth : Method} {c : Code} {b L : Nat} {xs : Nat → Int32} {Q : State → Prop} {H : Heap} {locs : List Loc} {cs ss : Nat} {ls : Array Slot} {D : va_G} {cA : ClassId} {qo qx qm n0 i cc : Nat} {M : Mem} {μ : Sl} {Gx Gm : Geo} (hF : LF p s m c b L xs) (hP : KP0 s D cA qo qx qm b L i cc n0 M μ Gx Gm H locs ls cs ss) (kk : KK p l e s m below meth c b Q D cA qo qx qm Gm i cc cs ss) : W p l e room_1 s m #[Value.ref b] below meth c H locs cs ss Q (F0 m 721 ls []) := by
  obtain ⟨hLS, hqx, hqm, hI, hcc, hl, hi, hLb, hcs⟩ := hP
  obtain ⟨hx, hb, hml, hown, hts, hX, hbl⟩ := id hF
  obtain ⟨⟨a1, a2, a3, a4, a5⟩, ⟨b1, b2, b3⟩, -, -, hS⟩ := id hLS
  have h0 := lv_at hl 0 rfl
  have h4 := lv_at hl 4 rfl
  obtain ⟨r, n1, M1, μ1, e1, e2, hI1⟩ := top_run hI hcc (xs (i + 1))
  refine lv_aload_n hx hb d_law_721 rfl (lv_at hl 1 rfl) ?_
  refine lw_arg (j := 1) hF hLb hS hl h0 h4 (by omega) rfl d_law_722 d_law_723 d_law_725 d_law_726 d_law_727 ?_
  refine lw_k (n := 1) (st := []) hF hLS y_X5_run q901 [.inl (.int (xs (i + 1)))] rfl rfl (t := (r, n1, M1)) (inv_n0 hI1) (c_X5_run a1.2.2.1 a2 a3 l _ e1) ⟨rfl, rfl, Nat.le_of_ble_eq_true rfl, Nat.le_of_ble_eq_true rfl⟩ (Nat.le_of_ble_eq_true rfl) ⟨by have := hcs.1; show _ + 24 ≤ _; omega, by have := hcs.2; show _ + 3179 ≤ _; omega⟩ hl d_law_728 (by rw [hqx]; rfl) (fun H1 locs1 G1 hLS1 hq1 => ?_)
  have hS2 := hLS1.2.2.2.2
  refine lv_aload_n hx hb d_law_731 rfl (lv_at hl 2 rfl) ?_
  refine lw_arg (j := 1) hF hLb hS2 hl h0 h4 (by omega) rfl d_law_732 d_law_733 d_law_735 d_law_736 d_law_737 ?_
  refine lw_m (n := 1) (st := [.int r]) (μ1 := μ1) hF hLS1 y_X6_run q1782 [.inl (.int (xs (i + 1)))] rfl rfl (r := r) (c_X6_run b1.2.2.1 b2 l _ _ e2) ⟨rfl, rfl, Nat.le_of_ble_eq_true rfl, Nat.le_of_ble_eq_true rfl⟩ (Nat.le_of_ble_eq_true rfl) ⟨by have := hcs.1; show _ + 24 ≤ _; omega, by have := hcs.2; show _ + 3179 ≤ _; omega⟩ hl d_law_738 (by rw [hqm]; rfl) (fun H2 locs2 hLS2 => ?_)
  refine lv_icmp_eq (tgt := 1630) hx hb d_law_741 (by decide) (fun _ => ?_) (fun z => absurd rfl z)
  refine W.widen (k := cs + 40) (n := ss + 4000) (by show _ + 24 ≤ _; omega) (by show _ + 3179 ≤ _; omega) ?_
  exact kk _ _ _ _ _ _ _ hLS2 (hq1.trans hqx) hI1 hl
theorem law_14 {p : Program} {l : Launch} {e : Env} {s : State} {m : MethodId} {below : List Frame} {meth : Method} {c : Code} {b L : Nat} {xs : Nat → Int32} {Q : State → Prop} {H : Heap} {locs : List Loc} {cs ss : Nat} {ls : Array Slot} {D : va_G} {cA : ClassId} {qo qx qm n0 i cc : Nat} {M : Mem} {μ : Sl} {Gx Gm : Geo} (hF : LF p s m c b L xs) (hP : KP0 s D cA qo qx qm b L i cc n0 M μ Gx Gm H locs ls cs ss) (kk : KK p l e s m below meth c b Q D cA qo qx qm Gm i cc cs ss) : W p l e room_1 s m #[Value.ref b] below meth c H locs cs ss Q (F0 m 746 ls []) := by
  obtain ⟨hLS, hqx, hqm, hI, hcc, hl, hi, hLb, hcs⟩ := hP
  obtain ⟨hx, hb, hml, hown, hts, hX, hbl⟩ := id hF
  obtain ⟨⟨a1, a2, a3, a4, a5⟩, ⟨b1, b2, b3⟩, -, -, hS⟩ := id hLS
  have h0 := lv_at hl 0 rfl
  have h4 := lv_at hl 4 rfl
  obtain ⟨r, μ1, e1, e2, hI1⟩ := top_answer hI (xs (i + 1))
  refine lv_aload_n hx hb d_law_746 rfl (lv_at hl 1 rfl) ?_
  refine lw_arg (j := 1) hF hLb hS hl h0 h4 (by omega) rfl d_law_747 d_law_748 d_law_750 d_law_751 d_law_752 ?_
  refine lw_q (n := 1) (st := []) (M1 := M) hF hLS y_X5_answer q913 [.inl (.int (xs (i + 1)))] rfl rfl (r := r) (c_X5_answer a1.2.2.1 a2.cl a2.X a2.T l _ e1) ⟨rfl, rfl, Nat.le_of_ble_eq_true rfl, Nat.le_of_ble_eq_true rfl⟩ (Nat.le_of_ble_eq_true rfl) ⟨by have := hcs.1; omega, by have := hcs.2; omega⟩ hl d_law_753 (by rw [hqx]; rfl) (fun H1 locs1 hLS1 => ?_)
  have hS2 := hLS1.2.2.2.2
  refine lv_aload_n hx hb d_law_756 rfl (lv_at hl 2 rfl) ?_
  refine lw_arg (j := 1) hF hLb hS2 hl h0 h4 (by omega) rfl d_law_757 d_law_758 d_law_760 d_law_761 d_law_762 ?_
  refine lw_m (n := 1) (st := [.int r]) (μ1 := μ1) hF hLS1 y_X6_answer q1790 [.inl (.int (xs (i + 1)))] rfl rfl (r := r) (c_X6_answer b1.2.2.1 b2 l _ _ e2) ⟨rfl, rfl, Nat.le_of_ble_eq_true rfl, Nat.le_of_ble_eq_true rfl⟩ (Nat.le_of_ble_eq_true rfl) ⟨by have := hcs.1; omega, by have := hcs.2; omega⟩ hl d_law_763 (by rw [hqm]; rfl) (fun H2 locs2 hLS2 => ?_)
  refine lv_icmp_eq (tgt := 1630) hx hb d_law_766 (by decide) (fun _ => ?_) (fun z => absurd rfl z)
  refine W.widen (k := cs + 40) (n := ss + 4000) (by omega) (by omega) ?_
  exact kk _ _ _ _ _ _ _ hLS2 hqx hI1 hl
theorem law_16 {p : Program} {l : Launch} {e : Env} {s : State} {m : MethodId} {below : List Frame} {meth : Method} {c : Code} {b L : Nat} {xs : Nat → Int32} {Q : State → Prop} {H : Heap} {locs : List Loc} {cs ss : Nat} {ls : Array Slot} {D : va_G} {cA : ClassId} {qo qx qm n0 i cc : Nat} {M : Mem} {μ : Sl} {Gx Gm : Geo} (hF : LF p s m c b L xs) (hP : KP0 s D cA qo qx qm b L i cc n0 M μ Gx Gm H locs ls cs ss) (kk : KK p l e s m below meth c b Q D cA qo qx qm Gm i cc cs ss) : W p l e room_1 s m #[Value.ref b] below meth c H locs cs ss Q (F0 m 851 ls []) := by
  obtain ⟨hLS, hqx, hqm, hI, hcc, hl, hi, hLb, hcs⟩ := hP
  obtain ⟨hx, hb, hml, hown, hts, hX, hbl⟩ := id hF
  obtain ⟨⟨a1, a2, a3, a4, a5⟩, ⟨b1, b2, b3⟩, -, -, hS⟩ := id hLS
  have h0 := lv_at hl 0 rfl
  have h4 := lv_at hl 4 rfl
  obtain ⟨r, μ1, e1, e2, hI1⟩ := top_above hI (xs (i + 1)) (xs (i + 2)) (xs (i + 3))
  refine lv_aload_n hx hb d_law_851 rfl (lv_at hl 1 rfl) ?_
  refine lw_arg (j := 1) hF hLb hS hl h0 h4 (by omega) rfl d_law_852 d_law_853 d_law_855 d_law_856 d_law_857 ?_
  refine lw_arg (j := 2) hF hLb hS hl h0 h4 (by omega) rfl d_law_858 d_law_859 d_law_861 d_law_862 d_law_863 ?_
  refine lw_arg (j := 3) hF hLb hS hl h0 h4 (by omega) rfl d_law_864 d_law_865 d_law_867 d_law_868 d_law_869 ?_
  refine lw_q (n := 3) (st := []) (M1 := M) hF hLS y_X5_above q917 [.inl (.int (xs (i + 1))), .inl (.int (xs (i + 2))), .inl (.int (xs (i + 3)))] rfl rfl (r := r) (c_X5_above a1.2.2.1 a2.cl a2.X a2.T l _ e1) ⟨rfl, rfl, Nat.le_of_ble_eq_true rfl, Nat.le_of_ble_eq_true rfl⟩ (Nat.le_of_ble_eq_true rfl) ⟨by have := hcs.1; omega, by have := hcs.2; omega⟩ hl d_law_870 (by rw [hqx]; rfl) (fun H1 locs1 hLS1 => ?_)
  have hS2 := hLS1.2.2.2.2
  refine lv_aload_n hx hb d_law_873 rfl (lv_at hl 2 rfl) ?_
  refine lw_arg (j := 1) hF hLb hS2 hl h0 h4 (by omega) rfl d_law_874 d_law_875 d_law_877 d_law_878 d_law_879 ?_
  refine lw_arg (j := 2) hF hLb hS2 hl h0 h4 (by omega) rfl d_law_880 d_law_881 d_law_883 d_law_884 d_law_885 ?_
  refine lw_arg (j := 3) hF hLb hS2 hl h0 h4 (by omega) rfl d_law_886 d_law_887 d_law_889 d_law_890 d_law_891 ?_
  refine lw_m (n := 3) (st := [.int r]) (μ1 := μ1) hF hLS1 y_X6_above q1814 [.inl (.int (xs (i + 1))), .inl (.int (xs (i + 2))), .inl (.int (xs (i + 3)))] rfl rfl (r := r) (c_X6_above b1.2.2.1 b2 l _ _ e2) ⟨rfl, rfl, Nat.le_of_ble_eq_true rfl, Nat.le_of_ble_eq_true rfl⟩ (Nat.le_of_ble_eq_true rfl) ⟨by have := hcs.1; omega, by have := hcs.2; omega⟩ hl d_law_892 (by rw [hqm]; rfl) (fun H2 locs2 hLS2 => ?_)
  refine lv_icmp_eq (tgt := 1630) hx hb d_law_895 (by decide) (fun _ => ?_) (fun z => absurd rfl z)
  refine W.widen (k := cs + 40) (n := ss + 4000) (by omega) (by omega) ?_
  exact kk _ _ _ _ _ _ _ hLS2 hqx hI1 hl
theorem law_17 {p : Program} {l : Launch} {e : Env} {s : State} {m : MethodId} {below : List Frame} {meth : Method} {c : Code} {b L : Nat} {xs : Nat → Int32} {Q : State → Prop} {H : Heap} {locs : List Loc} {cs ss : Nat} {ls : Array Slot} {D : va_G} {cA : ClassId} {qo qx qm n0 i cc : Nat} {M : Mem} {μ : Sl} {Gx Gm : Geo} (hF : LF p s m c b L xs) (hP : KP0 s D cA qo qx qm b L i cc n0 M μ Gx Gm H locs ls cs ss) (kk : KK p l e s m below meth c b Q D cA qo qx qm Gm i cc cs ss) : W p l e room_1 s m #[Value.ref b] below meth c H locs cs ss Q (F0 m 900 ls []) := by
  obtain ⟨hLS, hqx, hqm, hI, hcc, hl, hi, hLb, hcs⟩ := hP
  obtain ⟨hx, hb, hml, hown, hts, hX, hbl⟩ := id hF
  obtain ⟨⟨a1, a2, a3, a4, a5⟩, ⟨b1, b2, b3⟩, -, -, hS⟩ := id hLS
  have h0 := lv_at hl 0 rfl
  have h4 := lv_at hl 4 rfl
  obtain ⟨r, μ1, e1, e2, hI1⟩ := top_heir hI (xs (i + 1)) (xs (i + 2)) (xs (i + 3))
  refine lv_aload_n hx hb d_law_900 rfl (lv_at hl 1 rfl) ?_
  refine lw_arg (j := 1) hF hLb hS hl h0 h4 (by omega) rfl d_law_901 d_law_902 d_law_904 d_law_905 d_law_906 ?_
  refine lw_arg (j := 2) hF hLb hS hl h0 h4 (by omega) rfl d_law_907 d_law_908 d_law_910 d_law_911 d_law_912 ?_
  refine lw_arg (j := 3) hF hLb hS hl h0 h4 (by omega) rfl d_law_913 d_law_914 d_law_916 d_law_917 d_law_918 ?_
  refine lw_q (n := 3) (st := []) (M1 := M) hF hLS y_X5_heir q925 [.inl (.int (xs (i + 1))), .inl (.int (xs (i + 2))), .inl (.int (xs (i + 3)))] rfl rfl (r := r) (c_X5_heir a1.2.2.1 a2.cl a2.X a2.T l _ e1) ⟨rfl, rfl, Nat.le_of_ble_eq_true rfl, Nat.le_of_ble_eq_true rfl⟩ (Nat.le_of_ble_eq_true rfl) ⟨by have := hcs.1; omega, by have := hcs.2; omega⟩ hl d_law_919 (by rw [hqx]; rfl) (fun H1 locs1 hLS1 => ?_)
  have hS2 := hLS1.2.2.2.2
  refine lv_aload_n hx hb d_law_922 rfl (lv_at hl 2 rfl) ?_
  refine lw_arg (j := 1) hF hLb hS2 hl h0 h4 (by omega) rfl d_law_923 d_law_924 d_law_926 d_law_927 d_law_928 ?_
  refine lw_arg (j := 2) hF hLb hS2 hl h0 h4 (by omega) rfl d_law_929 d_law_930 d_law_932 d_law_933 d_law_934 ?_
  refine lw_arg (j := 3) hF hLb hS2 hl h0 h4 (by omega) rfl d_law_935 d_law_936 d_law_938 d_law_939 d_law_940 ?_
  refine lw_m (n := 3) (st := [.int r]) (μ1 := μ1) hF hLS1 y_X6_heir q1818 [.inl (.int (xs (i + 1))), .inl (.int (xs (i + 2))), .inl (.int (xs (i + 3)))] rfl rfl (r := r) (c_X6_heir b1.2.2.1 b2 l _ _ e2) ⟨rfl, rfl, Nat.le_of_ble_eq_true rfl, Nat.le_of_ble_eq_true rfl⟩ (Nat.le_of_ble_eq_true rfl) ⟨by have := hcs.1; omega, by have := hcs.2; omega⟩ hl d_law_941 (by rw [hqm]; rfl) (fun H2 locs2 hLS2 => ?_)
  refine lv_icmp_eq (tgt := 1630) hx hb d_law_944 (by decide) (fun _ => ?_) (fun z => absurd rfl z)
  refine W.widen (k := cs + 40) (n := ss + 4000) (by omega) (by omega) ?_
  exact kk _ _ _ _ _ _ _ hLS2 hqx hI1 hl
theorem law_18 {p : Program} {l : Launch} {e : Env} {s : State} {m : MethodId} {below : List Frame} {meth : Method} {c : Code} {b L : Nat} {xs : Nat → Int32} {Q : State → Prop} {H : Heap} {locs : List Loc} {cs ss : Nat} {ls : Array Slot} {D : va_G} {cA : ClassId} {qo qx qm n0 i cc : Nat} {M : Mem} {μ : Sl} {Gx Gm : Geo} (hF : LF p s m c b L xs) (hP : KP0 s D cA qo qx qm b L i cc n0 M μ Gx Gm H locs ls cs ss) (kk : KK p l e s m below meth c b Q D cA qo qx qm Gm i cc cs ss) : W p l e room_1 s m #[Value.ref b] below meth c H locs cs ss Q (F0 m 949 ls []) := by
  obtain ⟨hLS, hqx, hqm, hI, hcc, hl, hi, hLb, hcs⟩ := hP
  obtain ⟨hx, hb, hml, hown, hts, hX, hbl⟩ := id hF
  obtain ⟨⟨a1, a2, a3, a4, a5⟩, ⟨b1, b2, b3⟩, -, -, hS⟩ := id hLS
  have h0 := lv_at hl 0 rfl
  have h4 := lv_at hl 4 rfl
  obtain ⟨r, μ1, e1, e2, hI1⟩ := top_holds hI (xs (i + 1)) (xs (i + 2))
  refine lv_aload_n hx hb d_law_949 rfl (lv_at hl 1 rfl) ?_
  refine lw_arg (j := 1) hF hLb hS hl h0 h4 (by omega) rfl d_law_950 d_law_951 d_law_953 d_law_954 d_law_955 ?_
  refine lw_arg (j := 2) hF hLb hS hl h0 h4 (by omega) rfl d_law_956 d_law_957 d_law_959 d_law_960 d_law_961 ?_
  refine lw_q (n := 2) (st := []) (M1 := M) hF hLS y_X5_holds q932 [.inl (.int (xs (i + 1))), .inl (.int (xs (i + 2)))] rfl rfl (r := r) (c_X5_holds a1.2.2.1 a2.cl a2.X a2.T l _ e1) ⟨rfl, rfl, Nat.le_of_ble_eq_true rfl, Nat.le_of_ble_eq_true rfl⟩ (Nat.le_of_ble_eq_true rfl) ⟨by have := hcs.1; omega, by have := hcs.2; omega⟩ hl d_law_962 (by rw [hqx]; rfl) (fun H1 locs1 hLS1 => ?_)
  have hS2 := hLS1.2.2.2.2
  refine lv_aload_n hx hb d_law_965 rfl (lv_at hl 2 rfl) ?_
  refine lw_arg (j := 1) hF hLb hS2 hl h0 h4 (by omega) rfl d_law_966 d_law_967 d_law_969 d_law_970 d_law_971 ?_
  refine lw_arg (j := 2) hF hLb hS2 hl h0 h4 (by omega) rfl d_law_972 d_law_973 d_law_975 d_law_976 d_law_977 ?_
  refine lw_m (n := 2) (st := [.int r]) (μ1 := μ1) hF hLS1 y_X6_holds q1822 [.inl (.int (xs (i + 1))), .inl (.int (xs (i + 2)))] rfl rfl (r := r) (c_X6_holds b1.2.2.1 b2 l _ _ e2) ⟨rfl, rfl, Nat.le_of_ble_eq_true rfl, Nat.le_of_ble_eq_true rfl⟩ (Nat.le_of_ble_eq_true rfl) ⟨by have := hcs.1; omega, by have := hcs.2; omega⟩ hl d_law_978 (by rw [hqm]; rfl) (fun H2 locs2 hLS2 => ?_)
  refine lv_icmp_eq (tgt := 1630) hx hb d_law_981 (by decide) (fun _ => ?_) (fun z => absurd rfl z)
  refine W.widen (k := cs + 40) (n := ss + 4000) (by omega) (by omega) ?_
  exact kk _ _ _ _ _ _ _ hLS2 hqx hI1 hl
theorem law_19 {p : Program} {l : Launch} {e : Env} {s : State} {m : MethodId} {below : List Frame} {meth : Method} {c : Code} {b L : Nat} {xs : Nat → Int32} {Q : State → Prop} {H : Heap} {locs : List Loc} {cs ss : Nat} {ls : Array Slot} {D : va_G} {cA : ClassId} {qo qx qm n0 i cc : Nat} {M : Mem} {μ : Sl} {Gx Gm : Geo} (hF : LF p s m c b L xs) (hP : KP0 s D cA qo qx qm b L i cc n0 M μ Gx Gm H locs ls cs ss) (kk : KK p l e s m below meth c b Q D cA qo qx qm Gm i cc cs ss) : W p l e room_1 s m #[Value.ref b] below meth c H locs cs ss Q (F0 m 986 ls []) := by
  obtain ⟨hLS, hqx, hqm, hI, hcc, hl, hi, hLb, hcs⟩ := hP
  obtain ⟨hx, hb, hml, hown, hts, hX, hbl⟩ := id hF
  obtain ⟨⟨a1, a2, a3, a4, a5⟩, ⟨b1, b2, b3⟩, -, -, hS⟩ := id hLS
  have h0 := lv_at hl 0 rfl
  have h4 := lv_at hl 4 rfl
  obtain ⟨r, μ1, e1, e2, hI1⟩ := top_aliases hI (xs (i + 1)) (xs (i + 2))
  refine lv_aload_n hx hb d_law_986 rfl (lv_at hl 1 rfl) ?_
  refine lw_arg (j := 1) hF hLb hS hl h0 h4 (by omega) rfl d_law_987 d_law_988 d_law_990 d_law_991 d_law_992 ?_
  refine lw_arg (j := 2) hF hLb hS hl h0 h4 (by omega) rfl d_law_993 d_law_994 d_law_996 d_law_997 d_law_998 ?_
  refine lw_q (n := 2) (st := []) (M1 := M) hF hLS y_X5_aliases q947 [.inl (.int (xs (i + 1))), .inl (.int (xs (i + 2)))] rfl rfl (r := r) (c_X5_aliases a1.2.2.1 a2.cl a2.X a2.T l _ e1) ⟨rfl, rfl, Nat.le_of_ble_eq_true rfl, Nat.le_of_ble_eq_true rfl⟩ (Nat.le_of_ble_eq_true rfl) ⟨by have := hcs.1; omega, by have := hcs.2; omega⟩ hl d_law_999 (by rw [hqx]; rfl) (fun H1 locs1 hLS1 => ?_)
  have hS2 := hLS1.2.2.2.2
  refine lv_aload_n hx hb d_law_1002 rfl (lv_at hl 2 rfl) ?_
  refine lw_arg (j := 1) hF hLb hS2 hl h0 h4 (by omega) rfl d_law_1003 d_law_1004 d_law_1006 d_law_1007 d_law_1008 ?_
  refine lw_arg (j := 2) hF hLb hS2 hl h0 h4 (by omega) rfl d_law_1009 d_law_1010 d_law_1012 d_law_1013 d_law_1014 ?_
  refine lw_m (n := 2) (st := [.int r]) (μ1 := μ1) hF hLS1 y_X6_aliases q1826 [.inl (.int (xs (i + 1))), .inl (.int (xs (i + 2)))] rfl rfl (r := r) (c_X6_aliases b1.2.2.1 b2 l _ _ e2) ⟨rfl, rfl, Nat.le_of_ble_eq_true rfl, Nat.le_of_ble_eq_true rfl⟩ (Nat.le_of_ble_eq_true rfl) ⟨by have := hcs.1; omega, by have := hcs.2; omega⟩ hl d_law_1015 (by rw [hqm]; rfl) (fun H2 locs2 hLS2 => ?_)
  refine lv_icmp_eq (tgt := 1630) hx hb d_law_1018 (by decide) (fun _ => ?_) (fun z => absurd rfl z)
  refine W.widen (k := cs + 40) (n := ss + 4000) (by omega) (by omega) ?_
  exact kk _ _ _ _ _ _ _ hLS2 hqx hI1 hl
