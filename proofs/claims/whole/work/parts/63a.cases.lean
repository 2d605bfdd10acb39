def bl_in (x : Int32) (L : Nat) : Prop := vp_in (x + 1) L ∧ vp_in (x + 2) L ∧ vp_in (x + 3) L ∧ vp_in (x + 4) L ∧ vp_in (x + 5) L
theorem lc_type {w : bk_W} {X : bk_X} {b L : Nat} {xs : Nat → Int32} {x : Int32} {σ τ : bk_S} (hX : bk_Ok bl_K w X code RL 4 13 526) (hs : bl_Sc X b L xs) (hin : bl_in x L) (hR : RR σ τ) (hk : ∀ σ' τ', RR σ' τ' → bk_At bl_K w X 1249 (bl_lv w b x) [] (bl_s lyC.2 σ' τ')) : bk_At bl_K w X 196 (bl_lv w b x) [] (bl_s lyC.2 σ τ) := by
  refine (?_ : True → _) trivial
  refine bk_aload_n hX 2 dL_law_196 rfl ?_
  refine bl_arg hX hs bk_ci_1 hin.1 dL_law_197 dL_law_198 dL_law_199 dL_law_200 dL_law_201 ?_
  refine bl_arg hX hs bk_ci_2 hin.2.1 dL_law_202 dL_law_203 dL_law_204 dL_law_205 dL_law_206 ?_
  refine bl_call1_i hX (post := (bl_Q1 (w_X9_type (xs (x + (1 : Int32)).toNatClampNeg) (xs (x + (2 : Int32)).toNatClampNeg) τ))) [.int (xs (x + (1 : Int32)).toNatClampNeg), .int (xs (x + (2 : Int32)).toNatClampNeg)] [] yk_X8_type yv_X8_type lk_L_13 rfl rfl kc_0 rfl rfl (Nat.le_of_ble_eq_true rfl) ⟨Nat.le_of_ble_eq_true rfl, Nat.le_of_ble_eq_true rfl⟩ dL_law_207 (fun _ => m_X8_type w (bl_Q1.of (s_type hR))) (fun r σ1 => ?_)
  refine bk_aload_n hX 1 dL_law_210 rfl ?_
  refine bl_arg hX hs bk_ci_1 hin.1 dL_law_211 dL_law_212 dL_law_213 dL_law_214 dL_law_215 ?_
  refine bl_arg hX hs bk_ci_2 hin.2.1 dL_law_216 dL_law_217 dL_law_218 dL_law_219 dL_law_220 ?_
  refine bl_call2_i hX (post := bl_Q2 r σ1) [.int (xs (x + (1 : Int32)).toNatClampNeg), .int (xs (x + (2 : Int32)).toNatClampNeg)] [.int r] yk_X9_type yv_X9_type lk_L_17 rfl rfl km_o rfl rfl (Nat.le_of_ble_eq_true rfl) ⟨Nat.le_of_ble_eq_true rfl, Nat.le_of_ble_eq_true rfl⟩ dL_law_221 (fun z => m_X9_type (bl_w lyC.2 w) z.to) (fun r' τ1 => ?_)
  exact bl_endi hX dL_law_224 rfl hk
theorem lc_wipe {w : bk_W} {X : bk_X} {b L : Nat} {xs : Nat → Int32} {x : Int32} {σ τ : bk_S} (hX : bk_Ok bl_K w X code RL 4 13 526) (hs : bl_Sc X b L xs) (hin : bl_in x L) (hR : RR σ τ) (hk : ∀ σ' τ', RR σ' τ' → bk_At bl_K w X 1249 (bl_lv w b x) [] (bl_s lyC.2 σ' τ')) : bk_At bl_K w X 229 (bl_lv w b x) [] (bl_s lyC.2 σ τ) := by
  refine (?_ : True → _) trivial
  refine bk_aload_n hX 2 dL_law_229 rfl ?_
  refine bl_arg hX hs bk_ci_1 hin.1 dL_law_230 dL_law_231 dL_law_232 dL_law_233 dL_law_234 ?_
  refine bl_call1_i hX (post := (bl_Q1 (w_X9_wipe (xs (x + (1 : Int32)).toNatClampNeg) τ))) [.int (xs (x + (1 : Int32)).toNatClampNeg)] [] yk_X8_wipe yv_X8_wipe lk_L_18 rfl rfl kc_0 rfl rfl (Nat.le_of_ble_eq_true rfl) ⟨Nat.le_of_ble_eq_true rfl, Nat.le_of_ble_eq_true rfl⟩ dL_law_235 (fun _ => m_X8_wipe w (bl_Q1.of (s_wipe hR))) (fun r σ1 => ?_)
  refine bk_aload_n hX 1 dL_law_238 rfl ?_
  refine bl_arg hX hs bk_ci_1 hin.1 dL_law_239 dL_law_240 dL_law_241 dL_law_242 dL_law_243 ?_
  refine bl_call2_i hX (post := bl_Q2 r σ1) [.int (xs (x + (1 : Int32)).toNatClampNeg)] [.int r] yk_X9_wipe yv_X9_wipe lk_L_22 rfl rfl km_o rfl rfl (Nat.le_of_ble_eq_true rfl) ⟨Nat.le_of_ble_eq_true rfl, Nat.le_of_ble_eq_true rfl⟩ dL_law_244 (fun z => m_X9_wipe (bl_w lyC.2 w) z.to) (fun r' τ1 => ?_)
  exact bl_endi hX dL_law_247 rfl hk
theorem lc_undo {w : bk_W} {X : bk_X} {b L : Nat} {xs : Nat → Int32} {x : Int32} {σ τ : bk_S} (hX : bk_Ok bl_K w X code RL 4 13 526) (hs : bl_Sc X b L xs) (hin : bl_in x L) (hR : RR σ τ) (hk : ∀ σ' τ', RR σ' τ' → bk_At bl_K w X 1249 (bl_lv w b x) [] (bl_s lyC.2 σ' τ')) : bk_At bl_K w X 252 (bl_lv w b x) [] (bl_s lyC.2 σ τ) := by
  refine (?_ : True → _) trivial
  refine bk_aload_n hX 2 dL_law_252 rfl ?_
  refine bl_arg hX hs bk_ci_1 hin.1 dL_law_253 dL_law_254 dL_law_255 dL_law_256 dL_law_257 ?_
  refine bl_call1_i hX (post := (bl_Q1 (w_X9_undo (xs (x + (1 : Int32)).toNatClampNeg) τ))) [.int (xs (x + (1 : Int32)).toNatClampNeg)] [] yk_X8_undo yv_X8_undo lk_L_23 rfl rfl kc_0 rfl rfl (Nat.le_of_ble_eq_true rfl) ⟨Nat.le_of_ble_eq_true rfl, Nat.le_of_ble_eq_true rfl⟩ dL_law_258 (fun _ => m_X8_undo w (bl_Q1.of (s_undo hR))) (fun r σ1 => ?_)
  refine bk_aload_n hX 1 dL_law_261 rfl ?_
  refine bl_arg hX hs bk_ci_1 hin.1 dL_law_262 dL_law_263 dL_law_264 dL_law_265 dL_law_266 ?_
  refine bl_call2_i hX (post := bl_Q2 r σ1) [.int (xs (x + (1 : Int32)).toNatClampNeg)] [.int r] yk_X9_undo yv_X9_undo lk_L_26 rfl rfl km_o rfl rfl (Nat.le_of_ble_eq_true rfl) ⟨Nat.le_of_ble_eq_true rfl, Nat.le_of_ble_eq_true rfl⟩ dL_law_267 (fun z => m_X9_undo (bl_w lyC.2 w) z.to) (fun r' τ1 => ?_)
  exact bl_endi hX dL_law_270 rfl hk
theorem lc_fault {w : bk_W} {X : bk_X} {b L : Nat} {xs : Nat → Int32} {x : Int32} {σ τ : bk_S} (hX : bk_Ok bl_K w X code RL 4 13 526) (hs : bl_Sc X b L xs) (hin : bl_in x L) (hR : RR σ τ) (hk : ∀ σ' τ', RR σ' τ' → bk_At bl_K w X 1249 (bl_lv w b x) [] (bl_s lyC.2 σ' τ')) : bk_At bl_K w X 275 (bl_lv w b x) [] (bl_s lyC.2 σ τ) := by
  refine (?_ : True → _) trivial
  refine bk_aload_n hX 2 dL_law_275 rfl ?_
  refine bl_arg hX hs bk_ci_1 hin.1 dL_law_276 dL_law_277 dL_law_278 dL_law_279 dL_law_280 ?_
  refine bl_call1_i hX (post := (fun r σ1 => bl_Q1 (w_X9_fault (xs (x + (1 : Int32)).toNatClampNeg) τ) r σ ∧ σ1 = σ)) [.int (xs (x + (1 : Int32)).toNatClampNeg)] [] yk_X8_fault yv_X8_fault lk_L_27 rfl rfl kc_0 rfl rfl (Nat.le_of_ble_eq_true rfl) ⟨Nat.le_of_ble_eq_true rfl, Nat.le_of_ble_eq_true rfl⟩ dL_law_281 (fun _ => m_X8_fault w (bl_Q1.of (s_fault hR))) (bk_pu (fun r => ?_))
  refine bk_aload_n hX 1 dL_law_284 rfl ?_
  refine bl_arg hX hs bk_ci_1 hin.1 dL_law_285 dL_law_286 dL_law_287 dL_law_288 dL_law_289 ?_
  refine bl_call2_i hX (post := bl_Q2 r σ) [.int (xs (x + (1 : Int32)).toNatClampNeg)] [.int r] yk_X9_fault yv_X9_fault lk_L_30 rfl rfl km_o rfl rfl (Nat.le_of_ble_eq_true rfl) ⟨Nat.le_of_ble_eq_true rfl, Nat.le_of_ble_eq_true rfl⟩ dL_law_290 (fun z => m_X9_fault (bl_w lyC.2 w) z.to) (fun r' τ1 => ?_)
  exact bl_endi hX dL_law_293 rfl hk
theorem lc_hook {w : bk_W} {X : bk_X} {b L : Nat} {xs : Nat → Int32} {x : Int32} {σ τ : bk_S} (hX : bk_Ok bl_K w X code RL 4 13 526) (hs : bl_Sc X b L xs) (hin : bl_in x L) (hR : RR σ τ) (hk : ∀ σ' τ', RR σ' τ' → bk_At bl_K w X 1249 (bl_lv w b x) [] (bl_s lyC.2 σ' τ')) : bk_At bl_K w X 298 (bl_lv w b x) [] (bl_s lyC.2 σ τ) := by
  refine (?_ : True → _) trivial
  refine bk_aload_n hX 2 dL_law_298 rfl ?_
  refine bl_arg hX hs bk_ci_1 hin.1 dL_law_299 dL_law_300 dL_law_301 dL_law_302 dL_law_303 ?_
  refine bl_call1_i hX (post := (bl_Q1 (w_X9_hook (xs (x + (1 : Int32)).toNatClampNeg) τ))) [.int (xs (x + (1 : Int32)).toNatClampNeg)] [] yk_X8_hook yv_X8_hook lk_L_31 rfl rfl kc_0 rfl rfl (Nat.le_of_ble_eq_true rfl) ⟨Nat.le_of_ble_eq_true rfl, Nat.le_of_ble_eq_true rfl⟩ dL_law_304 (fun _ => m_X8_hook w (bl_Q1.of (s_hook hR))) (fun r σ1 => ?_)
  refine bk_aload_n hX 1 dL_law_307 rfl ?_
  refine bl_arg hX hs bk_ci_1 hin.1 dL_law_308 dL_law_309 dL_law_310 dL_law_311 dL_law_312 ?_
  refine bl_call2_i hX (post := bl_Q2 r σ1) [.int (xs (x + (1 : Int32)).toNatClampNeg)] [.int r] yk_X9_hook yv_X9_hook lk_L_34 rfl rfl km_o rfl rfl (Nat.le_of_ble_eq_true rfl) ⟨Nat.le_of_ble_eq_true rfl, Nat.le_of_ble_eq_true rfl⟩ dL_law_313 (fun z => m_X9_hook (bl_w lyC.2 w) z.to) (fun r' τ1 => ?_)
  exact bl_endi hX dL_law_316 rfl hk
theorem lc_thing {w : bk_W} {X : bk_X} {b L : Nat} {xs : Nat → Int32} {x : Int32} {σ τ : bk_S} (hX : bk_Ok bl_K w X code RL 4 13 526) (hs : bl_Sc X b L xs) (hin : bl_in x L) (hR : RR σ τ) (hk : ∀ σ' τ', RR σ' τ' → bk_At bl_K w X 1249 (bl_lv w b x) [] (bl_s lyC.2 σ' τ')) : bk_At bl_K w X 321 (bl_lv w b x) [] (bl_s lyC.2 σ τ) := by
  refine (?_ : True → _) trivial
  refine bk_aload_n hX 2 dL_law_321 rfl ?_
  refine bl_arg hX hs bk_ci_1 hin.1 dL_law_322 dL_law_323 dL_law_324 dL_law_325 dL_law_326 ?_
  refine bl_arg hX hs bk_ci_2 hin.2.1 dL_law_327 dL_law_328 dL_law_329 dL_law_330 dL_law_331 ?_
  refine bl_call1_i hX (post := (bl_Q1 (w_X9_thing (xs (x + (1 : Int32)).toNatClampNeg) (xs (x + (2 : Int32)).toNatClampNeg) τ))) [.int (xs (x + (1 : Int32)).toNatClampNeg), .int (xs (x + (2 : Int32)).toNatClampNeg)] [] yk_X8_thing yv_X8_thing lk_L_35 rfl rfl kc_0 rfl rfl (Nat.le_of_ble_eq_true rfl) ⟨Nat.le_of_ble_eq_true rfl, Nat.le_of_ble_eq_true rfl⟩ dL_law_332 (fun _ => m_X8_thing w (bl_Q1.of (s_thing hR))) (fun r σ1 => ?_)
  refine bk_aload_n hX 1 dL_law_335 rfl ?_
  refine bl_arg hX hs bk_ci_1 hin.1 dL_law_336 dL_law_337 dL_law_338 dL_law_339 dL_law_340 ?_
  refine bl_arg hX hs bk_ci_2 hin.2.1 dL_law_341 dL_law_342 dL_law_343 dL_law_344 dL_law_345 ?_
  refine bl_call2_i hX (post := bl_Q2 r σ1) [.int (xs (x + (1 : Int32)).toNatClampNeg), .int (xs (x + (2 : Int32)).toNatClampNeg)] [.int r] yk_X9_thing yv_X9_thing lk_L_38 rfl rfl km_o rfl rfl (Nat.le_of_ble_eq_true rfl) ⟨Nat.le_of_ble_eq_true rfl, Nat.le_of_ble_eq_true rfl⟩ dL_law_346 (fun z => m_X9_thing (bl_w lyC.2 w) z.to) (fun r' τ1 => ?_)
  exact bl_endi hX dL_law_349 rfl hk
theorem lc_event {w : bk_W} {X : bk_X} {b L : Nat} {xs : Nat → Int32} {x : Int32} {σ τ : bk_S} (hX : bk_Ok bl_K w X code RL 4 13 526) (hs : bl_Sc X b L xs) (hin : bl_in x L) (hR : RR σ τ) (hk : ∀ σ' τ', RR σ' τ' → bk_At bl_K w X 1249 (bl_lv w b x) [] (bl_s lyC.2 σ' τ')) : bk_At bl_K w X 354 (bl_lv w b x) [] (bl_s lyC.2 σ τ) := by
  refine (?_ : True → _) trivial
  refine bk_aload_n hX 2 dL_law_354 rfl ?_
  refine bl_arg hX hs bk_ci_1 hin.1 dL_law_355 dL_law_356 dL_law_357 dL_law_358 dL_law_359 ?_
  refine bl_arg hX hs bk_ci_2 hin.2.1 dL_law_360 dL_law_361 dL_law_362 dL_law_363 dL_law_364 ?_
  refine bl_arg hX hs bk_ci_3 hin.2.2.1 dL_law_365 dL_law_366 dL_law_367 dL_law_368 dL_law_369 ?_
  refine bl_call1_i hX (post := (bl_Q1 (w_X9_event (xs (x + (1 : Int32)).toNatClampNeg) (xs (x + (2 : Int32)).toNatClampNeg) (xs (x + (3 : Int32)).toNatClampNeg) τ))) [.int (xs (x + (1 : Int32)).toNatClampNeg), .int (xs (x + (2 : Int32)).toNatClampNeg), .int (xs (x + (3 : Int32)).toNatClampNeg)] [] yk_X8_event yv_X8_event lk_L_39 rfl rfl kc_0 rfl rfl (Nat.le_of_ble_eq_true rfl) ⟨Nat.le_of_ble_eq_true rfl, Nat.le_of_ble_eq_true rfl⟩ dL_law_370 (fun _ => m_X8_event w (bl_Q1.of (s_event hR))) (fun r σ1 => ?_)
  refine bk_aload_n hX 1 dL_law_373 rfl ?_
  refine bl_arg hX hs bk_ci_1 hin.1 dL_law_374 dL_law_375 dL_law_376 dL_law_377 dL_law_378 ?_
  refine bl_arg hX hs bk_ci_2 hin.2.1 dL_law_379 dL_law_380 dL_law_381 dL_law_382 dL_law_383 ?_
  refine bl_arg hX hs bk_ci_3 hin.2.2.1 dL_law_384 dL_law_385 dL_law_386 dL_law_387 dL_law_388 ?_
  refine bl_call2_i hX (post := bl_Q2 r σ1) [.int (xs (x + (1 : Int32)).toNatClampNeg), .int (xs (x + (2 : Int32)).toNatClampNeg), .int (xs (x + (3 : Int32)).toNatClampNeg)] [.int r] yk_X9_event yv_X9_event lk_L_43 rfl rfl km_o rfl rfl (Nat.le_of_ble_eq_true rfl) ⟨Nat.le_of_ble_eq_true rfl, Nat.le_of_ble_eq_true rfl⟩ dL_law_389 (fun z => m_X9_event (bl_w lyC.2 w) z.to) (fun r' τ1 => ?_)
  exact bl_endi hX dL_law_392 rfl hk
theorem lc_back {w : bk_W} {X : bk_X} {b L : Nat} {xs : Nat → Int32} {x : Int32} {σ τ : bk_S} (hX : bk_Ok bl_K w X code RL 4 13 526) (hs : bl_Sc X b L xs) (hin : bl_in x L) (hR : RR σ τ) (hk : ∀ σ' τ', RR σ' τ' → bk_At bl_K w X 1249 (bl_lv w b x) [] (bl_s lyC.2 σ' τ')) : bk_At bl_K w X 397 (bl_lv w b x) [] (bl_s lyC.2 σ τ) := by
  refine (?_ : True → _) trivial
  refine bk_aload_n hX 2 dL_law_397 rfl ?_
  refine bl_call1_i hX (post := (bl_Q1 (w_X9_back τ))) [] [] yk_X8_back yv_X8_back lk_L_44 rfl rfl kc_0 rfl rfl (Nat.le_of_ble_eq_true rfl) ⟨Nat.le_of_ble_eq_true rfl, Nat.le_of_ble_eq_true rfl⟩ dL_law_398 (fun _ => m_X8_back w (bl_Q1.of (s_back hR))) (fun r σ1 => ?_)
  refine bk_aload_n hX 1 dL_law_401 rfl ?_
  refine bl_call2_i hX (post := bl_Q2 r σ1) [] [.int r] yk_X9_back yv_X9_back lk_L_48 rfl rfl km_o rfl rfl (Nat.le_of_ble_eq_true rfl) ⟨Nat.le_of_ble_eq_true rfl, Nat.le_of_ble_eq_true rfl⟩ dL_law_402 (fun z => m_X9_back (bl_w lyC.2 w) z.to) (fun r' τ1 => ?_)
  exact bl_endi hX dL_law_405 rfl hk
theorem lc_read {w : bk_W} {X : bk_X} {b L : Nat} {xs : Nat → Int32} {x : Int32} {σ τ : bk_S} (hX : bk_Ok bl_K w X code RL 4 13 526) (hs : bl_Sc X b L xs) (hin : bl_in x L) (hR : RR σ τ) (hk : ∀ σ' τ', RR σ' τ' → bk_At bl_K w X 1249 (bl_lv w b x) [] (bl_s lyC.2 σ' τ')) : bk_At bl_K w X 410 (bl_lv w b x) [] (bl_s lyC.2 σ τ) := by
  refine (?_ : True → _) trivial
  refine bk_aload_n hX 2 dL_law_410 rfl ?_
  refine bl_arg hX hs bk_ci_1 hin.1 dL_law_411 dL_law_412 dL_law_413 dL_law_414 dL_law_415 ?_
  refine bl_call1_i hX (post := (bl_Q1 (w_X9_read (xs (x + (1 : Int32)).toNatClampNeg) τ))) [.int (xs (x + (1 : Int32)).toNatClampNeg)] [] yk_X8_read yv_X8_read lk_L_49 rfl rfl kc_0 rfl rfl (Nat.le_of_ble_eq_true rfl) ⟨Nat.le_of_ble_eq_true rfl, Nat.le_of_ble_eq_true rfl⟩ dL_law_416 (fun _ => m_X8_read w (bl_Q1.of (s_read hR))) (fun r σ1 => ?_)
  refine bk_aload_n hX 1 dL_law_419 rfl ?_
  refine bl_arg hX hs bk_ci_1 hin.1 dL_law_420 dL_law_421 dL_law_422 dL_law_423 dL_law_424 ?_
  refine bl_call2_i hX (post := bl_Q2 r σ1) [.int (xs (x + (1 : Int32)).toNatClampNeg)] [.int r] yk_X9_read yv_X9_read lk_L_52 rfl rfl km_o rfl rfl (Nat.le_of_ble_eq_true rfl) ⟨Nat.le_of_ble_eq_true rfl, Nat.le_of_ble_eq_true rfl⟩ dL_law_425 (fun z => m_X9_read (bl_w lyC.2 w) z.to) (fun r' τ1 => ?_)
  exact bl_endi hX dL_law_428 rfl hk
theorem lc_heat {w : bk_W} {X : bk_X} {b L : Nat} {xs : Nat → Int32} {x : Int32} {σ τ : bk_S} (hX : bk_Ok bl_K w X code RL 4 13 526) (hs : bl_Sc X b L xs) (hin : bl_in x L) (hR : RR σ τ) (hk : ∀ σ' τ', RR σ' τ' → bk_At bl_K w X 1249 (bl_lv w b x) [] (bl_s lyC.2 σ' τ')) : bk_At bl_K w X 433 (bl_lv w b x) [] (bl_s lyC.2 σ τ) := by
  refine (?_ : True → _) trivial
  refine bk_aload_n hX 2 dL_law_433 rfl ?_
  refine bl_arg hX hs bk_ci_1 hin.1 dL_law_434 dL_law_435 dL_law_436 dL_law_437 dL_law_438 ?_
  refine bl_arg hX hs bk_ci_2 hin.2.1 dL_law_439 dL_law_440 dL_law_441 dL_law_442 dL_law_443 ?_
  refine bl_arg hX hs bk_ci_3 hin.2.2.1 dL_law_444 dL_law_445 dL_law_446 dL_law_447 dL_law_448 ?_
  refine bl_call1_i hX (post := (bl_Q1 (w_X9_heat (xs (x + (1 : Int32)).toNatClampNeg) (xs (x + (2 : Int32)).toNatClampNeg) (xs (x + (3 : Int32)).toNatClampNeg) τ))) [.int (xs (x + (1 : Int32)).toNatClampNeg), .int (xs (x + (2 : Int32)).toNatClampNeg), .int (xs (x + (3 : Int32)).toNatClampNeg)] [] yk_X8_heat yv_X8_heat lk_L_53 rfl rfl kc_0 rfl rfl (Nat.le_of_ble_eq_true rfl) ⟨Nat.le_of_ble_eq_true rfl, Nat.le_of_ble_eq_true rfl⟩ dL_law_449 (fun _ => m_X8_heat w (bl_Q1.of (s_heat hR))) (fun r σ1 => ?_)
  refine bk_aload_n hX 1 dL_law_452 rfl ?_
  refine bl_arg hX hs bk_ci_1 hin.1 dL_law_453 dL_law_454 dL_law_455 dL_law_456 dL_law_457 ?_
  refine bl_arg hX hs bk_ci_2 hin.2.1 dL_law_458 dL_law_459 dL_law_460 dL_law_461 dL_law_462 ?_
  refine bl_arg hX hs bk_ci_3 hin.2.2.1 dL_law_463 dL_law_464 dL_law_465 dL_law_466 dL_law_467 ?_
  refine bl_call2_i hX (post := bl_Q2 r σ1) [.int (xs (x + (1 : Int32)).toNatClampNeg), .int (xs (x + (2 : Int32)).toNatClampNeg), .int (xs (x + (3 : Int32)).toNatClampNeg)] [.int r] yk_X9_heat yv_X9_heat lk_L_56 rfl rfl km_o rfl rfl (Nat.le_of_ble_eq_true rfl) ⟨Nat.le_of_ble_eq_true rfl, Nat.le_of_ble_eq_true rfl⟩ dL_law_468 (fun z => m_X9_heat (bl_w lyC.2 w) z.to) (fun r' τ1 => ?_)
  exact bl_endi hX dL_law_471 rfl hk
theorem lc_said {w : bk_W} {X : bk_X} {b L : Nat} {xs : Nat → Int32} {x : Int32} {σ τ : bk_S} (hX : bk_Ok bl_K w X code RL 4 13 526) (hs : bl_Sc X b L xs) (hin : bl_in x L) (hR : RR σ τ) (hk : ∀ σ' τ', RR σ' τ' → bk_At bl_K w X 1249 (bl_lv w b x) [] (bl_s lyC.2 σ' τ')) : bk_At bl_K w X 476 (bl_lv w b x) [] (bl_s lyC.2 σ τ) := by
  refine (?_ : True → _) trivial
  refine bk_aload_n hX 2 dL_law_476 rfl ?_
  refine bl_arg hX hs bk_ci_1 hin.1 dL_law_477 dL_law_478 dL_law_479 dL_law_480 dL_law_481 ?_
  refine bl_arg hX hs bk_ci_2 hin.2.1 dL_law_482 dL_law_483 dL_law_484 dL_law_485 dL_law_486 ?_
  refine bl_call1_i hX (post := (bl_Q1 (w_X9_said (xs (x + (1 : Int32)).toNatClampNeg) (xs (x + (2 : Int32)).toNatClampNeg) τ))) [.int (xs (x + (1 : Int32)).toNatClampNeg), .int (xs (x + (2 : Int32)).toNatClampNeg)] [] yk_X8_said yv_X8_said lk_L_57 rfl rfl kc_0 rfl rfl (Nat.le_of_ble_eq_true rfl) ⟨Nat.le_of_ble_eq_true rfl, Nat.le_of_ble_eq_true rfl⟩ dL_law_487 (fun _ => m_X8_said w (bl_Q1.of (s_said hR))) (fun r σ1 => ?_)
  refine bk_aload_n hX 1 dL_law_490 rfl ?_
  refine bl_arg hX hs bk_ci_1 hin.1 dL_law_491 dL_law_492 dL_law_493 dL_law_494 dL_law_495 ?_
  refine bl_arg hX hs bk_ci_2 hin.2.1 dL_law_496 dL_law_497 dL_law_498 dL_law_499 dL_law_500 ?_
  refine bl_call2_i hX (post := bl_Q2 r σ1) [.int (xs (x + (1 : Int32)).toNatClampNeg), .int (xs (x + (2 : Int32)).toNatClampNeg)] [.int r] yk_X9_said yv_X9_said lk_L_60 rfl rfl km_o rfl rfl (Nat.le_of_ble_eq_true rfl) ⟨Nat.le_of_ble_eq_true rfl, Nat.le_of_ble_eq_true rfl⟩ dL_law_501 (fun z => m_X9_said (bl_w lyC.2 w) z.to) (fun r' τ1 => ?_)
  exact bl_endi hX dL_law_504 rfl hk
theorem lc_at {w : bk_W} {X : bk_X} {b L : Nat} {xs : Nat → Int32} {x : Int32} {σ τ : bk_S} (hX : bk_Ok bl_K w X code RL 4 13 526) (hs : bl_Sc X b L xs) (hin : bl_in x L) (hR : RR σ τ) (hk : ∀ σ' τ', RR σ' τ' → bk_At bl_K w X 1249 (bl_lv w b x) [] (bl_s lyC.2 σ' τ')) : bk_At bl_K w X 509 (bl_lv w b x) [] (bl_s lyC.2 σ τ) := by
  refine (?_ : True → _) trivial
  refine bk_aload_n hX 2 dL_law_509 rfl ?_
  refine bl_arg hX hs bk_ci_1 hin.1 dL_law_510 dL_law_511 dL_law_512 dL_law_513 dL_law_514 ?_
  refine bl_arg hX hs bk_ci_2 hin.2.1 dL_law_515 dL_law_516 dL_law_517 dL_law_518 dL_law_519 ?_
  refine bl_call1_i hX (post := (bl_Q1 (w_X9_at (xs (x + (1 : Int32)).toNatClampNeg) (xs (x + (2 : Int32)).toNatClampNeg) τ))) [.int (xs (x + (1 : Int32)).toNatClampNeg), .int (xs (x + (2 : Int32)).toNatClampNeg)] [] yk_X8_at yv_X8_at lk_L_61 rfl rfl kc_0 rfl rfl (Nat.le_of_ble_eq_true rfl) ⟨Nat.le_of_ble_eq_true rfl, Nat.le_of_ble_eq_true rfl⟩ dL_law_520 (fun _ => m_X8_at w (bl_Q1.of (s_at hR))) (fun r σ1 => ?_)
  refine bk_aload_n hX 1 dL_law_523 rfl ?_
  refine bl_arg hX hs bk_ci_1 hin.1 dL_law_524 dL_law_525 dL_law_526 dL_law_527 dL_law_528 ?_
  refine bl_arg hX hs bk_ci_2 hin.2.1 dL_law_529 dL_law_530 dL_law_531 dL_law_532 dL_law_533 ?_
  refine bl_call2_i hX (post := bl_Q2 r σ1) [.int (xs (x + (1 : Int32)).toNatClampNeg), .int (xs (x + (2 : Int32)).toNatClampNeg)] [.int r] yk_X9_at yv_X9_at lk_L_64 rfl rfl km_o rfl rfl (Nat.le_of_ble_eq_true rfl) ⟨Nat.le_of_ble_eq_true rfl, Nat.le_of_ble_eq_true rfl⟩ dL_law_534 (fun z => m_X9_at (bl_w lyC.2 w) z.to) (fun r' τ1 => ?_)
  exact bl_endi hX dL_law_537 rfl hk
theorem lc_settled {w : bk_W} {X : bk_X} {b L : Nat} {xs : Nat → Int32} {x : Int32} {σ τ : bk_S} (hX : bk_Ok bl_K w X code RL 4 13 526) (hs : bl_Sc X b L xs) (hin : bl_in x L) (hR : RR σ τ) (hk : ∀ σ' τ', RR σ' τ' → bk_At bl_K w X 1249 (bl_lv w b x) [] (bl_s lyC.2 σ' τ')) : bk_At bl_K w X 542 (bl_lv w b x) [] (bl_s lyC.2 σ τ) := by
  refine (?_ : True → _) trivial
  refine bk_aload_n hX 2 dL_law_542 rfl ?_
  refine bl_arg hX hs bk_ci_1 hin.1 dL_law_543 dL_law_544 dL_law_545 dL_law_546 dL_law_547 ?_
  refine bl_call1_i hX (post := (bl_Q1 (w_X9_settled (xs (x + (1 : Int32)).toNatClampNeg) τ))) [.int (xs (x + (1 : Int32)).toNatClampNeg)] [] yk_X8_settled yv_X8_settled lk_L_65 rfl rfl kc_0 rfl rfl (Nat.le_of_ble_eq_true rfl) ⟨Nat.le_of_ble_eq_true rfl, Nat.le_of_ble_eq_true rfl⟩ dL_law_548 (fun _ => m_X8_settled w (bl_Q1.of (s_settled hR))) (fun r σ1 => ?_)
  refine bk_aload_n hX 1 dL_law_551 rfl ?_
  refine bl_arg hX hs bk_ci_1 hin.1 dL_law_552 dL_law_553 dL_law_554 dL_law_555 dL_law_556 ?_
  refine bl_call2_i hX (post := bl_Q2 r σ1) [.int (xs (x + (1 : Int32)).toNatClampNeg)] [.int r] yk_X9_settled yv_X9_settled lk_L_68 rfl rfl km_o rfl rfl (Nat.le_of_ble_eq_true rfl) ⟨Nat.le_of_ble_eq_true rfl, Nat.le_of_ble_eq_true rfl⟩ dL_law_557 (fun z => m_X9_settled (bl_w lyC.2 w) z.to) (fun r' τ1 => ?_)
  exact bl_endi hX dL_law_560 rfl hk
theorem lc_sum {w : bk_W} {X : bk_X} {b L : Nat} {xs : Nat → Int32} {x : Int32} {σ τ : bk_S} (hX : bk_Ok bl_K w X code RL 4 13 526) (hs : bl_Sc X b L xs) (hin : bl_in x L) (hR : RR σ τ) (hk : ∀ σ' τ', RR σ' τ' → bk_At bl_K w X 1249 (bl_lv w b x) [] (bl_s lyC.2 σ' τ')) : bk_At bl_K w X 565 (bl_lv w b x) [] (bl_s lyC.2 σ τ) := by
  refine (?_ : True → _) trivial
  refine bk_aload_n hX 2 dL_law_565 rfl ?_
  refine bl_arg hX hs bk_ci_1 hin.1 dL_law_566 dL_law_567 dL_law_568 dL_law_569 dL_law_570 ?_
  refine bl_call1_i hX (post := (bl_Q1 (w_X9_sum (xs (x + (1 : Int32)).toNatClampNeg) τ))) [.int (xs (x + (1 : Int32)).toNatClampNeg)] [] yk_X8_sum yv_X8_sum lk_L_69 rfl rfl kc_0 rfl rfl (Nat.le_of_ble_eq_true rfl) ⟨Nat.le_of_ble_eq_true rfl, Nat.le_of_ble_eq_true rfl⟩ dL_law_571 (fun _ => m_X8_sum w (bl_Q1.of (s_sum hR))) (fun r σ1 => ?_)
  refine bk_aload_n hX 1 dL_law_574 rfl ?_
  refine bl_arg hX hs bk_ci_1 hin.1 dL_law_575 dL_law_576 dL_law_577 dL_law_578 dL_law_579 ?_
  refine bl_call2_i hX (post := bl_Q2 r σ1) [.int (xs (x + (1 : Int32)).toNatClampNeg)] [.int r] yk_X9_sum yv_X9_sum lk_L_72 rfl rfl km_o rfl rfl (Nat.le_of_ble_eq_true rfl) ⟨Nat.le_of_ble_eq_true rfl, Nat.le_of_ble_eq_true rfl⟩ dL_law_580 (fun z => m_X9_sum (bl_w lyC.2 w) z.to) (fun r' τ1 => ?_)
  exact bl_endi hX dL_law_583 rfl hk
theorem lc_peace {w : bk_W} {X : bk_X} {b L : Nat} {xs : Nat → Int32} {x : Int32} {σ τ : bk_S} (hX : bk_Ok bl_K w X code RL 4 13 526) (hs : bl_Sc X b L xs) (hin : bl_in x L) (hR : RR σ τ) (hk : ∀ σ' τ', RR σ' τ' → bk_At bl_K w X 1249 (bl_lv w b x) [] (bl_s lyC.2 σ' τ')) : bk_At bl_K w X 588 (bl_lv w b x) [] (bl_s lyC.2 σ τ) := by
  refine (?_ : True → _) trivial
  refine bk_aload_n hX 2 dL_law_588 rfl ?_
  refine bl_call1_i hX (post := (bl_Q1 (w_X9_peace τ))) [] [] yk_X8_peace yv_X8_peace lk_L_73 rfl rfl kc_0 rfl rfl (Nat.le_of_ble_eq_true rfl) ⟨Nat.le_of_ble_eq_true rfl, Nat.le_of_ble_eq_true rfl⟩ dL_law_589 (fun _ => m_X8_peace w (bl_Q1.of (s_peace hR))) (fun r σ1 => ?_)
  refine bk_aload_n hX 1 dL_law_592 rfl ?_
  refine bl_call2_i hX (post := bl_Q2 r σ1) [] [.int r] yk_X9_peace yv_X9_peace lk_L_76 rfl rfl km_o rfl rfl (Nat.le_of_ble_eq_true rfl) ⟨Nat.le_of_ble_eq_true rfl, Nat.le_of_ble_eq_true rfl⟩ dL_law_593 (fun z => m_X9_peace (bl_w lyC.2 w) z.to) (fun r' τ1 => ?_)
  exact bl_endi hX dL_law_596 rfl hk
theorem lc_longest {w : bk_W} {X : bk_X} {b L : Nat} {xs : Nat → Int32} {x : Int32} {σ τ : bk_S} (hX : bk_Ok bl_K w X code RL 4 13 526) (hs : bl_Sc X b L xs) (hin : bl_in x L) (hR : RR σ τ) (hk : ∀ σ' τ', RR σ' τ' → bk_At bl_K w X 1249 (bl_lv w b x) [] (bl_s lyC.2 σ' τ')) : bk_At bl_K w X 601 (bl_lv w b x) [] (bl_s lyC.2 σ τ) := by
  refine (?_ : True → _) trivial
  refine bk_aload_n hX 2 dL_law_601 rfl ?_
  refine bl_call1_i hX (post := (bl_Q1 (w_X9_longest τ))) [] [] yk_X8_longest yv_X8_longest lk_L_77 rfl rfl kc_0 rfl rfl (Nat.le_of_ble_eq_true rfl) ⟨Nat.le_of_ble_eq_true rfl, Nat.le_of_ble_eq_true rfl⟩ dL_law_602 (fun _ => m_X8_longest w (bl_Q1.of (s_longest hR))) (fun r σ1 => ?_)
  refine bk_aload_n hX 1 dL_law_605 rfl ?_
  refine bl_call2_i hX (post := bl_Q2 r σ1) [] [.int r] yk_X9_longest yv_X9_longest lk_L_80 rfl rfl km_o rfl rfl (Nat.le_of_ble_eq_true rfl) ⟨Nat.le_of_ble_eq_true rfl, Nat.le_of_ble_eq_true rfl⟩ dL_law_606 (fun z => m_X9_longest (bl_w lyC.2 w) z.to) (fun r' τ1 => ?_)
  exact bl_endi hX dL_law_609 rfl hk
theorem lc_highest {w : bk_W} {X : bk_X} {b L : Nat} {xs : Nat → Int32} {x : Int32} {σ τ : bk_S} (hX : bk_Ok bl_K w X code RL 4 13 526) (hs : bl_Sc X b L xs) (hin : bl_in x L) (hR : RR σ τ) (hk : ∀ σ' τ', RR σ' τ' → bk_At bl_K w X 1249 (bl_lv w b x) [] (bl_s lyC.2 σ' τ')) : bk_At bl_K w X 614 (bl_lv w b x) [] (bl_s lyC.2 σ τ) := by
  refine (?_ : True → _) trivial
  refine bk_aload_n hX 2 dL_law_614 rfl ?_
  refine bl_arg hX hs bk_ci_1 hin.1 dL_law_615 dL_law_616 dL_law_617 dL_law_618 dL_law_619 ?_
  refine bl_call1_i hX (post := (bl_Q1 (w_X9_highest (xs (x + (1 : Int32)).toNatClampNeg) τ))) [.int (xs (x + (1 : Int32)).toNatClampNeg)] [] yk_X8_highest yv_X8_highest lk_L_81 rfl rfl kc_0 rfl rfl (Nat.le_of_ble_eq_true rfl) ⟨Nat.le_of_ble_eq_true rfl, Nat.le_of_ble_eq_true rfl⟩ dL_law_620 (fun _ => m_X8_highest w (bl_Q1.of (s_highest hR))) (fun r σ1 => ?_)
  refine bk_aload_n hX 1 dL_law_623 rfl ?_
  refine bl_arg hX hs bk_ci_1 hin.1 dL_law_624 dL_law_625 dL_law_626 dL_law_627 dL_law_628 ?_
  refine bl_call2_i hX (post := bl_Q2 r σ1) [.int (xs (x + (1 : Int32)).toNatClampNeg)] [.int r] yk_X9_highest yv_X9_highest lk_L_84 rfl rfl km_o rfl rfl (Nat.le_of_ble_eq_true rfl) ⟨Nat.le_of_ble_eq_true rfl, Nat.le_of_ble_eq_true rfl⟩ dL_law_629 (fun z => m_X9_highest (bl_w lyC.2 w) z.to) (fun r' τ1 => ?_)
  exact bl_endi hX dL_law_632 rfl hk
theorem lc_sore {w : bk_W} {X : bk_X} {b L : Nat} {xs : Nat → Int32} {x : Int32} {σ τ : bk_S} (hX : bk_Ok bl_K w X code RL 4 13 526) (hs : bl_Sc X b L xs) (hin : bl_in x L) (hR : RR σ τ) (hk : ∀ σ' τ', RR σ' τ' → bk_At bl_K w X 1249 (bl_lv w b x) [] (bl_s lyC.2 σ' τ')) : bk_At bl_K w X 637 (bl_lv w b x) [] (bl_s lyC.2 σ τ) := by
  refine (?_ : True → _) trivial
  refine bk_aload_n hX 2 dL_law_637 rfl ?_
  refine bl_call1_i hX (post := (bl_Q1 (w_X9_sore τ))) [] [] yk_X8_sore yv_X8_sore lk_L_85 rfl rfl kc_0 rfl rfl (Nat.le_of_ble_eq_true rfl) ⟨Nat.le_of_ble_eq_true rfl, Nat.le_of_ble_eq_true rfl⟩ dL_law_638 (fun _ => m_X8_sore w (bl_Q1.of (s_sore hR))) (fun r σ1 => ?_)
  refine bk_aload_n hX 1 dL_law_641 rfl ?_
  refine bl_call2_i hX (post := bl_Q2 r σ1) [] [.int r] yk_X9_sore yv_X9_sore lk_L_88 rfl rfl km_o rfl rfl (Nat.le_of_ble_eq_true rfl) ⟨Nat.le_of_ble_eq_true rfl, Nat.le_of_ble_eq_true rfl⟩ dL_law_642 (fun z => m_X9_sore (bl_w lyC.2 w) z.to) (fun r' τ1 => ?_)
  exact bl_endi hX dL_law_645 rfl hk
