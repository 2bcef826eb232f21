/-! THE LAW's cases, walked (laid by program) -/
section RWC
variable {p : Program} {e : Env} {s : State} {m : MethodId} {args : Array Value} {below : List Frame} {meth : Method} {c : Code} {Q : State → Prop} {GX GM : GT} {σ τ : ST} {b L i n : Nat} {xs : Nat → Int32} {I : ST → ST → Prop}
theorem rl_tab {H : Heap} {locs : List Loc} {cells slots : Nat} {R : Room} {l : Launch} {rest : List Value} {ls : Array Slot} {cc : ByteArray} {pc : Nat} {dflt lo hi : Int} {offs : Array Int} {len : Nat} {x k : Int32} {off : Int} {tgt : Nat} (hx : p.tables.exec = Jvm.exec) (hb : c.code = cc) (hk : x = k) (hd : decode cc pc = .ok (.tableswitch dflt lo hi offs, len)) (h12 : (decide (lo ≤ k.toInt) && decide (k.toInt ≤ hi) && (offs[(k.toInt - lo).toNat]? == some off)) = true) (ht : (pc : Int) + off = (tgt : Int))
    (kk : W p l e R s m args below meth c H locs cells slots Q (F0 m tgt ls rest)) : W p l e R s m args below meth c H locs cells slots Q (F0 m pc ls (.int x :: rest)) := by
  subst hk
  rw [Bool.and_eq_true, Bool.and_eq_true, decide_eq_true_eq, decide_eq_true_eq, beq_iff_eq] at h12
  exact lv_tableIn hx hb hd (by omega) (by omega) h12.2 ht kk
set_option maxRecDepth 100000 in
set_option maxHeartbeats 4000000 in
theorem lc_0 (C : LC p s m meth c args b L xs) (F : LF GX GM s) (hL : L ≤ 3072) (hi : i + 6 ≤ L) (hs : sc_0 n I σ τ (xs (i + 1))) (kk : ∀ σ' τ', I σ' τ' → LK GX GM p e s m args below meth c Q b i 1534 σ' τ') : LK GX GM p e s m args below meth c Q b i 228 σ τ := by
  have hx := C.1
  have hb := C.2.1
  obtain ⟨r, σ', τ', hX, hM, hI⟩ := hs
  intro H locs ls B hl
  refine lv_aload_n hx hb dL_law_228 rfl (lv_at hl 1 rfl) ?_
  refine lv_aload_n hx hb dL_law_229 rfl (lv_at hl 0 rfl) ?_
  refine lv_iload_n hx hb dL_law_230 rfl (lv_at hl 3 rfl) ?_
  refine lv_iconst (v := (1 : Int32)) hx hb dL_law_231 rfl ?_
  refine lv_iadd hx hb dL_law_232 ?_
  refine r_nm (nI_p1 i) ?_
  refine rl_sld C B hL (by omega) dL_law_233 ?_
  refine rl_callX (n := 1) (rest := []) C F B hl (c_X6_posts GX n σ (xs (i + 1)) r σ' hX) cs_L_13 rfl rfl rfl (Nat.le_of_ble_eq_true rfl) ⟨rfl, rfl, Nat.le_of_ble_eq_true rfl, Nat.le_of_ble_eq_true rfl⟩ ⟨Nat.le_of_ble_eq_true rfl, Nat.le_of_ble_eq_true rfl⟩ dL_law_234 (fun H locs B => ?_)
  refine lv_aload_n hx hb dL_law_237 rfl (lv_at hl 2 rfl) ?_
  refine lv_aload_n hx hb dL_law_238 rfl (lv_at hl 0 rfl) ?_
  refine lv_iload_n hx hb dL_law_239 rfl (lv_at hl 3 rfl) ?_
  refine lv_iconst (v := (1 : Int32)) hx hb dL_law_240 rfl ?_
  refine lv_iadd hx hb dL_law_241 ?_
  refine r_nm (nI_p1 i) ?_
  refine rl_sld C B hL (by omega) dL_law_242 ?_
  refine rl_callM (n := 1) (rest := [.int r]) C F B hl (c_X7_posts GM n τ (xs (i + 1)) r τ' hM) cs_L_17 rfl rfl rfl (Nat.le_of_ble_eq_true rfl) ⟨rfl, rfl, Nat.le_of_ble_eq_true rfl, Nat.le_of_ble_eq_true rfl⟩ ⟨Nat.le_of_ble_eq_true rfl, Nat.le_of_ble_eq_true rfl⟩ dL_law_243 (fun H locs B => ?_)
  refine lv_icmp_eq (tgt := 1534) hx hb dL_law_246 (by decide) (fun _ => ?_) (fun q => absurd rfl q)
  exact kk _ _ hI H locs ls B hl
set_option maxRecDepth 100000 in
set_option maxHeartbeats 4000000 in
theorem lc_1 (C : LC p s m meth c args b L xs) (F : LF GX GM s) (hL : L ≤ 3072) (hi : i + 6 ≤ L) (hs : sc_1 n I σ τ (xs (i + 1)) (xs (i + 2)) (xs (i + 3))) (kk : ∀ σ' τ', I σ' τ' → LK GX GM p e s m args below meth c Q b i 1534 σ' τ') : LK GX GM p e s m args below meth c Q b i 251 σ τ := by
  have hx := C.1
  have hb := C.2.1
  obtain ⟨r, σ', τ', hX, hM, hI⟩ := hs
  intro H locs ls B hl
  refine lv_aload_n hx hb dL_law_251 rfl (lv_at hl 1 rfl) ?_
  refine lv_aload_n hx hb dL_law_252 rfl (lv_at hl 0 rfl) ?_
  refine lv_iload_n hx hb dL_law_253 rfl (lv_at hl 3 rfl) ?_
  refine lv_iconst (v := (1 : Int32)) hx hb dL_law_254 rfl ?_
  refine lv_iadd hx hb dL_law_255 ?_
  refine r_nm (nI_p1 i) ?_
  refine rl_sld C B hL (by omega) dL_law_256 ?_
  refine lv_aload_n hx hb dL_law_257 rfl (lv_at hl 0 rfl) ?_
  refine lv_iload_n hx hb dL_law_258 rfl (lv_at hl 3 rfl) ?_
  refine lv_iconst (v := (2 : Int32)) hx hb dL_law_259 rfl ?_
  refine lv_iadd hx hb dL_law_260 ?_
  refine r_nm (nI_p2 i) ?_
  refine rl_sld C B hL (by omega) dL_law_261 ?_
  refine lv_aload_n hx hb dL_law_262 rfl (lv_at hl 0 rfl) ?_
  refine lv_iload_n hx hb dL_law_263 rfl (lv_at hl 3 rfl) ?_
  refine lv_iconst (v := (3 : Int32)) hx hb dL_law_264 rfl ?_
  refine lv_iadd hx hb dL_law_265 ?_
  refine r_nm (nI_p3 i) ?_
  refine rl_sld C B hL (by omega) dL_law_266 ?_
  refine rl_callX (n := 3) (rest := []) C F B hl (c_X6_road GX σ (xs (i + 1)) (xs (i + 2)) (xs (i + 3)) r σ' hX) cs_L_18 rfl rfl rfl (Nat.le_of_ble_eq_true rfl) ⟨rfl, rfl, Nat.le_of_ble_eq_true rfl, Nat.le_of_ble_eq_true rfl⟩ ⟨Nat.le_of_ble_eq_true rfl, Nat.le_of_ble_eq_true rfl⟩ dL_law_267 (fun H locs B => ?_)
  refine lv_aload_n hx hb dL_law_270 rfl (lv_at hl 2 rfl) ?_
  refine lv_aload_n hx hb dL_law_271 rfl (lv_at hl 0 rfl) ?_
  refine lv_iload_n hx hb dL_law_272 rfl (lv_at hl 3 rfl) ?_
  refine lv_iconst (v := (1 : Int32)) hx hb dL_law_273 rfl ?_
  refine lv_iadd hx hb dL_law_274 ?_
  refine r_nm (nI_p1 i) ?_
  refine rl_sld C B hL (by omega) dL_law_275 ?_
  refine lv_aload_n hx hb dL_law_276 rfl (lv_at hl 0 rfl) ?_
  refine lv_iload_n hx hb dL_law_277 rfl (lv_at hl 3 rfl) ?_
  refine lv_iconst (v := (2 : Int32)) hx hb dL_law_278 rfl ?_
  refine lv_iadd hx hb dL_law_279 ?_
  refine r_nm (nI_p2 i) ?_
  refine rl_sld C B hL (by omega) dL_law_280 ?_
  refine lv_aload_n hx hb dL_law_281 rfl (lv_at hl 0 rfl) ?_
  refine lv_iload_n hx hb dL_law_282 rfl (lv_at hl 3 rfl) ?_
  refine lv_iconst (v := (3 : Int32)) hx hb dL_law_283 rfl ?_
  refine lv_iadd hx hb dL_law_284 ?_
  refine r_nm (nI_p3 i) ?_
  refine rl_sld C B hL (by omega) dL_law_285 ?_
  refine rl_callM (n := 3) (rest := [.int r]) C F B hl (c_X7_road GM τ (xs (i + 1)) (xs (i + 2)) (xs (i + 3)) r τ' hM) cs_L_22 rfl rfl rfl (Nat.le_of_ble_eq_true rfl) ⟨rfl, rfl, Nat.le_of_ble_eq_true rfl, Nat.le_of_ble_eq_true rfl⟩ ⟨Nat.le_of_ble_eq_true rfl, Nat.le_of_ble_eq_true rfl⟩ dL_law_286 (fun H locs B => ?_)
  refine lv_icmp_eq (tgt := 1534) hx hb dL_law_289 (by decide) (fun _ => ?_) (fun q => absurd rfl q)
  exact kk _ _ hI H locs ls B hl
set_option maxRecDepth 100000 in
set_option maxHeartbeats 4000000 in
theorem lc_2 (C : LC p s m meth c args b L xs) (F : LF GX GM s) (hL : L ≤ 3072) (hi : i + 6 ≤ L) (hs : sc_2 n I σ τ (xs (i + 1)) (xs (i + 2))) (kk : ∀ σ' τ', I σ' τ' → LK GX GM p e s m args below meth c Q b i 1534 σ' τ') : LK GX GM p e s m args below meth c Q b i 294 σ τ := by
  have hx := C.1
  have hb := C.2.1
  obtain ⟨r, hX, hM, hI⟩ := hs
  intro H locs ls B hl
  refine lv_aload_n hx hb dL_law_294 rfl (lv_at hl 1 rfl) ?_
  refine lv_aload_n hx hb dL_law_295 rfl (lv_at hl 0 rfl) ?_
  refine lv_iload_n hx hb dL_law_296 rfl (lv_at hl 3 rfl) ?_
  refine lv_iconst (v := (1 : Int32)) hx hb dL_law_297 rfl ?_
  refine lv_iadd hx hb dL_law_298 ?_
  refine r_nm (nI_p1 i) ?_
  refine rl_sld C B hL (by omega) dL_law_299 ?_
  refine lv_aload_n hx hb dL_law_300 rfl (lv_at hl 0 rfl) ?_
  refine lv_iload_n hx hb dL_law_301 rfl (lv_at hl 3 rfl) ?_
  refine lv_iconst (v := (2 : Int32)) hx hb dL_law_302 rfl ?_
  refine lv_iadd hx hb dL_law_303 ?_
  refine r_nm (nI_p2 i) ?_
  refine rl_sld C B hL (by omega) dL_law_304 ?_
  refine rl_callX (n := 2) (rest := []) C F B hl (c_X6_isRoad GX σ (xs (i + 1)) (xs (i + 2)) r hX) cs_L_23 rfl rfl rfl (Nat.le_of_ble_eq_true rfl) ⟨rfl, rfl, Nat.le_of_ble_eq_true rfl, Nat.le_of_ble_eq_true rfl⟩ ⟨Nat.le_of_ble_eq_true rfl, Nat.le_of_ble_eq_true rfl⟩ dL_law_305 (fun H locs B => ?_)
  refine lv_aload_n hx hb dL_law_308 rfl (lv_at hl 2 rfl) ?_
  refine lv_aload_n hx hb dL_law_309 rfl (lv_at hl 0 rfl) ?_
  refine lv_iload_n hx hb dL_law_310 rfl (lv_at hl 3 rfl) ?_
  refine lv_iconst (v := (1 : Int32)) hx hb dL_law_311 rfl ?_
  refine lv_iadd hx hb dL_law_312 ?_
  refine r_nm (nI_p1 i) ?_
  refine rl_sld C B hL (by omega) dL_law_313 ?_
  refine lv_aload_n hx hb dL_law_314 rfl (lv_at hl 0 rfl) ?_
  refine lv_iload_n hx hb dL_law_315 rfl (lv_at hl 3 rfl) ?_
  refine lv_iconst (v := (2 : Int32)) hx hb dL_law_316 rfl ?_
  refine lv_iadd hx hb dL_law_317 ?_
  refine r_nm (nI_p2 i) ?_
  refine rl_sld C B hL (by omega) dL_law_318 ?_
  refine rl_callM (n := 2) (rest := [.int r]) C F B hl (c_X7_isRoad GM τ (xs (i + 1)) (xs (i + 2)) r hM) cs_L_27 rfl rfl rfl (Nat.le_of_ble_eq_true rfl) ⟨rfl, rfl, Nat.le_of_ble_eq_true rfl, Nat.le_of_ble_eq_true rfl⟩ ⟨Nat.le_of_ble_eq_true rfl, Nat.le_of_ble_eq_true rfl⟩ dL_law_319 (fun H locs B => ?_)
  refine lv_icmp_eq (tgt := 1534) hx hb dL_law_322 (by decide) (fun _ => ?_) (fun q => absurd rfl q)
  exact kk _ _ hI H locs ls B hl
set_option maxRecDepth 100000 in
set_option maxHeartbeats 4000000 in
theorem lc_3 (C : LC p s m meth c args b L xs) (F : LF GX GM s) (hL : L ≤ 3072) (hi : i + 6 ≤ L) (hs : sc_3 n I σ τ (xs (i + 1))) (kk : ∀ σ' τ', I σ' τ' → LK GX GM p e s m args below meth c Q b i 1534 σ' τ') : LK GX GM p e s m args below meth c Q b i 327 σ τ := by
  have hx := C.1
  have hb := C.2.1
  obtain ⟨r, σ', τ', hX, hM, hI⟩ := hs
  intro H locs ls B hl
  refine lv_aload_n hx hb dL_law_327 rfl (lv_at hl 1 rfl) ?_
  refine lv_aload_n hx hb dL_law_328 rfl (lv_at hl 0 rfl) ?_
  refine lv_iload_n hx hb dL_law_329 rfl (lv_at hl 3 rfl) ?_
  refine lv_iconst (v := (1 : Int32)) hx hb dL_law_330 rfl ?_
  refine lv_iadd hx hb dL_law_331 ?_
  refine r_nm (nI_p1 i) ?_
  refine rl_sld C B hL (by omega) dL_law_332 ?_
  refine rl_callX (n := 1) (rest := []) C F B hl (c_X6_targets GX σ (xs (i + 1)) r σ' hX) cs_L_28 rfl rfl rfl (Nat.le_of_ble_eq_true rfl) ⟨rfl, rfl, Nat.le_of_ble_eq_true rfl, Nat.le_of_ble_eq_true rfl⟩ ⟨Nat.le_of_ble_eq_true rfl, Nat.le_of_ble_eq_true rfl⟩ dL_law_333 (fun H locs B => ?_)
  refine lv_aload_n hx hb dL_law_336 rfl (lv_at hl 2 rfl) ?_
  refine lv_aload_n hx hb dL_law_337 rfl (lv_at hl 0 rfl) ?_
  refine lv_iload_n hx hb dL_law_338 rfl (lv_at hl 3 rfl) ?_
  refine lv_iconst (v := (1 : Int32)) hx hb dL_law_339 rfl ?_
  refine lv_iadd hx hb dL_law_340 ?_
  refine r_nm (nI_p1 i) ?_
  refine rl_sld C B hL (by omega) dL_law_341 ?_
  refine rl_callM (n := 1) (rest := [.int r]) C F B hl (c_X7_targets GM τ (xs (i + 1)) r τ' hM) cs_L_31 rfl rfl rfl (Nat.le_of_ble_eq_true rfl) ⟨rfl, rfl, Nat.le_of_ble_eq_true rfl, Nat.le_of_ble_eq_true rfl⟩ ⟨Nat.le_of_ble_eq_true rfl, Nat.le_of_ble_eq_true rfl⟩ dL_law_342 (fun H locs B => ?_)
  refine lv_icmp_eq (tgt := 1534) hx hb dL_law_345 (by decide) (fun _ => ?_) (fun q => absurd rfl q)
  exact kk _ _ hI H locs ls B hl
set_option maxRecDepth 100000 in
set_option maxHeartbeats 4000000 in
theorem lc_4 (C : LC p s m meth c args b L xs) (F : LF GX GM s) (hL : L ≤ 3072) (hi : i + 6 ≤ L) (hs : sc_4 n I σ τ (xs (i + 1)) (xs (i + 2))) (kk : ∀ σ' τ', I σ' τ' → LK GX GM p e s m args below meth c Q b i 1534 σ' τ') : LK GX GM p e s m args below meth c Q b i 350 σ τ := by
  have hx := C.1
  have hb := C.2.1
  obtain ⟨r, σ', τ', hX, hM, hI⟩ := hs
  intro H locs ls B hl
  refine lv_aload_n hx hb dL_law_350 rfl (lv_at hl 1 rfl) ?_
  refine lv_aload_n hx hb dL_law_351 rfl (lv_at hl 0 rfl) ?_
  refine lv_iload_n hx hb dL_law_352 rfl (lv_at hl 3 rfl) ?_
  refine lv_iconst (v := (1 : Int32)) hx hb dL_law_353 rfl ?_
  refine lv_iadd hx hb dL_law_354 ?_
  refine r_nm (nI_p1 i) ?_
  refine rl_sld C B hL (by omega) dL_law_355 ?_
  refine lv_aload_n hx hb dL_law_356 rfl (lv_at hl 0 rfl) ?_
  refine lv_iload_n hx hb dL_law_357 rfl (lv_at hl 3 rfl) ?_
  refine lv_iconst (v := (2 : Int32)) hx hb dL_law_358 rfl ?_
  refine lv_iadd hx hb dL_law_359 ?_
  refine r_nm (nI_p2 i) ?_
  refine rl_sld C B hL (by omega) dL_law_360 ?_
  refine rl_callX (n := 2) (rest := []) C F B hl (c_X6_weigh GX σ (xs (i + 1)) (xs (i + 2)) r σ' hX) cs_L_32 rfl rfl rfl (Nat.le_of_ble_eq_true rfl) ⟨rfl, rfl, Nat.le_of_ble_eq_true rfl, Nat.le_of_ble_eq_true rfl⟩ ⟨Nat.le_of_ble_eq_true rfl, Nat.le_of_ble_eq_true rfl⟩ dL_law_361 (fun H locs B => ?_)
  refine lv_aload_n hx hb dL_law_364 rfl (lv_at hl 2 rfl) ?_
  refine lv_aload_n hx hb dL_law_365 rfl (lv_at hl 0 rfl) ?_
  refine lv_iload_n hx hb dL_law_366 rfl (lv_at hl 3 rfl) ?_
  refine lv_iconst (v := (1 : Int32)) hx hb dL_law_367 rfl ?_
  refine lv_iadd hx hb dL_law_368 ?_
  refine r_nm (nI_p1 i) ?_
  refine rl_sld C B hL (by omega) dL_law_369 ?_
  refine lv_aload_n hx hb dL_law_370 rfl (lv_at hl 0 rfl) ?_
  refine lv_iload_n hx hb dL_law_371 rfl (lv_at hl 3 rfl) ?_
  refine lv_iconst (v := (2 : Int32)) hx hb dL_law_372 rfl ?_
  refine lv_iadd hx hb dL_law_373 ?_
  refine r_nm (nI_p2 i) ?_
  refine rl_sld C B hL (by omega) dL_law_374 ?_
  refine rl_callM (n := 2) (rest := [.int r]) C F B hl (c_X7_weigh GM τ (xs (i + 1)) (xs (i + 2)) r τ' hM) cs_L_35 rfl rfl rfl (Nat.le_of_ble_eq_true rfl) ⟨rfl, rfl, Nat.le_of_ble_eq_true rfl, Nat.le_of_ble_eq_true rfl⟩ ⟨Nat.le_of_ble_eq_true rfl, Nat.le_of_ble_eq_true rfl⟩ dL_law_375 (fun H locs B => ?_)
  refine lv_icmp_eq (tgt := 1534) hx hb dL_law_378 (by decide) (fun _ => ?_) (fun q => absurd rfl q)
  exact kk _ _ hI H locs ls B hl
set_option maxRecDepth 100000 in
set_option maxHeartbeats 4000000 in
theorem lc_5 (C : LC p s m meth c args b L xs) (F : LF GX GM s) (hL : L ≤ 3072) (hi : i + 6 ≤ L) (hs : sc_5 n I σ τ (xs (i + 1))) (kk : ∀ σ' τ', I σ' τ' → LK GX GM p e s m args below meth c Q b i 1534 σ' τ') : LK GX GM p e s m args below meth c Q b i 383 σ τ := by
  have hx := C.1
  have hb := C.2.1
  obtain ⟨r, σ', τ', hX, hM, hI⟩ := hs
  intro H locs ls B hl
  refine lv_aload_n hx hb dL_law_383 rfl (lv_at hl 1 rfl) ?_
  refine lv_aload_n hx hb dL_law_384 rfl (lv_at hl 0 rfl) ?_
  refine lv_iload_n hx hb dL_law_385 rfl (lv_at hl 3 rfl) ?_
  refine lv_iconst (v := (1 : Int32)) hx hb dL_law_386 rfl ?_
  refine lv_iadd hx hb dL_law_387 ?_
  refine r_nm (nI_p1 i) ?_
  refine rl_sld C B hL (by omega) dL_law_388 ?_
  refine rl_callX (n := 1) (rest := []) C F B hl (c_X6_add GX σ (xs (i + 1)) r σ' hX) cs_L_36 rfl rfl rfl (Nat.le_of_ble_eq_true rfl) ⟨rfl, rfl, Nat.le_of_ble_eq_true rfl, Nat.le_of_ble_eq_true rfl⟩ ⟨Nat.le_of_ble_eq_true rfl, Nat.le_of_ble_eq_true rfl⟩ dL_law_389 (fun H locs B => ?_)
  refine lv_aload_n hx hb dL_law_392 rfl (lv_at hl 2 rfl) ?_
  refine lv_aload_n hx hb dL_law_393 rfl (lv_at hl 0 rfl) ?_
  refine lv_iload_n hx hb dL_law_394 rfl (lv_at hl 3 rfl) ?_
  refine lv_iconst (v := (1 : Int32)) hx hb dL_law_395 rfl ?_
  refine lv_iadd hx hb dL_law_396 ?_
  refine r_nm (nI_p1 i) ?_
  refine rl_sld C B hL (by omega) dL_law_397 ?_
  refine rl_callM (n := 1) (rest := [.int r]) C F B hl (c_X7_add GM τ (xs (i + 1)) r τ' hM) cs_L_39 rfl rfl rfl (Nat.le_of_ble_eq_true rfl) ⟨rfl, rfl, Nat.le_of_ble_eq_true rfl, Nat.le_of_ble_eq_true rfl⟩ ⟨Nat.le_of_ble_eq_true rfl, Nat.le_of_ble_eq_true rfl⟩ dL_law_398 (fun H locs B => ?_)
  refine lv_icmp_eq (tgt := 1534) hx hb dL_law_401 (by decide) (fun _ => ?_) (fun q => absurd rfl q)
  exact kk _ _ hI H locs ls B hl
set_option maxRecDepth 100000 in
set_option maxHeartbeats 4000000 in
theorem lc_6 (C : LC p s m meth c args b L xs) (F : LF GX GM s) (hL : L ≤ 3072) (hi : i + 6 ≤ L) (hs : sc_6 n I σ τ (xs (i + 1)) (xs (i + 2))) (kk : ∀ σ' τ', I σ' τ' → LK GX GM p e s m args below meth c Q b i 1534 σ' τ') : LK GX GM p e s m args below meth c Q b i 406 σ τ := by
  have hx := C.1
  have hb := C.2.1
  obtain ⟨r, σ', τ', hX, hM, hI⟩ := hs
  intro H locs ls B hl
  refine lv_aload_n hx hb dL_law_406 rfl (lv_at hl 1 rfl) ?_
  refine lv_aload_n hx hb dL_law_407 rfl (lv_at hl 0 rfl) ?_
  refine lv_iload_n hx hb dL_law_408 rfl (lv_at hl 3 rfl) ?_
  refine lv_iconst (v := (1 : Int32)) hx hb dL_law_409 rfl ?_
  refine lv_iadd hx hb dL_law_410 ?_
  refine r_nm (nI_p1 i) ?_
  refine rl_sld C B hL (by omega) dL_law_411 ?_
  refine lv_aload_n hx hb dL_law_412 rfl (lv_at hl 0 rfl) ?_
  refine lv_iload_n hx hb dL_law_413 rfl (lv_at hl 3 rfl) ?_
  refine lv_iconst (v := (2 : Int32)) hx hb dL_law_414 rfl ?_
  refine lv_iadd hx hb dL_law_415 ?_
  refine r_nm (nI_p2 i) ?_
  refine rl_sld C B hL (by omega) dL_law_416 ?_
  refine rl_callX (n := 2) (rest := []) C F B hl (c_X6_change GX σ (xs (i + 1)) (xs (i + 2)) r σ' hX) cs_L_40 rfl rfl rfl (Nat.le_of_ble_eq_true rfl) ⟨rfl, rfl, Nat.le_of_ble_eq_true rfl, Nat.le_of_ble_eq_true rfl⟩ ⟨Nat.le_of_ble_eq_true rfl, Nat.le_of_ble_eq_true rfl⟩ dL_law_417 (fun H locs B => ?_)
  refine lv_aload_n hx hb dL_law_420 rfl (lv_at hl 2 rfl) ?_
  refine lv_aload_n hx hb dL_law_421 rfl (lv_at hl 0 rfl) ?_
  refine lv_iload_n hx hb dL_law_422 rfl (lv_at hl 3 rfl) ?_
  refine lv_iconst (v := (1 : Int32)) hx hb dL_law_423 rfl ?_
  refine lv_iadd hx hb dL_law_424 ?_
  refine r_nm (nI_p1 i) ?_
  refine rl_sld C B hL (by omega) dL_law_425 ?_
  refine lv_aload_n hx hb dL_law_426 rfl (lv_at hl 0 rfl) ?_
  refine lv_iload_n hx hb dL_law_427 rfl (lv_at hl 3 rfl) ?_
  refine lv_iconst (v := (2 : Int32)) hx hb dL_law_428 rfl ?_
  refine lv_iadd hx hb dL_law_429 ?_
  refine r_nm (nI_p2 i) ?_
  refine rl_sld C B hL (by omega) dL_law_430 ?_
  refine rl_callM (n := 2) (rest := [.int r]) C F B hl (c_X7_change GM τ (xs (i + 1)) (xs (i + 2)) r τ' hM) cs_L_43 rfl rfl rfl (Nat.le_of_ble_eq_true rfl) ⟨rfl, rfl, Nat.le_of_ble_eq_true rfl, Nat.le_of_ble_eq_true rfl⟩ ⟨Nat.le_of_ble_eq_true rfl, Nat.le_of_ble_eq_true rfl⟩ dL_law_431 (fun H locs B => ?_)
  refine lv_icmp_eq (tgt := 1534) hx hb dL_law_434 (by decide) (fun _ => ?_) (fun q => absurd rfl q)
  exact kk _ _ hI H locs ls B hl
set_option maxRecDepth 100000 in
set_option maxHeartbeats 4000000 in
theorem lc_7 (C : LC p s m meth c args b L xs) (F : LF GX GM s) (hL : L ≤ 3072) (hi : i + 6 ≤ L) (hs : sc_7 n I σ τ (xs (i + 1))) (kk : ∀ σ' τ', I σ' τ' → LK GX GM p e s m args below meth c Q b i 1534 σ' τ') : LK GX GM p e s m args below meth c Q b i 439 σ τ := by
  have hx := C.1
  have hb := C.2.1
  obtain ⟨r, σ', τ', hX, hM, hI⟩ := hs
  intro H locs ls B hl
  refine lv_aload_n hx hb dL_law_439 rfl (lv_at hl 1 rfl) ?_
  refine lv_aload_n hx hb dL_law_440 rfl (lv_at hl 0 rfl) ?_
  refine lv_iload_n hx hb dL_law_441 rfl (lv_at hl 3 rfl) ?_
  refine lv_iconst (v := (1 : Int32)) hx hb dL_law_442 rfl ?_
  refine lv_iadd hx hb dL_law_443 ?_
  refine r_nm (nI_p1 i) ?_
  refine rl_sld C B hL (by omega) dL_law_444 ?_
  refine rl_callX (n := 1) (rest := []) C F B hl (c_X6_drop GX n σ (xs (i + 1)) r σ' hX) cs_L_44 rfl rfl rfl (Nat.le_of_ble_eq_true rfl) ⟨rfl, rfl, Nat.le_of_ble_eq_true rfl, Nat.le_of_ble_eq_true rfl⟩ ⟨Nat.le_of_ble_eq_true rfl, Nat.le_of_ble_eq_true rfl⟩ dL_law_445 (fun H locs B => ?_)
  refine lv_aload_n hx hb dL_law_448 rfl (lv_at hl 2 rfl) ?_
  refine lv_aload_n hx hb dL_law_449 rfl (lv_at hl 0 rfl) ?_
  refine lv_iload_n hx hb dL_law_450 rfl (lv_at hl 3 rfl) ?_
  refine lv_iconst (v := (1 : Int32)) hx hb dL_law_451 rfl ?_
  refine lv_iadd hx hb dL_law_452 ?_
  refine r_nm (nI_p1 i) ?_
  refine rl_sld C B hL (by omega) dL_law_453 ?_
  refine rl_callM (n := 1) (rest := [.int r]) C F B hl (c_X7_drop GM n τ (xs (i + 1)) r τ' hM) cs_L_47 rfl rfl rfl (Nat.le_of_ble_eq_true rfl) ⟨rfl, rfl, Nat.le_of_ble_eq_true rfl, Nat.le_of_ble_eq_true rfl⟩ ⟨Nat.le_of_ble_eq_true rfl, Nat.le_of_ble_eq_true rfl⟩ dL_law_454 (fun H locs B => ?_)
  refine lv_icmp_eq (tgt := 1534) hx hb dL_law_457 (by decide) (fun _ => ?_) (fun q => absurd rfl q)
  exact kk _ _ hI H locs ls B hl
set_option maxRecDepth 100000 in
set_option maxHeartbeats 4000000 in
theorem lc_8 (C : LC p s m meth c args b L xs) (F : LF GX GM s) (hL : L ≤ 3072) (hi : i + 6 ≤ L) (hs : sc_8 n I σ τ (xs (i + 1))) (kk : ∀ σ' τ', I σ' τ' → LK GX GM p e s m args below meth c Q b i 1534 σ' τ') : LK GX GM p e s m args below meth c Q b i 462 σ τ := by
  have hx := C.1
  have hb := C.2.1
  obtain ⟨r, hX, hM, hI⟩ := hs
  intro H locs ls B hl
  refine lv_aload_n hx hb dL_law_462 rfl (lv_at hl 1 rfl) ?_
  refine lv_aload_n hx hb dL_law_463 rfl (lv_at hl 0 rfl) ?_
  refine lv_iload_n hx hb dL_law_464 rfl (lv_at hl 3 rfl) ?_
  refine lv_iconst (v := (1 : Int32)) hx hb dL_law_465 rfl ?_
  refine lv_iadd hx hb dL_law_466 ?_
  refine r_nm (nI_p1 i) ?_
  refine rl_sld C B hL (by omega) dL_law_467 ?_
  refine rl_callX (n := 1) (rest := []) C F B hl (c_X6_set GX σ (xs (i + 1)) r hX) cs_L_48 rfl rfl rfl (Nat.le_of_ble_eq_true rfl) ⟨rfl, rfl, Nat.le_of_ble_eq_true rfl, Nat.le_of_ble_eq_true rfl⟩ ⟨Nat.le_of_ble_eq_true rfl, Nat.le_of_ble_eq_true rfl⟩ dL_law_468 (fun H locs B => ?_)
  refine lv_aload_n hx hb dL_law_471 rfl (lv_at hl 2 rfl) ?_
  refine lv_aload_n hx hb dL_law_472 rfl (lv_at hl 0 rfl) ?_
  refine lv_iload_n hx hb dL_law_473 rfl (lv_at hl 3 rfl) ?_
  refine lv_iconst (v := (1 : Int32)) hx hb dL_law_474 rfl ?_
  refine lv_iadd hx hb dL_law_475 ?_
  refine r_nm (nI_p1 i) ?_
  refine rl_sld C B hL (by omega) dL_law_476 ?_
  refine rl_callM (n := 1) (rest := [.int r]) C F B hl (c_X7_set GM τ (xs (i + 1)) r hM) cs_L_51 rfl rfl rfl (Nat.le_of_ble_eq_true rfl) ⟨rfl, rfl, Nat.le_of_ble_eq_true rfl, Nat.le_of_ble_eq_true rfl⟩ ⟨Nat.le_of_ble_eq_true rfl, Nat.le_of_ble_eq_true rfl⟩ dL_law_477 (fun H locs B => ?_)
  refine lv_icmp_eq (tgt := 1534) hx hb dL_law_480 (by decide) (fun _ => ?_) (fun q => absurd rfl q)
  exact kk _ _ hI H locs ls B hl
set_option maxRecDepth 100000 in
set_option maxHeartbeats 4000000 in
theorem lc_9 (C : LC p s m meth c args b L xs) (F : LF GX GM s) (hL : L ≤ 3072) (hi : i + 6 ≤ L) (hs : sc_9 n I σ τ (xs (i + 1)) (xs (i + 2))) (kk : ∀ σ' τ', I σ' τ' → LK GX GM p e s m args below meth c Q b i 1534 σ' τ') : LK GX GM p e s m args below meth c Q b i 485 σ τ := by
  have hx := C.1
  have hb := C.2.1
  obtain ⟨r, σ', τ', hX, hM, hI⟩ := hs
  intro H locs ls B hl
  refine lv_aload_n hx hb dL_law_485 rfl (lv_at hl 1 rfl) ?_
  refine lv_aload_n hx hb dL_law_486 rfl (lv_at hl 0 rfl) ?_
  refine lv_iload_n hx hb dL_law_487 rfl (lv_at hl 3 rfl) ?_
  refine lv_iconst (v := (1 : Int32)) hx hb dL_law_488 rfl ?_
  refine lv_iadd hx hb dL_law_489 ?_
  refine r_nm (nI_p1 i) ?_
  refine rl_sld C B hL (by omega) dL_law_490 ?_
  refine lv_aload_n hx hb dL_law_491 rfl (lv_at hl 0 rfl) ?_
  refine lv_iload_n hx hb dL_law_492 rfl (lv_at hl 3 rfl) ?_
  refine lv_iconst (v := (2 : Int32)) hx hb dL_law_493 rfl ?_
  refine lv_iadd hx hb dL_law_494 ?_
  refine r_nm (nI_p2 i) ?_
  refine rl_sld C B hL (by omega) dL_law_495 ?_
  refine rl_callX (n := 2) (rest := []) C F B hl (c_X6_rank GX n σ (xs (i + 1)) (xs (i + 2)) r σ' hX) cs_L_52 rfl rfl rfl (Nat.le_of_ble_eq_true rfl) ⟨rfl, rfl, Nat.le_of_ble_eq_true rfl, Nat.le_of_ble_eq_true rfl⟩ ⟨Nat.le_of_ble_eq_true rfl, Nat.le_of_ble_eq_true rfl⟩ dL_law_496 (fun H locs B => ?_)
  refine lv_aload_n hx hb dL_law_499 rfl (lv_at hl 2 rfl) ?_
  refine lv_aload_n hx hb dL_law_500 rfl (lv_at hl 0 rfl) ?_
  refine lv_iload_n hx hb dL_law_501 rfl (lv_at hl 3 rfl) ?_
  refine lv_iconst (v := (1 : Int32)) hx hb dL_law_502 rfl ?_
  refine lv_iadd hx hb dL_law_503 ?_
  refine r_nm (nI_p1 i) ?_
  refine rl_sld C B hL (by omega) dL_law_504 ?_
  refine lv_aload_n hx hb dL_law_505 rfl (lv_at hl 0 rfl) ?_
  refine lv_iload_n hx hb dL_law_506 rfl (lv_at hl 3 rfl) ?_
  refine lv_iconst (v := (2 : Int32)) hx hb dL_law_507 rfl ?_
  refine lv_iadd hx hb dL_law_508 ?_
  refine r_nm (nI_p2 i) ?_
  refine rl_sld C B hL (by omega) dL_law_509 ?_
  refine rl_callM (n := 2) (rest := [.int r]) C F B hl (c_X7_rank GM n τ (xs (i + 1)) (xs (i + 2)) r τ' hM) cs_L_55 rfl rfl rfl (Nat.le_of_ble_eq_true rfl) ⟨rfl, rfl, Nat.le_of_ble_eq_true rfl, Nat.le_of_ble_eq_true rfl⟩ ⟨Nat.le_of_ble_eq_true rfl, Nat.le_of_ble_eq_true rfl⟩ dL_law_510 (fun H locs B => ?_)
  refine lv_icmp_eq (tgt := 1534) hx hb dL_law_513 (by decide) (fun _ => ?_) (fun q => absurd rfl q)
  exact kk _ _ hI H locs ls B hl
set_option maxRecDepth 100000 in
set_option maxHeartbeats 4000000 in
theorem lc_10 (C : LC p s m meth c args b L xs) (F : LF GX GM s) (hL : L ≤ 3072) (hi : i + 6 ≤ L) (hs : sc_10 n I σ τ (xs (i + 1)) (xs (i + 2))) (kk : ∀ σ' τ', I σ' τ' → LK GX GM p e s m args below meth c Q b i 1534 σ' τ') : LK GX GM p e s m args below meth c Q b i 518 σ τ := by
  have hx := C.1
  have hb := C.2.1
  obtain ⟨r, σ', τ', hX, hM, hI⟩ := hs
  intro H locs ls B hl
  refine lv_aload_n hx hb dL_law_518 rfl (lv_at hl 1 rfl) ?_
  refine lv_aload_n hx hb dL_law_519 rfl (lv_at hl 0 rfl) ?_
  refine lv_iload_n hx hb dL_law_520 rfl (lv_at hl 3 rfl) ?_
  refine lv_iconst (v := (1 : Int32)) hx hb dL_law_521 rfl ?_
  refine lv_iadd hx hb dL_law_522 ?_
  refine r_nm (nI_p1 i) ?_
  refine rl_sld C B hL (by omega) dL_law_523 ?_
  refine lv_aload_n hx hb dL_law_524 rfl (lv_at hl 0 rfl) ?_
  refine lv_iload_n hx hb dL_law_525 rfl (lv_at hl 3 rfl) ?_
  refine lv_iconst (v := (2 : Int32)) hx hb dL_law_526 rfl ?_
  refine lv_iadd hx hb dL_law_527 ?_
  refine r_nm (nI_p2 i) ?_
  refine rl_sld C B hL (by omega) dL_law_528 ?_
  refine rl_callX (n := 2) (rest := []) C F B hl (c_X6_free GX n σ (xs (i + 1)) (xs (i + 2)) r σ' hX) cs_L_56 rfl rfl rfl (Nat.le_of_ble_eq_true rfl) ⟨rfl, rfl, Nat.le_of_ble_eq_true rfl, Nat.le_of_ble_eq_true rfl⟩ ⟨Nat.le_of_ble_eq_true rfl, Nat.le_of_ble_eq_true rfl⟩ dL_law_529 (fun H locs B => ?_)
  refine lv_aload_n hx hb dL_law_532 rfl (lv_at hl 2 rfl) ?_
  refine lv_aload_n hx hb dL_law_533 rfl (lv_at hl 0 rfl) ?_
  refine lv_iload_n hx hb dL_law_534 rfl (lv_at hl 3 rfl) ?_
  refine lv_iconst (v := (1 : Int32)) hx hb dL_law_535 rfl ?_
  refine lv_iadd hx hb dL_law_536 ?_
  refine r_nm (nI_p1 i) ?_
  refine rl_sld C B hL (by omega) dL_law_537 ?_
  refine lv_aload_n hx hb dL_law_538 rfl (lv_at hl 0 rfl) ?_
  refine lv_iload_n hx hb dL_law_539 rfl (lv_at hl 3 rfl) ?_
  refine lv_iconst (v := (2 : Int32)) hx hb dL_law_540 rfl ?_
  refine lv_iadd hx hb dL_law_541 ?_
  refine r_nm (nI_p2 i) ?_
  refine rl_sld C B hL (by omega) dL_law_542 ?_
  refine rl_callM (n := 2) (rest := [.int r]) C F B hl (c_X7_free GM n τ (xs (i + 1)) (xs (i + 2)) r τ' hM) cs_L_59 rfl rfl rfl (Nat.le_of_ble_eq_true rfl) ⟨rfl, rfl, Nat.le_of_ble_eq_true rfl, Nat.le_of_ble_eq_true rfl⟩ ⟨Nat.le_of_ble_eq_true rfl, Nat.le_of_ble_eq_true rfl⟩ dL_law_543 (fun H locs B => ?_)
  refine lv_icmp_eq (tgt := 1534) hx hb dL_law_546 (by decide) (fun _ => ?_) (fun q => absurd rfl q)
  exact kk _ _ hI H locs ls B hl
set_option maxRecDepth 100000 in
set_option maxHeartbeats 4000000 in
theorem lc_11 (C : LC p s m meth c args b L xs) (F : LF GX GM s) (hL : L ≤ 3072) (hi : i + 6 ≤ L) (hs : sc_11 n I σ τ (xs (i + 1)) (xs (i + 2))) (kk : ∀ σ' τ', I σ' τ' → LK GX GM p e s m args below meth c Q b i 1534 σ' τ') : LK GX GM p e s m args below meth c Q b i 551 σ τ := by
  have hx := C.1
  have hb := C.2.1
  obtain ⟨r, σ', τ', hX, hM, hI⟩ := hs
  intro H locs ls B hl
  refine lv_aload_n hx hb dL_law_551 rfl (lv_at hl 1 rfl) ?_
  refine lv_aload_n hx hb dL_law_552 rfl (lv_at hl 0 rfl) ?_
  refine lv_iload_n hx hb dL_law_553 rfl (lv_at hl 3 rfl) ?_
  refine lv_iconst (v := (1 : Int32)) hx hb dL_law_554 rfl ?_
  refine lv_iadd hx hb dL_law_555 ?_
  refine r_nm (nI_p1 i) ?_
  refine rl_sld C B hL (by omega) dL_law_556 ?_
  refine lv_aload_n hx hb dL_law_557 rfl (lv_at hl 0 rfl) ?_
  refine lv_iload_n hx hb dL_law_558 rfl (lv_at hl 3 rfl) ?_
  refine lv_iconst (v := (2 : Int32)) hx hb dL_law_559 rfl ?_
  refine lv_iadd hx hb dL_law_560 ?_
  refine r_nm (nI_p2 i) ?_
  refine rl_sld C B hL (by omega) dL_law_561 ?_
  refine rl_callX (n := 2) (rest := []) C F B hl (c_X6_base GX n σ (xs (i + 1)) (xs (i + 2)) r σ' hX) cs_L_60 rfl rfl rfl (Nat.le_of_ble_eq_true rfl) ⟨rfl, rfl, Nat.le_of_ble_eq_true rfl, Nat.le_of_ble_eq_true rfl⟩ ⟨Nat.le_of_ble_eq_true rfl, Nat.le_of_ble_eq_true rfl⟩ dL_law_562 (fun H locs B => ?_)
  refine lv_aload_n hx hb dL_law_565 rfl (lv_at hl 2 rfl) ?_
  refine lv_aload_n hx hb dL_law_566 rfl (lv_at hl 0 rfl) ?_
  refine lv_iload_n hx hb dL_law_567 rfl (lv_at hl 3 rfl) ?_
  refine lv_iconst (v := (1 : Int32)) hx hb dL_law_568 rfl ?_
  refine lv_iadd hx hb dL_law_569 ?_
  refine r_nm (nI_p1 i) ?_
  refine rl_sld C B hL (by omega) dL_law_570 ?_
  refine lv_aload_n hx hb dL_law_571 rfl (lv_at hl 0 rfl) ?_
  refine lv_iload_n hx hb dL_law_572 rfl (lv_at hl 3 rfl) ?_
  refine lv_iconst (v := (2 : Int32)) hx hb dL_law_573 rfl ?_
  refine lv_iadd hx hb dL_law_574 ?_
  refine r_nm (nI_p2 i) ?_
  refine rl_sld C B hL (by omega) dL_law_575 ?_
  refine rl_callM (n := 2) (rest := [.int r]) C F B hl (c_X7_base GM n τ (xs (i + 1)) (xs (i + 2)) r τ' hM) cs_L_63 rfl rfl rfl (Nat.le_of_ble_eq_true rfl) ⟨rfl, rfl, Nat.le_of_ble_eq_true rfl, Nat.le_of_ble_eq_true rfl⟩ ⟨Nat.le_of_ble_eq_true rfl, Nat.le_of_ble_eq_true rfl⟩ dL_law_576 (fun H locs B => ?_)
  refine lv_icmp_eq (tgt := 1534) hx hb dL_law_579 (by decide) (fun _ => ?_) (fun q => absurd rfl q)
  exact kk _ _ hI H locs ls B hl
set_option maxRecDepth 100000 in
set_option maxHeartbeats 4000000 in
theorem lc_12 (C : LC p s m meth c args b L xs) (F : LF GX GM s) (hL : L ≤ 3072) (hi : i + 6 ≤ L) (hs : sc_12 n I σ τ (xs (i + 1)) (xs (i + 2))) (kk : ∀ σ' τ', I σ' τ' → LK GX GM p e s m args below meth c Q b i 1534 σ' τ') : LK GX GM p e s m args below meth c Q b i 584 σ τ := by
  have hx := C.1
  have hb := C.2.1
  obtain ⟨r, σ', τ', hX, hM, hI⟩ := hs
  intro H locs ls B hl
  refine lv_aload_n hx hb dL_law_584 rfl (lv_at hl 1 rfl) ?_
  refine lv_aload_n hx hb dL_law_585 rfl (lv_at hl 0 rfl) ?_
  refine lv_iload_n hx hb dL_law_586 rfl (lv_at hl 3 rfl) ?_
  refine lv_iconst (v := (1 : Int32)) hx hb dL_law_587 rfl ?_
  refine lv_iadd hx hb dL_law_588 ?_
  refine r_nm (nI_p1 i) ?_
  refine rl_sld C B hL (by omega) dL_law_589 ?_
  refine lv_aload_n hx hb dL_law_590 rfl (lv_at hl 0 rfl) ?_
  refine lv_iload_n hx hb dL_law_591 rfl (lv_at hl 3 rfl) ?_
  refine lv_iconst (v := (2 : Int32)) hx hb dL_law_592 rfl ?_
  refine lv_iadd hx hb dL_law_593 ?_
  refine r_nm (nI_p2 i) ?_
  refine rl_sld C B hL (by omega) dL_law_594 ?_
  refine rl_callX (n := 2) (rest := []) C F B hl (c_X6_circuit GX n σ (xs (i + 1)) (xs (i + 2)) r σ' hX) cs_L_64 rfl rfl rfl (Nat.le_of_ble_eq_true rfl) ⟨rfl, rfl, Nat.le_of_ble_eq_true rfl, Nat.le_of_ble_eq_true rfl⟩ ⟨Nat.le_of_ble_eq_true rfl, Nat.le_of_ble_eq_true rfl⟩ dL_law_595 (fun H locs B => ?_)
  refine lv_aload_n hx hb dL_law_598 rfl (lv_at hl 2 rfl) ?_
  refine lv_aload_n hx hb dL_law_599 rfl (lv_at hl 0 rfl) ?_
  refine lv_iload_n hx hb dL_law_600 rfl (lv_at hl 3 rfl) ?_
  refine lv_iconst (v := (1 : Int32)) hx hb dL_law_601 rfl ?_
  refine lv_iadd hx hb dL_law_602 ?_
  refine r_nm (nI_p1 i) ?_
  refine rl_sld C B hL (by omega) dL_law_603 ?_
  refine lv_aload_n hx hb dL_law_604 rfl (lv_at hl 0 rfl) ?_
  refine lv_iload_n hx hb dL_law_605 rfl (lv_at hl 3 rfl) ?_
  refine lv_iconst (v := (2 : Int32)) hx hb dL_law_606 rfl ?_
  refine lv_iadd hx hb dL_law_607 ?_
  refine r_nm (nI_p2 i) ?_
  refine rl_sld C B hL (by omega) dL_law_608 ?_
  refine rl_callM (n := 2) (rest := [.int r]) C F B hl (c_X7_circuit GM n τ (xs (i + 1)) (xs (i + 2)) r τ' hM) cs_L_67 rfl rfl rfl (Nat.le_of_ble_eq_true rfl) ⟨rfl, rfl, Nat.le_of_ble_eq_true rfl, Nat.le_of_ble_eq_true rfl⟩ ⟨Nat.le_of_ble_eq_true rfl, Nat.le_of_ble_eq_true rfl⟩ dL_law_609 (fun H locs B => ?_)
  refine lv_icmp_eq (tgt := 1534) hx hb dL_law_612 (by decide) (fun _ => ?_) (fun q => absurd rfl q)
  exact kk _ _ hI H locs ls B hl
set_option maxRecDepth 100000 in
set_option maxHeartbeats 4000000 in
theorem lc_13 (C : LC p s m meth c args b L xs) (F : LF GX GM s) (hL : L ≤ 3072) (hi : i + 6 ≤ L) (hs : sc_13 n I σ τ (xs (i + 1)) (xs (i + 2))) (kk : ∀ σ' τ', I σ' τ' → LK GX GM p e s m args below meth c Q b i 1534 σ' τ') : LK GX GM p e s m args below meth c Q b i 617 σ τ := by
  have hx := C.1
  have hb := C.2.1
  obtain ⟨r, σ', τ', hX, hM, hI⟩ := hs
  intro H locs ls B hl
  refine lv_aload_n hx hb dL_law_617 rfl (lv_at hl 1 rfl) ?_
  refine lv_aload_n hx hb dL_law_618 rfl (lv_at hl 0 rfl) ?_
  refine lv_iload_n hx hb dL_law_619 rfl (lv_at hl 3 rfl) ?_
  refine lv_iconst (v := (1 : Int32)) hx hb dL_law_620 rfl ?_
  refine lv_iadd hx hb dL_law_621 ?_
  refine r_nm (nI_p1 i) ?_
  refine rl_sld C B hL (by omega) dL_law_622 ?_
  refine lv_aload_n hx hb dL_law_623 rfl (lv_at hl 0 rfl) ?_
  refine lv_iload_n hx hb dL_law_624 rfl (lv_at hl 3 rfl) ?_
  refine lv_iconst (v := (2 : Int32)) hx hb dL_law_625 rfl ?_
  refine lv_iadd hx hb dL_law_626 ?_
  refine r_nm (nI_p2 i) ?_
  refine rl_sld C B hL (by omega) dL_law_627 ?_
  refine rl_callX (n := 2) (rest := []) C F B hl (c_X6_flat GX n σ (xs (i + 1)) (xs (i + 2)) r σ' hX) cs_L_68 rfl rfl rfl (Nat.le_of_ble_eq_true rfl) ⟨rfl, rfl, Nat.le_of_ble_eq_true rfl, Nat.le_of_ble_eq_true rfl⟩ ⟨Nat.le_of_ble_eq_true rfl, Nat.le_of_ble_eq_true rfl⟩ dL_law_628 (fun H locs B => ?_)
  refine lv_aload_n hx hb dL_law_631 rfl (lv_at hl 2 rfl) ?_
  refine lv_aload_n hx hb dL_law_632 rfl (lv_at hl 0 rfl) ?_
  refine lv_iload_n hx hb dL_law_633 rfl (lv_at hl 3 rfl) ?_
  refine lv_iconst (v := (1 : Int32)) hx hb dL_law_634 rfl ?_
  refine lv_iadd hx hb dL_law_635 ?_
  refine r_nm (nI_p1 i) ?_
  refine rl_sld C B hL (by omega) dL_law_636 ?_
  refine lv_aload_n hx hb dL_law_637 rfl (lv_at hl 0 rfl) ?_
  refine lv_iload_n hx hb dL_law_638 rfl (lv_at hl 3 rfl) ?_
  refine lv_iconst (v := (2 : Int32)) hx hb dL_law_639 rfl ?_
  refine lv_iadd hx hb dL_law_640 ?_
  refine r_nm (nI_p2 i) ?_
  refine rl_sld C B hL (by omega) dL_law_641 ?_
  refine rl_callM (n := 2) (rest := [.int r]) C F B hl (c_X7_flat GM n τ (xs (i + 1)) (xs (i + 2)) r τ' hM) cs_L_71 rfl rfl rfl (Nat.le_of_ble_eq_true rfl) ⟨rfl, rfl, Nat.le_of_ble_eq_true rfl, Nat.le_of_ble_eq_true rfl⟩ ⟨Nat.le_of_ble_eq_true rfl, Nat.le_of_ble_eq_true rfl⟩ dL_law_642 (fun H locs B => ?_)
  refine lv_icmp_eq (tgt := 1534) hx hb dL_law_645 (by decide) (fun _ => ?_) (fun q => absurd rfl q)
  exact kk _ _ hI H locs ls B hl
set_option maxRecDepth 100000 in
set_option maxHeartbeats 4000000 in
theorem lc_14 (C : LC p s m meth c args b L xs) (F : LF GX GM s) (hL : L ≤ 3072) (hi : i + 6 ≤ L) (hs : sc_14 n I σ τ (xs (i + 1)) (xs (i + 2))) (kk : ∀ σ' τ', I σ' τ' → LK GX GM p e s m args below meth c Q b i 1534 σ' τ') : LK GX GM p e s m args below meth c Q b i 650 σ τ := by
  have hx := C.1
  have hb := C.2.1
  obtain ⟨r, σ', τ', hX, hM, hI⟩ := hs
  intro H locs ls B hl
  refine lv_aload_n hx hb dL_law_650 rfl (lv_at hl 1 rfl) ?_
  refine lv_aload_n hx hb dL_law_651 rfl (lv_at hl 0 rfl) ?_
  refine lv_iload_n hx hb dL_law_652 rfl (lv_at hl 3 rfl) ?_
  refine lv_iconst (v := (1 : Int32)) hx hb dL_law_653 rfl ?_
  refine lv_iadd hx hb dL_law_654 ?_
  refine r_nm (nI_p1 i) ?_
  refine rl_sld C B hL (by omega) dL_law_655 ?_
  refine lv_aload_n hx hb dL_law_656 rfl (lv_at hl 0 rfl) ?_
  refine lv_iload_n hx hb dL_law_657 rfl (lv_at hl 3 rfl) ?_
  refine lv_iconst (v := (2 : Int32)) hx hb dL_law_658 rfl ?_
  refine lv_iadd hx hb dL_law_659 ?_
  refine r_nm (nI_p2 i) ?_
  refine rl_sld C B hL (by omega) dL_law_660 ?_
  refine rl_callX (n := 2) (rest := []) C F B hl (c_X6_shut GX n σ (xs (i + 1)) (xs (i + 2)) r σ' hX) cs_L_72 rfl rfl rfl (Nat.le_of_ble_eq_true rfl) ⟨rfl, rfl, Nat.le_of_ble_eq_true rfl, Nat.le_of_ble_eq_true rfl⟩ ⟨Nat.le_of_ble_eq_true rfl, Nat.le_of_ble_eq_true rfl⟩ dL_law_661 (fun H locs B => ?_)
  refine lv_aload_n hx hb dL_law_664 rfl (lv_at hl 2 rfl) ?_
  refine lv_aload_n hx hb dL_law_665 rfl (lv_at hl 0 rfl) ?_
  refine lv_iload_n hx hb dL_law_666 rfl (lv_at hl 3 rfl) ?_
  refine lv_iconst (v := (1 : Int32)) hx hb dL_law_667 rfl ?_
  refine lv_iadd hx hb dL_law_668 ?_
  refine r_nm (nI_p1 i) ?_
  refine rl_sld C B hL (by omega) dL_law_669 ?_
  refine lv_aload_n hx hb dL_law_670 rfl (lv_at hl 0 rfl) ?_
  refine lv_iload_n hx hb dL_law_671 rfl (lv_at hl 3 rfl) ?_
  refine lv_iconst (v := (2 : Int32)) hx hb dL_law_672 rfl ?_
  refine lv_iadd hx hb dL_law_673 ?_
  refine r_nm (nI_p2 i) ?_
  refine rl_sld C B hL (by omega) dL_law_674 ?_
  refine rl_callM (n := 2) (rest := [.int r]) C F B hl (c_X7_shut GM n τ (xs (i + 1)) (xs (i + 2)) r τ' hM) cs_L_75 rfl rfl rfl (Nat.le_of_ble_eq_true rfl) ⟨rfl, rfl, Nat.le_of_ble_eq_true rfl, Nat.le_of_ble_eq_true rfl⟩ ⟨Nat.le_of_ble_eq_true rfl, Nat.le_of_ble_eq_true rfl⟩ dL_law_675 (fun H locs B => ?_)
  refine lv_icmp_eq (tgt := 1534) hx hb dL_law_678 (by decide) (fun _ => ?_) (fun q => absurd rfl q)
  exact kk _ _ hI H locs ls B hl
set_option maxRecDepth 100000 in
set_option maxHeartbeats 4000000 in
theorem lc_15 (C : LC p s m meth c args b L xs) (F : LF GX GM s) (hL : L ≤ 3072) (hi : i + 6 ≤ L) (hs : sc_15 n I σ τ (xs (i + 1)) (xs (i + 2))) (kk : ∀ σ' τ', I σ' τ' → LK GX GM p e s m args below meth c Q b i 1534 σ' τ') : LK GX GM p e s m args below meth c Q b i 683 σ τ := by
  have hx := C.1
  have hb := C.2.1
  obtain ⟨r, σ', τ', hX, hM, hI⟩ := hs
  intro H locs ls B hl
  refine lv_aload_n hx hb dL_law_683 rfl (lv_at hl 1 rfl) ?_
  refine lv_aload_n hx hb dL_law_684 rfl (lv_at hl 0 rfl) ?_
  refine lv_iload_n hx hb dL_law_685 rfl (lv_at hl 3 rfl) ?_
  refine lv_iconst (v := (1 : Int32)) hx hb dL_law_686 rfl ?_
  refine lv_iadd hx hb dL_law_687 ?_
  refine r_nm (nI_p1 i) ?_
  refine rl_sld C B hL (by omega) dL_law_688 ?_
  refine lv_aload_n hx hb dL_law_689 rfl (lv_at hl 0 rfl) ?_
  refine lv_iload_n hx hb dL_law_690 rfl (lv_at hl 3 rfl) ?_
  refine lv_iconst (v := (2 : Int32)) hx hb dL_law_691 rfl ?_
  refine lv_iadd hx hb dL_law_692 ?_
  refine r_nm (nI_p2 i) ?_
  refine rl_sld C B hL (by omega) dL_law_693 ?_
  refine rl_callX (n := 2) (rest := []) C F B hl (c_X6_loops GX n σ (xs (i + 1)) (xs (i + 2)) r σ' hX) cs_L_76 rfl rfl rfl (Nat.le_of_ble_eq_true rfl) ⟨rfl, rfl, Nat.le_of_ble_eq_true rfl, Nat.le_of_ble_eq_true rfl⟩ ⟨Nat.le_of_ble_eq_true rfl, Nat.le_of_ble_eq_true rfl⟩ dL_law_694 (fun H locs B => ?_)
  refine lv_aload_n hx hb dL_law_697 rfl (lv_at hl 2 rfl) ?_
  refine lv_aload_n hx hb dL_law_698 rfl (lv_at hl 0 rfl) ?_
  refine lv_iload_n hx hb dL_law_699 rfl (lv_at hl 3 rfl) ?_
  refine lv_iconst (v := (1 : Int32)) hx hb dL_law_700 rfl ?_
  refine lv_iadd hx hb dL_law_701 ?_
  refine r_nm (nI_p1 i) ?_
  refine rl_sld C B hL (by omega) dL_law_702 ?_
  refine lv_aload_n hx hb dL_law_703 rfl (lv_at hl 0 rfl) ?_
  refine lv_iload_n hx hb dL_law_704 rfl (lv_at hl 3 rfl) ?_
  refine lv_iconst (v := (2 : Int32)) hx hb dL_law_705 rfl ?_
  refine lv_iadd hx hb dL_law_706 ?_
  refine r_nm (nI_p2 i) ?_
  refine rl_sld C B hL (by omega) dL_law_707 ?_
  refine rl_callM (n := 2) (rest := [.int r]) C F B hl (c_X7_loops GM n τ (xs (i + 1)) (xs (i + 2)) r τ' hM) cs_L_79 rfl rfl rfl (Nat.le_of_ble_eq_true rfl) ⟨rfl, rfl, Nat.le_of_ble_eq_true rfl, Nat.le_of_ble_eq_true rfl⟩ ⟨Nat.le_of_ble_eq_true rfl, Nat.le_of_ble_eq_true rfl⟩ dL_law_708 (fun H locs B => ?_)
  refine lv_icmp_eq (tgt := 1534) hx hb dL_law_711 (by decide) (fun _ => ?_) (fun q => absurd rfl q)
  exact kk _ _ hI H locs ls B hl
set_option maxRecDepth 100000 in
set_option maxHeartbeats 4000000 in
theorem lc_16 (C : LC p s m meth c args b L xs) (F : LF GX GM s) (hL : L ≤ 3072) (hi : i + 6 ≤ L) (hs : sc_16 n I σ τ (xs (i + 1)) (xs (i + 2)) (xs (i + 3))) (kk : ∀ σ' τ', I σ' τ' → LK GX GM p e s m args below meth c Q b i 1534 σ' τ') : LK GX GM p e s m args below meth c Q b i 716 σ τ := by
  have hx := C.1
  have hb := C.2.1
  obtain ⟨r, σ', τ', hX, hM, hI⟩ := hs
  intro H locs ls B hl
  refine lv_aload_n hx hb dL_law_716 rfl (lv_at hl 1 rfl) ?_
  refine lv_aload_n hx hb dL_law_717 rfl (lv_at hl 0 rfl) ?_
  refine lv_iload_n hx hb dL_law_718 rfl (lv_at hl 3 rfl) ?_
  refine lv_iconst (v := (1 : Int32)) hx hb dL_law_719 rfl ?_
  refine lv_iadd hx hb dL_law_720 ?_
  refine r_nm (nI_p1 i) ?_
  refine rl_sld C B hL (by omega) dL_law_721 ?_
  refine lv_aload_n hx hb dL_law_722 rfl (lv_at hl 0 rfl) ?_
  refine lv_iload_n hx hb dL_law_723 rfl (lv_at hl 3 rfl) ?_
  refine lv_iconst (v := (2 : Int32)) hx hb dL_law_724 rfl ?_
  refine lv_iadd hx hb dL_law_725 ?_
  refine r_nm (nI_p2 i) ?_
  refine rl_sld C B hL (by omega) dL_law_726 ?_
  refine lv_aload_n hx hb dL_law_727 rfl (lv_at hl 0 rfl) ?_
  refine lv_iload_n hx hb dL_law_728 rfl (lv_at hl 3 rfl) ?_
  refine lv_iconst (v := (3 : Int32)) hx hb dL_law_729 rfl ?_
  refine lv_iadd hx hb dL_law_730 ?_
  refine r_nm (nI_p3 i) ?_
  refine rl_sld C B hL (by omega) dL_law_731 ?_
  refine rl_callX (n := 3) (rest := []) C F B hl (c_X6_round GX n σ (xs (i + 1)) (xs (i + 2)) (xs (i + 3)) r σ' hX) cs_L_80 rfl rfl rfl (Nat.le_of_ble_eq_true rfl) ⟨rfl, rfl, Nat.le_of_ble_eq_true rfl, Nat.le_of_ble_eq_true rfl⟩ ⟨Nat.le_of_ble_eq_true rfl, Nat.le_of_ble_eq_true rfl⟩ dL_law_732 (fun H locs B => ?_)
  refine lv_aload_n hx hb dL_law_735 rfl (lv_at hl 2 rfl) ?_
  refine lv_aload_n hx hb dL_law_736 rfl (lv_at hl 0 rfl) ?_
  refine lv_iload_n hx hb dL_law_737 rfl (lv_at hl 3 rfl) ?_
  refine lv_iconst (v := (1 : Int32)) hx hb dL_law_738 rfl ?_
  refine lv_iadd hx hb dL_law_739 ?_
  refine r_nm (nI_p1 i) ?_
  refine rl_sld C B hL (by omega) dL_law_740 ?_
  refine lv_aload_n hx hb dL_law_741 rfl (lv_at hl 0 rfl) ?_
  refine lv_iload_n hx hb dL_law_742 rfl (lv_at hl 3 rfl) ?_
  refine lv_iconst (v := (2 : Int32)) hx hb dL_law_743 rfl ?_
  refine lv_iadd hx hb dL_law_744 ?_
  refine r_nm (nI_p2 i) ?_
  refine rl_sld C B hL (by omega) dL_law_745 ?_
  refine lv_aload_n hx hb dL_law_746 rfl (lv_at hl 0 rfl) ?_
  refine lv_iload_n hx hb dL_law_747 rfl (lv_at hl 3 rfl) ?_
  refine lv_iconst (v := (3 : Int32)) hx hb dL_law_748 rfl ?_
  refine lv_iadd hx hb dL_law_749 ?_
  refine r_nm (nI_p3 i) ?_
  refine rl_sld C B hL (by omega) dL_law_750 ?_
  refine rl_callM (n := 3) (rest := [.int r]) C F B hl (c_X7_round GM n τ (xs (i + 1)) (xs (i + 2)) (xs (i + 3)) r τ' hM) cs_L_83 rfl rfl rfl (Nat.le_of_ble_eq_true rfl) ⟨rfl, rfl, Nat.le_of_ble_eq_true rfl, Nat.le_of_ble_eq_true rfl⟩ ⟨Nat.le_of_ble_eq_true rfl, Nat.le_of_ble_eq_true rfl⟩ dL_law_751 (fun H locs B => ?_)
  refine lv_icmp_eq (tgt := 1534) hx hb dL_law_754 (by decide) (fun _ => ?_) (fun q => absurd rfl q)
  exact kk _ _ hI H locs ls B hl
set_option maxRecDepth 100000 in
set_option maxHeartbeats 4000000 in
theorem lc_17 (C : LC p s m meth c args b L xs) (F : LF GX GM s) (hL : L ≤ 3072) (hi : i + 6 ≤ L) (hs : sc_17 n I σ τ (xs (i + 1)) (xs (i + 2)) (xs (i + 3)) (xs (i + 4))) (kk : ∀ σ' τ', I σ' τ' → LK GX GM p e s m args below meth c Q b i 1534 σ' τ') : LK GX GM p e s m args below meth c Q b i 759 σ τ := by
  have hx := C.1
  have hb := C.2.1
  obtain ⟨r, σ', τ', hX, hM, hI⟩ := hs
  intro H locs ls B hl
  refine lv_aload_n hx hb dL_law_759 rfl (lv_at hl 1 rfl) ?_
  refine lv_aload_n hx hb dL_law_760 rfl (lv_at hl 0 rfl) ?_
  refine lv_iload_n hx hb dL_law_761 rfl (lv_at hl 3 rfl) ?_
  refine lv_iconst (v := (1 : Int32)) hx hb dL_law_762 rfl ?_
  refine lv_iadd hx hb dL_law_763 ?_
  refine r_nm (nI_p1 i) ?_
  refine rl_sld C B hL (by omega) dL_law_764 ?_
  refine lv_aload_n hx hb dL_law_765 rfl (lv_at hl 0 rfl) ?_
  refine lv_iload_n hx hb dL_law_766 rfl (lv_at hl 3 rfl) ?_
  refine lv_iconst (v := (2 : Int32)) hx hb dL_law_767 rfl ?_
  refine lv_iadd hx hb dL_law_768 ?_
  refine r_nm (nI_p2 i) ?_
  refine rl_sld C B hL (by omega) dL_law_769 ?_
  refine lv_aload_n hx hb dL_law_770 rfl (lv_at hl 0 rfl) ?_
  refine lv_iload_n hx hb dL_law_771 rfl (lv_at hl 3 rfl) ?_
  refine lv_iconst (v := (3 : Int32)) hx hb dL_law_772 rfl ?_
  refine lv_iadd hx hb dL_law_773 ?_
  refine r_nm (nI_p3 i) ?_
  refine rl_sld C B hL (by omega) dL_law_774 ?_
  refine lv_aload_n hx hb dL_law_775 rfl (lv_at hl 0 rfl) ?_
  refine lv_iload_n hx hb dL_law_776 rfl (lv_at hl 3 rfl) ?_
  refine lv_iconst (v := (4 : Int32)) hx hb dL_law_777 rfl ?_
  refine lv_iadd hx hb dL_law_778 ?_
  refine r_nm (nI_p4 i) ?_
  refine rl_sld C B hL (by omega) dL_law_779 ?_
  refine rl_callX (n := 4) (rest := []) C F B hl (c_X6_swap GX n σ (xs (i + 1)) (xs (i + 2)) (xs (i + 3)) (xs (i + 4)) r σ' hX) cs_L_84 rfl rfl rfl (Nat.le_of_ble_eq_true rfl) ⟨rfl, rfl, Nat.le_of_ble_eq_true rfl, Nat.le_of_ble_eq_true rfl⟩ ⟨Nat.le_of_ble_eq_true rfl, Nat.le_of_ble_eq_true rfl⟩ dL_law_780 (fun H locs B => ?_)
  refine lv_aload_n hx hb dL_law_783 rfl (lv_at hl 2 rfl) ?_
  refine lv_aload_n hx hb dL_law_784 rfl (lv_at hl 0 rfl) ?_
  refine lv_iload_n hx hb dL_law_785 rfl (lv_at hl 3 rfl) ?_
  refine lv_iconst (v := (1 : Int32)) hx hb dL_law_786 rfl ?_
  refine lv_iadd hx hb dL_law_787 ?_
  refine r_nm (nI_p1 i) ?_
  refine rl_sld C B hL (by omega) dL_law_788 ?_
  refine lv_aload_n hx hb dL_law_789 rfl (lv_at hl 0 rfl) ?_
  refine lv_iload_n hx hb dL_law_790 rfl (lv_at hl 3 rfl) ?_
  refine lv_iconst (v := (2 : Int32)) hx hb dL_law_791 rfl ?_
  refine lv_iadd hx hb dL_law_792 ?_
  refine r_nm (nI_p2 i) ?_
  refine rl_sld C B hL (by omega) dL_law_793 ?_
  refine lv_aload_n hx hb dL_law_794 rfl (lv_at hl 0 rfl) ?_
  refine lv_iload_n hx hb dL_law_795 rfl (lv_at hl 3 rfl) ?_
  refine lv_iconst (v := (3 : Int32)) hx hb dL_law_796 rfl ?_
  refine lv_iadd hx hb dL_law_797 ?_
  refine r_nm (nI_p3 i) ?_
  refine rl_sld C B hL (by omega) dL_law_798 ?_
  refine lv_aload_n hx hb dL_law_799 rfl (lv_at hl 0 rfl) ?_
  refine lv_iload_n hx hb dL_law_800 rfl (lv_at hl 3 rfl) ?_
  refine lv_iconst (v := (4 : Int32)) hx hb dL_law_801 rfl ?_
  refine lv_iadd hx hb dL_law_802 ?_
  refine r_nm (nI_p4 i) ?_
  refine rl_sld C B hL (by omega) dL_law_803 ?_
  refine rl_callM (n := 4) (rest := [.int r]) C F B hl (c_X7_swap GM n τ (xs (i + 1)) (xs (i + 2)) (xs (i + 3)) (xs (i + 4)) r τ' hM) cs_L_88 rfl rfl rfl (Nat.le_of_ble_eq_true rfl) ⟨rfl, rfl, Nat.le_of_ble_eq_true rfl, Nat.le_of_ble_eq_true rfl⟩ ⟨Nat.le_of_ble_eq_true rfl, Nat.le_of_ble_eq_true rfl⟩ dL_law_804 (fun H locs B => ?_)
  refine lv_icmp_eq (tgt := 1534) hx hb dL_law_807 (by decide) (fun _ => ?_) (fun q => absurd rfl q)
  exact kk _ _ hI H locs ls B hl
set_option maxRecDepth 100000 in
set_option maxHeartbeats 4000000 in
theorem lc_18 (C : LC p s m meth c args b L xs) (F : LF GX GM s) (hL : L ≤ 3072) (hi : i + 6 ≤ L) (hs : sc_18 n I σ τ (xs (i + 1))) (kk : ∀ σ' τ', I σ' τ' → LK GX GM p e s m args below meth c Q b i 1534 σ' τ') : LK GX GM p e s m args below meth c Q b i 812 σ τ := by
  have hx := C.1
  have hb := C.2.1
  obtain ⟨r, σ', τ', hX, hM, hI⟩ := hs
  intro H locs ls B hl
  refine lv_aload_n hx hb dL_law_812 rfl (lv_at hl 1 rfl) ?_
  refine lv_aload_n hx hb dL_law_813 rfl (lv_at hl 0 rfl) ?_
  refine lv_iload_n hx hb dL_law_814 rfl (lv_at hl 3 rfl) ?_
  refine lv_iconst (v := (1 : Int32)) hx hb dL_law_815 rfl ?_
  refine lv_iadd hx hb dL_law_816 ?_
  refine r_nm (nI_p1 i) ?_
  refine rl_sld C B hL (by omega) dL_law_817 ?_
  refine rl_callX (n := 1) (rest := []) C F B hl (c_X6_steps GX n σ (xs (i + 1)) r σ' hX) cs_L_89 rfl rfl rfl (Nat.le_of_ble_eq_true rfl) ⟨rfl, rfl, Nat.le_of_ble_eq_true rfl, Nat.le_of_ble_eq_true rfl⟩ ⟨Nat.le_of_ble_eq_true rfl, Nat.le_of_ble_eq_true rfl⟩ dL_law_818 (fun H locs B => ?_)
  refine lv_aload_n hx hb dL_law_821 rfl (lv_at hl 2 rfl) ?_
  refine lv_aload_n hx hb dL_law_822 rfl (lv_at hl 0 rfl) ?_
  refine lv_iload_n hx hb dL_law_823 rfl (lv_at hl 3 rfl) ?_
  refine lv_iconst (v := (1 : Int32)) hx hb dL_law_824 rfl ?_
  refine lv_iadd hx hb dL_law_825 ?_
  refine r_nm (nI_p1 i) ?_
  refine rl_sld C B hL (by omega) dL_law_826 ?_
  refine rl_callM (n := 1) (rest := [.int r]) C F B hl (c_X7_steps GM n τ (xs (i + 1)) r τ' hM) cs_L_92 rfl rfl rfl (Nat.le_of_ble_eq_true rfl) ⟨rfl, rfl, Nat.le_of_ble_eq_true rfl, Nat.le_of_ble_eq_true rfl⟩ ⟨Nat.le_of_ble_eq_true rfl, Nat.le_of_ble_eq_true rfl⟩ dL_law_827 (fun H locs B => ?_)
  refine lv_icmp_eq (tgt := 1534) hx hb dL_law_830 (by decide) (fun _ => ?_) (fun q => absurd rfl q)
  exact kk _ _ hI H locs ls B hl
set_option maxRecDepth 100000 in
set_option maxHeartbeats 4000000 in
theorem lc_19 (C : LC p s m meth c args b L xs) (F : LF GX GM s) (hL : L ≤ 3072) (hi : i + 6 ≤ L) (hs : sc_19 n I σ τ (xs (i + 1)) (xs (i + 2)) (xs (i + 3)) (xs (i + 4))) (kk : ∀ σ' τ', I σ' τ' → LK GX GM p e s m args below meth c Q b i 1534 σ' τ') : LK GX GM p e s m args below meth c Q b i 835 σ τ := by
  have hx := C.1
  have hb := C.2.1
  obtain ⟨r, σ', τ', hX, hM, hI⟩ := hs
  intro H locs ls B hl
  refine lv_aload_n hx hb dL_law_835 rfl (lv_at hl 1 rfl) ?_
  refine lv_aload_n hx hb dL_law_836 rfl (lv_at hl 0 rfl) ?_
  refine lv_iload_n hx hb dL_law_837 rfl (lv_at hl 3 rfl) ?_
  refine lv_iconst (v := (1 : Int32)) hx hb dL_law_838 rfl ?_
  refine lv_iadd hx hb dL_law_839 ?_
  refine r_nm (nI_p1 i) ?_
  refine rl_sld C B hL (by omega) dL_law_840 ?_
  refine lv_aload_n hx hb dL_law_841 rfl (lv_at hl 0 rfl) ?_
  refine lv_iload_n hx hb dL_law_842 rfl (lv_at hl 3 rfl) ?_
  refine lv_iconst (v := (2 : Int32)) hx hb dL_law_843 rfl ?_
  refine lv_iadd hx hb dL_law_844 ?_
  refine r_nm (nI_p2 i) ?_
  refine rl_sld C B hL (by omega) dL_law_845 ?_
  refine lv_aload_n hx hb dL_law_846 rfl (lv_at hl 0 rfl) ?_
  refine lv_iload_n hx hb dL_law_847 rfl (lv_at hl 3 rfl) ?_
  refine lv_iconst (v := (3 : Int32)) hx hb dL_law_848 rfl ?_
  refine lv_iadd hx hb dL_law_849 ?_
  refine r_nm (nI_p3 i) ?_
  refine rl_sld C B hL (by omega) dL_law_850 ?_
  refine lv_aload_n hx hb dL_law_851 rfl (lv_at hl 0 rfl) ?_
  refine lv_iload_n hx hb dL_law_852 rfl (lv_at hl 3 rfl) ?_
  refine lv_iconst (v := (4 : Int32)) hx hb dL_law_853 rfl ?_
  refine lv_iadd hx hb dL_law_854 ?_
  refine r_nm (nI_p4 i) ?_
  refine rl_sld C B hL (by omega) dL_law_855 ?_
  refine rl_callX (n := 4) (rest := []) C F B hl (c_X6_less GX n σ (xs (i + 1)) (xs (i + 2)) (xs (i + 3)) (xs (i + 4)) r σ' hX) cs_L_93 rfl rfl rfl (Nat.le_of_ble_eq_true rfl) ⟨rfl, rfl, Nat.le_of_ble_eq_true rfl, Nat.le_of_ble_eq_true rfl⟩ ⟨Nat.le_of_ble_eq_true rfl, Nat.le_of_ble_eq_true rfl⟩ dL_law_856 (fun H locs B => ?_)
  refine lv_aload_n hx hb dL_law_859 rfl (lv_at hl 2 rfl) ?_
  refine lv_aload_n hx hb dL_law_860 rfl (lv_at hl 0 rfl) ?_
  refine lv_iload_n hx hb dL_law_861 rfl (lv_at hl 3 rfl) ?_
  refine lv_iconst (v := (1 : Int32)) hx hb dL_law_862 rfl ?_
  refine lv_iadd hx hb dL_law_863 ?_
  refine r_nm (nI_p1 i) ?_
  refine rl_sld C B hL (by omega) dL_law_864 ?_
  refine lv_aload_n hx hb dL_law_865 rfl (lv_at hl 0 rfl) ?_
  refine lv_iload_n hx hb dL_law_866 rfl (lv_at hl 3 rfl) ?_
  refine lv_iconst (v := (2 : Int32)) hx hb dL_law_867 rfl ?_
  refine lv_iadd hx hb dL_law_868 ?_
  refine r_nm (nI_p2 i) ?_
  refine rl_sld C B hL (by omega) dL_law_869 ?_
  refine lv_aload_n hx hb dL_law_870 rfl (lv_at hl 0 rfl) ?_
  refine lv_iload_n hx hb dL_law_871 rfl (lv_at hl 3 rfl) ?_
  refine lv_iconst (v := (3 : Int32)) hx hb dL_law_872 rfl ?_
  refine lv_iadd hx hb dL_law_873 ?_
  refine r_nm (nI_p3 i) ?_
  refine rl_sld C B hL (by omega) dL_law_874 ?_
  refine lv_aload_n hx hb dL_law_875 rfl (lv_at hl 0 rfl) ?_
  refine lv_iload_n hx hb dL_law_876 rfl (lv_at hl 3 rfl) ?_
  refine lv_iconst (v := (4 : Int32)) hx hb dL_law_877 rfl ?_
  refine lv_iadd hx hb dL_law_878 ?_
  refine r_nm (nI_p4 i) ?_
  refine rl_sld C B hL (by omega) dL_law_879 ?_
  refine rl_callM (n := 4) (rest := [.int r]) C F B hl (c_X7_less GM n τ (xs (i + 1)) (xs (i + 2)) (xs (i + 3)) (xs (i + 4)) r τ' hM) cs_L_96 rfl rfl rfl (Nat.le_of_ble_eq_true rfl) ⟨rfl, rfl, Nat.le_of_ble_eq_true rfl, Nat.le_of_ble_eq_true rfl⟩ ⟨Nat.le_of_ble_eq_true rfl, Nat.le_of_ble_eq_true rfl⟩ dL_law_880 (fun H locs B => ?_)
  refine lv_icmp_eq (tgt := 1534) hx hb dL_law_883 (by decide) (fun _ => ?_) (fun q => absurd rfl q)
  exact kk _ _ hI H locs ls B hl
set_option maxRecDepth 100000 in
set_option maxHeartbeats 4000000 in
theorem lc_20 (C : LC p s m meth c args b L xs) (F : LF GX GM s) (hL : L ≤ 3072) (hi : i + 6 ≤ L) (hs : sc_20 n I σ τ (xs (i + 1)) (xs (i + 2))) (kk : ∀ σ' τ', I σ' τ' → LK GX GM p e s m args below meth c Q b i 1534 σ' τ') : LK GX GM p e s m args below meth c Q b i 888 σ τ := by
  have hx := C.1
  have hb := C.2.1
  obtain ⟨r, σ', τ', hX, hM, hI⟩ := hs
  intro H locs ls B hl
  refine lv_aload_n hx hb dL_law_888 rfl (lv_at hl 1 rfl) ?_
  refine lv_aload_n hx hb dL_law_889 rfl (lv_at hl 0 rfl) ?_
  refine lv_iload_n hx hb dL_law_890 rfl (lv_at hl 3 rfl) ?_
  refine lv_iconst (v := (1 : Int32)) hx hb dL_law_891 rfl ?_
  refine lv_iadd hx hb dL_law_892 ?_
  refine r_nm (nI_p1 i) ?_
  refine rl_sld C B hL (by omega) dL_law_893 ?_
  refine lv_aload_n hx hb dL_law_894 rfl (lv_at hl 0 rfl) ?_
  refine lv_iload_n hx hb dL_law_895 rfl (lv_at hl 3 rfl) ?_
  refine lv_iconst (v := (2 : Int32)) hx hb dL_law_896 rfl ?_
  refine lv_iadd hx hb dL_law_897 ?_
  refine r_nm (nI_p2 i) ?_
  refine rl_sld C B hL (by omega) dL_law_898 ?_
  refine rl_callX (n := 2) (rest := []) C F B hl (c_X6_heaviest GX n σ (xs (i + 1)) (xs (i + 2)) r σ' hX) cs_L_97 rfl rfl rfl (Nat.le_of_ble_eq_true rfl) ⟨rfl, rfl, Nat.le_of_ble_eq_true rfl, Nat.le_of_ble_eq_true rfl⟩ ⟨Nat.le_of_ble_eq_true rfl, Nat.le_of_ble_eq_true rfl⟩ dL_law_899 (fun H locs B => ?_)
  refine lv_aload_n hx hb dL_law_902 rfl (lv_at hl 2 rfl) ?_
  refine lv_aload_n hx hb dL_law_903 rfl (lv_at hl 0 rfl) ?_
  refine lv_iload_n hx hb dL_law_904 rfl (lv_at hl 3 rfl) ?_
  refine lv_iconst (v := (1 : Int32)) hx hb dL_law_905 rfl ?_
  refine lv_iadd hx hb dL_law_906 ?_
  refine r_nm (nI_p1 i) ?_
  refine rl_sld C B hL (by omega) dL_law_907 ?_
  refine lv_aload_n hx hb dL_law_908 rfl (lv_at hl 0 rfl) ?_
  refine lv_iload_n hx hb dL_law_909 rfl (lv_at hl 3 rfl) ?_
  refine lv_iconst (v := (2 : Int32)) hx hb dL_law_910 rfl ?_
  refine lv_iadd hx hb dL_law_911 ?_
  refine r_nm (nI_p2 i) ?_
  refine rl_sld C B hL (by omega) dL_law_912 ?_
  refine rl_callM (n := 2) (rest := [.int r]) C F B hl (c_X7_heaviest GM n τ (xs (i + 1)) (xs (i + 2)) r τ' hM) cs_L_100 rfl rfl rfl (Nat.le_of_ble_eq_true rfl) ⟨rfl, rfl, Nat.le_of_ble_eq_true rfl, Nat.le_of_ble_eq_true rfl⟩ ⟨Nat.le_of_ble_eq_true rfl, Nat.le_of_ble_eq_true rfl⟩ dL_law_913 (fun H locs B => ?_)
  refine lv_icmp_eq (tgt := 1534) hx hb dL_law_916 (by decide) (fun _ => ?_) (fun q => absurd rfl q)
  exact kk _ _ hI H locs ls B hl
set_option maxRecDepth 100000 in
set_option maxHeartbeats 4000000 in
theorem lc_21 (C : LC p s m meth c args b L xs) (F : LF GX GM s) (hL : L ≤ 3072) (hi : i + 6 ≤ L) (hs : sc_21 n I σ τ (xs (i + 1)) (xs (i + 2))) (kk : ∀ σ' τ', I σ' τ' → LK GX GM p e s m args below meth c Q b i 1534 σ' τ') : LK GX GM p e s m args below meth c Q b i 921 σ τ := by
  have hx := C.1
  have hb := C.2.1
  obtain ⟨r, σ', τ', hX, hM, hI⟩ := hs
  intro H locs ls B hl
  refine lv_aload_n hx hb dL_law_921 rfl (lv_at hl 1 rfl) ?_
  refine lv_aload_n hx hb dL_law_922 rfl (lv_at hl 0 rfl) ?_
  refine lv_iload_n hx hb dL_law_923 rfl (lv_at hl 3 rfl) ?_
  refine lv_iconst (v := (1 : Int32)) hx hb dL_law_924 rfl ?_
  refine lv_iadd hx hb dL_law_925 ?_
  refine r_nm (nI_p1 i) ?_
  refine rl_sld C B hL (by omega) dL_law_926 ?_
  refine lv_aload_n hx hb dL_law_927 rfl (lv_at hl 0 rfl) ?_
  refine lv_iload_n hx hb dL_law_928 rfl (lv_at hl 3 rfl) ?_
  refine lv_iconst (v := (2 : Int32)) hx hb dL_law_929 rfl ?_
  refine lv_iadd hx hb dL_law_930 ?_
  refine r_nm (nI_p2 i) ?_
  refine rl_sld C B hL (by omega) dL_law_931 ?_
  refine rl_callX (n := 2) (rest := []) C F B hl (c_X6_alike GX n σ (xs (i + 1)) (xs (i + 2)) r σ' hX) cs_L_101 rfl rfl rfl (Nat.le_of_ble_eq_true rfl) ⟨rfl, rfl, Nat.le_of_ble_eq_true rfl, Nat.le_of_ble_eq_true rfl⟩ ⟨Nat.le_of_ble_eq_true rfl, Nat.le_of_ble_eq_true rfl⟩ dL_law_932 (fun H locs B => ?_)
  refine lv_aload_n hx hb dL_law_935 rfl (lv_at hl 2 rfl) ?_
  refine lv_aload_n hx hb dL_law_936 rfl (lv_at hl 0 rfl) ?_
  refine lv_iload_n hx hb dL_law_937 rfl (lv_at hl 3 rfl) ?_
  refine lv_iconst (v := (1 : Int32)) hx hb dL_law_938 rfl ?_
  refine lv_iadd hx hb dL_law_939 ?_
  refine r_nm (nI_p1 i) ?_
  refine rl_sld C B hL (by omega) dL_law_940 ?_
  refine lv_aload_n hx hb dL_law_941 rfl (lv_at hl 0 rfl) ?_
  refine lv_iload_n hx hb dL_law_942 rfl (lv_at hl 3 rfl) ?_
  refine lv_iconst (v := (2 : Int32)) hx hb dL_law_943 rfl ?_
  refine lv_iadd hx hb dL_law_944 ?_
  refine r_nm (nI_p2 i) ?_
  refine rl_sld C B hL (by omega) dL_law_945 ?_
  refine rl_callM (n := 2) (rest := [.int r]) C F B hl (c_X7_alike GM n τ (xs (i + 1)) (xs (i + 2)) r τ' hM) cs_L_104 rfl rfl rfl (Nat.le_of_ble_eq_true rfl) ⟨rfl, rfl, Nat.le_of_ble_eq_true rfl, Nat.le_of_ble_eq_true rfl⟩ ⟨Nat.le_of_ble_eq_true rfl, Nat.le_of_ble_eq_true rfl⟩ dL_law_946 (fun H locs B => ?_)
  refine lv_icmp_eq (tgt := 1534) hx hb dL_law_949 (by decide) (fun _ => ?_) (fun q => absurd rfl q)
  exact kk _ _ hI H locs ls B hl
set_option maxRecDepth 100000 in
set_option maxHeartbeats 4000000 in
theorem lc_22 (C : LC p s m meth c args b L xs) (F : LF GX GM s) (hL : L ≤ 3072) (hi : i + 6 ≤ L) (hs : sc_22 n I σ τ (xs (i + 1))) (kk : ∀ σ' τ', I σ' τ' → LK GX GM p e s m args below meth c Q b i 1534 σ' τ') : LK GX GM p e s m args below meth c Q b i 954 σ τ := by
  have hx := C.1
  have hb := C.2.1
  obtain ⟨r, σ', τ', hX, hM, hI⟩ := hs
  intro H locs ls B hl
  refine lv_aload_n hx hb dL_law_954 rfl (lv_at hl 1 rfl) ?_
  refine lv_aload_n hx hb dL_law_955 rfl (lv_at hl 0 rfl) ?_
  refine lv_iload_n hx hb dL_law_956 rfl (lv_at hl 3 rfl) ?_
  refine lv_iconst (v := (1 : Int32)) hx hb dL_law_957 rfl ?_
  refine lv_iadd hx hb dL_law_958 ?_
  refine r_nm (nI_p1 i) ?_
  refine rl_sld C B hL (by omega) dL_law_959 ?_
  refine rl_callX (n := 1) (rest := []) C F B hl (c_X6_cut GX n σ (xs (i + 1)) r σ' hX) cs_L_105 rfl rfl rfl (Nat.le_of_ble_eq_true rfl) ⟨rfl, rfl, Nat.le_of_ble_eq_true rfl, Nat.le_of_ble_eq_true rfl⟩ ⟨Nat.le_of_ble_eq_true rfl, Nat.le_of_ble_eq_true rfl⟩ dL_law_960 (fun H locs B => ?_)
  refine lv_aload_n hx hb dL_law_963 rfl (lv_at hl 2 rfl) ?_
  refine lv_aload_n hx hb dL_law_964 rfl (lv_at hl 0 rfl) ?_
  refine lv_iload_n hx hb dL_law_965 rfl (lv_at hl 3 rfl) ?_
  refine lv_iconst (v := (1 : Int32)) hx hb dL_law_966 rfl ?_
  refine lv_iadd hx hb dL_law_967 ?_
  refine r_nm (nI_p1 i) ?_
  refine rl_sld C B hL (by omega) dL_law_968 ?_
  refine rl_callM (n := 1) (rest := [.int r]) C F B hl (c_X7_cut GM n τ (xs (i + 1)) r τ' hM) cs_L_108 rfl rfl rfl (Nat.le_of_ble_eq_true rfl) ⟨rfl, rfl, Nat.le_of_ble_eq_true rfl, Nat.le_of_ble_eq_true rfl⟩ ⟨Nat.le_of_ble_eq_true rfl, Nat.le_of_ble_eq_true rfl⟩ dL_law_969 (fun H locs B => ?_)
  refine lv_icmp_eq (tgt := 1534) hx hb dL_law_972 (by decide) (fun _ => ?_) (fun q => absurd rfl q)
  exact kk _ _ hI H locs ls B hl
set_option maxRecDepth 100000 in
set_option maxHeartbeats 4000000 in
theorem lc_23 (C : LC p s m meth c args b L xs) (F : LF GX GM s) (hL : L ≤ 3072) (hi : i + 6 ≤ L) (hs : sc_23 n I σ τ (xs (i + 1))) (kk : ∀ σ' τ', I σ' τ' → LK GX GM p e s m args below meth c Q b i 1534 σ' τ') : LK GX GM p e s m args below meth c Q b i 977 σ τ := by
  have hx := C.1
  have hb := C.2.1
  obtain ⟨r, hX, hM, hI⟩ := hs
  intro H locs ls B hl
  refine lv_aload_n hx hb dL_law_977 rfl (lv_at hl 1 rfl) ?_
  refine lv_aload_n hx hb dL_law_978 rfl (lv_at hl 0 rfl) ?_
  refine lv_iload_n hx hb dL_law_979 rfl (lv_at hl 3 rfl) ?_
  refine lv_iconst (v := (1 : Int32)) hx hb dL_law_980 rfl ?_
  refine lv_iadd hx hb dL_law_981 ?_
  refine r_nm (nI_p1 i) ?_
  refine rl_sld C B hL (by omega) dL_law_982 ?_
  refine rl_callX (n := 1) (rest := []) C F B hl (c_X6_reach GX n σ (xs (i + 1)) r hX) cs_L_109 rfl rfl rfl (Nat.le_of_ble_eq_true rfl) ⟨rfl, rfl, Nat.le_of_ble_eq_true rfl, Nat.le_of_ble_eq_true rfl⟩ ⟨Nat.le_of_ble_eq_true rfl, Nat.le_of_ble_eq_true rfl⟩ dL_law_983 (fun H locs B => ?_)
  refine lv_aload_n hx hb dL_law_986 rfl (lv_at hl 2 rfl) ?_
  refine lv_aload_n hx hb dL_law_987 rfl (lv_at hl 0 rfl) ?_
  refine lv_iload_n hx hb dL_law_988 rfl (lv_at hl 3 rfl) ?_
  refine lv_iconst (v := (1 : Int32)) hx hb dL_law_989 rfl ?_
  refine lv_iadd hx hb dL_law_990 ?_
  refine r_nm (nI_p1 i) ?_
  refine rl_sld C B hL (by omega) dL_law_991 ?_
  refine rl_callM (n := 1) (rest := [.int r]) C F B hl (c_X7_reach GM n τ (xs (i + 1)) r hM) cs_L_112 rfl rfl rfl (Nat.le_of_ble_eq_true rfl) ⟨rfl, rfl, Nat.le_of_ble_eq_true rfl, Nat.le_of_ble_eq_true rfl⟩ ⟨Nat.le_of_ble_eq_true rfl, Nat.le_of_ble_eq_true rfl⟩ dL_law_992 (fun H locs B => ?_)
  refine lv_icmp_eq (tgt := 1534) hx hb dL_law_995 (by decide) (fun _ => ?_) (fun q => absurd rfl q)
  exact kk _ _ hI H locs ls B hl
set_option maxRecDepth 100000 in
set_option maxHeartbeats 4000000 in
theorem lc_24 (C : LC p s m meth c args b L xs) (F : LF GX GM s) (hL : L ≤ 3072) (hi : i + 6 ≤ L) (hs : sc_24 n I σ τ (xs (i + 1))) (kk : ∀ σ' τ', I σ' τ' → LK GX GM p e s m args below meth c Q b i 1534 σ' τ') : LK GX GM p e s m args below meth c Q b i 1000 σ τ := by
  have hx := C.1
  have hb := C.2.1
  obtain ⟨r, σ', hX, hM, hI⟩ := hs
  intro H locs ls B hl
  refine lv_aload_n hx hb dL_law_1000 rfl (lv_at hl 1 rfl) ?_
  refine lv_aload_n hx hb dL_law_1001 rfl (lv_at hl 0 rfl) ?_
  refine lv_iload_n hx hb dL_law_1002 rfl (lv_at hl 3 rfl) ?_
  refine lv_iconst (v := (1 : Int32)) hx hb dL_law_1003 rfl ?_
  refine lv_iadd hx hb dL_law_1004 ?_
  refine r_nm (nI_p1 i) ?_
  refine rl_sld C B hL (by omega) dL_law_1005 ?_
  refine rl_callX (n := 1) (rest := []) C F B hl (c_X6_partners GX n σ (xs (i + 1)) r σ' hX) cs_L_113 rfl rfl rfl (Nat.le_of_ble_eq_true rfl) ⟨rfl, rfl, Nat.le_of_ble_eq_true rfl, Nat.le_of_ble_eq_true rfl⟩ ⟨Nat.le_of_ble_eq_true rfl, Nat.le_of_ble_eq_true rfl⟩ dL_law_1006 (fun H locs B => ?_)
  refine lv_aload_n hx hb dL_law_1009 rfl (lv_at hl 2 rfl) ?_
  refine lv_aload_n hx hb dL_law_1010 rfl (lv_at hl 0 rfl) ?_
  refine lv_iload_n hx hb dL_law_1011 rfl (lv_at hl 3 rfl) ?_
  refine lv_iconst (v := (1 : Int32)) hx hb dL_law_1012 rfl ?_
  refine lv_iadd hx hb dL_law_1013 ?_
  refine r_nm (nI_p1 i) ?_
  refine rl_sld C B hL (by omega) dL_law_1014 ?_
  refine rl_callM (n := 1) (rest := [.int r]) C F B hl (c_X7_partners GM n τ (xs (i + 1)) r hM) cs_L_116 rfl rfl rfl (Nat.le_of_ble_eq_true rfl) ⟨rfl, rfl, Nat.le_of_ble_eq_true rfl, Nat.le_of_ble_eq_true rfl⟩ ⟨Nat.le_of_ble_eq_true rfl, Nat.le_of_ble_eq_true rfl⟩ dL_law_1015 (fun H locs B => ?_)
  refine lv_icmp_eq (tgt := 1534) hx hb dL_law_1018 (by decide) (fun _ => ?_) (fun q => absurd rfl q)
  exact kk _ _ hI H locs ls B hl
set_option maxRecDepth 100000 in
set_option maxHeartbeats 4000000 in
theorem lc_25 (C : LC p s m meth c args b L xs) (F : LF GX GM s) (hL : L ≤ 3072) (hi : i + 6 ≤ L) (hs : sc_25 n I σ τ) (kk : ∀ σ' τ', I σ' τ' → LK GX GM p e s m args below meth c Q b i 1534 σ' τ') : LK GX GM p e s m args below meth c Q b i 1023 σ τ := by
  have hx := C.1
  have hb := C.2.1
  obtain ⟨r, σ', τ', hX, hM, hI⟩ := hs
  intro H locs ls B hl
  refine lv_aload_n hx hb dL_law_1023 rfl (lv_at hl 1 rfl) ?_
  refine rl_callX (n := 0) (rest := []) C F B hl (c_X6_turned GX n σ r σ' hX) cs_L_117 rfl rfl rfl (Nat.le_of_ble_eq_true rfl) ⟨rfl, rfl, Nat.le_of_ble_eq_true rfl, Nat.le_of_ble_eq_true rfl⟩ ⟨Nat.le_of_ble_eq_true rfl, Nat.le_of_ble_eq_true rfl⟩ dL_law_1024 (fun H locs B => ?_)
  refine lv_aload_n hx hb dL_law_1027 rfl (lv_at hl 2 rfl) ?_
  refine rl_callM (n := 0) (rest := [.int r]) C F B hl (c_X7_turned GM n τ r τ' hM) cs_L_121 rfl rfl rfl (Nat.le_of_ble_eq_true rfl) ⟨rfl, rfl, Nat.le_of_ble_eq_true rfl, Nat.le_of_ble_eq_true rfl⟩ ⟨Nat.le_of_ble_eq_true rfl, Nat.le_of_ble_eq_true rfl⟩ dL_law_1028 (fun H locs B => ?_)
  refine lv_icmp_eq (tgt := 1534) hx hb dL_law_1031 (by decide) (fun _ => ?_) (fun q => absurd rfl q)
  exact kk _ _ hI H locs ls B hl
set_option maxRecDepth 100000 in
set_option maxHeartbeats 4000000 in
theorem lc_26 (C : LC p s m meth c args b L xs) (F : LF GX GM s) (hL : L ≤ 3072) (hi : i + 6 ≤ L) (hs : sc_26 n I σ τ) (kk : ∀ σ' τ', I σ' τ' → LK GX GM p e s m args below meth c Q b i 1534 σ' τ') : LK GX GM p e s m args below meth c Q b i 1036 σ τ := by
  have hx := C.1
  have hb := C.2.1
  obtain ⟨r, σ', τ', hX, hM, hI⟩ := hs
  intro H locs ls B hl
  refine lv_aload_n hx hb dL_law_1036 rfl (lv_at hl 1 rfl) ?_
  refine rl_callX (n := 0) (rest := []) C F B hl (c_X6_strict GX n σ r σ' hX) cs_L_122 rfl rfl rfl (Nat.le_of_ble_eq_true rfl) ⟨rfl, rfl, Nat.le_of_ble_eq_true rfl, Nat.le_of_ble_eq_true rfl⟩ ⟨Nat.le_of_ble_eq_true rfl, Nat.le_of_ble_eq_true rfl⟩ dL_law_1037 (fun H locs B => ?_)
  refine lv_aload_n hx hb dL_law_1040 rfl (lv_at hl 2 rfl) ?_
  refine rl_callM (n := 0) (rest := [.int r]) C F B hl (c_X7_strict GM n τ r τ' hM) cs_L_125 rfl rfl rfl (Nat.le_of_ble_eq_true rfl) ⟨rfl, rfl, Nat.le_of_ble_eq_true rfl, Nat.le_of_ble_eq_true rfl⟩ ⟨Nat.le_of_ble_eq_true rfl, Nat.le_of_ble_eq_true rfl⟩ dL_law_1041 (fun H locs B => ?_)
  refine lv_icmp_eq (tgt := 1534) hx hb dL_law_1044 (by decide) (fun _ => ?_) (fun q => absurd rfl q)
  exact kk _ _ hI H locs ls B hl
set_option maxRecDepth 100000 in
set_option maxHeartbeats 4000000 in
theorem lc_27 (C : LC p s m meth c args b L xs) (F : LF GX GM s) (hL : L ≤ 3072) (hi : i + 6 ≤ L) (hs : sc_27 n I σ τ (xs (i + 1))) (kk : ∀ σ' τ', I σ' τ' → LK GX GM p e s m args below meth c Q b i 1534 σ' τ') : LK GX GM p e s m args below meth c Q b i 1049 σ τ := by
  have hx := C.1
  have hb := C.2.1
  obtain ⟨r, σ', τ', hX, hM, hI⟩ := hs
  intro H locs ls B hl
  refine lv_aload_n hx hb dL_law_1049 rfl (lv_at hl 1 rfl) ?_
  refine lv_aload_n hx hb dL_law_1050 rfl (lv_at hl 0 rfl) ?_
  refine lv_iload_n hx hb dL_law_1051 rfl (lv_at hl 3 rfl) ?_
  refine lv_iconst (v := (1 : Int32)) hx hb dL_law_1052 rfl ?_
  refine lv_iadd hx hb dL_law_1053 ?_
  refine r_nm (nI_p1 i) ?_
  refine rl_sld C B hL (by omega) dL_law_1054 ?_
  refine rl_callX (n := 1) (rest := []) C F B hl (c_X6_spare GX n σ (xs (i + 1)) r σ' hX) cs_L_126 rfl rfl rfl (Nat.le_of_ble_eq_true rfl) ⟨rfl, rfl, Nat.le_of_ble_eq_true rfl, Nat.le_of_ble_eq_true rfl⟩ ⟨Nat.le_of_ble_eq_true rfl, Nat.le_of_ble_eq_true rfl⟩ dL_law_1055 (fun H locs B => ?_)
  refine lv_aload_n hx hb dL_law_1058 rfl (lv_at hl 2 rfl) ?_
  refine lv_aload_n hx hb dL_law_1059 rfl (lv_at hl 0 rfl) ?_
  refine lv_iload_n hx hb dL_law_1060 rfl (lv_at hl 3 rfl) ?_
  refine lv_iconst (v := (1 : Int32)) hx hb dL_law_1061 rfl ?_
  refine lv_iadd hx hb dL_law_1062 ?_
  refine r_nm (nI_p1 i) ?_
  refine rl_sld C B hL (by omega) dL_law_1063 ?_
  refine rl_callM (n := 1) (rest := [.int r]) C F B hl (c_X7_spare GM n τ (xs (i + 1)) r τ' hM) cs_L_129 rfl rfl rfl (Nat.le_of_ble_eq_true rfl) ⟨rfl, rfl, Nat.le_of_ble_eq_true rfl, Nat.le_of_ble_eq_true rfl⟩ ⟨Nat.le_of_ble_eq_true rfl, Nat.le_of_ble_eq_true rfl⟩ dL_law_1064 (fun H locs B => ?_)
  refine lv_icmp_eq (tgt := 1534) hx hb dL_law_1067 (by decide) (fun _ => ?_) (fun q => absurd rfl q)
  exact kk _ _ hI H locs ls B hl
set_option maxRecDepth 100000 in
set_option maxHeartbeats 4000000 in
theorem lc_28 (C : LC p s m meth c args b L xs) (F : LF GX GM s) (hL : L ≤ 3072) (hi : i + 6 ≤ L) (hs : sc_28 n I σ τ (xs (i + 1))) (kk : ∀ σ' τ', I σ' τ' → LK GX GM p e s m args below meth c Q b i 1534 σ' τ') : LK GX GM p e s m args below meth c Q b i 1072 σ τ := by
  have hx := C.1
  have hb := C.2.1
  obtain ⟨r, σ', τ', hX, hM, hI⟩ := hs
  intro H locs ls B hl
  refine lv_aload_n hx hb dL_law_1072 rfl (lv_at hl 1 rfl) ?_
  refine lv_aload_n hx hb dL_law_1073 rfl (lv_at hl 0 rfl) ?_
  refine lv_iload_n hx hb dL_law_1074 rfl (lv_at hl 3 rfl) ?_
  refine lv_iconst (v := (1 : Int32)) hx hb dL_law_1075 rfl ?_
  refine lv_iadd hx hb dL_law_1076 ?_
  refine r_nm (nI_p1 i) ?_
  refine rl_sld C B hL (by omega) dL_law_1077 ?_
  refine rl_callX (n := 1) (rest := []) C F B hl (c_X6_room GX n σ (xs (i + 1)) r σ' hX) cs_L_130 rfl rfl rfl (Nat.le_of_ble_eq_true rfl) ⟨rfl, rfl, Nat.le_of_ble_eq_true rfl, Nat.le_of_ble_eq_true rfl⟩ ⟨Nat.le_of_ble_eq_true rfl, Nat.le_of_ble_eq_true rfl⟩ dL_law_1078 (fun H locs B => ?_)
  refine lv_aload_n hx hb dL_law_1081 rfl (lv_at hl 2 rfl) ?_
  refine lv_aload_n hx hb dL_law_1082 rfl (lv_at hl 0 rfl) ?_
  refine lv_iload_n hx hb dL_law_1083 rfl (lv_at hl 3 rfl) ?_
  refine lv_iconst (v := (1 : Int32)) hx hb dL_law_1084 rfl ?_
  refine lv_iadd hx hb dL_law_1085 ?_
  refine r_nm (nI_p1 i) ?_
  refine rl_sld C B hL (by omega) dL_law_1086 ?_
  refine rl_callM (n := 1) (rest := [.int r]) C F B hl (c_X7_room GM n τ (xs (i + 1)) r τ' hM) cs_L_133 rfl rfl rfl (Nat.le_of_ble_eq_true rfl) ⟨rfl, rfl, Nat.le_of_ble_eq_true rfl, Nat.le_of_ble_eq_true rfl⟩ ⟨Nat.le_of_ble_eq_true rfl, Nat.le_of_ble_eq_true rfl⟩ dL_law_1087 (fun H locs B => ?_)
  refine lv_icmp_eq (tgt := 1534) hx hb dL_law_1090 (by decide) (fun _ => ?_) (fun q => absurd rfl q)
  exact kk _ _ hI H locs ls B hl
set_option maxRecDepth 100000 in
set_option maxHeartbeats 4000000 in
theorem lc_29 (C : LC p s m meth c args b L xs) (F : LF GX GM s) (hL : L ≤ 3072) (hi : i + 6 ≤ L) (hs : sc_29 n I σ τ) (kk : ∀ σ' τ', I σ' τ' → LK GX GM p e s m args below meth c Q b i 1534 σ' τ') : LK GX GM p e s m args below meth c Q b i 1095 σ τ := by
  have hx := C.1
  have hb := C.2.1
  obtain ⟨r, σ', τ', hX, hM, hI⟩ := hs
  intro H locs ls B hl
  refine lv_aload_n hx hb dL_law_1095 rfl (lv_at hl 1 rfl) ?_
  refine rl_callX (n := 0) (rest := []) C F B hl (c_X6_idle GX n σ r σ' hX) cs_L_134 rfl rfl rfl (Nat.le_of_ble_eq_true rfl) ⟨rfl, rfl, Nat.le_of_ble_eq_true rfl, Nat.le_of_ble_eq_true rfl⟩ ⟨Nat.le_of_ble_eq_true rfl, Nat.le_of_ble_eq_true rfl⟩ dL_law_1096 (fun H locs B => ?_)
  refine lv_aload_n hx hb dL_law_1099 rfl (lv_at hl 2 rfl) ?_
  refine rl_callM (n := 0) (rest := [.int r]) C F B hl (c_X7_idle GM n τ r τ' hM) cs_L_137 rfl rfl rfl (Nat.le_of_ble_eq_true rfl) ⟨rfl, rfl, Nat.le_of_ble_eq_true rfl, Nat.le_of_ble_eq_true rfl⟩ ⟨Nat.le_of_ble_eq_true rfl, Nat.le_of_ble_eq_true rfl⟩ dL_law_1100 (fun H locs B => ?_)
  refine lv_icmp_eq (tgt := 1534) hx hb dL_law_1103 (by decide) (fun _ => ?_) (fun q => absurd rfl q)
  exact kk _ _ hI H locs ls B hl
set_option maxRecDepth 100000 in
set_option maxHeartbeats 4000000 in
theorem lc_30 (C : LC p s m meth c args b L xs) (F : LF GX GM s) (hL : L ≤ 3072) (hi : i + 6 ≤ L) (hs : sc_30 n I σ τ) (kk : ∀ σ' τ', I σ' τ' → LK GX GM p e s m args below meth c Q b i 1534 σ' τ') : LK GX GM p e s m args below meth c Q b i 1108 σ τ := by
  have hx := C.1
  have hb := C.2.1
  obtain ⟨r, σ', τ', hX, hM, hI⟩ := hs
  intro H locs ls B hl
  refine lv_aload_n hx hb dL_law_1108 rfl (lv_at hl 1 rfl) ?_
  refine rl_callX (n := 0) (rest := []) C F B hl (c_X6_small GX n σ r σ' hX) cs_L_138 rfl rfl rfl (Nat.le_of_ble_eq_true rfl) ⟨rfl, rfl, Nat.le_of_ble_eq_true rfl, Nat.le_of_ble_eq_true rfl⟩ ⟨Nat.le_of_ble_eq_true rfl, Nat.le_of_ble_eq_true rfl⟩ dL_law_1109 (fun H locs B => ?_)
  refine lv_aload_n hx hb dL_law_1112 rfl (lv_at hl 2 rfl) ?_
  refine rl_callM (n := 0) (rest := [.int r]) C F B hl (c_X7_small GM n τ r τ' hM) cs_L_141 rfl rfl rfl (Nat.le_of_ble_eq_true rfl) ⟨rfl, rfl, Nat.le_of_ble_eq_true rfl, Nat.le_of_ble_eq_true rfl⟩ ⟨Nat.le_of_ble_eq_true rfl, Nat.le_of_ble_eq_true rfl⟩ dL_law_1113 (fun H locs B => ?_)
  refine lv_icmp_eq (tgt := 1534) hx hb dL_law_1116 (by decide) (fun _ => ?_) (fun q => absurd rfl q)
  exact kk _ _ hI H locs ls B hl
set_option maxRecDepth 100000 in
set_option maxHeartbeats 4000000 in
theorem lc_31 (C : LC p s m meth c args b L xs) (F : LF GX GM s) (hL : L ≤ 3072) (hi : i + 6 ≤ L) (hs : sc_31 n I σ τ (xs (i + 1)) (xs (i + 2))) (kk : ∀ σ' τ', I σ' τ' → LK GX GM p e s m args below meth c Q b i 1534 σ' τ') : LK GX GM p e s m args below meth c Q b i 1121 σ τ := by
  have hx := C.1
  have hb := C.2.1
  obtain ⟨r, σ', τ', hX, hM, hI⟩ := hs
  intro H locs ls B hl
  refine lv_aload_n hx hb dL_law_1121 rfl (lv_at hl 1 rfl) ?_
  refine lv_aload_n hx hb dL_law_1122 rfl (lv_at hl 0 rfl) ?_
  refine lv_iload_n hx hb dL_law_1123 rfl (lv_at hl 3 rfl) ?_
  refine lv_iconst (v := (1 : Int32)) hx hb dL_law_1124 rfl ?_
  refine lv_iadd hx hb dL_law_1125 ?_
  refine r_nm (nI_p1 i) ?_
  refine rl_sld C B hL (by omega) dL_law_1126 ?_
  refine lv_aload_n hx hb dL_law_1127 rfl (lv_at hl 0 rfl) ?_
  refine lv_iload_n hx hb dL_law_1128 rfl (lv_at hl 3 rfl) ?_
  refine lv_iconst (v := (2 : Int32)) hx hb dL_law_1129 rfl ?_
  refine lv_iadd hx hb dL_law_1130 ?_
  refine r_nm (nI_p2 i) ?_
  refine rl_sld C B hL (by omega) dL_law_1131 ?_
  refine rl_callX (n := 2) (rest := []) C F B hl (c_X6_row GX n σ (xs (i + 1)) (xs (i + 2)) r σ' hX) cs_L_142 rfl rfl rfl (Nat.le_of_ble_eq_true rfl) ⟨rfl, rfl, Nat.le_of_ble_eq_true rfl, Nat.le_of_ble_eq_true rfl⟩ ⟨Nat.le_of_ble_eq_true rfl, Nat.le_of_ble_eq_true rfl⟩ dL_law_1132 (fun H locs B => ?_)
  refine lv_aload_n hx hb dL_law_1135 rfl (lv_at hl 2 rfl) ?_
  refine lv_aload_n hx hb dL_law_1136 rfl (lv_at hl 0 rfl) ?_
  refine lv_iload_n hx hb dL_law_1137 rfl (lv_at hl 3 rfl) ?_
  refine lv_iconst (v := (1 : Int32)) hx hb dL_law_1138 rfl ?_
  refine lv_iadd hx hb dL_law_1139 ?_
  refine r_nm (nI_p1 i) ?_
  refine rl_sld C B hL (by omega) dL_law_1140 ?_
  refine lv_aload_n hx hb dL_law_1141 rfl (lv_at hl 0 rfl) ?_
  refine lv_iload_n hx hb dL_law_1142 rfl (lv_at hl 3 rfl) ?_
  refine lv_iconst (v := (2 : Int32)) hx hb dL_law_1143 rfl ?_
  refine lv_iadd hx hb dL_law_1144 ?_
  refine r_nm (nI_p2 i) ?_
  refine rl_sld C B hL (by omega) dL_law_1145 ?_
  refine rl_callM (n := 2) (rest := [.int r]) C F B hl (c_X7_row GM n τ (xs (i + 1)) (xs (i + 2)) r τ' hM) cs_L_145 rfl rfl rfl (Nat.le_of_ble_eq_true rfl) ⟨rfl, rfl, Nat.le_of_ble_eq_true rfl, Nat.le_of_ble_eq_true rfl⟩ ⟨Nat.le_of_ble_eq_true rfl, Nat.le_of_ble_eq_true rfl⟩ dL_law_1146 (fun H locs B => ?_)
  refine lv_icmp_eq (tgt := 1534) hx hb dL_law_1149 (by decide) (fun _ => ?_) (fun q => absurd rfl q)
  exact kk _ _ hI H locs ls B hl
set_option maxRecDepth 100000 in
set_option maxHeartbeats 4000000 in
theorem lc_32 (C : LC p s m meth c args b L xs) (F : LF GX GM s) (hL : L ≤ 3072) (hi : i + 6 ≤ L) (hs : sc_32 n I σ τ (xs (i + 1))) (kk : ∀ σ' τ', I σ' τ' → LK GX GM p e s m args below meth c Q b i 1534 σ' τ') : LK GX GM p e s m args below meth c Q b i 1154 σ τ := by
  have hx := C.1
  have hb := C.2.1
  obtain ⟨r, σ', τ', hX, hM, hI⟩ := hs
  intro H locs ls B hl
  refine lv_aload_n hx hb dL_law_1154 rfl (lv_at hl 1 rfl) ?_
  refine lv_aload_n hx hb dL_law_1155 rfl (lv_at hl 0 rfl) ?_
  refine lv_iload_n hx hb dL_law_1156 rfl (lv_at hl 3 rfl) ?_
  refine lv_iconst (v := (1 : Int32)) hx hb dL_law_1157 rfl ?_
  refine lv_iadd hx hb dL_law_1158 ?_
  refine r_nm (nI_p1 i) ?_
  refine rl_sld C B hL (by omega) dL_law_1159 ?_
  refine rl_callX (n := 1) (rest := []) C F B hl (c_X6_lose GX σ (xs (i + 1)) r σ' hX) cs_L_146 rfl rfl rfl (Nat.le_of_ble_eq_true rfl) ⟨rfl, rfl, Nat.le_of_ble_eq_true rfl, Nat.le_of_ble_eq_true rfl⟩ ⟨Nat.le_of_ble_eq_true rfl, Nat.le_of_ble_eq_true rfl⟩ dL_law_1160 (fun H locs B => ?_)
  refine lv_aload_n hx hb dL_law_1163 rfl (lv_at hl 2 rfl) ?_
  refine lv_aload_n hx hb dL_law_1164 rfl (lv_at hl 0 rfl) ?_
  refine lv_iload_n hx hb dL_law_1165 rfl (lv_at hl 3 rfl) ?_
  refine lv_iconst (v := (1 : Int32)) hx hb dL_law_1166 rfl ?_
  refine lv_iadd hx hb dL_law_1167 ?_
  refine r_nm (nI_p1 i) ?_
  refine rl_sld C B hL (by omega) dL_law_1168 ?_
  refine rl_callM (n := 1) (rest := [.int r]) C F B hl (c_X7_lose GM τ (xs (i + 1)) r τ' hM) cs_L_149 rfl rfl rfl (Nat.le_of_ble_eq_true rfl) ⟨rfl, rfl, Nat.le_of_ble_eq_true rfl, Nat.le_of_ble_eq_true rfl⟩ ⟨Nat.le_of_ble_eq_true rfl, Nat.le_of_ble_eq_true rfl⟩ dL_law_1169 (fun H locs B => ?_)
  refine lv_icmp_eq (tgt := 1534) hx hb dL_law_1172 (by decide) (fun _ => ?_) (fun q => absurd rfl q)
  exact kk _ _ hI H locs ls B hl
set_option maxRecDepth 100000 in
set_option maxHeartbeats 4000000 in
theorem lc_33 (C : LC p s m meth c args b L xs) (F : LF GX GM s) (hL : L ≤ 3072) (hi : i + 6 ≤ L) (hs : sc_33 n I σ τ (xs (i + 1)) (xs (i + 2)) (xs (i + 3))) (kk : ∀ σ' τ', I σ' τ' → LK GX GM p e s m args below meth c Q b i 1534 σ' τ') : LK GX GM p e s m args below meth c Q b i 1177 σ τ := by
  have hx := C.1
  have hb := C.2.1
  obtain ⟨r, σ', τ', hX, hM, hI⟩ := hs
  intro H locs ls B hl
  refine lv_aload_n hx hb dL_law_1177 rfl (lv_at hl 1 rfl) ?_
  refine lv_aload_n hx hb dL_law_1178 rfl (lv_at hl 0 rfl) ?_
  refine lv_iload_n hx hb dL_law_1179 rfl (lv_at hl 3 rfl) ?_
  refine lv_iconst (v := (1 : Int32)) hx hb dL_law_1180 rfl ?_
  refine lv_iadd hx hb dL_law_1181 ?_
  refine r_nm (nI_p1 i) ?_
  refine rl_sld C B hL (by omega) dL_law_1182 ?_
  refine lv_aload_n hx hb dL_law_1183 rfl (lv_at hl 0 rfl) ?_
  refine lv_iload_n hx hb dL_law_1184 rfl (lv_at hl 3 rfl) ?_
  refine lv_iconst (v := (2 : Int32)) hx hb dL_law_1185 rfl ?_
  refine lv_iadd hx hb dL_law_1186 ?_
  refine r_nm (nI_p2 i) ?_
  refine rl_sld C B hL (by omega) dL_law_1187 ?_
  refine lv_aload_n hx hb dL_law_1188 rfl (lv_at hl 0 rfl) ?_
  refine lv_iload_n hx hb dL_law_1189 rfl (lv_at hl 3 rfl) ?_
  refine lv_iconst (v := (3 : Int32)) hx hb dL_law_1190 rfl ?_
  refine lv_iadd hx hb dL_law_1191 ?_
  refine r_nm (nI_p3 i) ?_
  refine rl_sld C B hL (by omega) dL_law_1192 ?_
  refine rl_callX (n := 3) (rest := []) C F B hl (c_X6_put GX σ (xs (i + 1)) (xs (i + 2)) (xs (i + 3)) r σ' hX) cs_L_150 rfl rfl rfl (Nat.le_of_ble_eq_true rfl) ⟨rfl, rfl, Nat.le_of_ble_eq_true rfl, Nat.le_of_ble_eq_true rfl⟩ ⟨Nat.le_of_ble_eq_true rfl, Nat.le_of_ble_eq_true rfl⟩ dL_law_1193 (fun H locs B => ?_)
  refine lv_aload_n hx hb dL_law_1196 rfl (lv_at hl 2 rfl) ?_
  refine lv_aload_n hx hb dL_law_1197 rfl (lv_at hl 0 rfl) ?_
  refine lv_iload_n hx hb dL_law_1198 rfl (lv_at hl 3 rfl) ?_
  refine lv_iconst (v := (1 : Int32)) hx hb dL_law_1199 rfl ?_
  refine lv_iadd hx hb dL_law_1200 ?_
  refine r_nm (nI_p1 i) ?_
  refine rl_sld C B hL (by omega) dL_law_1201 ?_
  refine lv_aload_n hx hb dL_law_1202 rfl (lv_at hl 0 rfl) ?_
  refine lv_iload_n hx hb dL_law_1203 rfl (lv_at hl 3 rfl) ?_
  refine lv_iconst (v := (2 : Int32)) hx hb dL_law_1204 rfl ?_
  refine lv_iadd hx hb dL_law_1205 ?_
  refine r_nm (nI_p2 i) ?_
  refine rl_sld C B hL (by omega) dL_law_1206 ?_
  refine lv_aload_n hx hb dL_law_1207 rfl (lv_at hl 0 rfl) ?_
  refine lv_iload_n hx hb dL_law_1208 rfl (lv_at hl 3 rfl) ?_
  refine lv_iconst (v := (3 : Int32)) hx hb dL_law_1209 rfl ?_
  refine lv_iadd hx hb dL_law_1210 ?_
  refine r_nm (nI_p3 i) ?_
  refine rl_sld C B hL (by omega) dL_law_1211 ?_
  refine rl_callM (n := 3) (rest := [.int r]) C F B hl (c_X7_put GM τ (xs (i + 1)) (xs (i + 2)) (xs (i + 3)) r τ' hM) cs_L_153 rfl rfl rfl (Nat.le_of_ble_eq_true rfl) ⟨rfl, rfl, Nat.le_of_ble_eq_true rfl, Nat.le_of_ble_eq_true rfl⟩ ⟨Nat.le_of_ble_eq_true rfl, Nat.le_of_ble_eq_true rfl⟩ dL_law_1212 (fun H locs B => ?_)
  refine lv_icmp_eq (tgt := 1534) hx hb dL_law_1215 (by decide) (fun _ => ?_) (fun q => absurd rfl q)
  exact kk _ _ hI H locs ls B hl
set_option maxRecDepth 100000 in
set_option maxHeartbeats 4000000 in
theorem lc_34 (C : LC p s m meth c args b L xs) (F : LF GX GM s) (hL : L ≤ 3072) (hi : i + 6 ≤ L) (hs : sc_34 n I σ τ (xs (i + 1)) (xs (i + 2))) (kk : ∀ σ' τ', I σ' τ' → LK GX GM p e s m args below meth c Q b i 1534 σ' τ') : LK GX GM p e s m args below meth c Q b i 1220 σ τ := by
  have hx := C.1
  have hb := C.2.1
  obtain ⟨r, hX, hM, hI⟩ := hs
  intro H locs ls B hl
  refine lv_aload_n hx hb dL_law_1220 rfl (lv_at hl 1 rfl) ?_
  refine lv_aload_n hx hb dL_law_1221 rfl (lv_at hl 0 rfl) ?_
  refine lv_iload_n hx hb dL_law_1222 rfl (lv_at hl 3 rfl) ?_
  refine lv_iconst (v := (1 : Int32)) hx hb dL_law_1223 rfl ?_
  refine lv_iadd hx hb dL_law_1224 ?_
  refine r_nm (nI_p1 i) ?_
  refine rl_sld C B hL (by omega) dL_law_1225 ?_
  refine lv_aload_n hx hb dL_law_1226 rfl (lv_at hl 0 rfl) ?_
  refine lv_iload_n hx hb dL_law_1227 rfl (lv_at hl 3 rfl) ?_
  refine lv_iconst (v := (2 : Int32)) hx hb dL_law_1228 rfl ?_
  refine lv_iadd hx hb dL_law_1229 ?_
  refine r_nm (nI_p2 i) ?_
  refine rl_sld C B hL (by omega) dL_law_1230 ?_
  refine rl_callX (n := 2) (rest := []) C F B hl (c_X6_get GX σ (xs (i + 1)) (xs (i + 2)) r hX) cs_L_154 rfl rfl rfl (Nat.le_of_ble_eq_true rfl) ⟨rfl, rfl, Nat.le_of_ble_eq_true rfl, Nat.le_of_ble_eq_true rfl⟩ ⟨Nat.le_of_ble_eq_true rfl, Nat.le_of_ble_eq_true rfl⟩ dL_law_1231 (fun H locs B => ?_)
  refine lv_aload_n hx hb dL_law_1234 rfl (lv_at hl 2 rfl) ?_
  refine lv_aload_n hx hb dL_law_1235 rfl (lv_at hl 0 rfl) ?_
  refine lv_iload_n hx hb dL_law_1236 rfl (lv_at hl 3 rfl) ?_
  refine lv_iconst (v := (1 : Int32)) hx hb dL_law_1237 rfl ?_
  refine lv_iadd hx hb dL_law_1238 ?_
  refine r_nm (nI_p1 i) ?_
  refine rl_sld C B hL (by omega) dL_law_1239 ?_
  refine lv_aload_n hx hb dL_law_1240 rfl (lv_at hl 0 rfl) ?_
  refine lv_iload_n hx hb dL_law_1241 rfl (lv_at hl 3 rfl) ?_
  refine lv_iconst (v := (2 : Int32)) hx hb dL_law_1242 rfl ?_
  refine lv_iadd hx hb dL_law_1243 ?_
  refine r_nm (nI_p2 i) ?_
  refine rl_sld C B hL (by omega) dL_law_1244 ?_
  refine rl_callM (n := 2) (rest := [.long r]) C F B hl (c_X7_get GM τ (xs (i + 1)) (xs (i + 2)) r hM) cs_L_158 rfl rfl rfl (Nat.le_of_ble_eq_true rfl) ⟨rfl, rfl, Nat.le_of_ble_eq_true rfl, Nat.le_of_ble_eq_true rfl⟩ ⟨Nat.le_of_ble_eq_true rfl, Nat.le_of_ble_eq_true rfl⟩ dL_law_1245 (fun H locs B => ?_)
  refine W.lcmp hx hb dL_law_1248 ?_
  refine lv_if_eq (tgt := 1534) hx hb dL_law_1249 (by decide) (fun _ => ?_) (fun q => absurd (lg_cmp_self r) q)
  exact kk _ _ hI H locs ls B hl
set_option maxRecDepth 100000 in
set_option maxHeartbeats 4000000 in
theorem lc_35 (C : LC p s m meth c args b L xs) (F : LF GX GM s) (hL : L ≤ 3072) (hi : i + 6 ≤ L) (hs : sc_35 n I σ τ (xs (i + 1)) (xs (i + 2)) (xs (i + 3)) (xs (i + 4)) (xs (i + 5))) (kk : ∀ σ' τ', I σ' τ' → LK GX GM p e s m args below meth c Q b i 1534 σ' τ') : LK GX GM p e s m args below meth c Q b i 1254 σ τ := by
  have hx := C.1
  have hb := C.2.1
  obtain ⟨r, σ', τ', hX, hM, hI⟩ := hs
  intro H locs ls B hl
  refine lv_aload_n hx hb dL_law_1254 rfl (lv_at hl 1 rfl) ?_
  refine lv_aload_n hx hb dL_law_1255 rfl (lv_at hl 0 rfl) ?_
  refine lv_iload_n hx hb dL_law_1256 rfl (lv_at hl 3 rfl) ?_
  refine lv_iconst (v := (1 : Int32)) hx hb dL_law_1257 rfl ?_
  refine lv_iadd hx hb dL_law_1258 ?_
  refine r_nm (nI_p1 i) ?_
  refine rl_sld C B hL (by omega) dL_law_1259 ?_
  refine lv_aload_n hx hb dL_law_1260 rfl (lv_at hl 0 rfl) ?_
  refine lv_iload_n hx hb dL_law_1261 rfl (lv_at hl 3 rfl) ?_
  refine lv_iconst (v := (2 : Int32)) hx hb dL_law_1262 rfl ?_
  refine lv_iadd hx hb dL_law_1263 ?_
  refine r_nm (nI_p2 i) ?_
  refine rl_sld C B hL (by omega) dL_law_1264 ?_
  refine lv_aload_n hx hb dL_law_1265 rfl (lv_at hl 0 rfl) ?_
  refine lv_iload_n hx hb dL_law_1266 rfl (lv_at hl 3 rfl) ?_
  refine lv_iconst (v := (3 : Int32)) hx hb dL_law_1267 rfl ?_
  refine lv_iadd hx hb dL_law_1268 ?_
  refine r_nm (nI_p3 i) ?_
  refine rl_sld C B hL (by omega) dL_law_1269 ?_
  refine lv_aload_n hx hb dL_law_1270 rfl (lv_at hl 0 rfl) ?_
  refine lv_iload_n hx hb dL_law_1271 rfl (lv_at hl 3 rfl) ?_
  refine lv_iconst (v := (4 : Int32)) hx hb dL_law_1272 rfl ?_
  refine lv_iadd hx hb dL_law_1273 ?_
  refine r_nm (nI_p4 i) ?_
  refine rl_sld C B hL (by omega) dL_law_1274 ?_
  refine lv_aload_n hx hb dL_law_1275 rfl (lv_at hl 0 rfl) ?_
  refine lv_iload_n hx hb dL_law_1276 rfl (lv_at hl 3 rfl) ?_
  refine lv_iconst (v := (5 : Int32)) hx hb dL_law_1277 rfl ?_
  refine lv_iadd hx hb dL_law_1278 ?_
  refine r_nm (nI_p5 i) ?_
  refine rl_sld C B hL (by omega) dL_law_1279 ?_
  refine rl_callX (n := 5) (rest := []) C F B hl (c_X6_copy GX σ (xs (i + 1)) (xs (i + 2)) (xs (i + 3)) (xs (i + 4)) (xs (i + 5)) r σ' hX) cs_L_159 rfl rfl rfl (Nat.le_of_ble_eq_true rfl) ⟨rfl, rfl, Nat.le_of_ble_eq_true rfl, Nat.le_of_ble_eq_true rfl⟩ ⟨Nat.le_of_ble_eq_true rfl, Nat.le_of_ble_eq_true rfl⟩ dL_law_1280 (fun H locs B => ?_)
  refine lv_aload_n hx hb dL_law_1283 rfl (lv_at hl 2 rfl) ?_
  refine lv_aload_n hx hb dL_law_1284 rfl (lv_at hl 0 rfl) ?_
  refine lv_iload_n hx hb dL_law_1285 rfl (lv_at hl 3 rfl) ?_
  refine lv_iconst (v := (1 : Int32)) hx hb dL_law_1286 rfl ?_
  refine lv_iadd hx hb dL_law_1287 ?_
  refine r_nm (nI_p1 i) ?_
  refine rl_sld C B hL (by omega) dL_law_1288 ?_
  refine lv_aload_n hx hb dL_law_1289 rfl (lv_at hl 0 rfl) ?_
  refine lv_iload_n hx hb dL_law_1290 rfl (lv_at hl 3 rfl) ?_
  refine lv_iconst (v := (2 : Int32)) hx hb dL_law_1291 rfl ?_
  refine lv_iadd hx hb dL_law_1292 ?_
  refine r_nm (nI_p2 i) ?_
  refine rl_sld C B hL (by omega) dL_law_1293 ?_
  refine lv_aload_n hx hb dL_law_1294 rfl (lv_at hl 0 rfl) ?_
  refine lv_iload_n hx hb dL_law_1295 rfl (lv_at hl 3 rfl) ?_
  refine lv_iconst (v := (3 : Int32)) hx hb dL_law_1296 rfl ?_
  refine lv_iadd hx hb dL_law_1297 ?_
  refine r_nm (nI_p3 i) ?_
  refine rl_sld C B hL (by omega) dL_law_1298 ?_
  refine lv_aload_n hx hb dL_law_1299 rfl (lv_at hl 0 rfl) ?_
  refine lv_iload_n hx hb dL_law_1300 rfl (lv_at hl 3 rfl) ?_
  refine lv_iconst (v := (4 : Int32)) hx hb dL_law_1301 rfl ?_
  refine lv_iadd hx hb dL_law_1302 ?_
  refine r_nm (nI_p4 i) ?_
  refine rl_sld C B hL (by omega) dL_law_1303 ?_
  refine lv_aload_n hx hb dL_law_1304 rfl (lv_at hl 0 rfl) ?_
  refine lv_iload_n hx hb dL_law_1305 rfl (lv_at hl 3 rfl) ?_
  refine lv_iconst (v := (5 : Int32)) hx hb dL_law_1306 rfl ?_
  refine lv_iadd hx hb dL_law_1307 ?_
  refine r_nm (nI_p5 i) ?_
  refine rl_sld C B hL (by omega) dL_law_1308 ?_
  refine rl_callM (n := 5) (rest := [.int r]) C F B hl (c_X7_copy GM n τ (xs (i + 1)) (xs (i + 2)) (xs (i + 3)) (xs (i + 4)) (xs (i + 5)) r τ' hM) cs_L_163 rfl rfl rfl (Nat.le_of_ble_eq_true rfl) ⟨rfl, rfl, Nat.le_of_ble_eq_true rfl, Nat.le_of_ble_eq_true rfl⟩ ⟨Nat.le_of_ble_eq_true rfl, Nat.le_of_ble_eq_true rfl⟩ dL_law_1309 (fun H locs B => ?_)
  refine lv_icmp_eq (tgt := 1534) hx hb dL_law_1312 (by decide) (fun _ => ?_) (fun q => absurd rfl q)
  exact kk _ _ hI H locs ls B hl
set_option maxRecDepth 100000 in
set_option maxHeartbeats 4000000 in
theorem lc_36 (C : LC p s m meth c args b L xs) (F : LF GX GM s) (hL : L ≤ 3072) (hi : i + 6 ≤ L) (hs : sc_36 n I σ τ (xs (i + 1)) (xs (i + 2)) (xs (i + 3)) (xs (i + 4))) (kk : ∀ σ' τ', I σ' τ' → LK GX GM p e s m args below meth c Q b i 1534 σ' τ') : LK GX GM p e s m args below meth c Q b i 1317 σ τ := by
  have hx := C.1
  have hb := C.2.1
  obtain ⟨r, σ', τ', hX, hM, hI⟩ := hs
  intro H locs ls B hl
  refine lv_aload_n hx hb dL_law_1317 rfl (lv_at hl 1 rfl) ?_
  refine lv_aload_n hx hb dL_law_1318 rfl (lv_at hl 0 rfl) ?_
  refine lv_iload_n hx hb dL_law_1319 rfl (lv_at hl 3 rfl) ?_
  refine lv_iconst (v := (1 : Int32)) hx hb dL_law_1320 rfl ?_
  refine lv_iadd hx hb dL_law_1321 ?_
  refine r_nm (nI_p1 i) ?_
  refine rl_sld C B hL (by omega) dL_law_1322 ?_
  refine lv_aload_n hx hb dL_law_1323 rfl (lv_at hl 0 rfl) ?_
  refine lv_iload_n hx hb dL_law_1324 rfl (lv_at hl 3 rfl) ?_
  refine lv_iconst (v := (2 : Int32)) hx hb dL_law_1325 rfl ?_
  refine lv_iadd hx hb dL_law_1326 ?_
  refine r_nm (nI_p2 i) ?_
  refine rl_sld C B hL (by omega) dL_law_1327 ?_
  refine lv_aload_n hx hb dL_law_1328 rfl (lv_at hl 0 rfl) ?_
  refine lv_iload_n hx hb dL_law_1329 rfl (lv_at hl 3 rfl) ?_
  refine lv_iconst (v := (3 : Int32)) hx hb dL_law_1330 rfl ?_
  refine lv_iadd hx hb dL_law_1331 ?_
  refine r_nm (nI_p3 i) ?_
  refine rl_sld C B hL (by omega) dL_law_1332 ?_
  refine lv_aload_n hx hb dL_law_1333 rfl (lv_at hl 0 rfl) ?_
  refine lv_iload_n hx hb dL_law_1334 rfl (lv_at hl 3 rfl) ?_
  refine lv_iconst (v := (4 : Int32)) hx hb dL_law_1335 rfl ?_
  refine lv_iadd hx hb dL_law_1336 ?_
  refine r_nm (nI_p4 i) ?_
  refine rl_sld C B hL (by omega) dL_law_1337 ?_
  refine rl_callX (n := 4) (rest := []) C F B hl (c_X6_film GX n σ (xs (i + 1)) (xs (i + 2)) (xs (i + 3)) (xs (i + 4)) r σ' hX) cs_L_164 rfl rfl rfl (Nat.le_of_ble_eq_true rfl) ⟨rfl, rfl, Nat.le_of_ble_eq_true rfl, Nat.le_of_ble_eq_true rfl⟩ ⟨Nat.le_of_ble_eq_true rfl, Nat.le_of_ble_eq_true rfl⟩ dL_law_1338 (fun H locs B => ?_)
  refine lv_aload_n hx hb dL_law_1341 rfl (lv_at hl 2 rfl) ?_
  refine lv_aload_n hx hb dL_law_1342 rfl (lv_at hl 0 rfl) ?_
  refine lv_iload_n hx hb dL_law_1343 rfl (lv_at hl 3 rfl) ?_
  refine lv_iconst (v := (1 : Int32)) hx hb dL_law_1344 rfl ?_
  refine lv_iadd hx hb dL_law_1345 ?_
  refine r_nm (nI_p1 i) ?_
  refine rl_sld C B hL (by omega) dL_law_1346 ?_
  refine lv_aload_n hx hb dL_law_1347 rfl (lv_at hl 0 rfl) ?_
  refine lv_iload_n hx hb dL_law_1348 rfl (lv_at hl 3 rfl) ?_
  refine lv_iconst (v := (2 : Int32)) hx hb dL_law_1349 rfl ?_
  refine lv_iadd hx hb dL_law_1350 ?_
  refine r_nm (nI_p2 i) ?_
  refine rl_sld C B hL (by omega) dL_law_1351 ?_
  refine lv_aload_n hx hb dL_law_1352 rfl (lv_at hl 0 rfl) ?_
  refine lv_iload_n hx hb dL_law_1353 rfl (lv_at hl 3 rfl) ?_
  refine lv_iconst (v := (3 : Int32)) hx hb dL_law_1354 rfl ?_
  refine lv_iadd hx hb dL_law_1355 ?_
  refine r_nm (nI_p3 i) ?_
  refine rl_sld C B hL (by omega) dL_law_1356 ?_
  refine lv_aload_n hx hb dL_law_1357 rfl (lv_at hl 0 rfl) ?_
  refine lv_iload_n hx hb dL_law_1358 rfl (lv_at hl 3 rfl) ?_
  refine lv_iconst (v := (4 : Int32)) hx hb dL_law_1359 rfl ?_
  refine lv_iadd hx hb dL_law_1360 ?_
  refine r_nm (nI_p4 i) ?_
  refine rl_sld C B hL (by omega) dL_law_1361 ?_
  refine rl_callM (n := 4) (rest := [.int r]) C F B hl (c_X7_film GM n τ (xs (i + 1)) (xs (i + 2)) (xs (i + 3)) (xs (i + 4)) r τ' hM) cs_L_167 rfl rfl rfl (Nat.le_of_ble_eq_true rfl) ⟨rfl, rfl, Nat.le_of_ble_eq_true rfl, Nat.le_of_ble_eq_true rfl⟩ ⟨Nat.le_of_ble_eq_true rfl, Nat.le_of_ble_eq_true rfl⟩ dL_law_1362 (fun H locs B => ?_)
  refine lv_icmp_eq (tgt := 1534) hx hb dL_law_1365 (by decide) (fun _ => ?_) (fun q => absurd rfl q)
  exact kk _ _ hI H locs ls B hl
set_option maxRecDepth 100000 in
set_option maxHeartbeats 4000000 in
theorem lc_37 (C : LC p s m meth c args b L xs) (F : LF GX GM s) (hL : L ≤ 3072) (hi : i + 6 ≤ L) (hs : sc_37 n I σ τ (xs (i + 1)) (xs (i + 2)) (xs (i + 3))) (kk : ∀ σ' τ', I σ' τ' → LK GX GM p e s m args below meth c Q b i 1534 σ' τ') : LK GX GM p e s m args below meth c Q b i 1370 σ τ := by
  have hx := C.1
  have hb := C.2.1
  obtain ⟨r, σ', τ', hX, hM, hI⟩ := hs
  intro H locs ls B hl
  refine lv_aload_n hx hb dL_law_1370 rfl (lv_at hl 1 rfl) ?_
  refine lv_aload_n hx hb dL_law_1371 rfl (lv_at hl 0 rfl) ?_
  refine lv_iload_n hx hb dL_law_1372 rfl (lv_at hl 3 rfl) ?_
  refine lv_iconst (v := (1 : Int32)) hx hb dL_law_1373 rfl ?_
  refine lv_iadd hx hb dL_law_1374 ?_
  refine r_nm (nI_p1 i) ?_
  refine rl_sld C B hL (by omega) dL_law_1375 ?_
  refine lv_aload_n hx hb dL_law_1376 rfl (lv_at hl 0 rfl) ?_
  refine lv_iload_n hx hb dL_law_1377 rfl (lv_at hl 3 rfl) ?_
  refine lv_iconst (v := (2 : Int32)) hx hb dL_law_1378 rfl ?_
  refine lv_iadd hx hb dL_law_1379 ?_
  refine r_nm (nI_p2 i) ?_
  refine rl_sld C B hL (by omega) dL_law_1380 ?_
  refine lv_aload_n hx hb dL_law_1381 rfl (lv_at hl 0 rfl) ?_
  refine lv_iload_n hx hb dL_law_1382 rfl (lv_at hl 3 rfl) ?_
  refine lv_iconst (v := (3 : Int32)) hx hb dL_law_1383 rfl ?_
  refine lv_iadd hx hb dL_law_1384 ?_
  refine r_nm (nI_p3 i) ?_
  refine rl_sld C B hL (by omega) dL_law_1385 ?_
  refine rl_callX (n := 3) (rest := []) C F B hl (c_X6_judge GX n σ (xs (i + 1)) (xs (i + 2)) (xs (i + 3)) r σ' hX) cs_L_168 rfl rfl rfl (Nat.le_of_ble_eq_true rfl) ⟨rfl, rfl, Nat.le_of_ble_eq_true rfl, Nat.le_of_ble_eq_true rfl⟩ ⟨Nat.le_of_ble_eq_true rfl, Nat.le_of_ble_eq_true rfl⟩ dL_law_1386 (fun H locs B => ?_)
  refine lv_aload_n hx hb dL_law_1389 rfl (lv_at hl 2 rfl) ?_
  refine lv_aload_n hx hb dL_law_1390 rfl (lv_at hl 0 rfl) ?_
  refine lv_iload_n hx hb dL_law_1391 rfl (lv_at hl 3 rfl) ?_
  refine lv_iconst (v := (1 : Int32)) hx hb dL_law_1392 rfl ?_
  refine lv_iadd hx hb dL_law_1393 ?_
  refine r_nm (nI_p1 i) ?_
  refine rl_sld C B hL (by omega) dL_law_1394 ?_
  refine lv_aload_n hx hb dL_law_1395 rfl (lv_at hl 0 rfl) ?_
  refine lv_iload_n hx hb dL_law_1396 rfl (lv_at hl 3 rfl) ?_
  refine lv_iconst (v := (2 : Int32)) hx hb dL_law_1397 rfl ?_
  refine lv_iadd hx hb dL_law_1398 ?_
  refine r_nm (nI_p2 i) ?_
  refine rl_sld C B hL (by omega) dL_law_1399 ?_
  refine lv_aload_n hx hb dL_law_1400 rfl (lv_at hl 0 rfl) ?_
  refine lv_iload_n hx hb dL_law_1401 rfl (lv_at hl 3 rfl) ?_
  refine lv_iconst (v := (3 : Int32)) hx hb dL_law_1402 rfl ?_
  refine lv_iadd hx hb dL_law_1403 ?_
  refine r_nm (nI_p3 i) ?_
  refine rl_sld C B hL (by omega) dL_law_1404 ?_
  refine rl_callM (n := 3) (rest := [.int r]) C F B hl (c_X7_judge GM n τ (xs (i + 1)) (xs (i + 2)) (xs (i + 3)) r τ' hM) cs_L_171 rfl rfl rfl (Nat.le_of_ble_eq_true rfl) ⟨rfl, rfl, Nat.le_of_ble_eq_true rfl, Nat.le_of_ble_eq_true rfl⟩ ⟨Nat.le_of_ble_eq_true rfl, Nat.le_of_ble_eq_true rfl⟩ dL_law_1405 (fun H locs B => ?_)
  refine lv_icmp_eq (tgt := 1534) hx hb dL_law_1408 (by decide) (fun _ => ?_) (fun q => absurd rfl q)
  exact kk _ _ hI H locs ls B hl
set_option maxRecDepth 100000 in
set_option maxHeartbeats 4000000 in
theorem lc_38 (C : LC p s m meth c args b L xs) (F : LF GX GM s) (hL : L ≤ 3072) (hi : i + 6 ≤ L) (hs : sc_38 n I σ τ (xs (i + 1))) (kk : ∀ σ' τ', I σ' τ' → LK GX GM p e s m args below meth c Q b i 1534 σ' τ') : LK GX GM p e s m args below meth c Q b i 1413 σ τ := by
  have hx := C.1
  have hb := C.2.1
  obtain ⟨r, σ', τ', hX, hM, hI⟩ := hs
  intro H locs ls B hl
  refine lv_aload_n hx hb dL_law_1413 rfl (lv_at hl 1 rfl) ?_
  refine lv_aload_n hx hb dL_law_1414 rfl (lv_at hl 0 rfl) ?_
  refine lv_iload_n hx hb dL_law_1415 rfl (lv_at hl 3 rfl) ?_
  refine lv_iconst (v := (1 : Int32)) hx hb dL_law_1416 rfl ?_
  refine lv_iadd hx hb dL_law_1417 ?_
  refine r_nm (nI_p1 i) ?_
  refine rl_sld C B hL (by omega) dL_law_1418 ?_
  refine rl_callX (n := 1) (rest := []) C F B hl (c_X6_feed GX σ (xs (i + 1)) r σ' hX) cs_L_172 rfl rfl rfl (Nat.le_of_ble_eq_true rfl) ⟨rfl, rfl, Nat.le_of_ble_eq_true rfl, Nat.le_of_ble_eq_true rfl⟩ ⟨Nat.le_of_ble_eq_true rfl, Nat.le_of_ble_eq_true rfl⟩ dL_law_1419 (fun H locs B => ?_)
  refine lv_aload_n hx hb dL_law_1422 rfl (lv_at hl 2 rfl) ?_
  refine lv_aload_n hx hb dL_law_1423 rfl (lv_at hl 0 rfl) ?_
  refine lv_iload_n hx hb dL_law_1424 rfl (lv_at hl 3 rfl) ?_
  refine lv_iconst (v := (1 : Int32)) hx hb dL_law_1425 rfl ?_
  refine lv_iadd hx hb dL_law_1426 ?_
  refine r_nm (nI_p1 i) ?_
  refine rl_sld C B hL (by omega) dL_law_1427 ?_
  refine rl_callM (n := 1) (rest := [.int r]) C F B hl (c_X7_feed GM τ (xs (i + 1)) r τ' hM) cs_L_175 rfl rfl rfl (Nat.le_of_ble_eq_true rfl) ⟨rfl, rfl, Nat.le_of_ble_eq_true rfl, Nat.le_of_ble_eq_true rfl⟩ ⟨Nat.le_of_ble_eq_true rfl, Nat.le_of_ble_eq_true rfl⟩ dL_law_1428 (fun H locs B => ?_)
  refine lv_icmp_eq (tgt := 1534) hx hb dL_law_1431 (by decide) (fun _ => ?_) (fun q => absurd rfl q)
  exact kk _ _ hI H locs ls B hl
set_option maxRecDepth 100000 in
set_option maxHeartbeats 4000000 in
theorem lc_39 (C : LC p s m meth c args b L xs) (F : LF GX GM s) (hL : L ≤ 3072) (hi : i + 6 ≤ L) (hs : sc_39 n I σ τ) (kk : ∀ σ' τ', I σ' τ' → LK GX GM p e s m args below meth c Q b i 1534 σ' τ') : LK GX GM p e s m args below meth c Q b i 1436 σ τ := by
  have hx := C.1
  have hb := C.2.1
  obtain ⟨r, σ', τ', hX, hM, hI⟩ := hs
  intro H locs ls B hl
  refine lv_aload_n hx hb dL_law_1436 rfl (lv_at hl 1 rfl) ?_
  refine rl_callX (n := 0) (rest := []) C F B hl (c_X6_wipe GX σ r σ' hX) cs_L_176 rfl rfl rfl (Nat.le_of_ble_eq_true rfl) ⟨rfl, rfl, Nat.le_of_ble_eq_true rfl, Nat.le_of_ble_eq_true rfl⟩ ⟨Nat.le_of_ble_eq_true rfl, Nat.le_of_ble_eq_true rfl⟩ dL_law_1437 (fun H locs B => ?_)
  refine lv_aload_n hx hb dL_law_1440 rfl (lv_at hl 2 rfl) ?_
  refine rl_callM (n := 0) (rest := [.int r]) C F B hl (c_X7_wipe GM τ r τ' hM) cs_L_179 rfl rfl rfl (Nat.le_of_ble_eq_true rfl) ⟨rfl, rfl, Nat.le_of_ble_eq_true rfl, Nat.le_of_ble_eq_true rfl⟩ ⟨Nat.le_of_ble_eq_true rfl, Nat.le_of_ble_eq_true rfl⟩ dL_law_1441 (fun H locs B => ?_)
  refine lv_icmp_eq (tgt := 1534) hx hb dL_law_1444 (by decide) (fun _ => ?_) (fun q => absurd rfl q)
  exact kk _ _ hI H locs ls B hl
set_option maxRecDepth 100000 in
set_option maxHeartbeats 4000000 in
theorem lc_40 (C : LC p s m meth c args b L xs) (F : LF GX GM s) (hL : L ≤ 3072) (hi : i + 6 ≤ L) (hs : sc_40 n I σ τ) (kk : ∀ σ' τ', I σ' τ' → LK GX GM p e s m args below meth c Q b i 1534 σ' τ') : LK GX GM p e s m args below meth c Q b i 1449 σ τ := by
  have hx := C.1
  have hb := C.2.1
  obtain ⟨r, σ', τ', hX, hM, hI⟩ := hs
  intro H locs ls B hl
  refine lv_aload_n hx hb dL_law_1449 rfl (lv_at hl 1 rfl) ?_
  refine rl_callX (n := 0) (rest := []) C F B hl (c_X6_read GX n σ r σ' hX) cs_L_180 rfl rfl rfl (Nat.le_of_ble_eq_true rfl) ⟨rfl, rfl, Nat.le_of_ble_eq_true rfl, Nat.le_of_ble_eq_true rfl⟩ ⟨Nat.le_of_ble_eq_true rfl, Nat.le_of_ble_eq_true rfl⟩ dL_law_1450 (fun H locs B => ?_)
  refine lv_aload_n hx hb dL_law_1453 rfl (lv_at hl 2 rfl) ?_
  refine rl_callM (n := 0) (rest := [.int r]) C F B hl (c_X7_read GM n τ r τ' hM) cs_L_183 rfl rfl rfl (Nat.le_of_ble_eq_true rfl) ⟨rfl, rfl, Nat.le_of_ble_eq_true rfl, Nat.le_of_ble_eq_true rfl⟩ ⟨Nat.le_of_ble_eq_true rfl, Nat.le_of_ble_eq_true rfl⟩ dL_law_1454 (fun H locs B => ?_)
  refine lv_icmp_eq (tgt := 1534) hx hb dL_law_1457 (by decide) (fun _ => ?_) (fun q => absurd rfl q)
  exact kk _ _ hI H locs ls B hl
set_option maxRecDepth 100000 in
set_option maxHeartbeats 4000000 in
theorem lc_41 (C : LC p s m meth c args b L xs) (F : LF GX GM s) (hL : L ≤ 3072) (hi : i + 6 ≤ L) (hs : sc_41 n I σ τ (xs (i + 1))) (kk : ∀ σ' τ', I σ' τ' → LK GX GM p e s m args below meth c Q b i 1534 σ' τ') : LK GX GM p e s m args below meth c Q b i 1462 σ τ := by
  have hx := C.1
  have hb := C.2.1
  obtain ⟨r, σ', τ', hX, hM, hI⟩ := hs
  intro H locs ls B hl
  refine lv_aload_n hx hb dL_law_1462 rfl (lv_at hl 1 rfl) ?_
  refine lv_aload_n hx hb dL_law_1463 rfl (lv_at hl 0 rfl) ?_
  refine lv_iload_n hx hb dL_law_1464 rfl (lv_at hl 3 rfl) ?_
  refine lv_iconst (v := (1 : Int32)) hx hb dL_law_1465 rfl ?_
  refine lv_iadd hx hb dL_law_1466 ?_
  refine r_nm (nI_p1 i) ?_
  refine rl_sld C B hL (by omega) dL_law_1467 ?_
  refine rl_callX (n := 1) (rest := []) C F B hl (c_X6_spelled GX n σ (xs (i + 1)) r σ' hX) cs_L_184 rfl rfl rfl (Nat.le_of_ble_eq_true rfl) ⟨rfl, rfl, Nat.le_of_ble_eq_true rfl, Nat.le_of_ble_eq_true rfl⟩ ⟨Nat.le_of_ble_eq_true rfl, Nat.le_of_ble_eq_true rfl⟩ dL_law_1468 (fun H locs B => ?_)
  refine lv_aload_n hx hb dL_law_1471 rfl (lv_at hl 2 rfl) ?_
  refine lv_aload_n hx hb dL_law_1472 rfl (lv_at hl 0 rfl) ?_
  refine lv_iload_n hx hb dL_law_1473 rfl (lv_at hl 3 rfl) ?_
  refine lv_iconst (v := (1 : Int32)) hx hb dL_law_1474 rfl ?_
  refine lv_iadd hx hb dL_law_1475 ?_
  refine r_nm (nI_p1 i) ?_
  refine rl_sld C B hL (by omega) dL_law_1476 ?_
  refine rl_callM (n := 1) (rest := [.int r]) C F B hl (c_X7_spelled GM n τ (xs (i + 1)) r τ' hM) cs_L_187 rfl rfl rfl (Nat.le_of_ble_eq_true rfl) ⟨rfl, rfl, Nat.le_of_ble_eq_true rfl, Nat.le_of_ble_eq_true rfl⟩ ⟨Nat.le_of_ble_eq_true rfl, Nat.le_of_ble_eq_true rfl⟩ dL_law_1477 (fun H locs B => ?_)
  refine lv_icmp_eq (tgt := 1534) hx hb dL_law_1480 (by decide) (fun _ => ?_) (fun q => absurd rfl q)
  exact kk _ _ hI H locs ls B hl
set_option maxRecDepth 100000 in
set_option maxHeartbeats 4000000 in
theorem lc_42 (C : LC p s m meth c args b L xs) (F : LF GX GM s) (hL : L ≤ 3072) (hi : i + 6 ≤ L) (hs : sc_42 n I σ τ) (kk : ∀ σ' τ', I σ' τ' → LK GX GM p e s m args below meth c Q b i 1534 σ' τ') : LK GX GM p e s m args below meth c Q b i 1485 σ τ := by
  have hx := C.1
  have hb := C.2.1
  obtain ⟨r, σ', τ', hX, hM, hI⟩ := hs
  intro H locs ls B hl
  refine lv_aload_n hx hb dL_law_1485 rfl (lv_at hl 1 rfl) ?_
  refine rl_callX (n := 0) (rest := []) C F B hl (c_X6_image GX σ r σ' hX) cs_L_188 rfl rfl rfl (Nat.le_of_ble_eq_true rfl) ⟨rfl, rfl, Nat.le_of_ble_eq_true rfl, Nat.le_of_ble_eq_true rfl⟩ ⟨Nat.le_of_ble_eq_true rfl, Nat.le_of_ble_eq_true rfl⟩ dL_law_1486 (fun H locs B => ?_)
  refine lv_aload_n hx hb dL_law_1489 rfl (lv_at hl 2 rfl) ?_
  refine rl_callM (n := 0) (rest := [.int r]) C F B hl (c_X7_image GM n τ r τ' hM) cs_L_191 rfl rfl rfl (Nat.le_of_ble_eq_true rfl) ⟨rfl, rfl, Nat.le_of_ble_eq_true rfl, Nat.le_of_ble_eq_true rfl⟩ ⟨Nat.le_of_ble_eq_true rfl, Nat.le_of_ble_eq_true rfl⟩ dL_law_1490 (fun H locs B => ?_)
  refine lv_icmp_eq (tgt := 1534) hx hb dL_law_1493 (by decide) (fun _ => ?_) (fun q => absurd rfl q)
  exact kk _ _ hI H locs ls B hl
set_option maxRecDepth 100000 in
set_option maxHeartbeats 4000000 in
theorem lc_43 (C : LC p s m meth c args b L xs) (F : LF GX GM s) (hL : L ≤ 3072) (hi : i + 6 ≤ L) (hs : sc_43 n I σ τ) (kk : ∀ σ' τ', I σ' τ' → LK GX GM p e s m args below meth c Q b i 1534 σ' τ') : LK GX GM p e s m args below meth c Q b i 1498 σ τ := by
  have hx := C.1
  have hb := C.2.1
  obtain ⟨r, σ', τ', hX, hM, hI⟩ := hs
  intro H locs ls B hl
  refine lv_aload_n hx hb dL_law_1498 rfl (lv_at hl 1 rfl) ?_
  refine rl_callX (n := 0) (rest := []) C F B hl (c_X6_undo GX σ r σ' hX) cs_L_192 rfl rfl rfl (Nat.le_of_ble_eq_true rfl) ⟨rfl, rfl, Nat.le_of_ble_eq_true rfl, Nat.le_of_ble_eq_true rfl⟩ ⟨Nat.le_of_ble_eq_true rfl, Nat.le_of_ble_eq_true rfl⟩ dL_law_1499 (fun H locs B => ?_)
  refine lv_aload_n hx hb dL_law_1502 rfl (lv_at hl 2 rfl) ?_
  refine rl_callM (n := 0) (rest := [.int r]) C F B hl (c_X7_undo GM n τ r τ' hM) cs_L_195 rfl rfl rfl (Nat.le_of_ble_eq_true rfl) ⟨rfl, rfl, Nat.le_of_ble_eq_true rfl, Nat.le_of_ble_eq_true rfl⟩ ⟨Nat.le_of_ble_eq_true rfl, Nat.le_of_ble_eq_true rfl⟩ dL_law_1503 (fun H locs B => ?_)
  refine lv_icmp_eq (tgt := 1534) hx hb dL_law_1506 (by decide) (fun _ => ?_) (fun q => absurd rfl q)
  exact kk _ _ hI H locs ls B hl
set_option maxRecDepth 100000 in
set_option maxHeartbeats 4000000 in
theorem lc_44 (C : LC p s m meth c args b L xs) (F : LF GX GM s) (hL : L ≤ 3072) (hi : i + 6 ≤ L) (hs : sc_44 n I σ τ (xs (i + 1))) (kk : ∀ σ' τ', I σ' τ' → LK GX GM p e s m args below meth c Q b i 1534 σ' τ') : LK GX GM p e s m args below meth c Q b i 1511 σ τ := by
  have hx := C.1
  have hb := C.2.1
  obtain ⟨r, hX, hM, hI⟩ := hs
  intro H locs ls B hl
  refine lv_aload_n hx hb dL_law_1511 rfl (lv_at hl 1 rfl) ?_
  refine lv_aload_n hx hb dL_law_1512 rfl (lv_at hl 0 rfl) ?_
  refine lv_iload_n hx hb dL_law_1513 rfl (lv_at hl 3 rfl) ?_
  refine lv_iconst (v := (1 : Int32)) hx hb dL_law_1514 rfl ?_
  refine lv_iadd hx hb dL_law_1515 ?_
  refine r_nm (nI_p1 i) ?_
  refine rl_sld C B hL (by omega) dL_law_1516 ?_
  refine rl_callX (n := 1) (rest := []) C F B hl (c_X6_count GX n σ (xs (i + 1)) r hX) cs_L_196 rfl rfl rfl (Nat.le_of_ble_eq_true rfl) ⟨rfl, rfl, Nat.le_of_ble_eq_true rfl, Nat.le_of_ble_eq_true rfl⟩ ⟨Nat.le_of_ble_eq_true rfl, Nat.le_of_ble_eq_true rfl⟩ dL_law_1517 (fun H locs B => ?_)
  refine lv_aload_n hx hb dL_law_1520 rfl (lv_at hl 2 rfl) ?_
  refine lv_aload_n hx hb dL_law_1521 rfl (lv_at hl 0 rfl) ?_
  refine lv_iload_n hx hb dL_law_1522 rfl (lv_at hl 3 rfl) ?_
  refine lv_iconst (v := (1 : Int32)) hx hb dL_law_1523 rfl ?_
  refine lv_iadd hx hb dL_law_1524 ?_
  refine r_nm (nI_p1 i) ?_
  refine rl_sld C B hL (by omega) dL_law_1525 ?_
  refine rl_callM (n := 1) (rest := [.int r]) C F B hl (c_X7_count GM n τ (xs (i + 1)) r hM) cs_L_199 rfl rfl rfl (Nat.le_of_ble_eq_true rfl) ⟨rfl, rfl, Nat.le_of_ble_eq_true rfl, Nat.le_of_ble_eq_true rfl⟩ ⟨Nat.le_of_ble_eq_true rfl, Nat.le_of_ble_eq_true rfl⟩ dL_law_1526 (fun H locs B => ?_)
  refine lv_icmp_eq (tgt := 1534) hx hb dL_law_1529 (by decide) (fun _ => ?_) (fun q => absurd rfl q)
  exact kk _ _ hI H locs ls B hl
set_option maxRecDepth 100000 in
set_option maxHeartbeats 16000000 in
theorem lc_sw (C : LC p s m meth c args b L xs) (F : LF GX GM s) (hL : L ≤ 3072) (hi : i + 6 ≤ L) (hI : I σ τ) (J : ST → ST → Prop) (hJ : ∀ σ τ, I σ τ → J σ τ) (hs : scAll n I J) (kk : ∀ σ' τ', J σ' τ' → LK GX GM p e s m args below meth c Q b i 1534 σ' τ') : LK GX GM p e s m args below meth c Q b i 27 σ τ := by
  have hx := C.1
  have hb := C.2.1
  intro H locs ls B hl
  have hs := hs σ τ hI (xs (i + 1)) (xs (i + 2)) (xs (i + 3)) (xs (i + 4)) (xs (i + 5))
  refine lv_aload_n hx hb dL_law_27 rfl (lv_at hl 0 rfl) ?_
  refine lv_iload_n hx hb dL_law_28 rfl (lv_at hl 3 rfl) ?_
  refine rl_sld C B hL (by omega) dL_law_29 ?_
  refine lv_bipush (v := (63 : Int32)) hx hb dL_law_30 rfl ?_
  refine lv_iand hx hb dL_law_32 ?_
  obtain ⟨z, hz⟩ : ∃ z : Int32, z = xs i &&& 63 := ⟨_, rfl⟩
  refine r_nm hz ?_
  obtain ⟨h0, h1, h2, h3, h4, h5, h6, h7, h8, h9, h10, h11, h12, h13, h14, h15, h16, h17, h18, h19, h20, h21, h22, h23, h24, h25, h26, h27, h28, h29, h30, h31, h32, h33, h34, h35, h36, h37, h38, h39, h40, h41, h42, h43, h44⟩ := hs
  by_cases q0 : z = (0 : Int32)
  · refine rl_tab (off := 195) (tgt := 228) hx hb q0 dL_law_33 (by decide) (by decide) ?_
    exact lc_0 C F hL hi h0 kk H locs ls B hl
  by_cases q1 : z = (1 : Int32)
  · refine rl_tab (off := 218) (tgt := 251) hx hb q1 dL_law_33 (by decide) (by decide) ?_
    exact lc_1 C F hL hi h1 kk H locs ls B hl
  by_cases q2 : z = (2 : Int32)
  · refine rl_tab (off := 261) (tgt := 294) hx hb q2 dL_law_33 (by decide) (by decide) ?_
    exact lc_2 C F hL hi h2 kk H locs ls B hl
  by_cases q3 : z = (3 : Int32)
  · refine rl_tab (off := 294) (tgt := 327) hx hb q3 dL_law_33 (by decide) (by decide) ?_
    exact lc_3 C F hL hi h3 kk H locs ls B hl
  by_cases q4 : z = (4 : Int32)
  · refine rl_tab (off := 317) (tgt := 350) hx hb q4 dL_law_33 (by decide) (by decide) ?_
    exact lc_4 C F hL hi h4 kk H locs ls B hl
  by_cases q5 : z = (5 : Int32)
  · refine rl_tab (off := 350) (tgt := 383) hx hb q5 dL_law_33 (by decide) (by decide) ?_
    exact lc_5 C F hL hi h5 kk H locs ls B hl
  by_cases q6 : z = (6 : Int32)
  · refine rl_tab (off := 373) (tgt := 406) hx hb q6 dL_law_33 (by decide) (by decide) ?_
    exact lc_6 C F hL hi h6 kk H locs ls B hl
  by_cases q7 : z = (7 : Int32)
  · refine rl_tab (off := 406) (tgt := 439) hx hb q7 dL_law_33 (by decide) (by decide) ?_
    exact lc_7 C F hL hi h7 kk H locs ls B hl
  by_cases q8 : z = (8 : Int32)
  · refine rl_tab (off := 429) (tgt := 462) hx hb q8 dL_law_33 (by decide) (by decide) ?_
    exact lc_8 C F hL hi h8 kk H locs ls B hl
  by_cases q9 : z = (9 : Int32)
  · refine rl_tab (off := 452) (tgt := 485) hx hb q9 dL_law_33 (by decide) (by decide) ?_
    exact lc_9 C F hL hi h9 kk H locs ls B hl
  by_cases q10 : z = (10 : Int32)
  · refine rl_tab (off := 485) (tgt := 518) hx hb q10 dL_law_33 (by decide) (by decide) ?_
    exact lc_10 C F hL hi h10 kk H locs ls B hl
  by_cases q11 : z = (11 : Int32)
  · refine rl_tab (off := 518) (tgt := 551) hx hb q11 dL_law_33 (by decide) (by decide) ?_
    exact lc_11 C F hL hi h11 kk H locs ls B hl
  by_cases q12 : z = (12 : Int32)
  · refine rl_tab (off := 551) (tgt := 584) hx hb q12 dL_law_33 (by decide) (by decide) ?_
    exact lc_12 C F hL hi h12 kk H locs ls B hl
  by_cases q13 : z = (13 : Int32)
  · refine rl_tab (off := 584) (tgt := 617) hx hb q13 dL_law_33 (by decide) (by decide) ?_
    exact lc_13 C F hL hi h13 kk H locs ls B hl
  by_cases q14 : z = (14 : Int32)
  · refine rl_tab (off := 617) (tgt := 650) hx hb q14 dL_law_33 (by decide) (by decide) ?_
    exact lc_14 C F hL hi h14 kk H locs ls B hl
  by_cases q15 : z = (15 : Int32)
  · refine rl_tab (off := 650) (tgt := 683) hx hb q15 dL_law_33 (by decide) (by decide) ?_
    exact lc_15 C F hL hi h15 kk H locs ls B hl
  by_cases q16 : z = (16 : Int32)
  · refine rl_tab (off := 683) (tgt := 716) hx hb q16 dL_law_33 (by decide) (by decide) ?_
    exact lc_16 C F hL hi h16 kk H locs ls B hl
  by_cases q17 : z = (17 : Int32)
  · refine rl_tab (off := 726) (tgt := 759) hx hb q17 dL_law_33 (by decide) (by decide) ?_
    exact lc_17 C F hL hi h17 kk H locs ls B hl
  by_cases q18 : z = (18 : Int32)
  · refine rl_tab (off := 779) (tgt := 812) hx hb q18 dL_law_33 (by decide) (by decide) ?_
    exact lc_18 C F hL hi h18 kk H locs ls B hl
  by_cases q19 : z = (19 : Int32)
  · refine rl_tab (off := 802) (tgt := 835) hx hb q19 dL_law_33 (by decide) (by decide) ?_
    exact lc_19 C F hL hi h19 kk H locs ls B hl
  by_cases q20 : z = (20 : Int32)
  · refine rl_tab (off := 855) (tgt := 888) hx hb q20 dL_law_33 (by decide) (by decide) ?_
    exact lc_20 C F hL hi h20 kk H locs ls B hl
  by_cases q21 : z = (21 : Int32)
  · refine rl_tab (off := 888) (tgt := 921) hx hb q21 dL_law_33 (by decide) (by decide) ?_
    exact lc_21 C F hL hi h21 kk H locs ls B hl
  by_cases q22 : z = (22 : Int32)
  · refine rl_tab (off := 921) (tgt := 954) hx hb q22 dL_law_33 (by decide) (by decide) ?_
    exact lc_22 C F hL hi h22 kk H locs ls B hl
  by_cases q23 : z = (23 : Int32)
  · refine rl_tab (off := 944) (tgt := 977) hx hb q23 dL_law_33 (by decide) (by decide) ?_
    exact lc_23 C F hL hi h23 kk H locs ls B hl
  by_cases q24 : z = (24 : Int32)
  · refine rl_tab (off := 967) (tgt := 1000) hx hb q24 dL_law_33 (by decide) (by decide) ?_
    exact lc_24 C F hL hi h24 kk H locs ls B hl
  by_cases q25 : z = (25 : Int32)
  · refine rl_tab (off := 990) (tgt := 1023) hx hb q25 dL_law_33 (by decide) (by decide) ?_
    exact lc_25 C F hL hi h25 kk H locs ls B hl
  by_cases q26 : z = (26 : Int32)
  · refine rl_tab (off := 1003) (tgt := 1036) hx hb q26 dL_law_33 (by decide) (by decide) ?_
    exact lc_26 C F hL hi h26 kk H locs ls B hl
  by_cases q27 : z = (27 : Int32)
  · refine rl_tab (off := 1016) (tgt := 1049) hx hb q27 dL_law_33 (by decide) (by decide) ?_
    exact lc_27 C F hL hi h27 kk H locs ls B hl
  by_cases q28 : z = (28 : Int32)
  · refine rl_tab (off := 1039) (tgt := 1072) hx hb q28 dL_law_33 (by decide) (by decide) ?_
    exact lc_28 C F hL hi h28 kk H locs ls B hl
  by_cases q29 : z = (29 : Int32)
  · refine rl_tab (off := 1062) (tgt := 1095) hx hb q29 dL_law_33 (by decide) (by decide) ?_
    exact lc_29 C F hL hi h29 kk H locs ls B hl
  by_cases q30 : z = (30 : Int32)
  · refine rl_tab (off := 1075) (tgt := 1108) hx hb q30 dL_law_33 (by decide) (by decide) ?_
    exact lc_30 C F hL hi h30 kk H locs ls B hl
  by_cases q31 : z = (31 : Int32)
  · refine rl_tab (off := 1088) (tgt := 1121) hx hb q31 dL_law_33 (by decide) (by decide) ?_
    exact lc_31 C F hL hi h31 kk H locs ls B hl
  by_cases q32 : z = (32 : Int32)
  · refine rl_tab (off := 1121) (tgt := 1154) hx hb q32 dL_law_33 (by decide) (by decide) ?_
    exact lc_32 C F hL hi h32 kk H locs ls B hl
  by_cases q33 : z = (33 : Int32)
  · refine rl_tab (off := 1144) (tgt := 1177) hx hb q33 dL_law_33 (by decide) (by decide) ?_
    exact lc_33 C F hL hi h33 kk H locs ls B hl
  by_cases q34 : z = (34 : Int32)
  · refine rl_tab (off := 1187) (tgt := 1220) hx hb q34 dL_law_33 (by decide) (by decide) ?_
    exact lc_34 C F hL hi h34 kk H locs ls B hl
  by_cases q35 : z = (35 : Int32)
  · refine rl_tab (off := 1221) (tgt := 1254) hx hb q35 dL_law_33 (by decide) (by decide) ?_
    exact lc_35 C F hL hi h35 kk H locs ls B hl
  by_cases q36 : z = (36 : Int32)
  · refine rl_tab (off := 1284) (tgt := 1317) hx hb q36 dL_law_33 (by decide) (by decide) ?_
    exact lc_36 C F hL hi h36 kk H locs ls B hl
  by_cases q37 : z = (37 : Int32)
  · refine rl_tab (off := 1337) (tgt := 1370) hx hb q37 dL_law_33 (by decide) (by decide) ?_
    exact lc_37 C F hL hi h37 kk H locs ls B hl
  by_cases q38 : z = (38 : Int32)
  · refine rl_tab (off := 1380) (tgt := 1413) hx hb q38 dL_law_33 (by decide) (by decide) ?_
    exact lc_38 C F hL hi h38 kk H locs ls B hl
  by_cases q39 : z = (39 : Int32)
  · refine rl_tab (off := 1403) (tgt := 1436) hx hb q39 dL_law_33 (by decide) (by decide) ?_
    exact lc_39 C F hL hi h39 kk H locs ls B hl
  by_cases q40 : z = (40 : Int32)
  · refine rl_tab (off := 1416) (tgt := 1449) hx hb q40 dL_law_33 (by decide) (by decide) ?_
    exact lc_40 C F hL hi h40 kk H locs ls B hl
  by_cases q41 : z = (41 : Int32)
  · refine rl_tab (off := 1429) (tgt := 1462) hx hb q41 dL_law_33 (by decide) (by decide) ?_
    exact lc_41 C F hL hi h41 kk H locs ls B hl
  by_cases q42 : z = (42 : Int32)
  · refine rl_tab (off := 1452) (tgt := 1485) hx hb q42 dL_law_33 (by decide) (by decide) ?_
    exact lc_42 C F hL hi h42 kk H locs ls B hl
  by_cases q43 : z = (43 : Int32)
  · refine rl_tab (off := 1465) (tgt := 1498) hx hb q43 dL_law_33 (by decide) (by decide) ?_
    exact lc_43 C F hL hi h43 kk H locs ls B hl
  by_cases q44 : z = (44 : Int32)
  · refine rl_tab (off := 1478) (tgt := 1511) hx hb q44 dL_law_33 (by decide) (by decide) ?_
    exact lc_44 C F hL hi h44 kk H locs ls B hl
  refine lv_tableOut (tgt := 1534) hx hb dL_law_33 (r_span (fun k h1 h2 => ?_)) (by decide) ?_
  · have e : k = 0 ∨ k = 1 ∨ k = 2 ∨ k = 3 ∨ k = 4 ∨ k = 5 ∨ k = 6 ∨ k = 7 ∨ k = 8 ∨ k = 9 ∨ k = 10 ∨ k = 11 ∨ k = 12 ∨ k = 13 ∨ k = 14 ∨ k = 15 ∨ k = 16 ∨ k = 17 ∨ k = 18 ∨ k = 19 ∨ k = 20 ∨ k = 21 ∨ k = 22 ∨ k = 23 ∨ k = 24 ∨ k = 25 ∨ k = 26 ∨ k = 27 ∨ k = 28 ∨ k = 29 ∨ k = 30 ∨ k = 31 ∨ k = 32 ∨ k = 33 ∨ k = 34 ∨ k = 35 ∨ k = 36 ∨ k = 37 ∨ k = 38 ∨ k = 39 ∨ k = 40 ∨ k = 41 ∨ k = 42 ∨ k = 43 ∨ k = 44 := by omega
    rcases e with rfl | rfl | rfl | rfl | rfl | rfl | rfl | rfl | rfl | rfl | rfl | rfl | rfl | rfl | rfl | rfl | rfl | rfl | rfl | rfl | rfl | rfl | rfl | rfl | rfl | rfl | rfl | rfl | rfl | rfl | rfl | rfl | rfl | rfl | rfl | rfl | rfl | rfl | rfl | rfl | rfl | rfl | rfl | rfl | rfl
    · exact ne_toInt q0
    · exact ne_toInt q1
    · exact ne_toInt q2
    · exact ne_toInt q3
    · exact ne_toInt q4
    · exact ne_toInt q5
    · exact ne_toInt q6
    · exact ne_toInt q7
    · exact ne_toInt q8
    · exact ne_toInt q9
    · exact ne_toInt q10
    · exact ne_toInt q11
    · exact ne_toInt q12
    · exact ne_toInt q13
    · exact ne_toInt q14
    · exact ne_toInt q15
    · exact ne_toInt q16
    · exact ne_toInt q17
    · exact ne_toInt q18
    · exact ne_toInt q19
    · exact ne_toInt q20
    · exact ne_toInt q21
    · exact ne_toInt q22
    · exact ne_toInt q23
    · exact ne_toInt q24
    · exact ne_toInt q25
    · exact ne_toInt q26
    · exact ne_toInt q27
    · exact ne_toInt q28
    · exact ne_toInt q29
    · exact ne_toInt q30
    · exact ne_toInt q31
    · exact ne_toInt q32
    · exact ne_toInt q33
    · exact ne_toInt q34
    · exact ne_toInt q35
    · exact ne_toInt q36
    · exact ne_toInt q37
    · exact ne_toInt q38
    · exact ne_toInt q39
    · exact ne_toInt q40
    · exact ne_toInt q41
    · exact ne_toInt q42
    · exact ne_toInt q43
    · exact ne_toInt q44
  · exact kk σ τ (hJ σ τ hI) H locs ls B hl
end RWC
