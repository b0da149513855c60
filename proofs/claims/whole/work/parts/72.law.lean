/-! ===== the law ===== -/
section LW
variable {M : MC} {X : XP} {Q : State → Prop} {σ : PI} {pc : Nat} {st : List Value} {b Ln : Nat} {xs : Nat → Int32} {i : Nat}
/-- the law at work: its script of Ln ints at b, which it never changes -/
def LC (M : MC) (X : XP) (b Ln : Nat) (xs : Nat → Int32) : Prop := match M with
  | (p, l, e, R, s, m, args, below, meth, c, cells, slots) => Cx (p, l, e, R, s, m, args, below, meth, c, cells, slots) X RL cL_law 4 (some .boolean) 40 ∧ va_X b Ln xs s s.heap ∧ b < s.heap.size ∧ ¬ X.2.2.2.2 b ∧ Ln ≤ 3072
def LL (X : XP) (b i : Nat) : List (Option Value) := [some (.ref b), some (.ref (X.1 252)), some (.ref (X.1 276)), some (.int (nI i))]
theorem LC.cx (h : LC M X b Ln xs) : Cx M X RL cL_law 4 (some .boolean) 40 := by
  obtain ⟨p, l, e, R, s, m, args, below, meth, c, cells, slots⟩ := M
  exact h.1
theorem LC.l (h : LC M X b Ln xs) : Ln ≤ 3072 := by
  obtain ⟨p, l, e, R, s, m, args, below, meth, c, cells, slots⟩ := M
  exact h.2.2.2.2
theorem J_scr (lc : LC M X b Ln xs) {L : List (Option Value)} {x : Int32} (hin : vp_in x Ln) (d : decode cL_law pc = .ok (.iaload, 1)) (kk : J M X Q σ (pc + 1) L (.int (xs x.toNatClampNeg) :: st)) : J M X Q σ pc L (.int x :: .ref b :: st) := by
  obtain ⟨p, l, e, R, s, m, args, below, meth, c, cells, slots⟩ := M
  intro H locs ls hP hS hl
  exact va_sld lc.1.1 lc.1.2.1 lc.2.1 lc.2.2.1 lc.2.2.2.1 hS hin d (kk H locs ls hP hS hl)
theorem J_slen (lc : LC M X b Ln xs) {L : List (Option Value)} (d : decode cL_law pc = .ok (.arraylength, 1)) (kk : J M X Q σ (pc + 1) L (.int (Int32.ofNat Ln) :: st)) : J M X Q σ pc L (.ref b :: st) := by
  obtain ⟨p, l, e, R, s, m, args, below, meth, c, cells, slots⟩ := M
  intro H locs ls hP hS hl
  exact va_slen lc.1.1 lc.1.2.1 lc.2.1 lc.2.2.1 lc.2.2.2.1 hS d (kk H locs ls hP hS hl)
/-- script[i + k] -/
theorem J_arg (lc : LC M X b Ln xs) {k : Nat} {z : Int} (hk : i + k < Ln) (hz : Int32.ofInt z = nI k) (d0 : decode cL_law pc = .ok (.aload_n 0, 1)) (d1 : decode cL_law (pc + 1) = .ok (.iload_n 3, 1)) (d2 : decode cL_law (pc + 1 + 1) = .ok (.iconst z, 1)) (d3 : decode cL_law (pc + 1 + 1 + 1) = .ok (.iadd, 1)) (d4 : decode cL_law (pc + 1 + 1 + 1 + 1) = .ok (.iaload, 1)) (kk : J M X Q σ (pc + 1 + 1 + 1 + 1 + 1) (LL X b i) (.int (xs (i + k)) :: st)) : J M X Q σ pc (LL X b i) st := by
  have hl := lc.l
  refine J_aload_n lc.cx 0 d0 rfl rfl ?_
  refine J_iload_n lc.cx 3 d1 rfl rfl ?_
  refine J_iconst lc.cx d2 hz ?_
  refine J_iadd lc.cx d3 ?_
  rw [nI_add]
  refine J_scr lc (vpN hk (by omega)) d4 ?_
  rw [nI_cl (by omega)]
  exact kk
theorem law_0 (lc : LC M X b Ln xs) (hi : i + 5 < Ln) (hR : Rel σ) (K : ∀ τ, Rel τ → J M X Q τ 1549 (LL X b i) []) : J M X Q σ 208 (LL X b i) [] := by
  refine J_aload_n lc.cx 1 dL_law_208 rfl rfl ?_
  refine J_arg lc (k := 1) (by omega) (by decide) dL_law_209 dL_law_210 dL_law_211 dL_law_212 dL_law_213 ?_
  refine J_arg lc (k := 2) (by omega) (by decide) dL_law_214 dL_law_215 dL_law_216 dL_law_217 dL_law_218 ?_
  refine J_arg lc (k := 3) (by omega) (by decide) dL_law_219 dL_law_220 dL_law_221 dL_law_222 dL_law_223 ?_
  refine J_cV lc.cx dL_law_224 V_L_13 (by omega) (i := 252) (by omega) rfl (ct_X4_row _ _ _ σ _ (eq_row hR)) rfl rfl (Nat.le_of_ble_eq_true rfl) (k_i (fun v τ hq => ?_))
  refine J_aload_n lc.cx 2 dL_law_227 rfl rfl ?_
  refine J_arg lc (k := 1) (by omega) (by decide) dL_law_228 dL_law_229 dL_law_230 dL_law_231 dL_law_232 ?_
  refine J_arg lc (k := 2) (by omega) (by decide) dL_law_233 dL_law_234 dL_law_235 dL_law_236 dL_law_237 ?_
  refine J_arg lc (k := 3) (by omega) (by decide) dL_law_238 dL_law_239 dL_law_240 dL_law_241 dL_law_242 ?_
  refine J_cV lc.cx dL_law_243 V_L_17 (by omega) (i := 276) (by omega) rfl (ct_X5_row _ _ _ τ _ hq) rfl rfl (Nat.le_of_ble_eq_true rfl) (k_i (fun v' τ' hq' => ?_))
  obtain ⟨rfl, hR'⟩ := hq'
  exact J_icmp_eq (tgt := 1549) lc.cx dL_law_246 (by decide) (fun _ => K τ' hR') (fun q => absurd rfl q)
theorem law_1 (lc : LC M X b Ln xs) (hi : i + 5 < Ln) (hR : Rel σ) (K : ∀ τ, Rel τ → J M X Q τ 1549 (LL X b i) []) : J M X Q σ 251 (LL X b i) [] := by
  refine J_aload_n lc.cx 1 dL_law_251 rfl rfl ?_
  refine J_arg lc (k := 1) (by omega) (by decide) dL_law_252 dL_law_253 dL_law_254 dL_law_255 dL_law_256 ?_
  refine J_arg lc (k := 2) (by omega) (by decide) dL_law_257 dL_law_258 dL_law_259 dL_law_260 dL_law_261 ?_
  refine J_arg lc (k := 3) (by omega) (by decide) dL_law_262 dL_law_263 dL_law_264 dL_law_265 dL_law_266 ?_
  refine J_cV lc.cx dL_law_267 V_L_18 (by omega) (i := 252) (by omega) rfl (ct_X4_set _ _ _ σ _ (eq_set hR)) rfl rfl (Nat.le_of_ble_eq_true rfl) (k_i (fun v τ hq => ?_))
  refine J_aload_n lc.cx 2 dL_law_270 rfl rfl ?_
  refine J_arg lc (k := 1) (by omega) (by decide) dL_law_271 dL_law_272 dL_law_273 dL_law_274 dL_law_275 ?_
  refine J_arg lc (k := 2) (by omega) (by decide) dL_law_276 dL_law_277 dL_law_278 dL_law_279 dL_law_280 ?_
  refine J_arg lc (k := 3) (by omega) (by decide) dL_law_281 dL_law_282 dL_law_283 dL_law_284 dL_law_285 ?_
  refine J_cV lc.cx dL_law_286 V_L_21 (by omega) (i := 276) (by omega) rfl (ct_X5_set _ _ _ τ _ hq) rfl rfl (Nat.le_of_ble_eq_true rfl) (k_i (fun v' τ' hq' => ?_))
  obtain ⟨rfl, hR'⟩ := hq'
  exact J_icmp_eq (tgt := 1549) lc.cx dL_law_289 (by decide) (fun _ => K τ' hR') (fun q => absurd rfl q)
theorem law_2 (lc : LC M X b Ln xs) (hi : i + 5 < Ln) (hR : Rel σ) (K : ∀ τ, Rel τ → J M X Q τ 1549 (LL X b i) []) : J M X Q σ 294 (LL X b i) [] := by
  refine J_aload_n lc.cx 1 dL_law_294 rfl rfl ?_
  refine J_arg lc (k := 1) (by omega) (by decide) dL_law_295 dL_law_296 dL_law_297 dL_law_298 dL_law_299 ?_
  refine J_arg lc (k := 2) (by omega) (by decide) dL_law_300 dL_law_301 dL_law_302 dL_law_303 dL_law_304 ?_
  refine J_arg lc (k := 3) (by omega) (by decide) dL_law_305 dL_law_306 dL_law_307 dL_law_308 dL_law_309 ?_
  refine J_arg lc (k := 4) (by omega) (by decide) dL_law_310 dL_law_311 dL_law_312 dL_law_313 dL_law_314 ?_
  refine J_arg lc (k := 5) (by omega) (by decide) dL_law_315 dL_law_316 dL_law_317 dL_law_318 dL_law_319 ?_
  refine J_cV lc.cx dL_law_320 V_L_22 (by omega) (i := 252) (by omega) rfl (ct_X4_copy _ _ _ _ _ σ _ (eq_copy hR)) rfl rfl (Nat.le_of_ble_eq_true rfl) (k_i (fun v τ hq => ?_))
  refine J_aload_n lc.cx 2 dL_law_323 rfl rfl ?_
  refine J_arg lc (k := 1) (by omega) (by decide) dL_law_324 dL_law_325 dL_law_326 dL_law_327 dL_law_328 ?_
  refine J_arg lc (k := 2) (by omega) (by decide) dL_law_329 dL_law_330 dL_law_331 dL_law_332 dL_law_333 ?_
  refine J_arg lc (k := 3) (by omega) (by decide) dL_law_334 dL_law_335 dL_law_336 dL_law_337 dL_law_338 ?_
  refine J_arg lc (k := 4) (by omega) (by decide) dL_law_339 dL_law_340 dL_law_341 dL_law_342 dL_law_343 ?_
  refine J_arg lc (k := 5) (by omega) (by decide) dL_law_344 dL_law_345 dL_law_346 dL_law_347 dL_law_348 ?_
  refine J_cV lc.cx dL_law_349 V_L_26 (by omega) (i := 276) (by omega) rfl (ct_X5_copy _ _ _ _ _ τ _ hq) rfl rfl (Nat.le_of_ble_eq_true rfl) (k_i (fun v' τ' hq' => ?_))
  obtain ⟨rfl, hR'⟩ := hq'
  exact J_icmp_eq (tgt := 1549) lc.cx dL_law_352 (by decide) (fun _ => K τ' hR') (fun q => absurd rfl q)
theorem law_3 (lc : LC M X b Ln xs) (hi : i + 5 < Ln) (hR : Rel σ) (K : ∀ τ, Rel τ → J M X Q τ 1549 (LL X b i) []) : J M X Q σ 357 (LL X b i) [] := by
  refine J_aload_n lc.cx 1 dL_law_357 rfl rfl ?_
  refine J_arg lc (k := 1) (by omega) (by decide) dL_law_358 dL_law_359 dL_law_360 dL_law_361 dL_law_362 ?_
  refine J_cV lc.cx dL_law_363 V_L_27 (by omega) (i := 252) (by omega) rfl (ct_X4_drop _ σ _ (eq_drop hR)) rfl rfl (Nat.le_of_ble_eq_true rfl) (k_i (fun v τ hq => ?_))
  refine J_aload_n lc.cx 2 dL_law_366 rfl rfl ?_
  refine J_arg lc (k := 1) (by omega) (by decide) dL_law_367 dL_law_368 dL_law_369 dL_law_370 dL_law_371 ?_
  refine J_cV lc.cx dL_law_372 V_L_31 (by omega) (i := 276) (by omega) rfl (ct_X5_drop _ τ _ hq) rfl rfl (Nat.le_of_ble_eq_true rfl) (k_i (fun v' τ' hq' => ?_))
  obtain ⟨rfl, hR'⟩ := hq'
  exact J_icmp_eq (tgt := 1549) lc.cx dL_law_375 (by decide) (fun _ => K τ' hR') (fun q => absurd rfl q)
theorem law_4 (lc : LC M X b Ln xs) (hi : i + 5 < Ln) (hR : Rel σ) (K : ∀ τ, Rel τ → J M X Q τ 1549 (LL X b i) []) : J M X Q σ 380 (LL X b i) [] := by
  refine J_aload_n lc.cx 1 dL_law_380 rfl rfl ?_
  refine J_arg lc (k := 1) (by omega) (by decide) dL_law_381 dL_law_382 dL_law_383 dL_law_384 dL_law_385 ?_
  refine J_cV lc.cx dL_law_386 V_L_32 (by omega) (i := 252) (by omega) rfl (ct_X4_feed _ σ _ (eq_feed hR)) rfl rfl (Nat.le_of_ble_eq_true rfl) (k_i (fun v τ hq => ?_))
  refine J_aload_n lc.cx 2 dL_law_389 rfl rfl ?_
  refine J_arg lc (k := 1) (by omega) (by decide) dL_law_390 dL_law_391 dL_law_392 dL_law_393 dL_law_394 ?_
  refine J_cV lc.cx dL_law_395 V_L_35 (by omega) (i := 276) (by omega) rfl (ct_X5_feed _ τ _ hq) rfl rfl (Nat.le_of_ble_eq_true rfl) (k_i (fun v' τ' hq' => ?_))
  obtain ⟨rfl, hR'⟩ := hq'
  exact J_icmp_eq (tgt := 1549) lc.cx dL_law_398 (by decide) (fun _ => K τ' hR') (fun q => absurd rfl q)
theorem law_5 (lc : LC M X b Ln xs) (hi : i + 5 < Ln) (hR : Rel σ) (K : ∀ τ, Rel τ → J M X Q τ 1549 (LL X b i) []) : J M X Q σ 403 (LL X b i) [] := by
  refine J_aload_n lc.cx 1 dL_law_403 rfl rfl ?_
  refine J_cV lc.cx dL_law_404 V_L_36 (by omega) (i := 252) (by omega) rfl (ct_X4_town  σ _ (eq_town hR)) rfl rfl (Nat.le_of_ble_eq_true rfl) (k_i (fun v τ hq => ?_))
  refine J_aload_n lc.cx 2 dL_law_407 rfl rfl ?_
  refine J_cV lc.cx dL_law_408 V_L_40 (by omega) (i := 276) (by omega) rfl (ct_X5_town  τ _ hq) rfl rfl (Nat.le_of_ble_eq_true rfl) (k_i (fun v' τ' hq' => ?_))
  obtain ⟨rfl, hR'⟩ := hq'
  exact J_icmp_eq (tgt := 1549) lc.cx dL_law_411 (by decide) (fun _ => K τ' hR') (fun q => absurd rfl q)
theorem law_6 (lc : LC M X b Ln xs) (hi : i + 5 < Ln) (hR : Rel σ) (K : ∀ τ, Rel τ → J M X Q τ 1549 (LL X b i) []) : J M X Q σ 416 (LL X b i) [] := by
  refine J_aload_n lc.cx 1 dL_law_416 rfl rfl ?_
  refine J_cV lc.cx dL_law_417 V_L_41 (by omega) (i := 252) (by omega) rfl (ct_X4_fault  σ _ (eq_fault hR)) rfl rfl (Nat.le_of_ble_eq_true rfl) (k_i (fun v τ hq => ?_))
  refine J_aload_n lc.cx 2 dL_law_420 rfl rfl ?_
  refine J_cV lc.cx dL_law_421 V_L_44 (by omega) (i := 276) (by omega) rfl (ct_X5_fault  τ _ hq) rfl rfl (Nat.le_of_ble_eq_true rfl) (k_i (fun v' τ' hq' => ?_))
  obtain ⟨rfl, hR'⟩ := hq'
  exact J_icmp_eq (tgt := 1549) lc.cx dL_law_424 (by decide) (fun _ => K τ' hR') (fun q => absurd rfl q)
theorem law_7 (lc : LC M X b Ln xs) (hi : i + 5 < Ln) (hR : Rel σ) (K : ∀ τ, Rel τ → J M X Q τ 1549 (LL X b i) []) : J M X Q σ 429 (LL X b i) [] := by
  refine J_aload_n lc.cx 1 dL_law_429 rfl rfl ?_
  refine J_cV lc.cx dL_law_430 V_L_45 (by omega) (i := 252) (by omega) rfl (ct_X4_undo  σ _ (eq_undo hR)) rfl rfl (Nat.le_of_ble_eq_true rfl) (k_i (fun v τ hq => ?_))
  refine J_aload_n lc.cx 2 dL_law_433 rfl rfl ?_
  refine J_cV lc.cx dL_law_434 V_L_48 (by omega) (i := 276) (by omega) rfl (ct_X5_undo  τ _ hq) rfl rfl (Nat.le_of_ble_eq_true rfl) (k_i (fun v' τ' hq' => ?_))
  obtain ⟨rfl, hR'⟩ := hq'
  exact J_icmp_eq (tgt := 1549) lc.cx dL_law_437 (by decide) (fun _ => K τ' hR') (fun q => absurd rfl q)
theorem law_8 (lc : LC M X b Ln xs) (hi : i + 5 < Ln) (hR : Rel σ) (K : ∀ τ, Rel τ → J M X Q τ 1549 (LL X b i) []) : J M X Q σ 442 (LL X b i) [] := by
  refine J_aload_n lc.cx 1 dL_law_442 rfl rfl ?_
  refine J_arg lc (k := 1) (by omega) (by decide) dL_law_443 dL_law_444 dL_law_445 dL_law_446 dL_law_447 ?_
  refine J_cV lc.cx dL_law_448 V_L_49 (by omega) (i := 252) (by omega) rfl (ct_X4_days _ σ _ (eq_days hR)) rfl rfl (Nat.le_of_ble_eq_true rfl) (k_i (fun v τ hq => ?_))
  refine J_aload_n lc.cx 2 dL_law_451 rfl rfl ?_
  refine J_arg lc (k := 1) (by omega) (by decide) dL_law_452 dL_law_453 dL_law_454 dL_law_455 dL_law_456 ?_
  refine J_cV lc.cx dL_law_457 V_L_52 (by omega) (i := 276) (by omega) rfl (ct_X5_days _ τ _ hq) rfl rfl (Nat.le_of_ble_eq_true rfl) (k_i (fun v' τ' hq' => ?_))
  obtain ⟨rfl, hR'⟩ := hq'
  exact J_icmp_eq (tgt := 1549) lc.cx dL_law_460 (by decide) (fun _ => K τ' hR') (fun q => absurd rfl q)
theorem law_9 (lc : LC M X b Ln xs) (hi : i + 5 < Ln) (hR : Rel σ) (K : ∀ τ, Rel τ → J M X Q τ 1549 (LL X b i) []) : J M X Q σ 465 (LL X b i) [] := by
  refine J_aload_n lc.cx 1 dL_law_465 rfl rfl ?_
  refine J_arg lc (k := 1) (by omega) (by decide) dL_law_466 dL_law_467 dL_law_468 dL_law_469 dL_law_470 ?_
  refine J_arg lc (k := 2) (by omega) (by decide) dL_law_471 dL_law_472 dL_law_473 dL_law_474 dL_law_475 ?_
  refine J_cV lc.cx dL_law_476 V_L_53 (by omega) (i := 252) (by omega) rfl (ct_X4_send _ _ σ _ (eq_send hR)) rfl rfl (Nat.le_of_ble_eq_true rfl) (k_i (fun v τ hq => ?_))
  refine J_aload_n lc.cx 2 dL_law_479 rfl rfl ?_
  refine J_arg lc (k := 1) (by omega) (by decide) dL_law_480 dL_law_481 dL_law_482 dL_law_483 dL_law_484 ?_
  refine J_arg lc (k := 2) (by omega) (by decide) dL_law_485 dL_law_486 dL_law_487 dL_law_488 dL_law_489 ?_
  refine J_cV lc.cx dL_law_490 V_L_57 (by omega) (i := 276) (by omega) rfl (ct_X5_send _ _ τ _ hq) rfl rfl (Nat.le_of_ble_eq_true rfl) (k_i (fun v' τ' hq' => ?_))
  obtain ⟨rfl, hR'⟩ := hq'
  exact J_icmp_eq (tgt := 1549) lc.cx dL_law_493 (by decide) (fun _ => K τ' hR') (fun q => absurd rfl q)
theorem law_10 (lc : LC M X b Ln xs) (hi : i + 5 < Ln) (hR : Rel σ) (K : ∀ τ, Rel τ → J M X Q τ 1549 (LL X b i) []) : J M X Q σ 498 (LL X b i) [] := by
  refine J_aload_n lc.cx 1 dL_law_498 rfl rfl ?_
  refine J_arg lc (k := 1) (by omega) (by decide) dL_law_499 dL_law_500 dL_law_501 dL_law_502 dL_law_503 ?_
  refine J_arg lc (k := 2) (by omega) (by decide) dL_law_504 dL_law_505 dL_law_506 dL_law_507 dL_law_508 ?_
  refine J_cV lc.cx dL_law_509 V_L_58 (by omega) (i := 252) (by omega) rfl (ct_X4_weight _ _ σ _ (eq_weight hR)) rfl rfl (Nat.le_of_ble_eq_true rfl) (k_i (fun v τ hq => ?_))
  refine J_aload_n lc.cx 2 dL_law_512 rfl rfl ?_
  refine J_arg lc (k := 1) (by omega) (by decide) dL_law_513 dL_law_514 dL_law_515 dL_law_516 dL_law_517 ?_
  refine J_arg lc (k := 2) (by omega) (by decide) dL_law_518 dL_law_519 dL_law_520 dL_law_521 dL_law_522 ?_
  refine J_cV lc.cx dL_law_523 V_L_61 (by omega) (i := 276) (by omega) rfl (ct_X5_weight _ _ τ _ hq) rfl rfl (Nat.le_of_ble_eq_true rfl) (k_i (fun v' τ' hq' => ?_))
  obtain ⟨rfl, hR'⟩ := hq'
  exact J_icmp_eq (tgt := 1549) lc.cx dL_law_526 (by decide) (fun _ => K τ' hR') (fun q => absurd rfl q)
theorem law_11 (lc : LC M X b Ln xs) (hi : i + 5 < Ln) (hR : Rel σ) (K : ∀ τ, Rel τ → J M X Q τ 1549 (LL X b i) []) : J M X Q σ 531 (LL X b i) [] := by
  refine J_aload_n lc.cx 1 dL_law_531 rfl rfl ?_
  refine J_arg lc (k := 1) (by omega) (by decide) dL_law_532 dL_law_533 dL_law_534 dL_law_535 dL_law_536 ?_
  refine J_arg lc (k := 2) (by omega) (by decide) dL_law_537 dL_law_538 dL_law_539 dL_law_540 dL_law_541 ?_
  refine J_cV lc.cx dL_law_542 V_L_62 (by omega) (i := 252) (by omega) rfl (ct_X4_bar _ _ σ _ (eq_bar hR)) rfl rfl (Nat.le_of_ble_eq_true rfl) (k_i (fun v τ hq => ?_))
  refine J_aload_n lc.cx 2 dL_law_545 rfl rfl ?_
  refine J_arg lc (k := 1) (by omega) (by decide) dL_law_546 dL_law_547 dL_law_548 dL_law_549 dL_law_550 ?_
  refine J_arg lc (k := 2) (by omega) (by decide) dL_law_551 dL_law_552 dL_law_553 dL_law_554 dL_law_555 ?_
  refine J_cV lc.cx dL_law_556 V_L_65 (by omega) (i := 276) (by omega) rfl (ct_X5_bar _ _ τ _ hq) rfl rfl (Nat.le_of_ble_eq_true rfl) (k_i (fun v' τ' hq' => ?_))
  obtain ⟨rfl, hR'⟩ := hq'
  exact J_icmp_eq (tgt := 1549) lc.cx dL_law_559 (by decide) (fun _ => K τ' hR') (fun q => absurd rfl q)
theorem law_12 (lc : LC M X b Ln xs) (hi : i + 5 < Ln) (hR : Rel σ) (K : ∀ τ, Rel τ → J M X Q τ 1549 (LL X b i) []) : J M X Q σ 564 (LL X b i) [] := by
  refine J_aload_n lc.cx 1 dL_law_564 rfl rfl ?_
  refine J_arg lc (k := 1) (by omega) (by decide) dL_law_565 dL_law_566 dL_law_567 dL_law_568 dL_law_569 ?_
  refine J_arg lc (k := 2) (by omega) (by decide) dL_law_570 dL_law_571 dL_law_572 dL_law_573 dL_law_574 ?_
  refine J_cV lc.cx dL_law_575 V_L_66 (by omega) (i := 252) (by omega) rfl (ct_X4_patience _ _ σ _ (eq_patience hR)) rfl rfl (Nat.le_of_ble_eq_true rfl) (k_i (fun v τ hq => ?_))
  refine J_aload_n lc.cx 2 dL_law_578 rfl rfl ?_
  refine J_arg lc (k := 1) (by omega) (by decide) dL_law_579 dL_law_580 dL_law_581 dL_law_582 dL_law_583 ?_
  refine J_arg lc (k := 2) (by omega) (by decide) dL_law_584 dL_law_585 dL_law_586 dL_law_587 dL_law_588 ?_
  refine J_cV lc.cx dL_law_589 V_L_69 (by omega) (i := 276) (by omega) rfl (ct_X5_patience _ _ τ _ hq) rfl rfl (Nat.le_of_ble_eq_true rfl) (k_i (fun v' τ' hq' => ?_))
  obtain ⟨rfl, hR'⟩ := hq'
  exact J_icmp_eq (tgt := 1549) lc.cx dL_law_592 (by decide) (fun _ => K τ' hR') (fun q => absurd rfl q)
theorem law_13 (lc : LC M X b Ln xs) (hi : i + 5 < Ln) (hR : Rel σ) (K : ∀ τ, Rel τ → J M X Q τ 1549 (LL X b i) []) : J M X Q σ 597 (LL X b i) [] := by
  refine J_aload_n lc.cx 1 dL_law_597 rfl rfl ?_
  refine J_arg lc (k := 1) (by omega) (by decide) dL_law_598 dL_law_599 dL_law_600 dL_law_601 dL_law_602 ?_
  refine J_arg lc (k := 2) (by omega) (by decide) dL_law_603 dL_law_604 dL_law_605 dL_law_606 dL_law_607 ?_
  refine J_cV lc.cx dL_law_608 V_L_70 (by omega) (i := 252) (by omega) rfl (ct_X4_leaver _ _ σ _ (eq_leaver hR)) rfl rfl (Nat.le_of_ble_eq_true rfl) (k_i (fun v τ hq => ?_))
  refine J_aload_n lc.cx 2 dL_law_611 rfl rfl ?_
  refine J_arg lc (k := 1) (by omega) (by decide) dL_law_612 dL_law_613 dL_law_614 dL_law_615 dL_law_616 ?_
  refine J_arg lc (k := 2) (by omega) (by decide) dL_law_617 dL_law_618 dL_law_619 dL_law_620 dL_law_621 ?_
  refine J_cV lc.cx dL_law_622 V_L_73 (by omega) (i := 276) (by omega) rfl (ct_X5_leaver _ _ τ _ hq) rfl rfl (Nat.le_of_ble_eq_true rfl) (k_i (fun v' τ' hq' => ?_))
  obtain ⟨rfl, hR'⟩ := hq'
  exact J_icmp_eq (tgt := 1549) lc.cx dL_law_625 (by decide) (fun _ => K τ' hR') (fun q => absurd rfl q)
theorem law_14 (lc : LC M X b Ln xs) (hi : i + 5 < Ln) (hR : Rel σ) (K : ∀ τ, Rel τ → J M X Q τ 1549 (LL X b i) []) : J M X Q σ 630 (LL X b i) [] := by
  refine J_aload_n lc.cx 1 dL_law_630 rfl rfl ?_
  refine J_arg lc (k := 1) (by omega) (by decide) dL_law_631 dL_law_632 dL_law_633 dL_law_634 dL_law_635 ?_
  refine J_arg lc (k := 2) (by omega) (by decide) dL_law_636 dL_law_637 dL_law_638 dL_law_639 dL_law_640 ?_
  refine J_cV lc.cx dL_law_641 V_L_74 (by omega) (i := 252) (by omega) rfl (ct_X4_man _ _ σ _ (eq_man hR)) rfl rfl (Nat.le_of_ble_eq_true rfl) (k_i (fun v τ hq => ?_))
  refine J_aload_n lc.cx 2 dL_law_644 rfl rfl ?_
  refine J_arg lc (k := 1) (by omega) (by decide) dL_law_645 dL_law_646 dL_law_647 dL_law_648 dL_law_649 ?_
  refine J_arg lc (k := 2) (by omega) (by decide) dL_law_650 dL_law_651 dL_law_652 dL_law_653 dL_law_654 ?_
  refine J_cV lc.cx dL_law_655 V_L_77 (by omega) (i := 276) (by omega) rfl (ct_X5_man _ _ τ _ hq) rfl rfl (Nat.le_of_ble_eq_true rfl) (k_i (fun v' τ' hq' => ?_))
  obtain ⟨rfl, hR'⟩ := hq'
  exact J_icmp_eq (tgt := 1549) lc.cx dL_law_658 (by decide) (fun _ => K τ' hR') (fun q => absurd rfl q)
theorem law_15 (lc : LC M X b Ln xs) (hi : i + 5 < Ln) (hR : Rel σ) (K : ∀ τ, Rel τ → J M X Q τ 1549 (LL X b i) []) : J M X Q σ 663 (LL X b i) [] := by
  refine J_aload_n lc.cx 1 dL_law_663 rfl rfl ?_
  refine J_arg lc (k := 1) (by omega) (by decide) dL_law_664 dL_law_665 dL_law_666 dL_law_667 dL_law_668 ?_
  refine J_arg lc (k := 2) (by omega) (by decide) dL_law_669 dL_law_670 dL_law_671 dL_law_672 dL_law_673 ?_
  refine J_cV lc.cx dL_law_674 V_L_78 (by omega) (i := 252) (by omega) rfl (ct_X4_ahead _ _ σ _ (eq_ahead hR)) rfl rfl (Nat.le_of_ble_eq_true rfl) (k_i (fun v τ hq => ?_))
  refine J_aload_n lc.cx 2 dL_law_677 rfl rfl ?_
  refine J_arg lc (k := 1) (by omega) (by decide) dL_law_678 dL_law_679 dL_law_680 dL_law_681 dL_law_682 ?_
  refine J_arg lc (k := 2) (by omega) (by decide) dL_law_683 dL_law_684 dL_law_685 dL_law_686 dL_law_687 ?_
  refine J_cV lc.cx dL_law_688 V_L_81 (by omega) (i := 276) (by omega) rfl (ct_X5_ahead _ _ τ _ hq) rfl rfl (Nat.le_of_ble_eq_true rfl) (k_i (fun v' τ' hq' => ?_))
  obtain ⟨rfl, hR'⟩ := hq'
  exact J_icmp_eq (tgt := 1549) lc.cx dL_law_691 (by decide) (fun _ => K τ' hR') (fun q => absurd rfl q)
theorem law_16 (lc : LC M X b Ln xs) (hi : i + 5 < Ln) (hR : Rel σ) (K : ∀ τ, Rel τ → J M X Q τ 1549 (LL X b i) []) : J M X Q σ 696 (LL X b i) [] := by
  refine J_aload_n lc.cx 1 dL_law_696 rfl rfl ?_
  refine J_arg lc (k := 1) (by omega) (by decide) dL_law_697 dL_law_698 dL_law_699 dL_law_700 dL_law_701 ?_
  refine J_arg lc (k := 2) (by omega) (by decide) dL_law_702 dL_law_703 dL_law_704 dL_law_705 dL_law_706 ?_
  refine J_cV lc.cx dL_law_707 V_L_82 (by omega) (i := 252) (by omega) rfl (ct_X4_awayAhead _ _ σ _ (eq_awayAhead hR)) rfl rfl (Nat.le_of_ble_eq_true rfl) (k_i (fun v τ hq => ?_))
  refine J_aload_n lc.cx 2 dL_law_710 rfl rfl ?_
  refine J_arg lc (k := 1) (by omega) (by decide) dL_law_711 dL_law_712 dL_law_713 dL_law_714 dL_law_715 ?_
  refine J_arg lc (k := 2) (by omega) (by decide) dL_law_716 dL_law_717 dL_law_718 dL_law_719 dL_law_720 ?_
  refine J_cV lc.cx dL_law_721 V_L_85 (by omega) (i := 276) (by omega) rfl (ct_X5_awayAhead _ _ τ _ hq) rfl rfl (Nat.le_of_ble_eq_true rfl) (k_i (fun v' τ' hq' => ?_))
  obtain ⟨rfl, hR'⟩ := hq'
  exact J_icmp_eq (tgt := 1549) lc.cx dL_law_724 (by decide) (fun _ => K τ' hR') (fun q => absurd rfl q)
theorem law_17 (lc : LC M X b Ln xs) (hi : i + 5 < Ln) (hR : Rel σ) (K : ∀ τ, Rel τ → J M X Q τ 1549 (LL X b i) []) : J M X Q σ 729 (LL X b i) [] := by
  refine J_aload_n lc.cx 1 dL_law_729 rfl rfl ?_
  refine J_arg lc (k := 1) (by omega) (by decide) dL_law_730 dL_law_731 dL_law_732 dL_law_733 dL_law_734 ?_
  refine J_cV lc.cx dL_law_735 V_L_86 (by omega) (i := 252) (by omega) rfl (ct_X4_first _ σ _ (eq_first hR)) rfl rfl (Nat.le_of_ble_eq_true rfl) (k_i (fun v τ hq => ?_))
  refine J_aload_n lc.cx 2 dL_law_738 rfl rfl ?_
  refine J_arg lc (k := 1) (by omega) (by decide) dL_law_739 dL_law_740 dL_law_741 dL_law_742 dL_law_743 ?_
  refine J_cV lc.cx dL_law_744 V_L_89 (by omega) (i := 276) (by omega) rfl (ct_X5_first _ τ _ hq) rfl rfl (Nat.le_of_ble_eq_true rfl) (k_i (fun v' τ' hq' => ?_))
  obtain ⟨rfl, hR'⟩ := hq'
  exact J_icmp_eq (tgt := 1549) lc.cx dL_law_747 (by decide) (fun _ => K τ' hR') (fun q => absurd rfl q)
theorem law_18 (lc : LC M X b Ln xs) (hi : i + 5 < Ln) (hR : Rel σ) (K : ∀ τ, Rel τ → J M X Q τ 1549 (LL X b i) []) : J M X Q σ 752 (LL X b i) [] := by
  refine J_aload_n lc.cx 1 dL_law_752 rfl rfl ?_
  refine J_arg lc (k := 1) (by omega) (by decide) dL_law_753 dL_law_754 dL_law_755 dL_law_756 dL_law_757 ?_
  refine J_arg lc (k := 2) (by omega) (by decide) dL_law_758 dL_law_759 dL_law_760 dL_law_761 dL_law_762 ?_
  refine J_cV lc.cx dL_law_763 V_L_90 (by omega) (i := 252) (by omega) rfl (ct_X4_reach _ _ σ _ (eq_reach hR)) rfl rfl (Nat.le_of_ble_eq_true rfl) (k_i (fun v τ hq => ?_))
  refine J_aload_n lc.cx 2 dL_law_766 rfl rfl ?_
  refine J_arg lc (k := 1) (by omega) (by decide) dL_law_767 dL_law_768 dL_law_769 dL_law_770 dL_law_771 ?_
  refine J_arg lc (k := 2) (by omega) (by decide) dL_law_772 dL_law_773 dL_law_774 dL_law_775 dL_law_776 ?_
  refine J_cV lc.cx dL_law_777 V_L_93 (by omega) (i := 276) (by omega) rfl (ct_X5_reach _ _ τ _ hq) rfl rfl (Nat.le_of_ble_eq_true rfl) (k_i (fun v' τ' hq' => ?_))
  obtain ⟨rfl, hR'⟩ := hq'
  exact J_icmp_eq (tgt := 1549) lc.cx dL_law_780 (by decide) (fun _ => K τ' hR') (fun q => absurd rfl q)
theorem law_19 (lc : LC M X b Ln xs) (hi : i + 5 < Ln) (hR : Rel σ) (K : ∀ τ, Rel τ → J M X Q τ 1549 (LL X b i) []) : J M X Q σ 785 (LL X b i) [] := by
  refine J_aload_n lc.cx 1 dL_law_785 rfl rfl ?_
  refine J_arg lc (k := 1) (by omega) (by decide) dL_law_786 dL_law_787 dL_law_788 dL_law_789 dL_law_790 ?_
  refine J_arg lc (k := 2) (by omega) (by decide) dL_law_791 dL_law_792 dL_law_793 dL_law_794 dL_law_795 ?_
  refine J_cV lc.cx dL_law_796 V_L_94 (by omega) (i := 252) (by omega) rfl (ct_X4_usual _ _ σ _ (eq_usual hR)) rfl rfl (Nat.le_of_ble_eq_true rfl) (k_i (fun v τ hq => ?_))
  refine J_aload_n lc.cx 2 dL_law_799 rfl rfl ?_
  refine J_arg lc (k := 1) (by omega) (by decide) dL_law_800 dL_law_801 dL_law_802 dL_law_803 dL_law_804 ?_
  refine J_arg lc (k := 2) (by omega) (by decide) dL_law_805 dL_law_806 dL_law_807 dL_law_808 dL_law_809 ?_
  refine J_cV lc.cx dL_law_810 V_L_97 (by omega) (i := 276) (by omega) rfl (ct_X5_usual _ _ τ _ hq) rfl rfl (Nat.le_of_ble_eq_true rfl) (k_i (fun v' τ' hq' => ?_))
  obtain ⟨rfl, hR'⟩ := hq'
  exact J_icmp_eq (tgt := 1549) lc.cx dL_law_813 (by decide) (fun _ => K τ' hR') (fun q => absurd rfl q)
theorem law_20 (lc : LC M X b Ln xs) (hi : i + 5 < Ln) (hR : Rel σ) (K : ∀ τ, Rel τ → J M X Q τ 1549 (LL X b i) []) : J M X Q σ 818 (LL X b i) [] := by
  refine J_aload_n lc.cx 1 dL_law_818 rfl rfl ?_
  refine J_arg lc (k := 1) (by omega) (by decide) dL_law_819 dL_law_820 dL_law_821 dL_law_822 dL_law_823 ?_
  refine J_arg lc (k := 2) (by omega) (by decide) dL_law_824 dL_law_825 dL_law_826 dL_law_827 dL_law_828 ?_
  refine J_arg lc (k := 3) (by omega) (by decide) dL_law_829 dL_law_830 dL_law_831 dL_law_832 dL_law_833 ?_
  refine J_arg lc (k := 4) (by omega) (by decide) dL_law_834 dL_law_835 dL_law_836 dL_law_837 dL_law_838 ?_
  refine J_cV lc.cx dL_law_839 V_L_98 (by omega) (i := 252) (by omega) rfl (ct_X4_fewest _ _ _ _ σ _ (eq_fewest hR)) rfl rfl (Nat.le_of_ble_eq_true rfl) (k_i (fun v τ hq => ?_))
  refine J_aload_n lc.cx 2 dL_law_842 rfl rfl ?_
  refine J_arg lc (k := 1) (by omega) (by decide) dL_law_843 dL_law_844 dL_law_845 dL_law_846 dL_law_847 ?_
  refine J_arg lc (k := 2) (by omega) (by decide) dL_law_848 dL_law_849 dL_law_850 dL_law_851 dL_law_852 ?_
  refine J_arg lc (k := 3) (by omega) (by decide) dL_law_853 dL_law_854 dL_law_855 dL_law_856 dL_law_857 ?_
  refine J_arg lc (k := 4) (by omega) (by decide) dL_law_858 dL_law_859 dL_law_860 dL_law_861 dL_law_862 ?_
  refine J_cV lc.cx dL_law_863 V_L_102 (by omega) (i := 276) (by omega) rfl (ct_X5_fewest _ _ _ _ τ _ hq) rfl rfl (Nat.le_of_ble_eq_true rfl) (k_i (fun v' τ' hq' => ?_))
  obtain ⟨rfl, hR'⟩ := hq'
  exact J_icmp_eq (tgt := 1549) lc.cx dL_law_866 (by decide) (fun _ => K τ' hR') (fun q => absurd rfl q)
theorem law_21 (lc : LC M X b Ln xs) (hi : i + 5 < Ln) (hR : Rel σ) (K : ∀ τ, Rel τ → J M X Q τ 1549 (LL X b i) []) : J M X Q σ 871 (LL X b i) [] := by
  refine J_aload_n lc.cx 1 dL_law_871 rfl rfl ?_
  refine J_arg lc (k := 1) (by omega) (by decide) dL_law_872 dL_law_873 dL_law_874 dL_law_875 dL_law_876 ?_
  refine J_arg lc (k := 2) (by omega) (by decide) dL_law_877 dL_law_878 dL_law_879 dL_law_880 dL_law_881 ?_
  refine J_arg lc (k := 3) (by omega) (by decide) dL_law_882 dL_law_883 dL_law_884 dL_law_885 dL_law_886 ?_
  refine J_cV lc.cx dL_law_887 V_L_103 (by omega) (i := 252) (by omega) rfl (ct_X4_bestHouse _ _ _ σ _ (eq_bestHouse hR)) rfl rfl (Nat.le_of_ble_eq_true rfl) (k_i (fun v τ hq => ?_))
  refine J_aload_n lc.cx 2 dL_law_890 rfl rfl ?_
  refine J_arg lc (k := 1) (by omega) (by decide) dL_law_891 dL_law_892 dL_law_893 dL_law_894 dL_law_895 ?_
  refine J_arg lc (k := 2) (by omega) (by decide) dL_law_896 dL_law_897 dL_law_898 dL_law_899 dL_law_900 ?_
  refine J_arg lc (k := 3) (by omega) (by decide) dL_law_901 dL_law_902 dL_law_903 dL_law_904 dL_law_905 ?_
  refine J_cV lc.cx dL_law_906 V_L_106 (by omega) (i := 276) (by omega) rfl (ct_X5_bestHouse _ _ _ τ _ hq) rfl rfl (Nat.le_of_ble_eq_true rfl) (k_i (fun v' τ' hq' => ?_))
  obtain ⟨rfl, hR'⟩ := hq'
  exact J_icmp_eq (tgt := 1549) lc.cx dL_law_909 (by decide) (fun _ => K τ' hR') (fun q => absurd rfl q)
theorem law_22 (lc : LC M X b Ln xs) (hi : i + 5 < Ln) (hR : Rel σ) (K : ∀ τ, Rel τ → J M X Q τ 1549 (LL X b i) []) : J M X Q σ 914 (LL X b i) [] := by
  refine J_aload_n lc.cx 1 dL_law_914 rfl rfl ?_
  refine J_arg lc (k := 1) (by omega) (by decide) dL_law_915 dL_law_916 dL_law_917 dL_law_918 dL_law_919 ?_
  refine J_arg lc (k := 2) (by omega) (by decide) dL_law_920 dL_law_921 dL_law_922 dL_law_923 dL_law_924 ?_
  refine J_cV lc.cx dL_law_925 V_L_107 (by omega) (i := 252) (by omega) rfl (ct_X4_tells _ _ σ _ (eq_tells hR)) rfl rfl (Nat.le_of_ble_eq_true rfl) (k_i (fun v τ hq => ?_))
  refine J_aload_n lc.cx 2 dL_law_928 rfl rfl ?_
  refine J_arg lc (k := 1) (by omega) (by decide) dL_law_929 dL_law_930 dL_law_931 dL_law_932 dL_law_933 ?_
  refine J_arg lc (k := 2) (by omega) (by decide) dL_law_934 dL_law_935 dL_law_936 dL_law_937 dL_law_938 ?_
  refine J_cV lc.cx dL_law_939 V_L_110 (by omega) (i := 276) (by omega) rfl (ct_X5_tells _ _ τ _ hq) rfl rfl (Nat.le_of_ble_eq_true rfl) (k_i (fun v' τ' hq' => ?_))
  obtain ⟨rfl, hR'⟩ := hq'
  exact J_icmp_eq (tgt := 1549) lc.cx dL_law_942 (by decide) (fun _ => K τ' hR') (fun q => absurd rfl q)
theorem law_23 (lc : LC M X b Ln xs) (hi : i + 5 < Ln) (hR : Rel σ) (K : ∀ τ, Rel τ → J M X Q τ 1549 (LL X b i) []) : J M X Q σ 947 (LL X b i) [] := by
  refine J_aload_n lc.cx 1 dL_law_947 rfl rfl ?_
  refine J_arg lc (k := 1) (by omega) (by decide) dL_law_948 dL_law_949 dL_law_950 dL_law_951 dL_law_952 ?_
  refine J_arg lc (k := 2) (by omega) (by decide) dL_law_953 dL_law_954 dL_law_955 dL_law_956 dL_law_957 ?_
  refine J_arg lc (k := 3) (by omega) (by decide) dL_law_958 dL_law_959 dL_law_960 dL_law_961 dL_law_962 ?_
  refine J_arg lc (k := 4) (by omega) (by decide) dL_law_963 dL_law_964 dL_law_965 dL_law_966 dL_law_967 ?_
  refine J_arg lc (k := 5) (by omega) (by decide) dL_law_968 dL_law_969 dL_law_970 dL_law_971 dL_law_972 ?_
  refine J_cV lc.cx dL_law_973 V_L_111 (by omega) (i := 252) (by omega) rfl (ct_X4_who _ _ _ _ _ σ _ (eq_who hR)) rfl rfl (Nat.le_of_ble_eq_true rfl) (k_i (fun v τ hq => ?_))
  refine J_aload_n lc.cx 2 dL_law_976 rfl rfl ?_
  refine J_arg lc (k := 1) (by omega) (by decide) dL_law_977 dL_law_978 dL_law_979 dL_law_980 dL_law_981 ?_
  refine J_arg lc (k := 2) (by omega) (by decide) dL_law_982 dL_law_983 dL_law_984 dL_law_985 dL_law_986 ?_
  refine J_arg lc (k := 3) (by omega) (by decide) dL_law_987 dL_law_988 dL_law_989 dL_law_990 dL_law_991 ?_
  refine J_arg lc (k := 4) (by omega) (by decide) dL_law_992 dL_law_993 dL_law_994 dL_law_995 dL_law_996 ?_
  refine J_arg lc (k := 5) (by omega) (by decide) dL_law_997 dL_law_998 dL_law_999 dL_law_1000 dL_law_1001 ?_
  refine J_cV lc.cx dL_law_1002 V_L_114 (by omega) (i := 276) (by omega) rfl (ct_X5_who _ _ _ _ _ τ _ hq) rfl rfl (Nat.le_of_ble_eq_true rfl) (k_i (fun v' τ' hq' => ?_))
  obtain ⟨rfl, hR'⟩ := hq'
  exact J_icmp_eq (tgt := 1549) lc.cx dL_law_1005 (by decide) (fun _ => K τ' hR') (fun q => absurd rfl q)
theorem law_24 (lc : LC M X b Ln xs) (hi : i + 5 < Ln) (hR : Rel σ) (K : ∀ τ, Rel τ → J M X Q τ 1549 (LL X b i) []) : J M X Q σ 1010 (LL X b i) [] := by
  refine J_aload_n lc.cx 1 dL_law_1010 rfl rfl ?_
  refine J_arg lc (k := 1) (by omega) (by decide) dL_law_1011 dL_law_1012 dL_law_1013 dL_law_1014 dL_law_1015 ?_
  refine J_arg lc (k := 2) (by omega) (by decide) dL_law_1016 dL_law_1017 dL_law_1018 dL_law_1019 dL_law_1020 ?_
  refine J_arg lc (k := 3) (by omega) (by decide) dL_law_1021 dL_law_1022 dL_law_1023 dL_law_1024 dL_law_1025 ?_
  refine J_arg lc (k := 4) (by omega) (by decide) dL_law_1026 dL_law_1027 dL_law_1028 dL_law_1029 dL_law_1030 ?_
  refine J_arg lc (k := 5) (by omega) (by decide) dL_law_1031 dL_law_1032 dL_law_1033 dL_law_1034 dL_law_1035 ?_
  refine J_cV lc.cx dL_law_1036 V_L_115 (by omega) (i := 252) (by omega) rfl (ct_X4_houses _ _ _ _ _ σ _ (eq_houses hR)) rfl rfl (Nat.le_of_ble_eq_true rfl) (k_i (fun v τ hq => ?_))
  refine J_aload_n lc.cx 2 dL_law_1039 rfl rfl ?_
  refine J_arg lc (k := 1) (by omega) (by decide) dL_law_1040 dL_law_1041 dL_law_1042 dL_law_1043 dL_law_1044 ?_
  refine J_arg lc (k := 2) (by omega) (by decide) dL_law_1045 dL_law_1046 dL_law_1047 dL_law_1048 dL_law_1049 ?_
  refine J_arg lc (k := 3) (by omega) (by decide) dL_law_1050 dL_law_1051 dL_law_1052 dL_law_1053 dL_law_1054 ?_
  refine J_arg lc (k := 4) (by omega) (by decide) dL_law_1055 dL_law_1056 dL_law_1057 dL_law_1058 dL_law_1059 ?_
  refine J_arg lc (k := 5) (by omega) (by decide) dL_law_1060 dL_law_1061 dL_law_1062 dL_law_1063 dL_law_1064 ?_
  refine J_cV lc.cx dL_law_1065 V_L_118 (by omega) (i := 276) (by omega) rfl (ct_X5_houses _ _ _ _ _ τ _ hq) rfl rfl (Nat.le_of_ble_eq_true rfl) (k_i (fun v' τ' hq' => ?_))
  obtain ⟨rfl, hR'⟩ := hq'
  exact J_icmp_eq (tgt := 1549) lc.cx dL_law_1068 (by decide) (fun _ => K τ' hR') (fun q => absurd rfl q)
theorem law_25 (lc : LC M X b Ln xs) (hi : i + 5 < Ln) (hR : Rel σ) (K : ∀ τ, Rel τ → J M X Q τ 1549 (LL X b i) []) : J M X Q σ 1073 (LL X b i) [] := by
  refine J_aload_n lc.cx 1 dL_law_1073 rfl rfl ?_
  refine J_arg lc (k := 1) (by omega) (by decide) dL_law_1074 dL_law_1075 dL_law_1076 dL_law_1077 dL_law_1078 ?_
  refine J_arg lc (k := 2) (by omega) (by decide) dL_law_1079 dL_law_1080 dL_law_1081 dL_law_1082 dL_law_1083 ?_
  refine J_arg lc (k := 3) (by omega) (by decide) dL_law_1084 dL_law_1085 dL_law_1086 dL_law_1087 dL_law_1088 ?_
  refine J_arg lc (k := 4) (by omega) (by decide) dL_law_1089 dL_law_1090 dL_law_1091 dL_law_1092 dL_law_1093 ?_
  refine J_arg lc (k := 5) (by omega) (by decide) dL_law_1094 dL_law_1095 dL_law_1096 dL_law_1097 dL_law_1098 ?_
  refine J_cV lc.cx dL_law_1099 V_L_119 (by omega) (i := 252) (by omega) rfl (ct_X4_weights _ _ _ _ _ σ _ (eq_weights hR)) rfl rfl (Nat.le_of_ble_eq_true rfl) (k_i (fun v τ hq => ?_))
  refine J_aload_n lc.cx 2 dL_law_1102 rfl rfl ?_
  refine J_arg lc (k := 1) (by omega) (by decide) dL_law_1103 dL_law_1104 dL_law_1105 dL_law_1106 dL_law_1107 ?_
  refine J_arg lc (k := 2) (by omega) (by decide) dL_law_1108 dL_law_1109 dL_law_1110 dL_law_1111 dL_law_1112 ?_
  refine J_arg lc (k := 3) (by omega) (by decide) dL_law_1113 dL_law_1114 dL_law_1115 dL_law_1116 dL_law_1117 ?_
  refine J_arg lc (k := 4) (by omega) (by decide) dL_law_1118 dL_law_1119 dL_law_1120 dL_law_1121 dL_law_1122 ?_
  refine J_arg lc (k := 5) (by omega) (by decide) dL_law_1123 dL_law_1124 dL_law_1125 dL_law_1126 dL_law_1127 ?_
  refine J_cV lc.cx dL_law_1128 V_L_122 (by omega) (i := 276) (by omega) rfl (ct_X5_weights _ _ _ _ _ τ _ hq) rfl rfl (Nat.le_of_ble_eq_true rfl) (k_i (fun v' τ' hq' => ?_))
  obtain ⟨rfl, hR'⟩ := hq'
  exact J_icmp_eq (tgt := 1549) lc.cx dL_law_1131 (by decide) (fun _ => K τ' hR') (fun q => absurd rfl q)
theorem law_26 (lc : LC M X b Ln xs) (hi : i + 5 < Ln) (hR : Rel σ) (K : ∀ τ, Rel τ → J M X Q τ 1549 (LL X b i) []) : J M X Q σ 1136 (LL X b i) [] := by
  refine J_aload_n lc.cx 1 dL_law_1136 rfl rfl ?_
  refine J_arg lc (k := 1) (by omega) (by decide) dL_law_1137 dL_law_1138 dL_law_1139 dL_law_1140 dL_law_1141 ?_
  refine J_arg lc (k := 2) (by omega) (by decide) dL_law_1142 dL_law_1143 dL_law_1144 dL_law_1145 dL_law_1146 ?_
  refine J_arg lc (k := 3) (by omega) (by decide) dL_law_1147 dL_law_1148 dL_law_1149 dL_law_1150 dL_law_1151 ?_
  refine J_arg lc (k := 4) (by omega) (by decide) dL_law_1152 dL_law_1153 dL_law_1154 dL_law_1155 dL_law_1156 ?_
  refine J_cV lc.cx dL_law_1157 V_L_123 (by omega) (i := 252) (by omega) rfl (ct_X4_absent _ _ _ _ σ _ (eq_absent hR)) rfl rfl (Nat.le_of_ble_eq_true rfl) (k_i (fun v τ hq => ?_))
  refine J_aload_n lc.cx 2 dL_law_1160 rfl rfl ?_
  refine J_arg lc (k := 1) (by omega) (by decide) dL_law_1161 dL_law_1162 dL_law_1163 dL_law_1164 dL_law_1165 ?_
  refine J_arg lc (k := 2) (by omega) (by decide) dL_law_1166 dL_law_1167 dL_law_1168 dL_law_1169 dL_law_1170 ?_
  refine J_arg lc (k := 3) (by omega) (by decide) dL_law_1171 dL_law_1172 dL_law_1173 dL_law_1174 dL_law_1175 ?_
  refine J_arg lc (k := 4) (by omega) (by decide) dL_law_1176 dL_law_1177 dL_law_1178 dL_law_1179 dL_law_1180 ?_
  refine J_cV lc.cx dL_law_1181 V_L_126 (by omega) (i := 276) (by omega) rfl (ct_X5_absent _ _ _ _ τ _ hq) rfl rfl (Nat.le_of_ble_eq_true rfl) (k_i (fun v' τ' hq' => ?_))
  obtain ⟨rfl, hR'⟩ := hq'
  exact J_icmp_eq (tgt := 1549) lc.cx dL_law_1184 (by decide) (fun _ => K τ' hR') (fun q => absurd rfl q)
theorem law_27 (lc : LC M X b Ln xs) (hi : i + 5 < Ln) (hR : Rel σ) (K : ∀ τ, Rel τ → J M X Q τ 1549 (LL X b i) []) : J M X Q σ 1189 (LL X b i) [] := by
  refine J_aload_n lc.cx 1 dL_law_1189 rfl rfl ?_
  refine J_arg lc (k := 1) (by omega) (by decide) dL_law_1190 dL_law_1191 dL_law_1192 dL_law_1193 dL_law_1194 ?_
  refine J_cV lc.cx dL_law_1195 V_L_127 (by omega) (i := 252) (by omega) rfl (ct_X4_greets _ σ _ (eq_greets hR)) rfl rfl (Nat.le_of_ble_eq_true rfl) (k_i (fun v τ hq => ?_))
  refine J_aload_n lc.cx 2 dL_law_1198 rfl rfl ?_
  refine J_arg lc (k := 1) (by omega) (by decide) dL_law_1199 dL_law_1200 dL_law_1201 dL_law_1202 dL_law_1203 ?_
  refine J_cV lc.cx dL_law_1204 V_L_130 (by omega) (i := 276) (by omega) rfl (ct_X5_greets _ τ _ hq) rfl rfl (Nat.le_of_ble_eq_true rfl) (k_i (fun v' τ' hq' => ?_))
  obtain ⟨rfl, hR'⟩ := hq'
  exact J_icmp_eq (tgt := 1549) lc.cx dL_law_1207 (by decide) (fun _ => K τ' hR') (fun q => absurd rfl q)
theorem law_28 (lc : LC M X b Ln xs) (hi : i + 5 < Ln) (hR : Rel σ) (K : ∀ τ, Rel τ → J M X Q τ 1549 (LL X b i) []) : J M X Q σ 1212 (LL X b i) [] := by
  refine J_aload_n lc.cx 1 dL_law_1212 rfl rfl ?_
  refine J_arg lc (k := 1) (by omega) (by decide) dL_law_1213 dL_law_1214 dL_law_1215 dL_law_1216 dL_law_1217 ?_
  refine J_arg lc (k := 2) (by omega) (by decide) dL_law_1218 dL_law_1219 dL_law_1220 dL_law_1221 dL_law_1222 ?_
  refine J_cV lc.cx dL_law_1223 V_L_131 (by omega) (i := 252) (by omega) rfl (ct_X4_talk _ _ σ _ (eq_talk hR)) rfl rfl (Nat.le_of_ble_eq_true rfl) (k_i (fun v τ hq => ?_))
  refine J_aload_n lc.cx 2 dL_law_1226 rfl rfl ?_
  refine J_arg lc (k := 1) (by omega) (by decide) dL_law_1227 dL_law_1228 dL_law_1229 dL_law_1230 dL_law_1231 ?_
  refine J_arg lc (k := 2) (by omega) (by decide) dL_law_1232 dL_law_1233 dL_law_1234 dL_law_1235 dL_law_1236 ?_
  refine J_cV lc.cx dL_law_1237 V_L_134 (by omega) (i := 276) (by omega) rfl (ct_X5_talk _ _ τ _ hq) rfl rfl (Nat.le_of_ble_eq_true rfl) (k_i (fun v' τ' hq' => ?_))
  obtain ⟨rfl, hR'⟩ := hq'
  exact J_icmp_eq (tgt := 1549) lc.cx dL_law_1240 (by decide) (fun _ => K τ' hR') (fun q => absurd rfl q)
theorem law_29 (lc : LC M X b Ln xs) (hi : i + 5 < Ln) (hR : Rel σ) (K : ∀ τ, Rel τ → J M X Q τ 1549 (LL X b i) []) : J M X Q σ 1245 (LL X b i) [] := by
  refine J_aload_n lc.cx 1 dL_law_1245 rfl rfl ?_
  refine J_cV lc.cx dL_law_1246 V_L_135 (by omega) (i := 252) (by omega) rfl (ct_X4_alone  σ _ (eq_alone hR)) rfl rfl (Nat.le_of_ble_eq_true rfl) (k_i (fun v τ hq => ?_))
  refine J_aload_n lc.cx 2 dL_law_1249 rfl rfl ?_
  refine J_cV lc.cx dL_law_1250 V_L_138 (by omega) (i := 276) (by omega) rfl (ct_X5_alone  τ _ hq) rfl rfl (Nat.le_of_ble_eq_true rfl) (k_i (fun v' τ' hq' => ?_))
  obtain ⟨rfl, hR'⟩ := hq'
  exact J_icmp_eq (tgt := 1549) lc.cx dL_law_1253 (by decide) (fun _ => K τ' hR') (fun q => absurd rfl q)
theorem law_30 (lc : LC M X b Ln xs) (hi : i + 5 < Ln) (hR : Rel σ) (K : ∀ τ, Rel τ → J M X Q τ 1549 (LL X b i) []) : J M X Q σ 1258 (LL X b i) [] := by
  refine J_aload_n lc.cx 1 dL_law_1258 rfl rfl ?_
  refine J_arg lc (k := 1) (by omega) (by decide) dL_law_1259 dL_law_1260 dL_law_1261 dL_law_1262 dL_law_1263 ?_
  refine J_arg lc (k := 2) (by omega) (by decide) dL_law_1264 dL_law_1265 dL_law_1266 dL_law_1267 dL_law_1268 ?_
  refine J_arg lc (k := 3) (by omega) (by decide) dL_law_1269 dL_law_1270 dL_law_1271 dL_law_1272 dL_law_1273 ?_
  refine J_arg lc (k := 4) (by omega) (by decide) dL_law_1274 dL_law_1275 dL_law_1276 dL_law_1277 dL_law_1278 ?_
  refine J_cV lc.cx dL_law_1279 V_L_139 (by omega) (i := 252) (by omega) rfl (ct_X4_rain _ _ _ _ σ _ (eq_rain hR)) rfl rfl (Nat.le_of_ble_eq_true rfl) (k_l (fun v τ hq => ?_))
  refine J_aload_n lc.cx 2 dL_law_1282 rfl rfl ?_
  refine J_arg lc (k := 1) (by omega) (by decide) dL_law_1283 dL_law_1284 dL_law_1285 dL_law_1286 dL_law_1287 ?_
  refine J_arg lc (k := 2) (by omega) (by decide) dL_law_1288 dL_law_1289 dL_law_1290 dL_law_1291 dL_law_1292 ?_
  refine J_arg lc (k := 3) (by omega) (by decide) dL_law_1293 dL_law_1294 dL_law_1295 dL_law_1296 dL_law_1297 ?_
  refine J_arg lc (k := 4) (by omega) (by decide) dL_law_1298 dL_law_1299 dL_law_1300 dL_law_1301 dL_law_1302 ?_
  refine J_cV lc.cx dL_law_1303 V_L_143 (by omega) (i := 276) (by omega) rfl (ct_X5_rain _ _ _ _ τ _ hq) rfl rfl (Nat.le_of_ble_eq_true rfl) (k_l (fun v' τ' hq' => ?_))
  obtain ⟨rfl, hR'⟩ := hq'
  refine J_lcmp lc.cx dL_law_1306 ?_
  exact J_if_eq (tgt := 1549) lc.cx dL_law_1307 (by decide) (fun _ => K τ' hR') (fun q => absurd (lgc_eq.mpr rfl) q)
theorem law_31 (lc : LC M X b Ln xs) (hi : i + 5 < Ln) (hR : Rel σ) (K : ∀ τ, Rel τ → J M X Q τ 1549 (LL X b i) []) : J M X Q σ 1312 (LL X b i) [] := by
  refine J_aload_n lc.cx 1 dL_law_1312 rfl rfl ?_
  refine J_arg lc (k := 1) (by omega) (by decide) dL_law_1313 dL_law_1314 dL_law_1315 dL_law_1316 dL_law_1317 ?_
  refine J_arg lc (k := 2) (by omega) (by decide) dL_law_1318 dL_law_1319 dL_law_1320 dL_law_1321 dL_law_1322 ?_
  refine J_arg lc (k := 3) (by omega) (by decide) dL_law_1323 dL_law_1324 dL_law_1325 dL_law_1326 dL_law_1327 ?_
  refine J_cV lc.cx dL_law_1328 V_L_144 (by omega) (i := 252) (by omega) rfl (ct_X4_drawn _ _ _ σ _ (eq_drawn hR)) rfl rfl (Nat.le_of_ble_eq_true rfl) (k_i (fun v τ hq => ?_))
  refine J_aload_n lc.cx 2 dL_law_1331 rfl rfl ?_
  refine J_arg lc (k := 1) (by omega) (by decide) dL_law_1332 dL_law_1333 dL_law_1334 dL_law_1335 dL_law_1336 ?_
  refine J_arg lc (k := 2) (by omega) (by decide) dL_law_1337 dL_law_1338 dL_law_1339 dL_law_1340 dL_law_1341 ?_
  refine J_arg lc (k := 3) (by omega) (by decide) dL_law_1342 dL_law_1343 dL_law_1344 dL_law_1345 dL_law_1346 ?_
  refine J_cV lc.cx dL_law_1347 V_L_147 (by omega) (i := 276) (by omega) rfl (ct_X5_drawn _ _ _ τ _ hq) rfl rfl (Nat.le_of_ble_eq_true rfl) (k_i (fun v' τ' hq' => ?_))
  obtain ⟨rfl, hR'⟩ := hq'
  exact J_icmp_eq (tgt := 1549) lc.cx dL_law_1350 (by decide) (fun _ => K τ' hR') (fun q => absurd rfl q)
theorem law_32 (lc : LC M X b Ln xs) (hi : i + 5 < Ln) (hR : Rel σ) (K : ∀ τ, Rel τ → J M X Q τ 1549 (LL X b i) []) : J M X Q σ 1355 (LL X b i) [] := by
  refine J_aload_n lc.cx 1 dL_law_1355 rfl rfl ?_
  refine J_arg lc (k := 1) (by omega) (by decide) dL_law_1356 dL_law_1357 dL_law_1358 dL_law_1359 dL_law_1360 ?_
  refine J_cV lc.cx dL_law_1361 V_L_148 (by omega) (i := 252) (by omega) rfl (ct_X4_image _ σ _ (eq_image hR)) rfl rfl (Nat.le_of_ble_eq_true rfl) (k_i (fun v τ hq => ?_))
  refine J_aload_n lc.cx 2 dL_law_1364 rfl rfl ?_
  refine J_arg lc (k := 1) (by omega) (by decide) dL_law_1365 dL_law_1366 dL_law_1367 dL_law_1368 dL_law_1369 ?_
  refine J_cV lc.cx dL_law_1370 V_L_151 (by omega) (i := 276) (by omega) rfl (ct_X5_image _ τ _ hq) rfl rfl (Nat.le_of_ble_eq_true rfl) (k_i (fun v' τ' hq' => ?_))
  obtain ⟨rfl, hR'⟩ := hq'
  exact J_icmp_eq (tgt := 1549) lc.cx dL_law_1373 (by decide) (fun _ => K τ' hR') (fun q => absurd rfl q)
theorem law_33 (lc : LC M X b Ln xs) (hi : i + 5 < Ln) (hR : Rel σ) (K : ∀ τ, Rel τ → J M X Q τ 1549 (LL X b i) []) : J M X Q σ 1378 (LL X b i) [] := by
  refine J_aload_n lc.cx 1 dL_law_1378 rfl rfl ?_
  refine J_arg lc (k := 1) (by omega) (by decide) dL_law_1379 dL_law_1380 dL_law_1381 dL_law_1382 dL_law_1383 ?_
  refine J_cV lc.cx dL_law_1384 V_L_152 (by omega) (i := 252) (by omega) rfl (ct_X4_restore _ σ _ (eq_restore hR)) rfl rfl (Nat.le_of_ble_eq_true rfl) (k_i (fun v τ hq => ?_))
  refine J_aload_n lc.cx 2 dL_law_1387 rfl rfl ?_
  refine J_arg lc (k := 1) (by omega) (by decide) dL_law_1388 dL_law_1389 dL_law_1390 dL_law_1391 dL_law_1392 ?_
  refine J_cV lc.cx dL_law_1393 V_L_155 (by omega) (i := 276) (by omega) rfl (ct_X5_restore _ τ _ hq) rfl rfl (Nat.le_of_ble_eq_true rfl) (k_i (fun v' τ' hq' => ?_))
  obtain ⟨rfl, hR'⟩ := hq'
  exact J_icmp_eq (tgt := 1549) lc.cx dL_law_1396 (by decide) (fun _ => K τ' hR') (fun q => absurd rfl q)
theorem law_34 (lc : LC M X b Ln xs) (hi : i + 5 < Ln) (hR : Rel σ) (K : ∀ τ, Rel τ → J M X Q τ 1549 (LL X b i) []) : J M X Q σ 1401 (LL X b i) [] := by
  refine J_aload_n lc.cx 1 dL_law_1401 rfl rfl ?_
  refine J_arg lc (k := 1) (by omega) (by decide) dL_law_1402 dL_law_1403 dL_law_1404 dL_law_1405 dL_law_1406 ?_
  refine J_cV lc.cx dL_law_1407 V_L_156 (by omega) (i := 252) (by omega) rfl (ct_X4_kind _ σ _ (eq_kind hR)) rfl rfl (Nat.le_of_ble_eq_true rfl) (k_i (fun v τ hq => ?_))
  refine J_aload_n lc.cx 2 dL_law_1410 rfl rfl ?_
  refine J_arg lc (k := 1) (by omega) (by decide) dL_law_1411 dL_law_1412 dL_law_1413 dL_law_1414 dL_law_1415 ?_
  refine J_cV lc.cx dL_law_1416 V_L_159 (by omega) (i := 276) (by omega) rfl (ct_X5_kind _ τ _ hq) rfl rfl (Nat.le_of_ble_eq_true rfl) (k_i (fun v' τ' hq' => ?_))
  obtain ⟨rfl, hR'⟩ := hq'
  exact J_icmp_eq (tgt := 1549) lc.cx dL_law_1419 (by decide) (fun _ => K τ' hR') (fun q => absurd rfl q)
theorem law_35 (lc : LC M X b Ln xs) (hi : i + 5 < Ln) (hR : Rel σ) (K : ∀ τ, Rel τ → J M X Q τ 1549 (LL X b i) []) : J M X Q σ 1424 (LL X b i) [] := by
  refine J_aload_n lc.cx 1 dL_law_1424 rfl rfl ?_
  refine J_arg lc (k := 1) (by omega) (by decide) dL_law_1425 dL_law_1426 dL_law_1427 dL_law_1428 dL_law_1429 ?_
  refine J_arg lc (k := 2) (by omega) (by decide) dL_law_1430 dL_law_1431 dL_law_1432 dL_law_1433 dL_law_1434 ?_
  refine J_cV lc.cx dL_law_1435 V_L_160 (by omega) (i := 252) (by omega) rfl (ct_X4_as _ _ σ _ (eq_as hR)) rfl rfl (Nat.le_of_ble_eq_true rfl) (k_i (fun v τ hq => ?_))
  refine J_aload_n lc.cx 2 dL_law_1438 rfl rfl ?_
  refine J_arg lc (k := 1) (by omega) (by decide) dL_law_1439 dL_law_1440 dL_law_1441 dL_law_1442 dL_law_1443 ?_
  refine J_arg lc (k := 2) (by omega) (by decide) dL_law_1444 dL_law_1445 dL_law_1446 dL_law_1447 dL_law_1448 ?_
  refine J_cV lc.cx dL_law_1449 V_L_163 (by omega) (i := 276) (by omega) rfl (ct_X5_as _ _ τ _ hq) rfl rfl (Nat.le_of_ble_eq_true rfl) (k_i (fun v' τ' hq' => ?_))
  obtain ⟨rfl, hR'⟩ := hq'
  exact J_icmp_eq (tgt := 1549) lc.cx dL_law_1452 (by decide) (fun _ => K τ' hR') (fun q => absurd rfl q)
theorem law_36 (lc : LC M X b Ln xs) (hi : i + 5 < Ln) (hR : Rel σ) (K : ∀ τ, Rel τ → J M X Q τ 1549 (LL X b i) []) : J M X Q σ 1457 (LL X b i) [] := by
  refine J_aload_n lc.cx 1 dL_law_1457 rfl rfl ?_
  refine J_arg lc (k := 1) (by omega) (by decide) dL_law_1458 dL_law_1459 dL_law_1460 dL_law_1461 dL_law_1462 ?_
  refine J_arg lc (k := 2) (by omega) (by decide) dL_law_1463 dL_law_1464 dL_law_1465 dL_law_1466 dL_law_1467 ?_
  refine J_cV lc.cx dL_law_1468 V_L_164 (by omega) (i := 252) (by omega) rfl (ct_X4_ask _ _ σ _ (eq_ask hR)) rfl rfl (Nat.le_of_ble_eq_true rfl) (k_i (fun v τ hq => ?_))
  refine J_aload_n lc.cx 2 dL_law_1471 rfl rfl ?_
  refine J_arg lc (k := 1) (by omega) (by decide) dL_law_1472 dL_law_1473 dL_law_1474 dL_law_1475 dL_law_1476 ?_
  refine J_arg lc (k := 2) (by omega) (by decide) dL_law_1477 dL_law_1478 dL_law_1479 dL_law_1480 dL_law_1481 ?_
  refine J_cV lc.cx dL_law_1482 V_L_167 (by omega) (i := 276) (by omega) rfl (ct_X5_ask _ _ τ _ hq) rfl rfl (Nat.le_of_ble_eq_true rfl) (k_i (fun v' τ' hq' => ?_))
  obtain ⟨rfl, hR'⟩ := hq'
  exact J_icmp_eq (tgt := 1549) lc.cx dL_law_1485 (by decide) (fun _ => K τ' hR') (fun q => absurd rfl q)
theorem law_37 (lc : LC M X b Ln xs) (hi : i + 5 < Ln) (hR : Rel σ) (K : ∀ τ, Rel τ → J M X Q τ 1549 (LL X b i) []) : J M X Q σ 1490 (LL X b i) [] := by
  refine J_aload_n lc.cx 1 dL_law_1490 rfl rfl ?_
  refine J_arg lc (k := 1) (by omega) (by decide) dL_law_1491 dL_law_1492 dL_law_1493 dL_law_1494 dL_law_1495 ?_
  refine J_cV lc.cx dL_law_1496 V_L_168 (by omega) (i := 252) (by omega) rfl (ct_X4_trace _ σ _ (eq_trace hR)) rfl rfl (Nat.le_of_ble_eq_true rfl) (k_i (fun v τ hq => ?_))
  refine J_aload_n lc.cx 2 dL_law_1499 rfl rfl ?_
  refine J_arg lc (k := 1) (by omega) (by decide) dL_law_1500 dL_law_1501 dL_law_1502 dL_law_1503 dL_law_1504 ?_
  refine J_cV lc.cx dL_law_1505 V_L_171 (by omega) (i := 276) (by omega) rfl (ct_X5_trace _ τ _ hq) rfl rfl (Nat.le_of_ble_eq_true rfl) (k_i (fun v' τ' hq' => ?_))
  obtain ⟨rfl, hR'⟩ := hq'
  exact J_icmp_eq (tgt := 1549) lc.cx dL_law_1508 (by decide) (fun _ => K τ' hR') (fun q => absurd rfl q)
theorem law_38 (lc : LC M X b Ln xs) (hi : i + 5 < Ln) (hR : Rel σ) (K : ∀ τ, Rel τ → J M X Q τ 1549 (LL X b i) []) : J M X Q σ 1513 (LL X b i) [] := by
  refine J_aload_n lc.cx 1 dL_law_1513 rfl rfl ?_
  refine J_arg lc (k := 1) (by omega) (by decide) dL_law_1514 dL_law_1515 dL_law_1516 dL_law_1517 dL_law_1518 ?_
  refine J_cV lc.cx dL_law_1519 V_L_172 (by omega) (i := 252) (by omega) rfl (ct_X4_count _ σ _ (eq_count hR)) rfl rfl (Nat.le_of_ble_eq_true rfl) (k_i (fun v τ hq => ?_))
  refine J_aload_n lc.cx 2 dL_law_1522 rfl rfl ?_
  refine J_arg lc (k := 1) (by omega) (by decide) dL_law_1523 dL_law_1524 dL_law_1525 dL_law_1526 dL_law_1527 ?_
  refine J_cV lc.cx dL_law_1528 V_L_175 (by omega) (i := 276) (by omega) rfl (ct_X5_count _ τ _ hq) rfl rfl (Nat.le_of_ble_eq_true rfl) (k_i (fun v' τ' hq' => ?_))
  obtain ⟨rfl, hR'⟩ := hq'
  exact J_icmp_eq (tgt := 1549) lc.cx dL_law_1531 (by decide) (fun _ => K τ' hR') (fun q => absurd rfl q)
theorem law_39 (lc : LC M X b Ln xs) (hi : i + 5 < Ln) (hR : Rel σ) (K : ∀ τ, Rel τ → J M X Q τ 1549 (LL X b i) []) : J M X Q σ 1536 (LL X b i) [] := by
  refine J_aload_n lc.cx 1 dL_law_1536 rfl rfl ?_
  refine J_cV lc.cx dL_law_1537 V_L_176 (by omega) (i := 252) (by omega) rfl (ct_X4_status  σ _ (eq_status hR)) rfl rfl (Nat.le_of_ble_eq_true rfl) (k_i (fun v τ hq => ?_))
  refine J_aload_n lc.cx 2 dL_law_1540 rfl rfl ?_
  refine J_cV lc.cx dL_law_1541 V_L_179 (by omega) (i := 276) (by omega) rfl (ct_X5_status  τ _ hq) rfl rfl (Nat.le_of_ble_eq_true rfl) (k_i (fun v' τ' hq' => ?_))
  obtain ⟨rfl, hR'⟩ := hq'
  exact J_icmp_eq (tgt := 1549) lc.cx dL_law_1544 (by decide) (fun _ => K τ' hR') (fun q => absurd rfl q)
end LW
