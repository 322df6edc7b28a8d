/-! ===== the law: its cases ===== -/
theorem lc_island {κ : Kx} {Qf : State → Prop} {n q L t : Nat} {xs : Nat → Int32} {μ : Mm} {s : Ln} (hX : ScX κ L xs) (ht : 5 * t + 5 ≤ L) (hL : L ≤ 2560) (hx : RX μ s) (hm : RM μ s) (ho : OKs t s) (ih : ∀ μ' s', RX μ' s' → RM μ' s' → OKs (t + 1) s' → V κ mL Qf n q 1105 (lvL t) [] μ') : V κ mL Qf n q 188 (lvL t) [] μ := by
  refine v_aload_n 1 dL_law_188 rfl rfl ?_
  refine v_sarg 1 hX (by omega) hL dL_law_189 dL_law_190 dL_law_191 ic_1 dL_law_192 dL_law_193 ?_
  refine v_callV (M' := mX4_island) (xIsland (xs (5 * t + 1)) hx ho) cwX4_island sh_0 (by decide) rfl wd_113 wd_114 wd_112 rfl (Nat.le_of_ble_eq_true rfl) (Nat.le_of_ble_eq_true rfl) dL_law_194 rfl ?_
  rintro _ μ1 ⟨rfl, hx1, he1⟩
  refine v_aload_n 2 dL_law_197 rfl rfl ?_
  refine v_sarg 1 hX (by omega) hL dL_law_198 dL_law_199 dL_law_200 ic_1 dL_law_201 dL_law_202 ?_
  refine v_callV (M' := mX5_island) (mIsland (xs (5 * t + 1)) (hm.eqH he1) ho) cwX5_island sh_66 (by decide) rfl wd_137 wd_138 wd_136 rfl (Nat.le_of_ble_eq_true rfl) (Nat.le_of_ble_eq_true rfl) dL_law_203 rfl ?_
  rintro _ μ2 ⟨rfl, hm2, he2⟩
  have ho1 := oIsland (xs (5 * t + 1)) ho
  exact v_icmp_eq (tgt := 1105) dL_law_206 rfl (fun _ => ih μ2 _ (hx1.eqG ho1 he2) hm2 ho1) (fun h => absurd rfl h)
theorem lc_clerk {κ : Kx} {Qf : State → Prop} {n q L t : Nat} {xs : Nat → Int32} {μ : Mm} {s : Ln} (hX : ScX κ L xs) (ht : 5 * t + 5 ≤ L) (hL : L ≤ 2560) (hx : RX μ s) (hm : RM μ s) (ho : OKs t s) (ih : ∀ μ' s', RX μ' s' → RM μ' s' → OKs (t + 1) s' → V κ mL Qf n q 1105 (lvL t) [] μ') : V κ mL Qf n q 211 (lvL t) [] μ := by
  refine v_aload_n 1 dL_law_211 rfl rfl ?_
  refine v_sarg 1 hX (by omega) hL dL_law_212 dL_law_213 dL_law_214 ic_1 dL_law_215 dL_law_216 ?_
  refine v_callV (M' := mX4_clerk) (xClerk (xs (5 * t + 1)) hx ho) cwX4_clerk sh_0 (by decide) rfl wd_156 wd_157 wd_155 rfl (Nat.le_of_ble_eq_true rfl) (Nat.le_of_ble_eq_true rfl) dL_law_217 rfl ?_
  rintro _ μ1 ⟨rfl, hx1, he1⟩
  refine v_aload_n 2 dL_law_220 rfl rfl ?_
  refine v_sarg 1 hX (by omega) hL dL_law_221 dL_law_222 dL_law_223 ic_1 dL_law_224 dL_law_225 ?_
  refine v_callV (M' := mX5_clerk) (mClerk (xs (5 * t + 1)) (hm.eqH he1) ho) cwX5_clerk sh_66 (by decide) rfl wd_162 wd_163 wd_161 rfl (Nat.le_of_ble_eq_true rfl) (Nat.le_of_ble_eq_true rfl) dL_law_226 rfl ?_
  rintro _ μ2 ⟨rfl, hm2, he2⟩
  have ho1 := oClerk (xs (5 * t + 1)) ho
  exact v_icmp_eq (tgt := 1105) dL_law_229 rfl (fun _ => ih μ2 _ (hx1.eqG ho1 he2) hm2 ho1) (fun h => absurd rfl h)
theorem lc_vines {κ : Kx} {Qf : State → Prop} {n q L t : Nat} {xs : Nat → Int32} {μ : Mm} {s : Ln} (hX : ScX κ L xs) (ht : 5 * t + 5 ≤ L) (hL : L ≤ 2560) (hx : RX μ s) (hm : RM μ s) (ho : OKs t s) (ih : ∀ μ' s', RX μ' s' → RM μ' s' → OKs (t + 1) s' → V κ mL Qf n q 1105 (lvL t) [] μ') : V κ mL Qf n q 234 (lvL t) [] μ := by
  refine v_aload_n 1 dL_law_234 rfl rfl ?_
  refine v_sarg 1 hX (by omega) hL dL_law_235 dL_law_236 dL_law_237 ic_1 dL_law_238 dL_law_239 ?_
  refine v_sarg 2 hX (by omega) hL dL_law_240 dL_law_241 dL_law_242 ic_2 dL_law_243 dL_law_244 ?_
  refine v_callV (M' := mX4_vines) (xVines (xs (5 * t + 1)) (xs (5 * t + 2)) hx ho) cwX4_vines sh_0 (by decide) rfl wd_166 wd_167 wd_165 rfl (Nat.le_of_ble_eq_true rfl) (Nat.le_of_ble_eq_true rfl) dL_law_245 rfl ?_
  rintro _ μ1 ⟨rfl, hx1, he1⟩
  refine v_aload_n 2 dL_law_248 rfl rfl ?_
  refine v_sarg 1 hX (by omega) hL dL_law_249 dL_law_250 dL_law_251 ic_1 dL_law_252 dL_law_253 ?_
  refine v_sarg 2 hX (by omega) hL dL_law_254 dL_law_255 dL_law_256 ic_2 dL_law_257 dL_law_258 ?_
  refine v_callV (M' := mX5_vines) (mVines (xs (5 * t + 1)) (xs (5 * t + 2)) (hm.eqH he1) ho) cwX5_vines sh_66 (by decide) rfl wd_174 wd_175 wd_173 rfl (Nat.le_of_ble_eq_true rfl) (Nat.le_of_ble_eq_true rfl) dL_law_259 rfl ?_
  rintro _ μ2 ⟨rfl, hm2, he2⟩
  have ho1 := oVines (xs (5 * t + 1)) (xs (5 * t + 2)) ho
  exact v_icmp_eq (tgt := 1105) dL_law_262 rfl (fun _ => ih μ2 _ (hx1.eqG ho1 he2) hm2 ho1) (fun h => absurd rfl h)
theorem lc_hill {κ : Kx} {Qf : State → Prop} {n q L t : Nat} {xs : Nat → Int32} {μ : Mm} {s : Ln} (hX : ScX κ L xs) (ht : 5 * t + 5 ≤ L) (hL : L ≤ 2560) (hx : RX μ s) (hm : RM μ s) (ho : OKs t s) (ih : ∀ μ' s', RX μ' s' → RM μ' s' → OKs (t + 1) s' → V κ mL Qf n q 1105 (lvL t) [] μ') : V κ mL Qf n q 267 (lvL t) [] μ := by
  refine v_aload_n 1 dL_law_267 rfl rfl ?_
  refine v_sarg 1 hX (by omega) hL dL_law_268 dL_law_269 dL_law_270 ic_1 dL_law_271 dL_law_272 ?_
  refine v_sarg 2 hX (by omega) hL dL_law_273 dL_law_274 dL_law_275 ic_2 dL_law_276 dL_law_277 ?_
  refine v_sarg 3 hX (by omega) hL dL_law_278 dL_law_279 dL_law_280 ic_3 dL_law_281 dL_law_282 ?_
  refine v_callV (M' := mX4_hill) (xHill (xs (5 * t + 1)) (xs (5 * t + 2)) (xs (5 * t + 3)) hx ho (by omega)) cwX4_hill sh_0 (by decide) rfl wd_183 wd_184 wd_182 rfl (Nat.le_of_ble_eq_true rfl) (Nat.le_of_ble_eq_true rfl) dL_law_283 rfl ?_
  rintro _ μ1 ⟨rfl, hx1, he1⟩
  refine v_aload_n 2 dL_law_286 rfl rfl ?_
  refine v_sarg 1 hX (by omega) hL dL_law_287 dL_law_288 dL_law_289 ic_1 dL_law_290 dL_law_291 ?_
  refine v_sarg 2 hX (by omega) hL dL_law_292 dL_law_293 dL_law_294 ic_2 dL_law_295 dL_law_296 ?_
  refine v_sarg 3 hX (by omega) hL dL_law_297 dL_law_298 dL_law_299 ic_3 dL_law_300 dL_law_301 ?_
  refine v_callV (M' := mX5_hill) (mHill (xs (5 * t + 1)) (xs (5 * t + 2)) (xs (5 * t + 3)) (hm.eqH he1) ho (by omega)) cwX5_hill sh_66 (by decide) rfl wd_195 wd_196 wd_194 rfl (Nat.le_of_ble_eq_true rfl) (Nat.le_of_ble_eq_true rfl) dL_law_302 rfl ?_
  rintro _ μ2 ⟨rfl, hm2, he2⟩
  have ho1 := oHill (xs (5 * t + 1)) (xs (5 * t + 2)) (xs (5 * t + 3)) ho
  exact v_icmp_eq (tgt := 1105) dL_law_305 rfl (fun _ => ih μ2 _ (hx1.eqG ho1 he2) hm2 ho1) (fun h => absurd rfl h)
theorem lc_type {κ : Kx} {Qf : State → Prop} {n q L t : Nat} {xs : Nat → Int32} {μ : Mm} {s : Ln} (hX : ScX κ L xs) (ht : 5 * t + 5 ≤ L) (hL : L ≤ 2560) (hx : RX μ s) (hm : RM μ s) (ho : OKs t s) (ih : ∀ μ' s', RX μ' s' → RM μ' s' → OKs (t + 1) s' → V κ mL Qf n q 1105 (lvL t) [] μ') : V κ mL Qf n q 310 (lvL t) [] μ := by
  refine v_aload_n 1 dL_law_310 rfl rfl ?_
  refine v_sarg 1 hX (by omega) hL dL_law_311 dL_law_312 dL_law_313 ic_1 dL_law_314 dL_law_315 ?_
  refine v_callV (M' := mX4_type) (xType (xs (5 * t + 1)) hx ho) cwX4_type sh_0 (by decide) rfl wd_217 wd_218 wd_216 rfl (Nat.le_of_ble_eq_true rfl) (Nat.le_of_ble_eq_true rfl) dL_law_316 rfl ?_
  rintro _ μ1 ⟨rfl, hx1, he1⟩
  refine v_aload_n 2 dL_law_319 rfl rfl ?_
  refine v_sarg 1 hX (by omega) hL dL_law_320 dL_law_321 dL_law_322 ic_1 dL_law_323 dL_law_324 ?_
  refine v_callV (M' := mX5_type) (mType (xs (5 * t + 1)) (hm.eqH he1) ho) cwX5_type sh_66 (by decide) rfl wd_226 wd_227 wd_225 rfl (Nat.le_of_ble_eq_true rfl) (Nat.le_of_ble_eq_true rfl) dL_law_325 rfl ?_
  rintro _ μ2 ⟨rfl, hm2, he2⟩
  have ho1 := oType (xs (5 * t + 1)) ho
  exact v_icmp_eq (tgt := 1105) dL_law_328 rfl (fun _ => ih μ2 _ (hx1.eqG ho1 he2) hm2 ho1) (fun h => absurd rfl h)
theorem lc_clear {κ : Kx} {Qf : State → Prop} {n q L t : Nat} {xs : Nat → Int32} {μ : Mm} {s : Ln} (hX : ScX κ L xs) (ht : 5 * t + 5 ≤ L) (hL : L ≤ 2560) (hx : RX μ s) (hm : RM μ s) (ho : OKs t s) (ih : ∀ μ' s', RX μ' s' → RM μ' s' → OKs (t + 1) s' → V κ mL Qf n q 1105 (lvL t) [] μ') : V κ mL Qf n q 333 (lvL t) [] μ := by
  refine v_aload_n 1 dL_law_333 rfl rfl ?_
  refine v_callV (M' := mX4_clear) (xClear hx ho) cwX4_clear sh_0 (by decide) rfl wd_232 wd_233 wd_231 rfl (Nat.le_of_ble_eq_true rfl) (Nat.le_of_ble_eq_true rfl) dL_law_334 rfl ?_
  rintro _ μ1 ⟨rfl, hx1, he1⟩
  refine v_aload_n 2 dL_law_337 rfl rfl ?_
  refine v_callV (M' := mX5_clear) (mClear (hm.eqH he1)) cwX5_clear sh_66 (by decide) rfl wd_236 wd_237 wd_235 rfl (Nat.le_of_ble_eq_true rfl) (Nat.le_of_ble_eq_true rfl) dL_law_338 rfl ?_
  rintro _ μ2 ⟨rfl, hm2, he2⟩
  have ho1 := oClear  ho
  exact v_icmp_eq (tgt := 1105) dL_law_341 rfl (fun _ => ih μ2 _ (hx1.eqG ho1 he2) hm2 ho1) (fun h => absurd rfl h)
theorem lc_read {κ : Kx} {Qf : State → Prop} {n q L t : Nat} {xs : Nat → Int32} {μ : Mm} {s : Ln} (hX : ScX κ L xs) (ht : 5 * t + 5 ≤ L) (hL : L ≤ 2560) (hx : RX μ s) (hm : RM μ s) (ho : OKs t s) (ih : ∀ μ' s', RX μ' s' → RM μ' s' → OKs (t + 1) s' → V κ mL Qf n q 1105 (lvL t) [] μ') : V κ mL Qf n q 346 (lvL t) [] μ := by
  refine v_aload_n 1 dL_law_346 rfl rfl ?_
  refine v_callV (M' := mX4_read) (xRead TWC_ok hx ho) cwX4_read sh_0 (by decide) rfl wd_240 wd_241 wd_239 rfl (Nat.le_of_ble_eq_true rfl) (Nat.le_of_ble_eq_true rfl) dL_law_347 rfl ?_
  rintro _ μ1 ⟨rfl, hx1, he1⟩
  refine v_aload_n 2 dL_law_350 rfl rfl ?_
  refine v_callV (M' := mX5_read) (mRead (hm.eqH he1) ho) cwX5_read sh_66 (by decide) rfl wd_429 wd_430 wd_428 rfl (Nat.le_of_ble_eq_true rfl) (Nat.le_of_ble_eq_true rfl) dL_law_351 rfl ?_
  rintro _ μ2 ⟨rfl, hm2, he2⟩
  have ho1 := oRead  ho
  exact v_icmp_eq (tgt := 1105) dL_law_354 rfl (fun _ => ih μ2 _ (hx1.eqG ho1 he2) hm2 ho1) (fun h => absurd rfl h)
theorem lc_day {κ : Kx} {Qf : State → Prop} {n q L t : Nat} {xs : Nat → Int32} {μ : Mm} {s : Ln} (hX : ScX κ L xs) (ht : 5 * t + 5 ≤ L) (hL : L ≤ 2560) (hx : RX μ s) (hm : RM μ s) (ho : OKs t s) (ih : ∀ μ' s', RX μ' s' → RM μ' s' → OKs (t + 1) s' → V κ mL Qf n q 1105 (lvL t) [] μ') : V κ mL Qf n q 359 (lvL t) [] μ := by
  refine v_aload_n 1 dL_law_359 rfl rfl ?_
  refine v_sarg 1 hX (by omega) hL dL_law_360 dL_law_361 dL_law_362 ic_1 dL_law_363 dL_law_364 ?_
  refine v_callV (M' := mX4_day) (xDay (xs (5 * t + 1)) hx ho (by omega)) cwX4_day sh_0 (by decide) rfl wd_506 wd_507 wd_505 rfl (Nat.le_of_ble_eq_true rfl) (Nat.le_of_ble_eq_true rfl) dL_law_365 rfl ?_
  rintro _ μ1 ⟨rfl, hx1, he1⟩
  refine v_aload_n 2 dL_law_368 rfl rfl ?_
  refine v_sarg 1 hX (by omega) hL dL_law_369 dL_law_370 dL_law_371 ic_1 dL_law_372 dL_law_373 ?_
  refine v_callV (M' := mX5_day) (mDay (xs (5 * t + 1)) (hm.eqH he1) ho (by omega)) cwX5_day sh_66 (by decide) rfl wd_523 wd_524 wd_522 rfl (Nat.le_of_ble_eq_true rfl) (Nat.le_of_ble_eq_true rfl) dL_law_374 rfl ?_
  rintro _ μ2 ⟨rfl, hm2, he2⟩
  have ho1 := oDay (xs (5 * t + 1)) ho (by omega)
  exact v_icmp_eq (tgt := 1105) dL_law_377 rfl (fun _ => ih μ2 _ (hx1.eqG ho1 he2) hm2 ho1) (fun h => absurd rfl h)
theorem lc_putBack {κ : Kx} {Qf : State → Prop} {n q L t : Nat} {xs : Nat → Int32} {μ : Mm} {s : Ln} (hX : ScX κ L xs) (ht : 5 * t + 5 ≤ L) (hL : L ≤ 2560) (hx : RX μ s) (hm : RM μ s) (ho : OKs t s) (ih : ∀ μ' s', RX μ' s' → RM μ' s' → OKs (t + 1) s' → V κ mL Qf n q 1105 (lvL t) [] μ') : V κ mL Qf n q 382 (lvL t) [] μ := by
  refine v_aload_n 1 dL_law_382 rfl rfl ?_
  refine v_sarg 1 hX (by omega) hL dL_law_383 dL_law_384 dL_law_385 ic_1 dL_law_386 dL_law_387 ?_
  refine v_sarg 2 hX (by omega) hL dL_law_388 dL_law_389 dL_law_390 ic_2 dL_law_391 dL_law_392 ?_
  refine v_callV (M' := mX4_putBack) (xPutBack (xs (5 * t + 1)) (xs (5 * t + 2)) hx ho (by omega)) cwX4_putBack sh_0 (by decide) rfl wd_535 wd_536 wd_534 rfl (Nat.le_of_ble_eq_true rfl) (Nat.le_of_ble_eq_true rfl) dL_law_393 rfl ?_
  rintro _ μ1 ⟨rfl, hx1, he1⟩
  refine v_aload_n 2 dL_law_396 rfl rfl ?_
  refine v_sarg 1 hX (by omega) hL dL_law_397 dL_law_398 dL_law_399 ic_1 dL_law_400 dL_law_401 ?_
  refine v_sarg 2 hX (by omega) hL dL_law_402 dL_law_403 dL_law_404 ic_2 dL_law_405 dL_law_406 ?_
  refine v_callV (M' := mX5_putBack) (mPutBack (xs (5 * t + 1)) (xs (5 * t + 2)) (hm.eqH he1) ho (by omega)) cwX5_putBack sh_66 (by decide) rfl wd_540 wd_541 wd_539 rfl (Nat.le_of_ble_eq_true rfl) (Nat.le_of_ble_eq_true rfl) dL_law_407 rfl ?_
  rintro _ μ2 ⟨rfl, hm2, he2⟩
  have ho1 := oPutBack (xs (5 * t + 1)) (xs (5 * t + 2)) ho
  exact v_icmp_eq (tgt := 1105) dL_law_410 rfl (fun _ => ih μ2 _ (hx1.eqG ho1 he2) hm2 ho1) (fun h => absurd rfl h)
theorem lc_undo {κ : Kx} {Qf : State → Prop} {n q L t : Nat} {xs : Nat → Int32} {μ : Mm} {s : Ln} (hX : ScX κ L xs) (ht : 5 * t + 5 ≤ L) (hL : L ≤ 2560) (hx : RX μ s) (hm : RM μ s) (ho : OKs t s) (ih : ∀ μ' s', RX μ' s' → RM μ' s' → OKs (t + 1) s' → V κ mL Qf n q 1105 (lvL t) [] μ') : V κ mL Qf n q 415 (lvL t) [] μ := by
  refine v_aload_n 1 dL_law_415 rfl rfl ?_
  refine v_callV (M' := mX4_undo) (xUndo hx ho) cwX4_undo sh_0 (by decide) rfl wd_544 wd_545 wd_543 rfl (Nat.le_of_ble_eq_true rfl) (Nat.le_of_ble_eq_true rfl) dL_law_416 rfl ?_
  rintro _ μ1 ⟨rfl, hx1, he1⟩
  refine v_aload_n 2 dL_law_419 rfl rfl ?_
  refine v_callV (M' := mX5_undo) (mUndo (hm.eqH he1) ho) cwX5_undo sh_66 (by decide) rfl wd_552 wd_553 wd_551 rfl (Nat.le_of_ble_eq_true rfl) (Nat.le_of_ble_eq_true rfl) dL_law_420 rfl ?_
  rintro _ μ2 ⟨rfl, hm2, he2⟩
  have ho1 := oUndo  ho
  exact v_icmp_eq (tgt := 1105) dL_law_423 rfl (fun _ => ih μ2 _ (hx1.eqG ho1 he2) hm2 ho1) (fun h => absurd rfl h)
theorem lc_of {κ : Kx} {Qf : State → Prop} {n q L t : Nat} {xs : Nat → Int32} {μ : Mm} {s : Ln} (hX : ScX κ L xs) (ht : 5 * t + 5 ≤ L) (hL : L ≤ 2560) (hx : RX μ s) (hm : RM μ s) (ho : OKs t s) (ih : ∀ μ' s', RX μ' s' → RM μ' s' → OKs (t + 1) s' → V κ mL Qf n q 1105 (lvL t) [] μ') : V κ mL Qf n q 428 (lvL t) [] μ := by
  refine v_aload_n 1 dL_law_428 rfl rfl ?_
  refine v_sarg 1 hX (by omega) hL dL_law_429 dL_law_430 dL_law_431 ic_1 dL_law_432 dL_law_433 ?_
  refine v_sarg 2 hX (by omega) hL dL_law_434 dL_law_435 dL_law_436 ic_2 dL_law_437 dL_law_438 ?_
  refine v_callV (M' := mX4_of) (xOf (xs (5 * t + 1)) (xs (5 * t + 2)) hx ho (by omega)) cwX4_of sh_0 (by decide) rfl wd_556 wd_557 wd_555 rfl (Nat.le_of_ble_eq_true rfl) (Nat.le_of_ble_eq_true rfl) dL_law_439 rfl ?_
  rintro _ μ1 ⟨rfl, hx1, he1⟩
  refine v_aload_n 2 dL_law_442 rfl rfl ?_
  refine v_sarg 1 hX (by omega) hL dL_law_443 dL_law_444 dL_law_445 ic_1 dL_law_446 dL_law_447 ?_
  refine v_sarg 2 hX (by omega) hL dL_law_448 dL_law_449 dL_law_450 ic_2 dL_law_451 dL_law_452 ?_
  refine v_callV (M' := mX5_of) (mOf (xs (5 * t + 1)) (xs (5 * t + 2)) (hm.eqH he1) ho (by omega)) cwX5_of sh_66 (by decide) rfl wd_566 wd_567 wd_565 rfl (Nat.le_of_ble_eq_true rfl) (Nat.le_of_ble_eq_true rfl) dL_law_453 rfl ?_
  rintro _ μ2 ⟨rfl, hm2, he2⟩
  have ho1 := oOf (xs (5 * t + 1)) (xs (5 * t + 2)) ho
  exact v_icmp_eq (tgt := 1105) dL_law_456 rfl (fun _ => ih μ2 _ (hx1.eqG ho1 he2) hm2 ho1) (fun h => absurd rfl h)
theorem lc_has {κ : Kx} {Qf : State → Prop} {n q L t : Nat} {xs : Nat → Int32} {μ : Mm} {s : Ln} (hX : ScX κ L xs) (ht : 5 * t + 5 ≤ L) (hL : L ≤ 2560) (hx : RX μ s) (hm : RM μ s) (ho : OKs t s) (ih : ∀ μ' s', RX μ' s' → RM μ' s' → OKs (t + 1) s' → V κ mL Qf n q 1105 (lvL t) [] μ') : V κ mL Qf n q 461 (lvL t) [] μ := by
  refine v_aload_n 1 dL_law_461 rfl rfl ?_
  refine v_sarg 1 hX (by omega) hL dL_law_462 dL_law_463 dL_law_464 ic_1 dL_law_465 dL_law_466 ?_
  refine v_callV (M' := mX4_has) (xHas (xs (5 * t + 1)) hx ho) cwX4_has sh_0 (by decide) rfl wd_571 wd_572 wd_570 rfl (Nat.le_of_ble_eq_true rfl) (Nat.le_of_ble_eq_true rfl) dL_law_467 rfl ?_
  rintro _ μ1 ⟨rfl, hx1, he1⟩
  refine v_aload_n 2 dL_law_470 rfl rfl ?_
  refine v_sarg 1 hX (by omega) hL dL_law_471 dL_law_472 dL_law_473 ic_1 dL_law_474 dL_law_475 ?_
  refine v_callV (M' := mX5_has) (mHas (xs (5 * t + 1)) (hm.eqH he1)) cwX5_has sh_66 (by decide) rfl wd_575 wd_576 wd_574 rfl (Nat.le_of_ble_eq_true rfl) (Nat.le_of_ble_eq_true rfl) dL_law_476 rfl ?_
  rintro _ μ2 ⟨rfl, hm2, he2⟩
  have ho1 := oHas (xs (5 * t + 1)) ho
  exact v_icmp_eq (tgt := 1105) dL_law_479 rfl (fun _ => ih μ2 _ (hx1.eqG ho1 he2) hm2 ho1) (fun h => absurd rfl h)
theorem lc_high {κ : Kx} {Qf : State → Prop} {n q L t : Nat} {xs : Nat → Int32} {μ : Mm} {s : Ln} (hX : ScX κ L xs) (ht : 5 * t + 5 ≤ L) (hL : L ≤ 2560) (hx : RX μ s) (hm : RM μ s) (ho : OKs t s) (ih : ∀ μ' s', RX μ' s' → RM μ' s' → OKs (t + 1) s' → V κ mL Qf n q 1105 (lvL t) [] μ') : V κ mL Qf n q 484 (lvL t) [] μ := by
  refine v_aload_n 1 dL_law_484 rfl rfl ?_
  refine v_sarg 1 hX (by omega) hL dL_law_485 dL_law_486 dL_law_487 ic_1 dL_law_488 dL_law_489 ?_
  refine v_sarg 2 hX (by omega) hL dL_law_490 dL_law_491 dL_law_492 ic_2 dL_law_493 dL_law_494 ?_
  refine v_callV (M' := mX4_high) (xHigh (xs (5 * t + 1)) (xs (5 * t + 2)) hx ho (by omega)) cwX4_high sh_0 (by decide) rfl wd_579 wd_580 wd_578 rfl (Nat.le_of_ble_eq_true rfl) (Nat.le_of_ble_eq_true rfl) dL_law_495 rfl ?_
  rintro _ μ1 ⟨rfl, hx1, he1⟩
  refine v_aload_n 2 dL_law_498 rfl rfl ?_
  refine v_sarg 1 hX (by omega) hL dL_law_499 dL_law_500 dL_law_501 ic_1 dL_law_502 dL_law_503 ?_
  refine v_sarg 2 hX (by omega) hL dL_law_504 dL_law_505 dL_law_506 ic_2 dL_law_507 dL_law_508 ?_
  refine v_callV (M' := mX5_high) (mHigh (xs (5 * t + 1)) (xs (5 * t + 2)) (hm.eqH he1) ho (by omega)) cwX5_high sh_66 (by decide) rfl wd_593 wd_594 wd_592 rfl (Nat.le_of_ble_eq_true rfl) (Nat.le_of_ble_eq_true rfl) dL_law_509 rfl ?_
  rintro _ μ2 ⟨rfl, hm2, he2⟩
  have ho1 := oHigh (xs (5 * t + 1)) (xs (5 * t + 2)) ho
  exact v_icmp_eq (tgt := 1105) dL_law_512 rfl (fun _ => ih μ2 _ (hx1.eqG ho1 he2) hm2 ho1) (fun h => absurd rfl h)
theorem lc_goes {κ : Kx} {Qf : State → Prop} {n q L t : Nat} {xs : Nat → Int32} {μ : Mm} {s : Ln} (hX : ScX κ L xs) (ht : 5 * t + 5 ≤ L) (hL : L ≤ 2560) (hx : RX μ s) (hm : RM μ s) (ho : OKs t s) (ih : ∀ μ' s', RX μ' s' → RM μ' s' → OKs (t + 1) s' → V κ mL Qf n q 1105 (lvL t) [] μ') : V κ mL Qf n q 517 (lvL t) [] μ := by
  refine v_aload_n 1 dL_law_517 rfl rfl ?_
  refine v_sarg 1 hX (by omega) hL dL_law_518 dL_law_519 dL_law_520 ic_1 dL_law_521 dL_law_522 ?_
  refine v_callV (M' := mX4_goes) (xGoes (xs (5 * t + 1)) hx ho (by omega)) cwX4_goes sh_0 (by decide) rfl wd_606 wd_607 wd_605 rfl (Nat.le_of_ble_eq_true rfl) (Nat.le_of_ble_eq_true rfl) dL_law_523 rfl ?_
  rintro _ μ1 ⟨rfl, hx1, he1⟩
  refine v_aload_n 2 dL_law_526 rfl rfl ?_
  refine v_sarg 1 hX (by omega) hL dL_law_527 dL_law_528 dL_law_529 ic_1 dL_law_530 dL_law_531 ?_
  refine v_callV (M' := mX5_goes) (mGoes (xs (5 * t + 1)) (hm.eqH he1) ho (by omega)) cwX5_goes sh_66 (by decide) rfl wd_612 wd_613 wd_611 rfl (Nat.le_of_ble_eq_true rfl) (Nat.le_of_ble_eq_true rfl) dL_law_532 rfl ?_
  rintro _ μ2 ⟨rfl, hm2, he2⟩
  have ho1 := oGoes (xs (5 * t + 1)) ho
  exact v_icmp_eq (tgt := 1105) dL_law_535 rfl (fun _ => ih μ2 _ (hx1.eqG ho1 he2) hm2 ho1) (fun h => absurd rfl h)
theorem lc_lost {κ : Kx} {Qf : State → Prop} {n q L t : Nat} {xs : Nat → Int32} {μ : Mm} {s : Ln} (hX : ScX κ L xs) (ht : 5 * t + 5 ≤ L) (hL : L ≤ 2560) (hx : RX μ s) (hm : RM μ s) (ho : OKs t s) (ih : ∀ μ' s', RX μ' s' → RM μ' s' → OKs (t + 1) s' → V κ mL Qf n q 1105 (lvL t) [] μ') : V κ mL Qf n q 540 (lvL t) [] μ := by
  refine v_aload_n 1 dL_law_540 rfl rfl ?_
  refine v_sarg 1 hX (by omega) hL dL_law_541 dL_law_542 dL_law_543 ic_1 dL_law_544 dL_law_545 ?_
  refine v_callV (M' := mX4_lost) (xLost (xs (5 * t + 1)) hx ho (by omega)) cwX4_lost sh_0 (by decide) rfl wd_616 wd_617 wd_615 rfl (Nat.le_of_ble_eq_true rfl) (Nat.le_of_ble_eq_true rfl) dL_law_546 rfl ?_
  rintro _ μ1 ⟨rfl, hx1, he1⟩
  refine v_aload_n 2 dL_law_549 rfl rfl ?_
  refine v_sarg 1 hX (by omega) hL dL_law_550 dL_law_551 dL_law_552 ic_1 dL_law_553 dL_law_554 ?_
  refine v_callV (M' := mX5_lost) (mLost (xs (5 * t + 1)) (hm.eqH he1) ho (by omega)) cwX5_lost sh_66 (by decide) rfl wd_620 wd_621 wd_619 rfl (Nat.le_of_ble_eq_true rfl) (Nat.le_of_ble_eq_true rfl) dL_law_555 rfl ?_
  rintro _ μ2 ⟨rfl, hm2, he2⟩
  have ho1 := oLost (xs (5 * t + 1)) ho
  exact v_icmp_eq (tgt := 1105) dL_law_558 rfl (fun _ => ih μ2 _ (hx1.eqG ho1 he2) hm2 ho1) (fun h => absurd rfl h)
theorem lc_chain {κ : Kx} {Qf : State → Prop} {n q L t : Nat} {xs : Nat → Int32} {μ : Mm} {s : Ln} (hX : ScX κ L xs) (ht : 5 * t + 5 ≤ L) (hL : L ≤ 2560) (hx : RX μ s) (hm : RM μ s) (ho : OKs t s) (ih : ∀ μ' s', RX μ' s' → RM μ' s' → OKs (t + 1) s' → V κ mL Qf n q 1105 (lvL t) [] μ') : V κ mL Qf n q 563 (lvL t) [] μ := by
  refine v_aload_n 1 dL_law_563 rfl rfl ?_
  refine v_sarg 1 hX (by omega) hL dL_law_564 dL_law_565 dL_law_566 ic_1 dL_law_567 dL_law_568 ?_
  refine v_callV (M' := mX4_chain) (xChain (xs (5 * t + 1)) hx ho (by omega)) cwX4_chain sh_0 (by decide) rfl wd_624 wd_625 wd_623 rfl (Nat.le_of_ble_eq_true rfl) (Nat.le_of_ble_eq_true rfl) dL_law_569 rfl ?_
  rintro _ μ1 ⟨rfl, hx1, he1⟩
  refine v_aload_n 2 dL_law_572 rfl rfl ?_
  refine v_sarg 1 hX (by omega) hL dL_law_573 dL_law_574 dL_law_575 ic_1 dL_law_576 dL_law_577 ?_
  refine v_callV (M' := mX5_chain) (mChain (xs (5 * t + 1)) (hm.eqH he1) ho (by omega)) cwX5_chain sh_66 (by decide) rfl wd_629 wd_630 wd_628 rfl (Nat.le_of_ble_eq_true rfl) (Nat.le_of_ble_eq_true rfl) dL_law_578 rfl ?_
  rintro _ μ2 ⟨rfl, hm2, he2⟩
  have ho1 := oChain (xs (5 * t + 1)) ho
  exact v_icmp_eq (tgt := 1105) dL_law_581 rfl (fun _ => ih μ2 _ (hx1.eqG ho1 he2) hm2 ho1) (fun h => absurd rfl h)
theorem lc_plan {κ : Kx} {Qf : State → Prop} {n q L t : Nat} {xs : Nat → Int32} {μ : Mm} {s : Ln} (hX : ScX κ L xs) (ht : 5 * t + 5 ≤ L) (hL : L ≤ 2560) (hx : RX μ s) (hm : RM μ s) (ho : OKs t s) (ih : ∀ μ' s', RX μ' s' → RM μ' s' → OKs (t + 1) s' → V κ mL Qf n q 1105 (lvL t) [] μ') : V κ mL Qf n q 586 (lvL t) [] μ := by
  refine v_aload_n 1 dL_law_586 rfl rfl ?_
  refine v_sarg 1 hX (by omega) hL dL_law_587 dL_law_588 dL_law_589 ic_1 dL_law_590 dL_law_591 ?_
  refine v_sarg 2 hX (by omega) hL dL_law_592 dL_law_593 dL_law_594 ic_2 dL_law_595 dL_law_596 ?_
  refine v_callV (M' := mX4_plan) (xPlan (xs (5 * t + 1)) (xs (5 * t + 2)) hx ho (by omega)) cwX4_plan sh_0 (by decide) rfl wd_633 wd_634 wd_632 rfl (Nat.le_of_ble_eq_true rfl) (Nat.le_of_ble_eq_true rfl) dL_law_597 rfl ?_
  rintro _ μ1 ⟨rfl, hx1, he1⟩
  refine v_aload_n 2 dL_law_600 rfl rfl ?_
  refine v_sarg 1 hX (by omega) hL dL_law_601 dL_law_602 dL_law_603 ic_1 dL_law_604 dL_law_605 ?_
  refine v_sarg 2 hX (by omega) hL dL_law_606 dL_law_607 dL_law_608 ic_2 dL_law_609 dL_law_610 ?_
  refine v_callV (M' := mX5_plan) (mPlan (xs (5 * t + 1)) (xs (5 * t + 2)) (hm.eqH he1) ho (by omega)) cwX5_plan sh_66 (by decide) rfl wd_665 wd_666 wd_664 rfl (Nat.le_of_ble_eq_true rfl) (Nat.le_of_ble_eq_true rfl) dL_law_611 rfl ?_
  rintro _ μ2 ⟨rfl, hm2, he2⟩
  have ho1 := oPlan (xs (5 * t + 1)) (xs (5 * t + 2)) ho
  exact v_icmp_eq (tgt := 1105) dL_law_614 rfl (fun _ => ih μ2 _ (hx1.eqG ho1 he2) hm2 ho1) (fun h => absurd rfl h)
theorem lc_askFirst {κ : Kx} {Qf : State → Prop} {n q L t : Nat} {xs : Nat → Int32} {μ : Mm} {s : Ln} (hX : ScX κ L xs) (ht : 5 * t + 5 ≤ L) (hL : L ≤ 2560) (hx : RX μ s) (hm : RM μ s) (ho : OKs t s) (ih : ∀ μ' s', RX μ' s' → RM μ' s' → OKs (t + 1) s' → V κ mL Qf n q 1105 (lvL t) [] μ') : V κ mL Qf n q 619 (lvL t) [] μ := by
  refine v_aload_n 1 dL_law_619 rfl rfl ?_
  refine v_sarg 1 hX (by omega) hL dL_law_620 dL_law_621 dL_law_622 ic_1 dL_law_623 dL_law_624 ?_
  refine v_sarg 2 hX (by omega) hL dL_law_625 dL_law_626 dL_law_627 ic_2 dL_law_628 dL_law_629 ?_
  refine v_callV (M' := mX4_askFirst) (xAsk (xs (5 * t + 1)) (xs (5 * t + 2)) hx ho (by omega)) cwX4_askFirst sh_0 (by decide) rfl wd_676 wd_677 wd_675 rfl (Nat.le_of_ble_eq_true rfl) (Nat.le_of_ble_eq_true rfl) dL_law_630 rfl ?_
  rintro _ μ1 ⟨rfl, hx1, he1⟩
  refine v_aload_n 2 dL_law_633 rfl rfl ?_
  refine v_sarg 1 hX (by omega) hL dL_law_634 dL_law_635 dL_law_636 ic_1 dL_law_637 dL_law_638 ?_
  refine v_sarg 2 hX (by omega) hL dL_law_639 dL_law_640 dL_law_641 ic_2 dL_law_642 dL_law_643 ?_
  refine v_callV (M' := mX5_askFirst) (mAsk (xs (5 * t + 1)) (xs (5 * t + 2)) (hm.eqH he1) ho (by omega)) cwX5_askFirst sh_66 (by decide) rfl wd_680 wd_681 wd_679 rfl (Nat.le_of_ble_eq_true rfl) (Nat.le_of_ble_eq_true rfl) dL_law_644 rfl ?_
  rintro _ μ2 ⟨rfl, hm2, he2⟩
  have ho1 := oAsk (xs (5 * t + 1)) (xs (5 * t + 2)) ho
  exact v_icmp_eq (tgt := 1105) dL_law_647 rfl (fun _ => ih μ2 _ (hx1.eqG ho1 he2) hm2 ho1) (fun h => absurd rfl h)
theorem lc_calm {κ : Kx} {Qf : State → Prop} {n q L t : Nat} {xs : Nat → Int32} {μ : Mm} {s : Ln} (hX : ScX κ L xs) (ht : 5 * t + 5 ≤ L) (hL : L ≤ 2560) (hx : RX μ s) (hm : RM μ s) (ho : OKs t s) (ih : ∀ μ' s', RX μ' s' → RM μ' s' → OKs (t + 1) s' → V κ mL Qf n q 1105 (lvL t) [] μ') : V κ mL Qf n q 652 (lvL t) [] μ := by
  refine v_aload_n 1 dL_law_652 rfl rfl ?_
  refine v_sarg 1 hX (by omega) hL dL_law_653 dL_law_654 dL_law_655 ic_1 dL_law_656 dL_law_657 ?_
  refine v_sarg 2 hX (by omega) hL dL_law_658 dL_law_659 dL_law_660 ic_2 dL_law_661 dL_law_662 ?_
  refine v_callV (M' := mX4_calm) (xCalm (xs (5 * t + 1)) (xs (5 * t + 2)) hx ho (by omega)) cwX4_calm sh_0 (by decide) rfl wd_684 wd_685 wd_683 rfl (Nat.le_of_ble_eq_true rfl) (Nat.le_of_ble_eq_true rfl) dL_law_663 rfl ?_
  rintro _ μ1 ⟨rfl, hx1, he1⟩
  refine v_aload_n 2 dL_law_666 rfl rfl ?_
  refine v_sarg 1 hX (by omega) hL dL_law_667 dL_law_668 dL_law_669 ic_1 dL_law_670 dL_law_671 ?_
  refine v_sarg 2 hX (by omega) hL dL_law_672 dL_law_673 dL_law_674 ic_2 dL_law_675 dL_law_676 ?_
  refine v_callV (M' := mX5_calm) (mCalm (xs (5 * t + 1)) (xs (5 * t + 2)) (hm.eqH he1) ho (by omega)) cwX5_calm sh_66 (by decide) rfl wd_696 wd_697 wd_695 rfl (Nat.le_of_ble_eq_true rfl) (Nat.le_of_ble_eq_true rfl) dL_law_677 rfl ?_
  rintro _ μ2 ⟨rfl, hm2, he2⟩
  have ho1 := oCalm (xs (5 * t + 1)) (xs (5 * t + 2)) ho
  exact v_icmp_eq (tgt := 1105) dL_law_680 rfl (fun _ => ih μ2 _ (hx1.eqG ho1 he2) hm2 ho1) (fun h => absurd rfl h)
theorem lc_seen {κ : Kx} {Qf : State → Prop} {n q L t : Nat} {xs : Nat → Int32} {μ : Mm} {s : Ln} (hX : ScX κ L xs) (ht : 5 * t + 5 ≤ L) (hL : L ≤ 2560) (hx : RX μ s) (hm : RM μ s) (ho : OKs t s) (ih : ∀ μ' s', RX μ' s' → RM μ' s' → OKs (t + 1) s' → V κ mL Qf n q 1105 (lvL t) [] μ') : V κ mL Qf n q 685 (lvL t) [] μ := by
  refine v_aload_n 1 dL_law_685 rfl rfl ?_
  refine v_sarg 1 hX (by omega) hL dL_law_686 dL_law_687 dL_law_688 ic_1 dL_law_689 dL_law_690 ?_
  refine v_sarg 2 hX (by omega) hL dL_law_691 dL_law_692 dL_law_693 ic_2 dL_law_694 dL_law_695 ?_
  refine v_sarg 3 hX (by omega) hL dL_law_696 dL_law_697 dL_law_698 ic_3 dL_law_699 dL_law_700 ?_
  refine v_sarg 4 hX (by omega) hL dL_law_701 dL_law_702 dL_law_703 ic_4 dL_law_704 dL_law_705 ?_
  refine v_callV (M' := mX4_seen) (xSeen (xs (5 * t + 1)) (xs (5 * t + 2)) (xs (5 * t + 3)) (xs (5 * t + 4)) hx ho) cwX4_seen sh_0 (by decide) rfl wd_703 wd_704 wd_702 rfl (Nat.le_of_ble_eq_true rfl) (Nat.le_of_ble_eq_true rfl) dL_law_706 rfl ?_
  rintro _ μ1 ⟨rfl, hx1, he1⟩
  refine v_aload_n 2 dL_law_709 rfl rfl ?_
  refine v_sarg 1 hX (by omega) hL dL_law_710 dL_law_711 dL_law_712 ic_1 dL_law_713 dL_law_714 ?_
  refine v_sarg 2 hX (by omega) hL dL_law_715 dL_law_716 dL_law_717 ic_2 dL_law_718 dL_law_719 ?_
  refine v_sarg 3 hX (by omega) hL dL_law_720 dL_law_721 dL_law_722 ic_3 dL_law_723 dL_law_724 ?_
  refine v_sarg 4 hX (by omega) hL dL_law_725 dL_law_726 dL_law_727 ic_4 dL_law_728 dL_law_729 ?_
  refine v_callV (M' := mX5_seen) (mSeen (xs (5 * t + 1)) (xs (5 * t + 2)) (xs (5 * t + 3)) (xs (5 * t + 4)) (hm.eqH he1) ho) cwX5_seen sh_66 (by decide) rfl wd_712 wd_713 wd_711 rfl (Nat.le_of_ble_eq_true rfl) (Nat.le_of_ble_eq_true rfl) dL_law_730 rfl ?_
  rintro _ μ2 ⟨rfl, hm2, he2⟩
  have ho1 := oSeen (xs (5 * t + 1)) (xs (5 * t + 2)) (xs (5 * t + 3)) (xs (5 * t + 4)) ho
  exact v_icmp_eq (tgt := 1105) dL_law_733 rfl (fun _ => ih μ2 _ (hx1.eqG ho1 he2) hm2 ho1) (fun h => absurd rfl h)
theorem lc_which {κ : Kx} {Qf : State → Prop} {n q L t : Nat} {xs : Nat → Int32} {μ : Mm} {s : Ln} (hX : ScX κ L xs) (ht : 5 * t + 5 ≤ L) (hL : L ≤ 2560) (hx : RX μ s) (hm : RM μ s) (ho : OKs t s) (ih : ∀ μ' s', RX μ' s' → RM μ' s' → OKs (t + 1) s' → V κ mL Qf n q 1105 (lvL t) [] μ') : V κ mL Qf n q 738 (lvL t) [] μ := by
  refine v_aload_n 1 dL_law_738 rfl rfl ?_
  refine v_sarg 1 hX (by omega) hL dL_law_739 dL_law_740 dL_law_741 ic_1 dL_law_742 dL_law_743 ?_
  refine v_callV (M' := mX4_which) (xWhich (xs (5 * t + 1)) hx ho) cwX4_which sh_0 (by decide) rfl wd_717 wd_718 wd_716 rfl (Nat.le_of_ble_eq_true rfl) (Nat.le_of_ble_eq_true rfl) dL_law_744 rfl ?_
  rintro _ μ1 ⟨rfl, hx1, he1⟩
  refine v_aload_n 2 dL_law_747 rfl rfl ?_
  refine v_sarg 1 hX (by omega) hL dL_law_748 dL_law_749 dL_law_750 ic_1 dL_law_751 dL_law_752 ?_
  refine v_callV (M' := mX5_which) (mWhich (xs (5 * t + 1)) (hm.eqH he1) ho) cwX5_which sh_66 (by decide) rfl wd_729 wd_730 wd_728 rfl (Nat.le_of_ble_eq_true rfl) (Nat.le_of_ble_eq_true rfl) dL_law_753 rfl ?_
  rintro _ μ2 ⟨rfl, hm2, he2⟩
  have ho1 := oWhich (xs (5 * t + 1)) ho
  exact v_icmp_eq (tgt := 1105) dL_law_756 rfl (fun _ => ih μ2 _ (hx1.eqG ho1 he2) hm2 ho1) (fun h => absurd rfl h)
theorem lc_next {κ : Kx} {Qf : State → Prop} {n q L t : Nat} {xs : Nat → Int32} {μ : Mm} {s : Ln} (hX : ScX κ L xs) (ht : 5 * t + 5 ≤ L) (hL : L ≤ 2560) (hx : RX μ s) (hm : RM μ s) (ho : OKs t s) (ih : ∀ μ' s', RX μ' s' → RM μ' s' → OKs (t + 1) s' → V κ mL Qf n q 1105 (lvL t) [] μ') : V κ mL Qf n q 761 (lvL t) [] μ := by
  refine v_aload_n 1 dL_law_761 rfl rfl ?_
  refine v_sarg 1 hX (by omega) hL dL_law_762 dL_law_763 dL_law_764 ic_1 dL_law_765 dL_law_766 ?_
  refine v_callV (M' := mX4_next) (xNext (xs (5 * t + 1)) hx ho) cwX4_next sh_0 (by decide) rfl wd_737 wd_738 wd_736 rfl (Nat.le_of_ble_eq_true rfl) (Nat.le_of_ble_eq_true rfl) dL_law_767 rfl ?_
  rintro _ μ1 ⟨rfl, hx1, he1⟩
  refine v_aload_n 2 dL_law_770 rfl rfl ?_
  refine v_sarg 1 hX (by omega) hL dL_law_771 dL_law_772 dL_law_773 ic_1 dL_law_774 dL_law_775 ?_
  refine v_callV (M' := mX5_next) (mNext (xs (5 * t + 1)) (hm.eqH he1) ho) cwX5_next sh_66 (by decide) rfl wd_753 wd_754 wd_752 rfl (Nat.le_of_ble_eq_true rfl) (Nat.le_of_ble_eq_true rfl) dL_law_776 rfl ?_
  rintro _ μ2 ⟨rfl, hm2, he2⟩
  have ho1 := oNext (xs (5 * t + 1)) ho
  exact v_icmp_eq (tgt := 1105) dL_law_779 rfl (fun _ => ih μ2 _ (hx1.eqG ho1 he2) hm2 ho1) (fun h => absurd rfl h)
theorem lc_mark {κ : Kx} {Qf : State → Prop} {n q L t : Nat} {xs : Nat → Int32} {μ : Mm} {s : Ln} (hX : ScX κ L xs) (ht : 5 * t + 5 ≤ L) (hL : L ≤ 2560) (hx : RX μ s) (hm : RM μ s) (ho : OKs t s) (ih : ∀ μ' s', RX μ' s' → RM μ' s' → OKs (t + 1) s' → V κ mL Qf n q 1105 (lvL t) [] μ') : V κ mL Qf n q 784 (lvL t) [] μ := by
  refine v_aload_n 1 dL_law_784 rfl rfl ?_
  refine v_sarg 1 hX (by omega) hL dL_law_785 dL_law_786 dL_law_787 ic_1 dL_law_788 dL_law_789 ?_
  refine v_sarg 2 hX (by omega) hL dL_law_790 dL_law_791 dL_law_792 ic_2 dL_law_793 dL_law_794 ?_
  refine v_sarg 3 hX (by omega) hL dL_law_795 dL_law_796 dL_law_797 ic_3 dL_law_798 dL_law_799 ?_
  refine v_callV (M' := mX4_mark) (xMark (xs (5 * t + 1)) (xs (5 * t + 2)) (xs (5 * t + 3)) hx ho) cwX4_mark sh_0 (by decide) rfl wd_765 wd_766 wd_764 rfl (Nat.le_of_ble_eq_true rfl) (Nat.le_of_ble_eq_true rfl) dL_law_800 rfl ?_
  rintro _ μ1 ⟨rfl, hx1, he1⟩
  refine v_aload_n 2 dL_law_803 rfl rfl ?_
  refine v_sarg 1 hX (by omega) hL dL_law_804 dL_law_805 dL_law_806 ic_1 dL_law_807 dL_law_808 ?_
  refine v_sarg 2 hX (by omega) hL dL_law_809 dL_law_810 dL_law_811 ic_2 dL_law_812 dL_law_813 ?_
  refine v_sarg 3 hX (by omega) hL dL_law_814 dL_law_815 dL_law_816 ic_3 dL_law_817 dL_law_818 ?_
  refine v_callV (M' := mX5_mark) (mMark (xs (5 * t + 1)) (xs (5 * t + 2)) (xs (5 * t + 3)) (hm.eqH he1) ho) cwX5_mark sh_66 (by decide) rfl wd_774 wd_775 wd_773 rfl (Nat.le_of_ble_eq_true rfl) (Nat.le_of_ble_eq_true rfl) dL_law_819 rfl ?_
  rintro _ μ2 ⟨rfl, hm2, he2⟩
  have ho1 := oMark (xs (5 * t + 1)) (xs (5 * t + 2)) (xs (5 * t + 3)) ho
  exact v_icmp_eq (tgt := 1105) dL_law_822 rfl (fun _ => ih μ2 _ (hx1.eqG ho1 he2) hm2 ho1) (fun h => absurd rfl h)
theorem lc_forget {κ : Kx} {Qf : State → Prop} {n q L t : Nat} {xs : Nat → Int32} {μ : Mm} {s : Ln} (hX : ScX κ L xs) (ht : 5 * t + 5 ≤ L) (hL : L ≤ 2560) (hx : RX μ s) (hm : RM μ s) (ho : OKs t s) (ih : ∀ μ' s', RX μ' s' → RM μ' s' → OKs (t + 1) s' → V κ mL Qf n q 1105 (lvL t) [] μ') : V κ mL Qf n q 827 (lvL t) [] μ := by
  refine v_aload_n 1 dL_law_827 rfl rfl ?_
  refine v_sarg 1 hX (by omega) hL dL_law_828 dL_law_829 dL_law_830 ic_1 dL_law_831 dL_law_832 ?_
  refine v_callV (M' := mX4_forget) (xForget (xs (5 * t + 1)) hx ho) cwX4_forget sh_0 (by decide) rfl wd_779 wd_780 wd_778 rfl (Nat.le_of_ble_eq_true rfl) (Nat.le_of_ble_eq_true rfl) dL_law_833 rfl ?_
  rintro _ μ1 ⟨rfl, hx1, he1⟩
  refine v_aload_n 2 dL_law_836 rfl rfl ?_
  refine v_sarg 1 hX (by omega) hL dL_law_837 dL_law_838 dL_law_839 ic_1 dL_law_840 dL_law_841 ?_
  refine v_callV (M' := mX5_forget) (mForget (xs (5 * t + 1)) (hm.eqH he1) ho) cwX5_forget sh_66 (by decide) rfl wd_783 wd_784 wd_782 rfl (Nat.le_of_ble_eq_true rfl) (Nat.le_of_ble_eq_true rfl) dL_law_842 rfl ?_
  rintro _ μ2 ⟨rfl, hm2, he2⟩
  have ho1 := oForget (xs (5 * t + 1)) ho
  exact v_icmp_eq (tgt := 1105) dL_law_845 rfl (fun _ => ih μ2 _ (hx1.eqG ho1 he2) hm2 ho1) (fun h => absurd rfl h)
theorem lc_kinds {κ : Kx} {Qf : State → Prop} {n q L t : Nat} {xs : Nat → Int32} {μ : Mm} {s : Ln} (hX : ScX κ L xs) (ht : 5 * t + 5 ≤ L) (hL : L ≤ 2560) (hx : RX μ s) (hm : RM μ s) (ho : OKs t s) (ih : ∀ μ' s', RX μ' s' → RM μ' s' → OKs (t + 1) s' → V κ mL Qf n q 1105 (lvL t) [] μ') : V κ mL Qf n q 850 (lvL t) [] μ := by
  refine v_aload_n 1 dL_law_850 rfl rfl ?_
  refine v_callV (M' := mX4_kinds) (xKinds hx ho) cwX4_kinds sh_0 (by decide) rfl wd_787 wd_788 wd_786 rfl (Nat.le_of_ble_eq_true rfl) (Nat.le_of_ble_eq_true rfl) dL_law_851 rfl ?_
  rintro _ μ1 ⟨rfl, hx1, he1⟩
  refine v_aload_n 2 dL_law_854 rfl rfl ?_
  refine v_callV (M' := mX5_kinds) (mKinds (hm.eqH he1) ho) cwX5_kinds sh_66 (by decide) rfl wd_799 wd_800 wd_798 rfl (Nat.le_of_ble_eq_true rfl) (Nat.le_of_ble_eq_true rfl) dL_law_855 rfl ?_
  rintro _ μ2 ⟨rfl, hm2, he2⟩
  have ho1 := oKinds  ho
  exact v_icmp_eq (tgt := 1105) dL_law_858 rfl (fun _ => ih μ2 _ (hx1.eqG ho1 he2) hm2 ho1) (fun h => absurd rfl h)
theorem lc_look {κ : Kx} {Qf : State → Prop} {n q L t : Nat} {xs : Nat → Int32} {μ : Mm} {s : Ln} (hX : ScX κ L xs) (ht : 5 * t + 5 ≤ L) (hL : L ≤ 2560) (hx : RX μ s) (hm : RM μ s) (ho : OKs t s) (ih : ∀ μ' s', RX μ' s' → RM μ' s' → OKs (t + 1) s' → V κ mL Qf n q 1105 (lvL t) [] μ') : V κ mL Qf n q 863 (lvL t) [] μ := by
  refine v_aload_n 1 dL_law_863 rfl rfl ?_
  refine v_callV (M' := mX4_look) (xLook hx ho) cwX4_look sh_0 (by decide) rfl wd_803 wd_804 wd_802 rfl (Nat.le_of_ble_eq_true rfl) (Nat.le_of_ble_eq_true rfl) dL_law_864 rfl ?_
  rintro _ μ1 ⟨rfl, hx1, he1⟩
  refine v_aload_n 2 dL_law_867 rfl rfl ?_
  refine v_callV (M' := mX5_look) (mLook (hm.eqH he1) ho) cwX5_look sh_66 (by decide) rfl wd_807 wd_808 wd_806 rfl (Nat.le_of_ble_eq_true rfl) (Nat.le_of_ble_eq_true rfl) dL_law_868 rfl ?_
  rintro _ μ2 ⟨rfl, hm2, he2⟩
  have ho1 := oLook  ho
  exact v_icmp_eq (tgt := 1105) dL_law_871 rfl (fun _ => ih μ2 _ (hx1.eqG ho1 he2) hm2 ho1) (fun h => absurd rfl h)
theorem lc_waiting {κ : Kx} {Qf : State → Prop} {n q L t : Nat} {xs : Nat → Int32} {μ : Mm} {s : Ln} (hX : ScX κ L xs) (ht : 5 * t + 5 ≤ L) (hL : L ≤ 2560) (hx : RX μ s) (hm : RM μ s) (ho : OKs t s) (ih : ∀ μ' s', RX μ' s' → RM μ' s' → OKs (t + 1) s' → V κ mL Qf n q 1105 (lvL t) [] μ') : V κ mL Qf n q 876 (lvL t) [] μ := by
  refine v_aload_n 1 dL_law_876 rfl rfl ?_
  refine v_sarg 1 hX (by omega) hL dL_law_877 dL_law_878 dL_law_879 ic_1 dL_law_880 dL_law_881 ?_
  refine v_callV (M' := mX4_waiting) (xWait (xs (5 * t + 1)) hx ho (by omega)) cwX4_waiting sh_0 (by decide) rfl wd_812 wd_813 wd_811 rfl (Nat.le_of_ble_eq_true rfl) (Nat.le_of_ble_eq_true rfl) dL_law_882 rfl ?_
  rintro _ μ1 ⟨rfl, hx1, he1⟩
  refine v_aload_n 2 dL_law_885 rfl rfl ?_
  refine v_sarg 1 hX (by omega) hL dL_law_886 dL_law_887 dL_law_888 ic_1 dL_law_889 dL_law_890 ?_
  refine v_callV (M' := mX5_waiting) (mWait (xs (5 * t + 1)) (hm.eqH he1) ho (by omega)) cwX5_waiting sh_66 (by decide) rfl wd_828 wd_829 wd_827 rfl (Nat.le_of_ble_eq_true rfl) (Nat.le_of_ble_eq_true rfl) dL_law_891 rfl ?_
  rintro _ μ2 ⟨rfl, hm2, he2⟩
  have ho1 := oWait (xs (5 * t + 1)) ho
  exact v_icmp_eq (tgt := 1105) dL_law_894 rfl (fun _ => ih μ2 _ (hx1.eqG ho1 he2) hm2 ho1) (fun h => absurd rfl h)
theorem lc_chance {κ : Kx} {Qf : State → Prop} {n q L t : Nat} {xs : Nat → Int32} {μ : Mm} {s : Ln} (hX : ScX κ L xs) (ht : 5 * t + 5 ≤ L) (hL : L ≤ 2560) (hx : RX μ s) (hm : RM μ s) (ho : OKs t s) (ih : ∀ μ' s', RX μ' s' → RM μ' s' → OKs (t + 1) s' → V κ mL Qf n q 1105 (lvL t) [] μ') : V κ mL Qf n q 899 (lvL t) [] μ := by
  refine v_aload_n 1 dL_law_899 rfl rfl ?_
  refine v_sarg 1 hX (by omega) hL dL_law_900 dL_law_901 dL_law_902 ic_1 dL_law_903 dL_law_904 ?_
  refine v_sarg 2 hX (by omega) hL dL_law_905 dL_law_906 dL_law_907 ic_2 dL_law_908 dL_law_909 ?_
  refine v_sarg 3 hX (by omega) hL dL_law_910 dL_law_911 dL_law_912 ic_3 dL_law_913 dL_law_914 ?_
  refine v_callV (M' := mX4_chance) (xCh (xs (5 * t + 1)) (xs (5 * t + 2)) (xs (5 * t + 3)) hx ho (by omega)) cwX4_chance sh_0 (by decide) rfl wd_844 wd_845 wd_843 rfl (Nat.le_of_ble_eq_true rfl) (Nat.le_of_ble_eq_true rfl) dL_law_915 rfl ?_
  rintro _ μ1 ⟨rfl, hx1, he1⟩
  refine v_aload_n 2 dL_law_918 rfl rfl ?_
  refine v_sarg 1 hX (by omega) hL dL_law_919 dL_law_920 dL_law_921 ic_1 dL_law_922 dL_law_923 ?_
  refine v_sarg 2 hX (by omega) hL dL_law_924 dL_law_925 dL_law_926 ic_2 dL_law_927 dL_law_928 ?_
  refine v_sarg 3 hX (by omega) hL dL_law_929 dL_law_930 dL_law_931 ic_3 dL_law_932 dL_law_933 ?_
  refine v_callV (M' := mX5_chance) (mCh (xs (5 * t + 1)) (xs (5 * t + 2)) (xs (5 * t + 3)) (hm.eqH he1) ho (by omega)) cwX5_chance sh_66 (by decide) rfl wd_862 wd_863 wd_861 rfl (Nat.le_of_ble_eq_true rfl) (Nat.le_of_ble_eq_true rfl) dL_law_934 rfl ?_
  rintro _ μ2 ⟨rfl, hm2, he2⟩
  have ho1 := oCh (xs (5 * t + 1)) (xs (5 * t + 2)) (xs (5 * t + 3)) ho
  exact v_icmp_eq (tgt := 1105) dL_law_937 rfl (fun _ => ih μ2 _ (hx1.eqG ho1 he2) hm2 ho1) (fun h => absurd rfl h)
theorem lc_years {κ : Kx} {Qf : State → Prop} {n q L t : Nat} {xs : Nat → Int32} {μ : Mm} {s : Ln} (hX : ScX κ L xs) (ht : 5 * t + 5 ≤ L) (hL : L ≤ 2560) (hx : RX μ s) (hm : RM μ s) (ho : OKs t s) (ih : ∀ μ' s', RX μ' s' → RM μ' s' → OKs (t + 1) s' → V κ mL Qf n q 1105 (lvL t) [] μ') : V κ mL Qf n q 942 (lvL t) [] μ := by
  refine v_aload_n 1 dL_law_942 rfl rfl ?_
  refine v_sarg 1 hX (by omega) hL dL_law_943 dL_law_944 dL_law_945 ic_1 dL_law_946 dL_law_947 ?_
  refine v_sarg 2 hX (by omega) hL dL_law_948 dL_law_949 dL_law_950 ic_2 dL_law_951 dL_law_952 ?_
  refine v_callV (M' := mX4_years) (xYears (xs (5 * t + 1)) (xs (5 * t + 2)) hx ho (by omega)) cwX4_years sh_0 (by decide) rfl wd_873 wd_874 wd_872 rfl (Nat.le_of_ble_eq_true rfl) (Nat.le_of_ble_eq_true rfl) dL_law_953 rfl ?_
  rintro _ μ1 ⟨rfl, hx1, he1⟩
  refine v_aload_n 2 dL_law_956 rfl rfl ?_
  refine v_sarg 1 hX (by omega) hL dL_law_957 dL_law_958 dL_law_959 ic_1 dL_law_960 dL_law_961 ?_
  refine v_sarg 2 hX (by omega) hL dL_law_962 dL_law_963 dL_law_964 ic_2 dL_law_965 dL_law_966 ?_
  refine v_callV (M' := mX5_years) (mYears (xs (5 * t + 1)) (xs (5 * t + 2)) (hm.eqH he1) ho (by omega)) cwX5_years sh_66 (by decide) rfl wd_883 wd_884 wd_882 rfl (Nat.le_of_ble_eq_true rfl) (Nat.le_of_ble_eq_true rfl) dL_law_967 rfl ?_
  rintro _ μ2 ⟨rfl, hm2, he2⟩
  have ho1 := oYears (xs (5 * t + 1)) (xs (5 * t + 2)) ho
  exact v_icmp_eq (tgt := 1105) dL_law_970 rfl (fun _ => ih μ2 _ (hx1.eqG ho1 he2) hm2 ho1) (fun h => absurd rfl h)
theorem lc_part {κ : Kx} {Qf : State → Prop} {n q L t : Nat} {xs : Nat → Int32} {μ : Mm} {s : Ln} (hX : ScX κ L xs) (ht : 5 * t + 5 ≤ L) (hL : L ≤ 2560) (hx : RX μ s) (hm : RM μ s) (ho : OKs t s) (ih : ∀ μ' s', RX μ' s' → RM μ' s' → OKs (t + 1) s' → V κ mL Qf n q 1105 (lvL t) [] μ') : V κ mL Qf n q 975 (lvL t) [] μ := by
  refine v_aload_n 1 dL_law_975 rfl rfl ?_
  refine v_sarg 1 hX (by omega) hL dL_law_976 dL_law_977 dL_law_978 ic_1 dL_law_979 dL_law_980 ?_
  refine v_callV (M' := mX4_part) (xPart (xs (5 * t + 1)) hx ho) cwX4_part sh_0 (by decide) rfl wd_894 wd_895 wd_893 rfl (Nat.le_of_ble_eq_true rfl) (Nat.le_of_ble_eq_true rfl) dL_law_981 rfl ?_
  rintro _ μ1 ⟨rfl, hx1, he1⟩
  refine v_aload_n 2 dL_law_984 rfl rfl ?_
  refine v_sarg 1 hX (by omega) hL dL_law_985 dL_law_986 dL_law_987 ic_1 dL_law_988 dL_law_989 ?_
  refine v_callV (M' := mX5_part) (mPart (xs (5 * t + 1)) (hm.eqH he1)) cwX5_part sh_66 (by decide) rfl wd_898 wd_899 wd_897 rfl (Nat.le_of_ble_eq_true rfl) (Nat.le_of_ble_eq_true rfl) dL_law_990 rfl ?_
  rintro _ μ2 ⟨rfl, hm2, he2⟩
  have ho1 := oPart (xs (5 * t + 1)) ho
  refine v_lcmp dL_law_993 ?_
  exact v_if_eq (tgt := 1105) dL_law_994 rfl (fun _ => ih μ2 _ (hx1.eqG ho1 he2) hm2 ho1) (fun h => absurd (lg_self _) h)
theorem lc_image {κ : Kx} {Qf : State → Prop} {n q L t : Nat} {xs : Nat → Int32} {μ : Mm} {s : Ln} (hX : ScX κ L xs) (ht : 5 * t + 5 ≤ L) (hL : L ≤ 2560) (hx : RX μ s) (hm : RM μ s) (ho : OKs t s) (ih : ∀ μ' s', RX μ' s' → RM μ' s' → OKs (t + 1) s' → V κ mL Qf n q 1105 (lvL t) [] μ') : V κ mL Qf n q 999 (lvL t) [] μ := by
  refine v_aload_n 1 dL_law_999 rfl rfl ?_
  refine v_sarg 1 hX (by omega) hL dL_law_1000 dL_law_1001 dL_law_1002 ic_1 dL_law_1003 dL_law_1004 ?_
  refine v_callV (M' := mX4_image) (xImage (xs (5 * t + 1)) hx ho) cwX4_image sh_0 (by decide) rfl wd_902 wd_903 wd_901 rfl (Nat.le_of_ble_eq_true rfl) (Nat.le_of_ble_eq_true rfl) dL_law_1005 rfl ?_
  rintro _ μ1 ⟨rfl, hx1, he1⟩
  refine v_aload_n 2 dL_law_1008 rfl rfl ?_
  refine v_sarg 1 hX (by omega) hL dL_law_1009 dL_law_1010 dL_law_1011 ic_1 dL_law_1012 dL_law_1013 ?_
  refine v_callV (M' := mX5_image) (mImage (xs (5 * t + 1)) (hm.eqH he1) ho) cwX5_image sh_66 (by decide) rfl wd_916 wd_917 wd_915 rfl (Nat.le_of_ble_eq_true rfl) (Nat.le_of_ble_eq_true rfl) dL_law_1014 rfl ?_
  rintro _ μ2 ⟨rfl, hm2, he2⟩
  have ho1 := oImage (xs (5 * t + 1)) ho
  exact v_icmp_eq (tgt := 1105) dL_law_1017 rfl (fun _ => ih μ2 _ (hx1.eqG ho1 he2) hm2 ho1) (fun h => absurd rfl h)
theorem lc_from {κ : Kx} {Qf : State → Prop} {n q L t : Nat} {xs : Nat → Int32} {μ : Mm} {s : Ln} (hX : ScX κ L xs) (ht : 5 * t + 5 ≤ L) (hL : L ≤ 2560) (hx : RX μ s) (hm : RM μ s) (ho : OKs t s) (ih : ∀ μ' s', RX μ' s' → RM μ' s' → OKs (t + 1) s' → V κ mL Qf n q 1105 (lvL t) [] μ') : V κ mL Qf n q 1022 (lvL t) [] μ := by
  refine v_aload_n 1 dL_law_1022 rfl rfl ?_
  refine v_sarg 1 hX (by omega) hL dL_law_1023 dL_law_1024 dL_law_1025 ic_1 dL_law_1026 dL_law_1027 ?_
  refine v_callV (M' := mX4_from) (xFrom (xs (5 * t + 1)) hx ho) cwX4_from sh_0 (by decide) rfl wd_920 wd_921 wd_919 rfl (Nat.le_of_ble_eq_true rfl) (Nat.le_of_ble_eq_true rfl) dL_law_1028 rfl ?_
  rintro _ μ1 ⟨rfl, hx1, he1⟩
  refine v_aload_n 2 dL_law_1031 rfl rfl ?_
  refine v_sarg 1 hX (by omega) hL dL_law_1032 dL_law_1033 dL_law_1034 ic_1 dL_law_1035 dL_law_1036 ?_
  refine v_callV (M' := mX5_from) (mFrom (xs (5 * t + 1)) (hm.eqH he1) ho) cwX5_from sh_66 (by decide) rfl wd_924 wd_925 wd_923 rfl (Nat.le_of_ble_eq_true rfl) (Nat.le_of_ble_eq_true rfl) dL_law_1037 rfl ?_
  rintro _ μ2 ⟨rfl, hm2, he2⟩
  have ho1 := oFrom (xs (5 * t + 1)) ho
  exact v_icmp_eq (tgt := 1105) dL_law_1040 rfl (fun _ => ih μ2 _ (hx1.eqG ho1 he2) hm2 ho1) (fun h => absurd rfl h)
theorem lc_status {κ : Kx} {Qf : State → Prop} {n q L t : Nat} {xs : Nat → Int32} {μ : Mm} {s : Ln} (hX : ScX κ L xs) (ht : 5 * t + 5 ≤ L) (hL : L ≤ 2560) (hx : RX μ s) (hm : RM μ s) (ho : OKs t s) (ih : ∀ μ' s', RX μ' s' → RM μ' s' → OKs (t + 1) s' → V κ mL Qf n q 1105 (lvL t) [] μ') : V κ mL Qf n q 1045 (lvL t) [] μ := by
  refine v_aload_n 1 dL_law_1045 rfl rfl ?_
  refine v_sarg 1 hX (by omega) hL dL_law_1046 dL_law_1047 dL_law_1048 ic_1 dL_law_1049 dL_law_1050 ?_
  refine v_callV (M' := mX4_status) (xStatus (xs (5 * t + 1)) hx ho) cwX4_status sh_0 (by decide) rfl wd_928 wd_929 wd_927 rfl (Nat.le_of_ble_eq_true rfl) (Nat.le_of_ble_eq_true rfl) dL_law_1051 rfl ?_
  rintro _ μ1 ⟨rfl, hx1, he1⟩
  refine v_aload_n 2 dL_law_1054 rfl rfl ?_
  refine v_sarg 1 hX (by omega) hL dL_law_1055 dL_law_1056 dL_law_1057 ic_1 dL_law_1058 dL_law_1059 ?_
  refine v_callV (M' := mX5_status) (mStatus (xs (5 * t + 1)) (hm.eqH he1)) cwX5_status sh_66 (by decide) rfl wd_932 wd_933 wd_931 rfl (Nat.le_of_ble_eq_true rfl) (Nat.le_of_ble_eq_true rfl) dL_law_1060 rfl ?_
  rintro _ μ2 ⟨rfl, hm2, he2⟩
  have ho1 := oStatus (xs (5 * t + 1)) ho
  exact v_icmp_eq (tgt := 1105) dL_law_1063 rfl (fun _ => ih μ2 _ (hx1.eqG ho1 he2) hm2 ho1) (fun h => absurd rfl h)
theorem lc_count {κ : Kx} {Qf : State → Prop} {n q L t : Nat} {xs : Nat → Int32} {μ : Mm} {s : Ln} (hX : ScX κ L xs) (ht : 5 * t + 5 ≤ L) (hL : L ≤ 2560) (hx : RX μ s) (hm : RM μ s) (ho : OKs t s) (ih : ∀ μ' s', RX μ' s' → RM μ' s' → OKs (t + 1) s' → V κ mL Qf n q 1105 (lvL t) [] μ') : V κ mL Qf n q 1068 (lvL t) [] μ := by
  refine v_aload_n 1 dL_law_1068 rfl rfl ?_
  refine v_sarg 1 hX (by omega) hL dL_law_1069 dL_law_1070 dL_law_1071 ic_1 dL_law_1072 dL_law_1073 ?_
  refine v_callV (M' := mX4_count) (xCount (xs (5 * t + 1)) hx ho) cwX4_count sh_0 (by decide) rfl wd_937 wd_938 wd_936 rfl (Nat.le_of_ble_eq_true rfl) (Nat.le_of_ble_eq_true rfl) dL_law_1074 rfl ?_
  rintro _ μ1 ⟨rfl, hx1, he1⟩
  refine v_aload_n 2 dL_law_1077 rfl rfl ?_
  refine v_sarg 1 hX (by omega) hL dL_law_1078 dL_law_1079 dL_law_1080 ic_1 dL_law_1081 dL_law_1082 ?_
  refine v_callV (M' := mX5_count) (mCount (xs (5 * t + 1)) (hm.eqH he1) ho) cwX5_count sh_66 (by decide) rfl wd_947 wd_948 wd_946 rfl (Nat.le_of_ble_eq_true rfl) (Nat.le_of_ble_eq_true rfl) dL_law_1083 rfl ?_
  rintro _ μ2 ⟨rfl, hm2, he2⟩
  have ho1 := oCount (xs (5 * t + 1)) ho
  exact v_icmp_eq (tgt := 1105) dL_law_1086 rfl (fun _ => ih μ2 _ (hx1.eqG ho1 he2) hm2 ho1) (fun h => absurd rfl h)
theorem lc_digest {κ : Kx} {Qf : State → Prop} {n q L t : Nat} {xs : Nat → Int32} {μ : Mm} {s : Ln} (hX : ScX κ L xs) (ht : 5 * t + 5 ≤ L) (hL : L ≤ 2560) (hx : RX μ s) (hm : RM μ s) (ho : OKs t s) (ih : ∀ μ' s', RX μ' s' → RM μ' s' → OKs (t + 1) s' → V κ mL Qf n q 1105 (lvL t) [] μ') : V κ mL Qf n q 1091 (lvL t) [] μ := by
  refine v_aload_n 1 dL_law_1091 rfl rfl ?_
  refine v_callV (M' := mX4_digest) (xDigest hx ho) cwX4_digest sh_0 (by decide) rfl wd_959 wd_960 wd_958 rfl (Nat.le_of_ble_eq_true rfl) (Nat.le_of_ble_eq_true rfl) dL_law_1092 rfl ?_
  rintro _ μ1 ⟨rfl, hx1, he1⟩
  refine v_aload_n 2 dL_law_1095 rfl rfl ?_
  refine v_callV (M' := mX5_digest) (mDigest (hm.eqH he1) ho) cwX5_digest sh_66 (by decide) rfl wd_971 wd_972 wd_970 rfl (Nat.le_of_ble_eq_true rfl) (Nat.le_of_ble_eq_true rfl) dL_law_1096 rfl ?_
  rintro _ μ2 ⟨rfl, hm2, he2⟩
  have ho1 := ho.up (Nat.le_succ t)
  refine v_lcmp dL_law_1099 ?_
  exact v_if_eq (tgt := 1105) dL_law_1100 rfl (fun _ => ih μ2 _ (hx1.eqG ho1 he2) hm2 ho1) (fun h => absurd (lg_self _) h)
