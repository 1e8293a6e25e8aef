/-! ===== the law: a call of both ===== -/
section
variable {κ κ' : Kp} {p : Program} {e : Env} {s : State} {m : MethodId} {below : List Frame} {meth : Method} {c : Code} {b L : Nat} {xs : Nat → Int32} {σ τ : Mem} {i : Int}
theorem cs_0 (hC : LC κ κ' p s m meth c b L xs) (hA : At11 κ 0) (hA' : At12 κ' 0) (hi : 0 ≤ i ∧ i + 6 ≤ (L : Int)) (h : IV σ τ) (hw : WF σ) (hw' : WF τ) (k : ∀ σ1 τ1 : Mem, IV σ1 τ1 → WF σ1 → WF τ1 → LW κ κ' p e s m below meth c b 1246 [some (.ref b), some (vr κ 0), some (vr κ' 0), some (vi i)] [] σ1 τ1) : LW κ κ' p e s m below meth c b 192 [some (.ref b), some (vr κ 0), some (vr κ' 0), some (vi i)] [] σ τ := by
  obtain ⟨r, σ1, τ1, e1, e2, h1⟩ := k_state h (v := (sX xs (i + 1))) (sX_in xs _)
  refine y_aload_n hC d_law_192 rfl ?_
  refine y_aload_n hC d_law_193 rfl ?_
  refine y_iload_n (v := i) hC d_law_194 rfl ?_
  refine y_iconst hC d_law_195 ?_
  refine y_iadd (z := i + 1) hC d_law_196 rfl ?_
  refine y_sld (j := i + 1) hC (by omega) d_law_197 ?_
  refine y_call (σ1 := σ1) (r := r) (R' := R_X11_state) (As := [vi (sX xs (i + 1))]) (rest := []) hC d_law_198 cv_L_13 rfl hA.1 rfl rfl ⟨rfl, rfl, by decide, by decide⟩ (Nat.le_of_ble_eq_true rfl) hw rfl (c_X11_state κ 0 hA _ (sX_in xs _) σ r σ1 e1) rfl (fun hw1 => ?_)
  refine y_aload_n hC d_law_201 rfl ?_
  refine y_aload_n hC d_law_202 rfl ?_
  refine y_iload_n (v := i) hC d_law_203 rfl ?_
  refine y_iconst hC d_law_204 ?_
  refine y_iadd (z := i + 1) hC d_law_205 rfl ?_
  refine y_sld (j := i + 1) hC (by omega) d_law_206 ?_
  refine y_swap (y_call (σ1 := τ1) (r := r) (R' := R_X12_state) (As := [vi (sX xs (i + 1))]) (rest := [vi r]) hC.sw d_law_207 cv_L_17 rfl hA'.1 rfl rfl ⟨rfl, rfl, by decide, by decide⟩ (Nat.le_of_ble_eq_true rfl) hw' rfl (c_X12_state κ' 0 hA' _ (sX_in xs _) τ r τ1 e2) rfl (fun hw2 => y_swap ?_ hC.2.2.1.symm)) hC.2.2.1
  refine y_same hC d_law_210 ?_
  exact k σ1 τ1 h1 hw1 hw2
theorem cs_1 (hC : LC κ κ' p s m meth c b L xs) (hA : At11 κ 0) (hA' : At12 κ' 0) (hi : 0 ≤ i ∧ i + 6 ≤ (L : Int)) (h : IV σ τ) (hw : WF σ) (hw' : WF τ) (k : ∀ σ1 τ1 : Mem, IV σ1 τ1 → WF σ1 → WF τ1 → LW κ κ' p e s m below meth c b 1246 [some (.ref b), some (vr κ 0), some (vr κ' 0), some (vi i)] [] σ1 τ1) : LW κ κ' p e s m below meth c b 215 [some (.ref b), some (vr κ 0), some (vr κ' 0), some (vi i)] [] σ τ := by
  obtain ⟨r, σ1, τ1, e1, e2, h1⟩ := k_boat h (sX xs (i + 1)) (sX xs (i + 2)) (sX xs (i + 3))
  refine y_aload_n hC d_law_215 rfl ?_
  refine y_aload_n hC d_law_216 rfl ?_
  refine y_iload_n (v := i) hC d_law_217 rfl ?_
  refine y_iconst hC d_law_218 ?_
  refine y_iadd (z := i + 1) hC d_law_219 rfl ?_
  refine y_sld (j := i + 1) hC (by omega) d_law_220 ?_
  refine y_aload_n hC d_law_221 rfl ?_
  refine y_iload_n (v := i) hC d_law_222 rfl ?_
  refine y_iconst hC d_law_223 ?_
  refine y_iadd (z := i + 2) hC d_law_224 rfl ?_
  refine y_sld (j := i + 2) hC (by omega) d_law_225 ?_
  refine y_aload_n hC d_law_226 rfl ?_
  refine y_iload_n (v := i) hC d_law_227 rfl ?_
  refine y_iconst hC d_law_228 ?_
  refine y_iadd (z := i + 3) hC d_law_229 rfl ?_
  refine y_sld (j := i + 3) hC (by omega) d_law_230 ?_
  refine y_call (σ1 := σ1) (r := r) (R' := R_X11_boat) (As := [vi (sX xs (i + 1)), vi (sX xs (i + 2)), vi (sX xs (i + 3))]) (rest := []) hC d_law_231 cv_L_18 rfl hA.1 rfl rfl ⟨rfl, rfl, by decide, by decide⟩ (Nat.le_of_ble_eq_true rfl) hw rfl (c_X11_boat κ 0 hA _ (sX_in xs _) _ (sX_in xs _) _ (sX_in xs _) σ r σ1 e1) rfl (fun hw1 => ?_)
  refine y_aload_n hC d_law_234 rfl ?_
  refine y_aload_n hC d_law_235 rfl ?_
  refine y_iload_n (v := i) hC d_law_236 rfl ?_
  refine y_iconst hC d_law_237 ?_
  refine y_iadd (z := i + 1) hC d_law_238 rfl ?_
  refine y_sld (j := i + 1) hC (by omega) d_law_239 ?_
  refine y_aload_n hC d_law_240 rfl ?_
  refine y_iload_n (v := i) hC d_law_241 rfl ?_
  refine y_iconst hC d_law_242 ?_
  refine y_iadd (z := i + 2) hC d_law_243 rfl ?_
  refine y_sld (j := i + 2) hC (by omega) d_law_244 ?_
  refine y_aload_n hC d_law_245 rfl ?_
  refine y_iload_n (v := i) hC d_law_246 rfl ?_
  refine y_iconst hC d_law_247 ?_
  refine y_iadd (z := i + 3) hC d_law_248 rfl ?_
  refine y_sld (j := i + 3) hC (by omega) d_law_249 ?_
  refine y_swap (y_call (σ1 := τ1) (r := r) (R' := R_X12_boat) (As := [vi (sX xs (i + 1)), vi (sX xs (i + 2)), vi (sX xs (i + 3))]) (rest := [vi r]) hC.sw d_law_250 cv_L_22 rfl hA'.1 rfl rfl ⟨rfl, rfl, by decide, by decide⟩ (Nat.le_of_ble_eq_true rfl) hw' rfl (c_X12_boat κ' 0 hA' _ (sX_in xs _) _ (sX_in xs _) _ (sX_in xs _) τ r τ1 e2) rfl (fun hw2 => y_swap ?_ hC.2.2.1.symm)) hC.2.2.1
  refine y_same hC d_law_253 ?_
  exact k σ1 τ1 h1 hw1 hw2
theorem cs_2 (hC : LC κ κ' p s m meth c b L xs) (hA : At11 κ 0) (hA' : At12 κ' 0) (hi : 0 ≤ i ∧ i + 6 ≤ (L : Int)) (h : IV σ τ) (hw : WF σ) (hw' : WF τ) (k : ∀ σ1 τ1 : Mem, IV σ1 τ1 → WF σ1 → WF τ1 → LW κ κ' p e s m below meth c b 1246 [some (.ref b), some (vr κ 0), some (vr κ' 0), some (vi i)] [] σ1 τ1) : LW κ κ' p e s m below meth c b 258 [some (.ref b), some (vr κ 0), some (vr κ' 0), some (vi i)] [] σ τ := by
  obtain ⟨r, σ1, τ1, e1, e2, h1⟩ := k_set h (sX xs (i + 1)) (sX xs (i + 2)) (sX xs (i + 3))
  refine y_aload_n hC d_law_258 rfl ?_
  refine y_aload_n hC d_law_259 rfl ?_
  refine y_iload_n (v := i) hC d_law_260 rfl ?_
  refine y_iconst hC d_law_261 ?_
  refine y_iadd (z := i + 1) hC d_law_262 rfl ?_
  refine y_sld (j := i + 1) hC (by omega) d_law_263 ?_
  refine y_aload_n hC d_law_264 rfl ?_
  refine y_iload_n (v := i) hC d_law_265 rfl ?_
  refine y_iconst hC d_law_266 ?_
  refine y_iadd (z := i + 2) hC d_law_267 rfl ?_
  refine y_sld (j := i + 2) hC (by omega) d_law_268 ?_
  refine y_aload_n hC d_law_269 rfl ?_
  refine y_iload_n (v := i) hC d_law_270 rfl ?_
  refine y_iconst hC d_law_271 ?_
  refine y_iadd (z := i + 3) hC d_law_272 rfl ?_
  refine y_sld (j := i + 3) hC (by omega) d_law_273 ?_
  refine y_call (σ1 := σ1) (r := r) (R' := R_X11_set) (As := [vi (sX xs (i + 1)), vi (sX xs (i + 2)), vi (sX xs (i + 3))]) (rest := []) hC d_law_274 cv_L_23 rfl hA.1 rfl rfl ⟨rfl, rfl, by decide, by decide⟩ (Nat.le_of_ble_eq_true rfl) hw rfl (c_X11_set κ 0 hA _ (sX_in xs _) _ (sX_in xs _) _ (sX_in xs _) σ r σ1 e1) rfl (fun hw1 => ?_)
  refine y_aload_n hC d_law_277 rfl ?_
  refine y_aload_n hC d_law_278 rfl ?_
  refine y_iload_n (v := i) hC d_law_279 rfl ?_
  refine y_iconst hC d_law_280 ?_
  refine y_iadd (z := i + 1) hC d_law_281 rfl ?_
  refine y_sld (j := i + 1) hC (by omega) d_law_282 ?_
  refine y_aload_n hC d_law_283 rfl ?_
  refine y_iload_n (v := i) hC d_law_284 rfl ?_
  refine y_iconst hC d_law_285 ?_
  refine y_iadd (z := i + 2) hC d_law_286 rfl ?_
  refine y_sld (j := i + 2) hC (by omega) d_law_287 ?_
  refine y_aload_n hC d_law_288 rfl ?_
  refine y_iload_n (v := i) hC d_law_289 rfl ?_
  refine y_iconst hC d_law_290 ?_
  refine y_iadd (z := i + 3) hC d_law_291 rfl ?_
  refine y_sld (j := i + 3) hC (by omega) d_law_292 ?_
  refine y_swap (y_call (σ1 := τ1) (r := r) (R' := R_X12_set) (As := [vi (sX xs (i + 1)), vi (sX xs (i + 2)), vi (sX xs (i + 3))]) (rest := [vi r]) hC.sw d_law_293 cv_L_27 rfl hA'.1 rfl rfl ⟨rfl, rfl, by decide, by decide⟩ (Nat.le_of_ble_eq_true rfl) hw' rfl (c_X12_set κ' 0 hA' _ (sX_in xs _) _ (sX_in xs _) _ (sX_in xs _) τ r τ1 e2) rfl (fun hw2 => y_swap ?_ hC.2.2.1.symm)) hC.2.2.1
  refine y_same hC d_law_296 ?_
  exact k σ1 τ1 h1 hw1 hw2
theorem cs_3 (hC : LC κ κ' p s m meth c b L xs) (hA : At11 κ 0) (hA' : At12 κ' 0) (hi : 0 ≤ i ∧ i + 6 ≤ (L : Int)) (h : IV σ τ) (hw : WF σ) (hw' : WF τ) (k : ∀ σ1 τ1 : Mem, IV σ1 τ1 → WF σ1 → WF τ1 → LW κ κ' p e s m below meth c b 1246 [some (.ref b), some (vr κ 0), some (vr κ' 0), some (vi i)] [] σ1 τ1) : LW κ κ' p e s m below meth c b 301 [some (.ref b), some (vr κ 0), some (vr κ' 0), some (vi i)] [] σ τ := by
  obtain ⟨r, σ1, τ1, e1, e2, h1⟩ := k_turn h (sX xs (i + 1))
  refine y_aload_n hC d_law_301 rfl ?_
  refine y_aload_n hC d_law_302 rfl ?_
  refine y_iload_n (v := i) hC d_law_303 rfl ?_
  refine y_iconst hC d_law_304 ?_
  refine y_iadd (z := i + 1) hC d_law_305 rfl ?_
  refine y_sld (j := i + 1) hC (by omega) d_law_306 ?_
  refine y_call (σ1 := σ1) (r := r) (R' := R_X11_turn) (As := [vi (sX xs (i + 1))]) (rest := []) hC d_law_307 cv_L_28 rfl hA.1 rfl rfl ⟨rfl, rfl, by decide, by decide⟩ (Nat.le_of_ble_eq_true rfl) hw rfl (c_X11_turn κ 0 hA _ (sX_in xs _) σ r σ1 e1) rfl (fun hw1 => ?_)
  refine y_aload_n hC d_law_310 rfl ?_
  refine y_aload_n hC d_law_311 rfl ?_
  refine y_iload_n (v := i) hC d_law_312 rfl ?_
  refine y_iconst hC d_law_313 ?_
  refine y_iadd (z := i + 1) hC d_law_314 rfl ?_
  refine y_sld (j := i + 1) hC (by omega) d_law_315 ?_
  refine y_swap (y_call (σ1 := τ1) (r := r) (R' := R_X12_turn) (As := [vi (sX xs (i + 1))]) (rest := [vi r]) hC.sw d_law_316 cv_L_32 rfl hA'.1 rfl rfl ⟨rfl, rfl, by decide, by decide⟩ (Nat.le_of_ble_eq_true rfl) hw' rfl (c_X12_turn κ' 0 hA' _ (sX_in xs _) τ r τ1 e2) rfl (fun hw2 => y_swap ?_ hC.2.2.1.symm)) hC.2.2.1
  refine y_same hC d_law_319 ?_
  exact k σ1 τ1 h1 hw1 hw2
theorem cs_4 (hC : LC κ κ' p s m meth c b L xs) (hA : At11 κ 0) (hA' : At12 κ' 0) (hi : 0 ≤ i ∧ i + 6 ≤ (L : Int)) (h : IV σ τ) (hw : WF σ) (hw' : WF τ) (k : ∀ σ1 τ1 : Mem, IV σ1 τ1 → WF σ1 → WF τ1 → LW κ κ' p e s m below meth c b 1246 [some (.ref b), some (vr κ 0), some (vr κ' 0), some (vi i)] [] σ1 τ1) : LW κ κ' p e s m below meth c b 324 [some (.ref b), some (vr κ 0), some (vr κ' 0), some (vi i)] [] σ τ := by
  obtain ⟨r, σ1, τ1, e1, e2, h1⟩ := k_home h (sX xs (i + 1))
  refine y_aload_n hC d_law_324 rfl ?_
  refine y_aload_n hC d_law_325 rfl ?_
  refine y_iload_n (v := i) hC d_law_326 rfl ?_
  refine y_iconst hC d_law_327 ?_
  refine y_iadd (z := i + 1) hC d_law_328 rfl ?_
  refine y_sld (j := i + 1) hC (by omega) d_law_329 ?_
  refine y_call (σ1 := σ1) (r := r) (R' := R_X11_home) (As := [vi (sX xs (i + 1))]) (rest := []) hC d_law_330 cv_L_33 rfl hA.1 rfl rfl ⟨rfl, rfl, by decide, by decide⟩ (Nat.le_of_ble_eq_true rfl) hw rfl (c_X11_home κ 0 hA _ (sX_in xs _) σ r σ1 e1) rfl (fun hw1 => ?_)
  refine y_aload_n hC d_law_333 rfl ?_
  refine y_aload_n hC d_law_334 rfl ?_
  refine y_iload_n (v := i) hC d_law_335 rfl ?_
  refine y_iconst hC d_law_336 ?_
  refine y_iadd (z := i + 1) hC d_law_337 rfl ?_
  refine y_sld (j := i + 1) hC (by omega) d_law_338 ?_
  refine y_swap (y_call (σ1 := τ1) (r := r) (R' := R_X12_home) (As := [vi (sX xs (i + 1))]) (rest := [vi r]) hC.sw d_law_339 cv_L_36 rfl hA'.1 rfl rfl ⟨rfl, rfl, by decide, by decide⟩ (Nat.le_of_ble_eq_true rfl) hw' rfl (c_X12_home κ' 0 hA' _ (sX_in xs _) τ r τ1 e2) rfl (fun hw2 => y_swap ?_ hC.2.2.1.symm)) hC.2.2.1
  refine y_same hC d_law_342 ?_
  exact k σ1 τ1 h1 hw1 hw2
theorem cs_5 (hC : LC κ κ' p s m meth c b L xs) (hA : At11 κ 0) (hA' : At12 κ' 0) (hi : 0 ≤ i ∧ i + 6 ≤ (L : Int)) (h : IV σ τ) (hw : WF σ) (hw' : WF τ) (k : ∀ σ1 τ1 : Mem, IV σ1 τ1 → WF σ1 → WF τ1 → LW κ κ' p e s m below meth c b 1246 [some (.ref b), some (vr κ 0), some (vr κ' 0), some (vi i)] [] σ1 τ1) : LW κ κ' p e s m below meth c b 347 [some (.ref b), some (vr κ 0), some (vr κ' 0), some (vi i)] [] σ τ := by
  obtain ⟨r, σ1, τ1, e1, e2, h1⟩ := k_move h (sX xs (i + 1)) (sX xs (i + 2))
  refine y_aload_n hC d_law_347 rfl ?_
  refine y_aload_n hC d_law_348 rfl ?_
  refine y_iload_n (v := i) hC d_law_349 rfl ?_
  refine y_iconst hC d_law_350 ?_
  refine y_iadd (z := i + 1) hC d_law_351 rfl ?_
  refine y_sld (j := i + 1) hC (by omega) d_law_352 ?_
  refine y_aload_n hC d_law_353 rfl ?_
  refine y_iload_n (v := i) hC d_law_354 rfl ?_
  refine y_iconst hC d_law_355 ?_
  refine y_iadd (z := i + 2) hC d_law_356 rfl ?_
  refine y_sld (j := i + 2) hC (by omega) d_law_357 ?_
  refine y_call (σ1 := σ1) (r := r) (R' := R_X11_move) (As := [vi (sX xs (i + 1)), vi (sX xs (i + 2))]) (rest := []) hC d_law_358 cv_L_37 rfl hA.1 rfl rfl ⟨rfl, rfl, by decide, by decide⟩ (Nat.le_of_ble_eq_true rfl) hw rfl (c_X11_move κ 0 hA _ (sX_in xs _) _ (sX_in xs _) σ r σ1 e1) rfl (fun hw1 => ?_)
  refine y_aload_n hC d_law_361 rfl ?_
  refine y_aload_n hC d_law_362 rfl ?_
  refine y_iload_n (v := i) hC d_law_363 rfl ?_
  refine y_iconst hC d_law_364 ?_
  refine y_iadd (z := i + 1) hC d_law_365 rfl ?_
  refine y_sld (j := i + 1) hC (by omega) d_law_366 ?_
  refine y_aload_n hC d_law_367 rfl ?_
  refine y_iload_n (v := i) hC d_law_368 rfl ?_
  refine y_iconst hC d_law_369 ?_
  refine y_iadd (z := i + 2) hC d_law_370 rfl ?_
  refine y_sld (j := i + 2) hC (by omega) d_law_371 ?_
  refine y_swap (y_call (σ1 := τ1) (r := r) (R' := R_X12_move) (As := [vi (sX xs (i + 1)), vi (sX xs (i + 2))]) (rest := [vi r]) hC.sw d_law_372 cv_L_41 rfl hA'.1 rfl rfl ⟨rfl, rfl, by decide, by decide⟩ (Nat.le_of_ble_eq_true rfl) hw' rfl (c_X12_move κ' 0 hA' _ (sX_in xs _) _ (sX_in xs _) τ r τ1 e2) rfl (fun hw2 => y_swap ?_ hC.2.2.1.symm)) hC.2.2.1
  refine y_same hC d_law_375 ?_
  exact k σ1 τ1 h1 hw1 hw2
theorem cs_6 (hC : LC κ κ' p s m meth c b L xs) (hA : At11 κ 0) (hA' : At12 κ' 0) (hi : 0 ≤ i ∧ i + 6 ≤ (L : Int)) (h : IV σ τ) (hw : WF σ) (hw' : WF τ) (k : ∀ σ1 τ1 : Mem, IV σ1 τ1 → WF σ1 → WF τ1 → LW κ κ' p e s m below meth c b 1246 [some (.ref b), some (vr κ 0), some (vr κ' 0), some (vi i)] [] σ1 τ1) : LW κ κ' p e s m below meth c b 380 [some (.ref b), some (vr κ 0), some (vr κ' 0), some (vi i)] [] σ τ := by
  obtain ⟨r, σ1, τ1, e1, e2, h1⟩ := k_hours h (sX xs (i + 1))
  refine y_aload_n hC d_law_380 rfl ?_
  refine y_aload_n hC d_law_381 rfl ?_
  refine y_iload_n (v := i) hC d_law_382 rfl ?_
  refine y_iconst hC d_law_383 ?_
  refine y_iadd (z := i + 1) hC d_law_384 rfl ?_
  refine y_sld (j := i + 1) hC (by omega) d_law_385 ?_
  refine y_call (σ1 := σ1) (r := r) (R' := R_X11_hours) (As := [vi (sX xs (i + 1))]) (rest := []) hC d_law_386 cv_L_42 rfl hA.1 rfl rfl ⟨rfl, rfl, by decide, by decide⟩ (Nat.le_of_ble_eq_true rfl) hw rfl (c_X11_hours κ 0 hA _ (sX_in xs _) σ r σ1 e1) rfl (fun hw1 => ?_)
  refine y_aload_n hC d_law_389 rfl ?_
  refine y_aload_n hC d_law_390 rfl ?_
  refine y_iload_n (v := i) hC d_law_391 rfl ?_
  refine y_iconst hC d_law_392 ?_
  refine y_iadd (z := i + 1) hC d_law_393 rfl ?_
  refine y_sld (j := i + 1) hC (by omega) d_law_394 ?_
  refine y_swap (y_call (σ1 := τ1) (r := r) (R' := R_X12_hours) (As := [vi (sX xs (i + 1))]) (rest := [vi r]) hC.sw d_law_395 cv_L_45 rfl hA'.1 rfl rfl ⟨rfl, rfl, by decide, by decide⟩ (Nat.le_of_ble_eq_true rfl) hw' rfl (c_X12_hours κ' 0 hA' _ (sX_in xs _) τ r τ1 e2) rfl (fun hw2 => y_swap ?_ hC.2.2.1.symm)) hC.2.2.1
  refine y_same hC d_law_398 ?_
  exact k σ1 τ1 h1 hw1 hw2
theorem cs_7 (hC : LC κ κ' p s m meth c b L xs) (hA : At11 κ 0) (hA' : At12 κ' 0) (hi : 0 ≤ i ∧ i + 6 ≤ (L : Int)) (h : IV σ τ) (hw : WF σ) (hw' : WF τ) (k : ∀ σ1 τ1 : Mem, IV σ1 τ1 → WF σ1 → WF τ1 → LW κ κ' p e s m below meth c b 1246 [some (.ref b), some (vr κ 0), some (vr κ' 0), some (vi i)] [] σ1 τ1) : LW κ κ' p e s m below meth c b 403 [some (.ref b), some (vr κ 0), some (vr κ' 0), some (vi i)] [] σ τ := by
  obtain ⟨r, σ1, τ1, e1, e2, h1⟩ := k_feed h (sX xs (i + 1)) (sX xs (i + 2)) (sX xs (i + 3)) (sX xs (i + 4)) (sX xs (i + 5))
  refine y_aload_n hC d_law_403 rfl ?_
  refine y_aload_n hC d_law_404 rfl ?_
  refine y_iload_n (v := i) hC d_law_405 rfl ?_
  refine y_iconst hC d_law_406 ?_
  refine y_iadd (z := i + 1) hC d_law_407 rfl ?_
  refine y_sld (j := i + 1) hC (by omega) d_law_408 ?_
  refine y_aload_n hC d_law_409 rfl ?_
  refine y_iload_n (v := i) hC d_law_410 rfl ?_
  refine y_iconst hC d_law_411 ?_
  refine y_iadd (z := i + 2) hC d_law_412 rfl ?_
  refine y_sld (j := i + 2) hC (by omega) d_law_413 ?_
  refine y_aload_n hC d_law_414 rfl ?_
  refine y_iload_n (v := i) hC d_law_415 rfl ?_
  refine y_iconst hC d_law_416 ?_
  refine y_iadd (z := i + 3) hC d_law_417 rfl ?_
  refine y_sld (j := i + 3) hC (by omega) d_law_418 ?_
  refine y_aload_n hC d_law_419 rfl ?_
  refine y_iload_n (v := i) hC d_law_420 rfl ?_
  refine y_iconst hC d_law_421 ?_
  refine y_iadd (z := i + 4) hC d_law_422 rfl ?_
  refine y_sld (j := i + 4) hC (by omega) d_law_423 ?_
  refine y_aload_n hC d_law_424 rfl ?_
  refine y_iload_n (v := i) hC d_law_425 rfl ?_
  refine y_iconst hC d_law_426 ?_
  refine y_iadd (z := i + 5) hC d_law_427 rfl ?_
  refine y_sld (j := i + 5) hC (by omega) d_law_428 ?_
  refine y_call (σ1 := σ1) (r := r) (R' := R_X11_feed) (As := [vi (sX xs (i + 1)), vi (sX xs (i + 2)), vi (sX xs (i + 3)), vi (sX xs (i + 4)), vi (sX xs (i + 5))]) (rest := []) hC d_law_429 cv_L_46 rfl hA.1 rfl rfl ⟨rfl, rfl, by decide, by decide⟩ (Nat.le_of_ble_eq_true rfl) hw rfl (c_X11_feed κ 0 hA _ (sX_in xs _) _ (sX_in xs _) _ (sX_in xs _) _ (sX_in xs _) _ (sX_in xs _) σ r σ1 e1) rfl (fun hw1 => ?_)
  refine y_aload_n hC d_law_432 rfl ?_
  refine y_aload_n hC d_law_433 rfl ?_
  refine y_iload_n (v := i) hC d_law_434 rfl ?_
  refine y_iconst hC d_law_435 ?_
  refine y_iadd (z := i + 1) hC d_law_436 rfl ?_
  refine y_sld (j := i + 1) hC (by omega) d_law_437 ?_
  refine y_aload_n hC d_law_438 rfl ?_
  refine y_iload_n (v := i) hC d_law_439 rfl ?_
  refine y_iconst hC d_law_440 ?_
  refine y_iadd (z := i + 2) hC d_law_441 rfl ?_
  refine y_sld (j := i + 2) hC (by omega) d_law_442 ?_
  refine y_aload_n hC d_law_443 rfl ?_
  refine y_iload_n (v := i) hC d_law_444 rfl ?_
  refine y_iconst hC d_law_445 ?_
  refine y_iadd (z := i + 3) hC d_law_446 rfl ?_
  refine y_sld (j := i + 3) hC (by omega) d_law_447 ?_
  refine y_aload_n hC d_law_448 rfl ?_
  refine y_iload_n (v := i) hC d_law_449 rfl ?_
  refine y_iconst hC d_law_450 ?_
  refine y_iadd (z := i + 4) hC d_law_451 rfl ?_
  refine y_sld (j := i + 4) hC (by omega) d_law_452 ?_
  refine y_aload_n hC d_law_453 rfl ?_
  refine y_iload_n (v := i) hC d_law_454 rfl ?_
  refine y_iconst hC d_law_455 ?_
  refine y_iadd (z := i + 5) hC d_law_456 rfl ?_
  refine y_sld (j := i + 5) hC (by omega) d_law_457 ?_
  refine y_swap (y_call (σ1 := τ1) (r := r) (R' := R_X12_feed) (As := [vi (sX xs (i + 1)), vi (sX xs (i + 2)), vi (sX xs (i + 3)), vi (sX xs (i + 4)), vi (sX xs (i + 5))]) (rest := [vi r]) hC.sw d_law_458 cv_L_50 rfl hA'.1 rfl rfl ⟨rfl, rfl, by decide, by decide⟩ (Nat.le_of_ble_eq_true rfl) hw' rfl (c_X12_feed κ' 0 hA' _ (sX_in xs _) _ (sX_in xs _) _ (sX_in xs _) _ (sX_in xs _) _ (sX_in xs _) τ r τ1 e2) rfl (fun hw2 => y_swap ?_ hC.2.2.1.symm)) hC.2.2.1
  refine y_same hC d_law_461 ?_
  exact k σ1 τ1 h1 hw1 hw2
theorem cs_8 (hC : LC κ κ' p s m meth c b L xs) (hA : At11 κ 0) (hA' : At12 κ' 0) (hi : 0 ≤ i ∧ i + 6 ≤ (L : Int)) (h : IV σ τ) (hw : WF σ) (hw' : WF τ) (k : ∀ σ1 τ1 : Mem, IV σ1 τ1 → WF σ1 → WF τ1 → LW κ κ' p e s m below meth c b 1246 [some (.ref b), some (vr κ 0), some (vr κ' 0), some (vi i)] [] σ1 τ1) : LW κ κ' p e s m below meth c b 466 [some (.ref b), some (vr κ 0), some (vr κ' 0), some (vi i)] [] σ τ := by
  obtain ⟨r, σ1, τ1, e1, e2, h1⟩ := k_end h (sX xs (i + 1))
  refine y_aload_n hC d_law_466 rfl ?_
  refine y_aload_n hC d_law_467 rfl ?_
  refine y_iload_n (v := i) hC d_law_468 rfl ?_
  refine y_iconst hC d_law_469 ?_
  refine y_iadd (z := i + 1) hC d_law_470 rfl ?_
  refine y_sld (j := i + 1) hC (by omega) d_law_471 ?_
  refine y_call (σ1 := σ1) (r := r) (R' := R_X11_end) (As := [vi (sX xs (i + 1))]) (rest := []) hC d_law_472 cv_L_51 rfl hA.1 rfl rfl ⟨rfl, rfl, by decide, by decide⟩ (Nat.le_of_ble_eq_true rfl) hw rfl (c_X11_end κ 0 hA _ (sX_in xs _) σ r σ1 e1) rfl (fun hw1 => ?_)
  refine y_aload_n hC d_law_475 rfl ?_
  refine y_aload_n hC d_law_476 rfl ?_
  refine y_iload_n (v := i) hC d_law_477 rfl ?_
  refine y_iconst hC d_law_478 ?_
  refine y_iadd (z := i + 1) hC d_law_479 rfl ?_
  refine y_sld (j := i + 1) hC (by omega) d_law_480 ?_
  refine y_swap (y_call (σ1 := τ1) (r := r) (R' := R_X12_end) (As := [vi (sX xs (i + 1))]) (rest := [vi r]) hC.sw d_law_481 cv_L_54 rfl hA'.1 rfl rfl ⟨rfl, rfl, by decide, by decide⟩ (Nat.le_of_ble_eq_true rfl) hw' rfl (c_X12_end κ' 0 hA' _ (sX_in xs _) τ r τ1 e2) rfl (fun hw2 => y_swap ?_ hC.2.2.1.symm)) hC.2.2.1
  refine y_same hC d_law_484 ?_
  exact k σ1 τ1 h1 hw1 hw2
theorem cs_9 (hC : LC κ κ' p s m meth c b L xs) (hA : At11 κ 0) (hA' : At12 κ' 0) (hi : 0 ≤ i ∧ i + 6 ≤ (L : Int)) (h : IV σ τ) (hw : WF σ) (hw' : WF τ) (k : ∀ σ1 τ1 : Mem, IV σ1 τ1 → WF σ1 → WF τ1 → LW κ κ' p e s m below meth c b 1246 [some (.ref b), some (vr κ 0), some (vr κ' 0), some (vi i)] [] σ1 τ1) : LW κ κ' p e s m below meth c b 489 [some (.ref b), some (vr κ 0), some (vr κ' 0), some (vi i)] [] σ τ := by
  obtain ⟨r, σ1, τ1, e1, e2, h1⟩ := k_text h (sX xs (i + 1))
  refine y_aload_n hC d_law_489 rfl ?_
  refine y_aload_n hC d_law_490 rfl ?_
  refine y_iload_n (v := i) hC d_law_491 rfl ?_
  refine y_iconst hC d_law_492 ?_
  refine y_iadd (z := i + 1) hC d_law_493 rfl ?_
  refine y_sld (j := i + 1) hC (by omega) d_law_494 ?_
  refine y_call (σ1 := σ1) (r := r) (R' := R_X11_text) (As := [vi (sX xs (i + 1))]) (rest := []) hC d_law_495 cv_L_55 rfl hA.1 rfl rfl ⟨rfl, rfl, by decide, by decide⟩ (Nat.le_of_ble_eq_true rfl) hw rfl (c_X11_text κ 0 hA _ (sX_in xs _) σ r σ1 e1) rfl (fun hw1 => ?_)
  refine y_aload_n hC d_law_498 rfl ?_
  refine y_aload_n hC d_law_499 rfl ?_
  refine y_iload_n (v := i) hC d_law_500 rfl ?_
  refine y_iconst hC d_law_501 ?_
  refine y_iadd (z := i + 1) hC d_law_502 rfl ?_
  refine y_sld (j := i + 1) hC (by omega) d_law_503 ?_
  refine y_swap (y_call (σ1 := τ1) (r := r) (R' := R_X12_text) (As := [vi (sX xs (i + 1))]) (rest := [vi r]) hC.sw d_law_504 cv_L_58 rfl hA'.1 rfl rfl ⟨rfl, rfl, by decide, by decide⟩ (Nat.le_of_ble_eq_true rfl) hw' rfl (c_X12_text κ' 0 hA' _ (sX_in xs _) τ r τ1 e2) rfl (fun hw2 => y_swap ?_ hC.2.2.1.symm)) hC.2.2.1
  refine y_same hC d_law_507 ?_
  exact k σ1 τ1 h1 hw1 hw2
theorem cs_10 (hC : LC κ κ' p s m meth c b L xs) (hA : At11 κ 0) (hA' : At12 κ' 0) (hi : 0 ≤ i ∧ i + 6 ≤ (L : Int)) (h : IV σ τ) (hw : WF σ) (hw' : WF τ) (k : ∀ σ1 τ1 : Mem, IV σ1 τ1 → WF σ1 → WF τ1 → LW κ κ' p e s m below meth c b 1246 [some (.ref b), some (vr κ 0), some (vr κ' 0), some (vi i)] [] σ1 τ1) : LW κ κ' p e s m below meth c b 512 [some (.ref b), some (vr κ 0), some (vr κ' 0), some (vi i)] [] σ τ := by
  obtain ⟨r, σ1, τ1, e1, e2, h1⟩ := k_fault h (sX xs (i + 1))
  refine y_aload_n hC d_law_512 rfl ?_
  refine y_aload_n hC d_law_513 rfl ?_
  refine y_iload_n (v := i) hC d_law_514 rfl ?_
  refine y_iconst hC d_law_515 ?_
  refine y_iadd (z := i + 1) hC d_law_516 rfl ?_
  refine y_sld (j := i + 1) hC (by omega) d_law_517 ?_
  refine y_call (σ1 := σ1) (r := r) (R' := R_X11_fault) (As := [vi (sX xs (i + 1))]) (rest := []) hC d_law_518 cv_L_59 rfl hA.1 rfl rfl ⟨rfl, rfl, by decide, by decide⟩ (Nat.le_of_ble_eq_true rfl) hw rfl (c_X11_fault κ 0 hA _ (sX_in xs _) σ r σ1 e1) rfl (fun hw1 => ?_)
  refine y_aload_n hC d_law_521 rfl ?_
  refine y_aload_n hC d_law_522 rfl ?_
  refine y_iload_n (v := i) hC d_law_523 rfl ?_
  refine y_iconst hC d_law_524 ?_
  refine y_iadd (z := i + 1) hC d_law_525 rfl ?_
  refine y_sld (j := i + 1) hC (by omega) d_law_526 ?_
  refine y_swap (y_call (σ1 := τ1) (r := r) (R' := R_X12_fault) (As := [vi (sX xs (i + 1))]) (rest := [vi r]) hC.sw d_law_527 cv_L_62 rfl hA'.1 rfl rfl ⟨rfl, rfl, by decide, by decide⟩ (Nat.le_of_ble_eq_true rfl) hw' rfl (c_X12_fault κ' 0 hA' _ (sX_in xs _) τ r τ1 e2) rfl (fun hw2 => y_swap ?_ hC.2.2.1.symm)) hC.2.2.1
  refine y_same hC d_law_530 ?_
  exact k σ1 τ1 h1 hw1 hw2
theorem cs_11 (hC : LC κ κ' p s m meth c b L xs) (hA : At11 κ 0) (hA' : At12 κ' 0) (hi : 0 ≤ i ∧ i + 6 ≤ (L : Int)) (h : IV σ τ) (hw : WF σ) (hw' : WF τ) (k : ∀ σ1 τ1 : Mem, IV σ1 τ1 → WF σ1 → WF τ1 → LW κ κ' p e s m below meth c b 1246 [some (.ref b), some (vr κ 0), some (vr κ' 0), some (vi i)] [] σ1 τ1) : LW κ κ' p e s m below meth c b 535 [some (.ref b), some (vr κ 0), some (vr κ' 0), some (vi i)] [] σ τ := by
  obtain ⟨r, σ1, τ1, e1, e2, h1⟩ := k_of h (sX xs (i + 1)) (sX xs (i + 2))
  refine y_aload_n hC d_law_535 rfl ?_
  refine y_aload_n hC d_law_536 rfl ?_
  refine y_iload_n (v := i) hC d_law_537 rfl ?_
  refine y_iconst hC d_law_538 ?_
  refine y_iadd (z := i + 1) hC d_law_539 rfl ?_
  refine y_sld (j := i + 1) hC (by omega) d_law_540 ?_
  refine y_aload_n hC d_law_541 rfl ?_
  refine y_iload_n (v := i) hC d_law_542 rfl ?_
  refine y_iconst hC d_law_543 ?_
  refine y_iadd (z := i + 2) hC d_law_544 rfl ?_
  refine y_sld (j := i + 2) hC (by omega) d_law_545 ?_
  refine y_call (σ1 := σ1) (r := r) (R' := R_X11_of) (As := [vi (sX xs (i + 1)), vi (sX xs (i + 2))]) (rest := []) hC d_law_546 cv_L_63 rfl hA.1 rfl rfl ⟨rfl, rfl, by decide, by decide⟩ (Nat.le_of_ble_eq_true rfl) hw rfl (c_X11_of κ 0 hA _ (sX_in xs _) _ (sX_in xs _) σ r σ1 e1) rfl (fun hw1 => ?_)
  refine y_aload_n hC d_law_549 rfl ?_
  refine y_aload_n hC d_law_550 rfl ?_
  refine y_iload_n (v := i) hC d_law_551 rfl ?_
  refine y_iconst hC d_law_552 ?_
  refine y_iadd (z := i + 1) hC d_law_553 rfl ?_
  refine y_sld (j := i + 1) hC (by omega) d_law_554 ?_
  refine y_aload_n hC d_law_555 rfl ?_
  refine y_iload_n (v := i) hC d_law_556 rfl ?_
  refine y_iconst hC d_law_557 ?_
  refine y_iadd (z := i + 2) hC d_law_558 rfl ?_
  refine y_sld (j := i + 2) hC (by omega) d_law_559 ?_
  refine y_swap (y_call (σ1 := τ1) (r := r) (R' := R_X12_of) (As := [vi (sX xs (i + 1)), vi (sX xs (i + 2))]) (rest := [vi r]) hC.sw d_law_560 cv_L_67 rfl hA'.1 rfl rfl ⟨rfl, rfl, by decide, by decide⟩ (Nat.le_of_ble_eq_true rfl) hw' rfl (c_X12_of κ' 0 hA' _ (sX_in xs _) _ (sX_in xs _) τ r τ1 e2) rfl (fun hw2 => y_swap ?_ hC.2.2.1.symm)) hC.2.2.1
  refine y_same hC d_law_563 ?_
  exact k σ1 τ1 h1 hw1 hw2
theorem cs_12 (hC : LC κ κ' p s m meth c b L xs) (hA : At11 κ 0) (hA' : At12 κ' 0) (hi : 0 ≤ i ∧ i + 6 ≤ (L : Int)) (h : IV σ τ) (hw : WF σ) (hw' : WF τ) (k : ∀ σ1 τ1 : Mem, IV σ1 τ1 → WF σ1 → WF τ1 → LW κ κ' p e s m below meth c b 1246 [some (.ref b), some (vr κ 0), some (vr κ' 0), some (vi i)] [] σ1 τ1) : LW κ κ' p e s m below meth c b 568 [some (.ref b), some (vr κ 0), some (vr κ' 0), some (vi i)] [] σ τ := by
  obtain ⟨r, σ1, τ1, e1, e2, h1⟩ := k_river h (sX xs (i + 1)) (sX xs (i + 2))
  refine y_aload_n hC d_law_568 rfl ?_
  refine y_aload_n hC d_law_569 rfl ?_
  refine y_iload_n (v := i) hC d_law_570 rfl ?_
  refine y_iconst hC d_law_571 ?_
  refine y_iadd (z := i + 1) hC d_law_572 rfl ?_
  refine y_sld (j := i + 1) hC (by omega) d_law_573 ?_
  refine y_aload_n hC d_law_574 rfl ?_
  refine y_iload_n (v := i) hC d_law_575 rfl ?_
  refine y_iconst hC d_law_576 ?_
  refine y_iadd (z := i + 2) hC d_law_577 rfl ?_
  refine y_sld (j := i + 2) hC (by omega) d_law_578 ?_
  refine y_call (σ1 := σ1) (r := r) (R' := R_X11_river) (As := [vi (sX xs (i + 1)), vi (sX xs (i + 2))]) (rest := []) hC d_law_579 cv_L_68 rfl hA.1 rfl rfl ⟨rfl, rfl, by decide, by decide⟩ (Nat.le_of_ble_eq_true rfl) hw rfl (c_X11_river κ 0 hA _ (sX_in xs _) _ (sX_in xs _) σ r σ1 e1) rfl (fun hw1 => ?_)
  refine y_aload_n hC d_law_582 rfl ?_
  refine y_aload_n hC d_law_583 rfl ?_
  refine y_iload_n (v := i) hC d_law_584 rfl ?_
  refine y_iconst hC d_law_585 ?_
  refine y_iadd (z := i + 1) hC d_law_586 rfl ?_
  refine y_sld (j := i + 1) hC (by omega) d_law_587 ?_
  refine y_aload_n hC d_law_588 rfl ?_
  refine y_iload_n (v := i) hC d_law_589 rfl ?_
  refine y_iconst hC d_law_590 ?_
  refine y_iadd (z := i + 2) hC d_law_591 rfl ?_
  refine y_sld (j := i + 2) hC (by omega) d_law_592 ?_
  refine y_swap (y_call (σ1 := τ1) (r := r) (R' := R_X12_river) (As := [vi (sX xs (i + 1)), vi (sX xs (i + 2))]) (rest := [vi r]) hC.sw d_law_593 cv_L_71 rfl hA'.1 rfl rfl ⟨rfl, rfl, by decide, by decide⟩ (Nat.le_of_ble_eq_true rfl) hw' rfl (c_X12_river κ' 0 hA' _ (sX_in xs _) _ (sX_in xs _) τ r τ1 e2) rfl (fun hw2 => y_swap ?_ hC.2.2.1.symm)) hC.2.2.1
  refine y_same hC d_law_596 ?_
  exact k σ1 τ1 h1 hw1 hw2
theorem cs_13 (hC : LC κ κ' p s m meth c b L xs) (hA : At11 κ 0) (hA' : At12 κ' 0) (hi : 0 ≤ i ∧ i + 6 ≤ (L : Int)) (h : IV σ τ) (hw : WF σ) (hw' : WF τ) (k : ∀ σ1 τ1 : Mem, IV σ1 τ1 → WF σ1 → WF τ1 → LW κ κ' p e s m below meth c b 1246 [some (.ref b), some (vr κ 0), some (vr κ' 0), some (vi i)] [] σ1 τ1) : LW κ κ' p e s m below meth c b 601 [some (.ref b), some (vr κ 0), some (vr κ' 0), some (vi i)] [] σ τ := by
  obtain ⟨r, σ1, τ1, e1, e2, h1⟩ := k_village h (sX xs (i + 1)) (sX xs (i + 2))
  refine y_aload_n hC d_law_601 rfl ?_
  refine y_aload_n hC d_law_602 rfl ?_
  refine y_iload_n (v := i) hC d_law_603 rfl ?_
  refine y_iconst hC d_law_604 ?_
  refine y_iadd (z := i + 1) hC d_law_605 rfl ?_
  refine y_sld (j := i + 1) hC (by omega) d_law_606 ?_
  refine y_aload_n hC d_law_607 rfl ?_
  refine y_iload_n (v := i) hC d_law_608 rfl ?_
  refine y_iconst hC d_law_609 ?_
  refine y_iadd (z := i + 2) hC d_law_610 rfl ?_
  refine y_sld (j := i + 2) hC (by omega) d_law_611 ?_
  refine y_call (σ1 := σ1) (r := r) (R' := R_X11_village) (As := [vi (sX xs (i + 1)), vi (sX xs (i + 2))]) (rest := []) hC d_law_612 cv_L_72 rfl hA.1 rfl rfl ⟨rfl, rfl, by decide, by decide⟩ (Nat.le_of_ble_eq_true rfl) hw rfl (c_X11_village κ 0 hA _ (sX_in xs _) _ (sX_in xs _) σ r σ1 e1) rfl (fun hw1 => ?_)
  refine y_aload_n hC d_law_615 rfl ?_
  refine y_aload_n hC d_law_616 rfl ?_
  refine y_iload_n (v := i) hC d_law_617 rfl ?_
  refine y_iconst hC d_law_618 ?_
  refine y_iadd (z := i + 1) hC d_law_619 rfl ?_
  refine y_sld (j := i + 1) hC (by omega) d_law_620 ?_
  refine y_aload_n hC d_law_621 rfl ?_
  refine y_iload_n (v := i) hC d_law_622 rfl ?_
  refine y_iconst hC d_law_623 ?_
  refine y_iadd (z := i + 2) hC d_law_624 rfl ?_
  refine y_sld (j := i + 2) hC (by omega) d_law_625 ?_
  refine y_swap (y_call (σ1 := τ1) (r := r) (R' := R_X12_village) (As := [vi (sX xs (i + 1)), vi (sX xs (i + 2))]) (rest := [vi r]) hC.sw d_law_626 cv_L_75 rfl hA'.1 rfl rfl ⟨rfl, rfl, by decide, by decide⟩ (Nat.le_of_ble_eq_true rfl) hw' rfl (c_X12_village κ' 0 hA' _ (sX_in xs _) _ (sX_in xs _) τ r τ1 e2) rfl (fun hw2 => y_swap ?_ hC.2.2.1.symm)) hC.2.2.1
  refine y_same hC d_law_629 ?_
  exact k σ1 τ1 h1 hw1 hw2
theorem cs_14 (hC : LC κ κ' p s m meth c b L xs) (hA : At11 κ 0) (hA' : At12 κ' 0) (hi : 0 ≤ i ∧ i + 6 ≤ (L : Int)) (h : IV σ τ) (hw : WF σ) (hw' : WF τ) (k : ∀ σ1 τ1 : Mem, IV σ1 τ1 → WF σ1 → WF τ1 → LW κ κ' p e s m below meth c b 1246 [some (.ref b), some (vr κ 0), some (vr κ' 0), some (vi i)] [] σ1 τ1) : LW κ κ' p e s m below meth c b 634 [some (.ref b), some (vr κ 0), some (vr κ' 0), some (vi i)] [] σ τ := by
  obtain ⟨r, σ1, τ1, e1, e2, h1⟩ := k_book h (sX xs (i + 1)) (sX xs (i + 2))
  refine y_aload_n hC d_law_634 rfl ?_
  refine y_aload_n hC d_law_635 rfl ?_
  refine y_iload_n (v := i) hC d_law_636 rfl ?_
  refine y_iconst hC d_law_637 ?_
  refine y_iadd (z := i + 1) hC d_law_638 rfl ?_
  refine y_sld (j := i + 1) hC (by omega) d_law_639 ?_
  refine y_aload_n hC d_law_640 rfl ?_
  refine y_iload_n (v := i) hC d_law_641 rfl ?_
  refine y_iconst hC d_law_642 ?_
  refine y_iadd (z := i + 2) hC d_law_643 rfl ?_
  refine y_sld (j := i + 2) hC (by omega) d_law_644 ?_
  refine y_call (σ1 := σ1) (r := r) (R' := R_X11_book) (As := [vi (sX xs (i + 1)), vi (sX xs (i + 2))]) (rest := []) hC d_law_645 cv_L_76 rfl hA.1 rfl rfl ⟨rfl, rfl, by decide, by decide⟩ (Nat.le_of_ble_eq_true rfl) hw rfl (c_X11_book κ 0 hA _ (sX_in xs _) _ (sX_in xs _) σ r σ1 e1) rfl (fun hw1 => ?_)
  refine y_aload_n hC d_law_648 rfl ?_
  refine y_aload_n hC d_law_649 rfl ?_
  refine y_iload_n (v := i) hC d_law_650 rfl ?_
  refine y_iconst hC d_law_651 ?_
  refine y_iadd (z := i + 1) hC d_law_652 rfl ?_
  refine y_sld (j := i + 1) hC (by omega) d_law_653 ?_
  refine y_aload_n hC d_law_654 rfl ?_
  refine y_iload_n (v := i) hC d_law_655 rfl ?_
  refine y_iconst hC d_law_656 ?_
  refine y_iadd (z := i + 2) hC d_law_657 rfl ?_
  refine y_sld (j := i + 2) hC (by omega) d_law_658 ?_
  refine y_swap (y_call (σ1 := τ1) (r := r) (R' := R_X12_book) (As := [vi (sX xs (i + 1)), vi (sX xs (i + 2))]) (rest := [vi r]) hC.sw d_law_659 cv_L_79 rfl hA'.1 rfl rfl ⟨rfl, rfl, by decide, by decide⟩ (Nat.le_of_ble_eq_true rfl) hw' rfl (c_X12_book κ' 0 hA' _ (sX_in xs _) _ (sX_in xs _) τ r τ1 e2) rfl (fun hw2 => y_swap ?_ hC.2.2.1.symm)) hC.2.2.1
  refine y_same hC d_law_662 ?_
  exact k σ1 τ1 h1 hw1 hw2
theorem cs_15 (hC : LC κ κ' p s m meth c b L xs) (hA : At11 κ 0) (hA' : At12 κ' 0) (hi : 0 ≤ i ∧ i + 6 ≤ (L : Int)) (h : IV σ τ) (hw : WF σ) (hw' : WF τ) (k : ∀ σ1 τ1 : Mem, IV σ1 τ1 → WF σ1 → WF τ1 → LW κ κ' p e s m below meth c b 1246 [some (.ref b), some (vr κ 0), some (vr κ' 0), some (vi i)] [] σ1 τ1) : LW κ κ' p e s m below meth c b 667 [some (.ref b), some (vr κ 0), some (vr κ' 0), some (vi i)] [] σ τ := by
  obtain ⟨r, σ1, τ1, e1, e2, h1⟩ := k_goes h (sX xs (i + 1)) (sX xs (i + 2))
  refine y_aload_n hC d_law_667 rfl ?_
  refine y_aload_n hC d_law_668 rfl ?_
  refine y_iload_n (v := i) hC d_law_669 rfl ?_
  refine y_iconst hC d_law_670 ?_
  refine y_iadd (z := i + 1) hC d_law_671 rfl ?_
  refine y_sld (j := i + 1) hC (by omega) d_law_672 ?_
  refine y_aload_n hC d_law_673 rfl ?_
  refine y_iload_n (v := i) hC d_law_674 rfl ?_
  refine y_iconst hC d_law_675 ?_
  refine y_iadd (z := i + 2) hC d_law_676 rfl ?_
  refine y_sld (j := i + 2) hC (by omega) d_law_677 ?_
  refine y_call (σ1 := σ1) (r := r) (R' := R_X11_goes) (As := [vi (sX xs (i + 1)), vi (sX xs (i + 2))]) (rest := []) hC d_law_678 cv_L_80 rfl hA.1 rfl rfl ⟨rfl, rfl, by decide, by decide⟩ (Nat.le_of_ble_eq_true rfl) hw rfl (c_X11_goes κ 0 hA _ (sX_in xs _) _ (sX_in xs _) σ r σ1 e1) rfl (fun hw1 => ?_)
  refine y_aload_n hC d_law_681 rfl ?_
  refine y_aload_n hC d_law_682 rfl ?_
  refine y_iload_n (v := i) hC d_law_683 rfl ?_
  refine y_iconst hC d_law_684 ?_
  refine y_iadd (z := i + 1) hC d_law_685 rfl ?_
  refine y_sld (j := i + 1) hC (by omega) d_law_686 ?_
  refine y_aload_n hC d_law_687 rfl ?_
  refine y_iload_n (v := i) hC d_law_688 rfl ?_
  refine y_iconst hC d_law_689 ?_
  refine y_iadd (z := i + 2) hC d_law_690 rfl ?_
  refine y_sld (j := i + 2) hC (by omega) d_law_691 ?_
  refine y_swap (y_call (σ1 := τ1) (r := r) (R' := R_X12_goes) (As := [vi (sX xs (i + 1)), vi (sX xs (i + 2))]) (rest := [vi r]) hC.sw d_law_692 cv_L_83 rfl hA'.1 rfl rfl ⟨rfl, rfl, by decide, by decide⟩ (Nat.le_of_ble_eq_true rfl) hw' rfl (c_X12_goes κ' 0 hA' _ (sX_in xs _) _ (sX_in xs _) τ r τ1 e2) rfl (fun hw2 => y_swap ?_ hC.2.2.1.symm)) hC.2.2.1
  refine y_same hC d_law_695 ?_
  exact k σ1 τ1 h1 hw1 hw2
theorem cs_16 (hC : LC κ κ' p s m meth c b L xs) (hA : At11 κ 0) (hA' : At12 κ' 0) (hi : 0 ≤ i ∧ i + 6 ≤ (L : Int)) (h : IV σ τ) (hw : WF σ) (hw' : WF τ) (k : ∀ σ1 τ1 : Mem, IV σ1 τ1 → WF σ1 → WF τ1 → LW κ κ' p e s m below meth c b 1246 [some (.ref b), some (vr κ 0), some (vr κ' 0), some (vi i)] [] σ1 τ1) : LW κ κ' p e s m below meth c b 700 [some (.ref b), some (vr κ 0), some (vr κ' 0), some (vi i)] [] σ τ := by
  obtain ⟨r, σ1, τ1, e1, e2, h1⟩ := k_stays h (sX xs (i + 1))
  refine y_aload_n hC d_law_700 rfl ?_
  refine y_aload_n hC d_law_701 rfl ?_
  refine y_iload_n (v := i) hC d_law_702 rfl ?_
  refine y_iconst hC d_law_703 ?_
  refine y_iadd (z := i + 1) hC d_law_704 rfl ?_
  refine y_sld (j := i + 1) hC (by omega) d_law_705 ?_
  refine y_call (σ1 := σ1) (r := r) (R' := R_X11_stays) (As := [vi (sX xs (i + 1))]) (rest := []) hC d_law_706 cv_L_84 rfl hA.1 rfl rfl ⟨rfl, rfl, by decide, by decide⟩ (Nat.le_of_ble_eq_true rfl) hw rfl (c_X11_stays κ 0 hA _ (sX_in xs _) σ r σ1 e1) rfl (fun hw1 => ?_)
  refine y_aload_n hC d_law_709 rfl ?_
  refine y_aload_n hC d_law_710 rfl ?_
  refine y_iload_n (v := i) hC d_law_711 rfl ?_
  refine y_iconst hC d_law_712 ?_
  refine y_iadd (z := i + 1) hC d_law_713 rfl ?_
  refine y_sld (j := i + 1) hC (by omega) d_law_714 ?_
  refine y_swap (y_call (σ1 := τ1) (r := r) (R' := R_X12_stays) (As := [vi (sX xs (i + 1))]) (rest := [vi r]) hC.sw d_law_715 cv_L_87 rfl hA'.1 rfl rfl ⟨rfl, rfl, by decide, by decide⟩ (Nat.le_of_ble_eq_true rfl) hw' rfl (c_X12_stays κ' 0 hA' _ (sX_in xs _) τ r τ1 e2) rfl (fun hw2 => y_swap ?_ hC.2.2.1.symm)) hC.2.2.1
  refine y_same hC d_law_718 ?_
  exact k σ1 τ1 h1 hw1 hw2
theorem cs_17 (hC : LC κ κ' p s m meth c b L xs) (hA : At11 κ 0) (hA' : At12 κ' 0) (hi : 0 ≤ i ∧ i + 6 ≤ (L : Int)) (h : IV σ τ) (hw : WF σ) (hw' : WF τ) (k : ∀ σ1 τ1 : Mem, IV σ1 τ1 → WF σ1 → WF τ1 → LW κ κ' p e s m below meth c b 1246 [some (.ref b), some (vr κ 0), some (vr κ' 0), some (vi i)] [] σ1 τ1) : LW κ κ' p e s m below meth c b 723 [some (.ref b), some (vr κ 0), some (vr κ' 0), some (vi i)] [] σ τ := by
  obtain ⟨r, σ1, τ1, e1, e2, h1⟩ := k_keeps h (sX xs (i + 1))
  refine y_aload_n hC d_law_723 rfl ?_
  refine y_aload_n hC d_law_724 rfl ?_
  refine y_iload_n (v := i) hC d_law_725 rfl ?_
  refine y_iconst hC d_law_726 ?_
  refine y_iadd (z := i + 1) hC d_law_727 rfl ?_
  refine y_sld (j := i + 1) hC (by omega) d_law_728 ?_
  refine y_call (σ1 := σ1) (r := r) (R' := R_X11_keeps) (As := [vi (sX xs (i + 1))]) (rest := []) hC d_law_729 cv_L_88 rfl hA.1 rfl rfl ⟨rfl, rfl, by decide, by decide⟩ (Nat.le_of_ble_eq_true rfl) hw rfl (c_X11_keeps κ 0 hA _ (sX_in xs _) σ r σ1 e1) rfl (fun hw1 => ?_)
  refine y_aload_n hC d_law_732 rfl ?_
  refine y_aload_n hC d_law_733 rfl ?_
  refine y_iload_n (v := i) hC d_law_734 rfl ?_
  refine y_iconst hC d_law_735 ?_
  refine y_iadd (z := i + 1) hC d_law_736 rfl ?_
  refine y_sld (j := i + 1) hC (by omega) d_law_737 ?_
  refine y_swap (y_call (σ1 := τ1) (r := r) (R' := R_X12_keeps) (As := [vi (sX xs (i + 1))]) (rest := [vi r]) hC.sw d_law_738 cv_L_91 rfl hA'.1 rfl rfl ⟨rfl, rfl, by decide, by decide⟩ (Nat.le_of_ble_eq_true rfl) hw' rfl (c_X12_keeps κ' 0 hA' _ (sX_in xs _) τ r τ1 e2) rfl (fun hw2 => y_swap ?_ hC.2.2.1.symm)) hC.2.2.1
  refine y_same hC d_law_741 ?_
  exact k σ1 τ1 h1 hw1 hw2
theorem cs_18 (hC : LC κ κ' p s m meth c b L xs) (hA : At11 κ 0) (hA' : At12 κ' 0) (hi : 0 ≤ i ∧ i + 6 ≤ (L : Int)) (h : IV σ τ) (hw : WF σ) (hw' : WF τ) (k : ∀ σ1 τ1 : Mem, IV σ1 τ1 → WF σ1 → WF τ1 → LW κ κ' p e s m below meth c b 1246 [some (.ref b), some (vr κ 0), some (vr κ' 0), some (vi i)] [] σ1 τ1) : LW κ κ' p e s m below meth c b 746 [some (.ref b), some (vr κ 0), some (vr κ' 0), some (vi i)] [] σ τ := by
  obtain ⟨r, σ1, τ1, e1, e2, h1⟩ := k_turnings h (sX xs (i + 1)) (sX xs (i + 2)) (sX xs (i + 3))
  refine y_aload_n hC d_law_746 rfl ?_
  refine y_aload_n hC d_law_747 rfl ?_
  refine y_iload_n (v := i) hC d_law_748 rfl ?_
  refine y_iconst hC d_law_749 ?_
  refine y_iadd (z := i + 1) hC d_law_750 rfl ?_
  refine y_sld (j := i + 1) hC (by omega) d_law_751 ?_
  refine y_aload_n hC d_law_752 rfl ?_
  refine y_iload_n (v := i) hC d_law_753 rfl ?_
  refine y_iconst hC d_law_754 ?_
  refine y_iadd (z := i + 2) hC d_law_755 rfl ?_
  refine y_sld (j := i + 2) hC (by omega) d_law_756 ?_
  refine y_aload_n hC d_law_757 rfl ?_
  refine y_iload_n (v := i) hC d_law_758 rfl ?_
  refine y_iconst hC d_law_759 ?_
  refine y_iadd (z := i + 3) hC d_law_760 rfl ?_
  refine y_sld (j := i + 3) hC (by omega) d_law_761 ?_
  refine y_call (σ1 := σ1) (r := r) (R' := R_X11_turnings) (As := [vi (sX xs (i + 1)), vi (sX xs (i + 2)), vi (sX xs (i + 3))]) (rest := []) hC d_law_762 cv_L_92 rfl hA.1 rfl rfl ⟨rfl, rfl, by decide, by decide⟩ (Nat.le_of_ble_eq_true rfl) hw rfl (c_X11_turnings κ 0 hA _ (sX_in xs _) _ (sX_in xs _) _ (sX_in xs _) σ r σ1 e1) rfl (fun hw1 => ?_)
  refine y_aload_n hC d_law_765 rfl ?_
  refine y_aload_n hC d_law_766 rfl ?_
  refine y_iload_n (v := i) hC d_law_767 rfl ?_
  refine y_iconst hC d_law_768 ?_
  refine y_iadd (z := i + 1) hC d_law_769 rfl ?_
  refine y_sld (j := i + 1) hC (by omega) d_law_770 ?_
  refine y_aload_n hC d_law_771 rfl ?_
  refine y_iload_n (v := i) hC d_law_772 rfl ?_
  refine y_iconst hC d_law_773 ?_
  refine y_iadd (z := i + 2) hC d_law_774 rfl ?_
  refine y_sld (j := i + 2) hC (by omega) d_law_775 ?_
  refine y_aload_n hC d_law_776 rfl ?_
  refine y_iload_n (v := i) hC d_law_777 rfl ?_
  refine y_iconst hC d_law_778 ?_
  refine y_iadd (z := i + 3) hC d_law_779 rfl ?_
  refine y_sld (j := i + 3) hC (by omega) d_law_780 ?_
  refine y_swap (y_call (σ1 := τ1) (r := r) (R' := R_X12_turnings) (As := [vi (sX xs (i + 1)), vi (sX xs (i + 2)), vi (sX xs (i + 3))]) (rest := [vi r]) hC.sw d_law_781 cv_L_95 rfl hA'.1 rfl rfl ⟨rfl, rfl, by decide, by decide⟩ (Nat.le_of_ble_eq_true rfl) hw' rfl (c_X12_turnings κ' 0 hA' _ (sX_in xs _) _ (sX_in xs _) _ (sX_in xs _) τ r τ1 e2) rfl (fun hw2 => y_swap ?_ hC.2.2.1.symm)) hC.2.2.1
  refine y_same hC d_law_784 ?_
  exact k σ1 τ1 h1 hw1 hw2
theorem cs_19 (hC : LC κ κ' p s m meth c b L xs) (hA : At11 κ 0) (hA' : At12 κ' 0) (hi : 0 ≤ i ∧ i + 6 ≤ (L : Int)) (h : IV σ τ) (hw : WF σ) (hw' : WF τ) (k : ∀ σ1 τ1 : Mem, IV σ1 τ1 → WF σ1 → WF τ1 → LW κ κ' p e s m below meth c b 1246 [some (.ref b), some (vr κ 0), some (vr κ' 0), some (vi i)] [] σ1 τ1) : LW κ κ' p e s m below meth c b 789 [some (.ref b), some (vr κ 0), some (vr κ' 0), some (vi i)] [] σ τ := by
  obtain ⟨r, σ1, τ1, e1, e2, h1⟩ := k_lies h (sX xs (i + 1))
  refine y_aload_n hC d_law_789 rfl ?_
  refine y_aload_n hC d_law_790 rfl ?_
  refine y_iload_n (v := i) hC d_law_791 rfl ?_
  refine y_iconst hC d_law_792 ?_
  refine y_iadd (z := i + 1) hC d_law_793 rfl ?_
  refine y_sld (j := i + 1) hC (by omega) d_law_794 ?_
  refine y_call (σ1 := σ1) (r := r) (R' := R_X11_lies) (As := [vi (sX xs (i + 1))]) (rest := []) hC d_law_795 cv_L_96 rfl hA.1 rfl rfl ⟨rfl, rfl, by decide, by decide⟩ (Nat.le_of_ble_eq_true rfl) hw rfl (c_X11_lies κ 0 hA _ (sX_in xs _) σ r σ1 e1) rfl (fun hw1 => ?_)
  refine y_aload_n hC d_law_798 rfl ?_
  refine y_aload_n hC d_law_799 rfl ?_
  refine y_iload_n (v := i) hC d_law_800 rfl ?_
  refine y_iconst hC d_law_801 ?_
  refine y_iadd (z := i + 1) hC d_law_802 rfl ?_
  refine y_sld (j := i + 1) hC (by omega) d_law_803 ?_
  refine y_swap (y_call (σ1 := τ1) (r := r) (R' := R_X12_lies) (As := [vi (sX xs (i + 1))]) (rest := [vi r]) hC.sw d_law_804 cv_L_99 rfl hA'.1 rfl rfl ⟨rfl, rfl, by decide, by decide⟩ (Nat.le_of_ble_eq_true rfl) hw' rfl (c_X12_lies κ' 0 hA' _ (sX_in xs _) τ r τ1 e2) rfl (fun hw2 => y_swap ?_ hC.2.2.1.symm)) hC.2.2.1
  refine y_same hC d_law_807 ?_
  exact k σ1 τ1 h1 hw1 hw2
theorem cs_20 (hC : LC κ κ' p s m meth c b L xs) (hA : At11 κ 0) (hA' : At12 κ' 0) (hi : 0 ≤ i ∧ i + 6 ≤ (L : Int)) (h : IV σ τ) (hw : WF σ) (hw' : WF τ) (k : ∀ σ1 τ1 : Mem, IV σ1 τ1 → WF σ1 → WF τ1 → LW κ κ' p e s m below meth c b 1246 [some (.ref b), some (vr κ 0), some (vr κ' 0), some (vi i)] [] σ1 τ1) : LW κ κ' p e s m below meth c b 812 [some (.ref b), some (vr κ 0), some (vr κ' 0), some (vi i)] [] σ τ := by
  obtain ⟨r, σ1, τ1, e1, e2, h1⟩ := k_fogs h (sX xs (i + 1)) (sX xs (i + 2))
  refine y_aload_n hC d_law_812 rfl ?_
  refine y_aload_n hC d_law_813 rfl ?_
  refine y_iload_n (v := i) hC d_law_814 rfl ?_
  refine y_iconst hC d_law_815 ?_
  refine y_iadd (z := i + 1) hC d_law_816 rfl ?_
  refine y_sld (j := i + 1) hC (by omega) d_law_817 ?_
  refine y_aload_n hC d_law_818 rfl ?_
  refine y_iload_n (v := i) hC d_law_819 rfl ?_
  refine y_iconst hC d_law_820 ?_
  refine y_iadd (z := i + 2) hC d_law_821 rfl ?_
  refine y_sld (j := i + 2) hC (by omega) d_law_822 ?_
  refine y_call (σ1 := σ1) (r := r) (R' := R_X11_fogs) (As := [vi (sX xs (i + 1)), vi (sX xs (i + 2))]) (rest := []) hC d_law_823 cv_L_100 rfl hA.1 rfl rfl ⟨rfl, rfl, by decide, by decide⟩ (Nat.le_of_ble_eq_true rfl) hw rfl (c_X11_fogs κ 0 hA _ (sX_in xs _) _ (sX_in xs _) σ r σ1 e1) rfl (fun hw1 => ?_)
  refine y_aload_n hC d_law_826 rfl ?_
  refine y_aload_n hC d_law_827 rfl ?_
  refine y_iload_n (v := i) hC d_law_828 rfl ?_
  refine y_iconst hC d_law_829 ?_
  refine y_iadd (z := i + 1) hC d_law_830 rfl ?_
  refine y_sld (j := i + 1) hC (by omega) d_law_831 ?_
  refine y_aload_n hC d_law_832 rfl ?_
  refine y_iload_n (v := i) hC d_law_833 rfl ?_
  refine y_iconst hC d_law_834 ?_
  refine y_iadd (z := i + 2) hC d_law_835 rfl ?_
  refine y_sld (j := i + 2) hC (by omega) d_law_836 ?_
  refine y_swap (y_call (σ1 := τ1) (r := r) (R' := R_X12_fogs) (As := [vi (sX xs (i + 1)), vi (sX xs (i + 2))]) (rest := [vi r]) hC.sw d_law_837 cv_L_103 rfl hA'.1 rfl rfl ⟨rfl, rfl, by decide, by decide⟩ (Nat.le_of_ble_eq_true rfl) hw' rfl (c_X12_fogs κ' 0 hA' _ (sX_in xs _) _ (sX_in xs _) τ r τ1 e2) rfl (fun hw2 => y_swap ?_ hC.2.2.1.symm)) hC.2.2.1
  refine y_same hC d_law_840 ?_
  exact k σ1 τ1 h1 hw1 hw2
theorem cs_21 (hC : LC κ κ' p s m meth c b L xs) (hA : At11 κ 0) (hA' : At12 κ' 0) (hi : 0 ≤ i ∧ i + 6 ≤ (L : Int)) (h : IV σ τ) (hw : WF σ) (hw' : WF τ) (k : ∀ σ1 τ1 : Mem, IV σ1 τ1 → WF σ1 → WF τ1 → LW κ κ' p e s m below meth c b 1246 [some (.ref b), some (vr κ 0), some (vr κ' 0), some (vi i)] [] σ1 τ1) : LW κ κ' p e s m below meth c b 845 [some (.ref b), some (vr κ 0), some (vr κ' 0), some (vi i)] [] σ τ := by
  obtain ⟨r, σ1, τ1, e1, e2, h1⟩ := k_buys h (sX xs (i + 1)) (sX xs (i + 2))
  refine y_aload_n hC d_law_845 rfl ?_
  refine y_aload_n hC d_law_846 rfl ?_
  refine y_iload_n (v := i) hC d_law_847 rfl ?_
  refine y_iconst hC d_law_848 ?_
  refine y_iadd (z := i + 1) hC d_law_849 rfl ?_
  refine y_sld (j := i + 1) hC (by omega) d_law_850 ?_
  refine y_aload_n hC d_law_851 rfl ?_
  refine y_iload_n (v := i) hC d_law_852 rfl ?_
  refine y_iconst hC d_law_853 ?_
  refine y_iadd (z := i + 2) hC d_law_854 rfl ?_
  refine y_sld (j := i + 2) hC (by omega) d_law_855 ?_
  refine y_call (σ1 := σ1) (r := r) (R' := R_X11_buys) (As := [vi (sX xs (i + 1)), vi (sX xs (i + 2))]) (rest := []) hC d_law_856 cv_L_104 rfl hA.1 rfl rfl ⟨rfl, rfl, by decide, by decide⟩ (Nat.le_of_ble_eq_true rfl) hw rfl (c_X11_buys κ 0 hA _ (sX_in xs _) _ (sX_in xs _) σ r σ1 e1) rfl (fun hw1 => ?_)
  refine y_aload_n hC d_law_859 rfl ?_
  refine y_aload_n hC d_law_860 rfl ?_
  refine y_iload_n (v := i) hC d_law_861 rfl ?_
  refine y_iconst hC d_law_862 ?_
  refine y_iadd (z := i + 1) hC d_law_863 rfl ?_
  refine y_sld (j := i + 1) hC (by omega) d_law_864 ?_
  refine y_aload_n hC d_law_865 rfl ?_
  refine y_iload_n (v := i) hC d_law_866 rfl ?_
  refine y_iconst hC d_law_867 ?_
  refine y_iadd (z := i + 2) hC d_law_868 rfl ?_
  refine y_sld (j := i + 2) hC (by omega) d_law_869 ?_
  refine y_swap (y_call (σ1 := τ1) (r := r) (R' := R_X12_buys) (As := [vi (sX xs (i + 1)), vi (sX xs (i + 2))]) (rest := [vi r]) hC.sw d_law_870 cv_L_107 rfl hA'.1 rfl rfl ⟨rfl, rfl, by decide, by decide⟩ (Nat.le_of_ble_eq_true rfl) hw' rfl (c_X12_buys κ' 0 hA' _ (sX_in xs _) _ (sX_in xs _) τ r τ1 e2) rfl (fun hw2 => y_swap ?_ hC.2.2.1.symm)) hC.2.2.1
  refine y_same hC d_law_873 ?_
  exact k σ1 τ1 h1 hw1 hw2
theorem cs_22 (hC : LC κ κ' p s m meth c b L xs) (hA : At11 κ 0) (hA' : At12 κ' 0) (hi : 0 ≤ i ∧ i + 6 ≤ (L : Int)) (h : IV σ τ) (hw : WF σ) (hw' : WF τ) (k : ∀ σ1 τ1 : Mem, IV σ1 τ1 → WF σ1 → WF τ1 → LW κ κ' p e s m below meth c b 1246 [some (.ref b), some (vr κ 0), some (vr κ' 0), some (vi i)] [] σ1 τ1) : LW κ κ' p e s m below meth c b 878 [some (.ref b), some (vr κ 0), some (vr κ' 0), some (vi i)] [] σ τ := by
  obtain ⟨r, σ1, τ1, e1, e2, h1⟩ := k_hears h (sX xs (i + 1))
  refine y_aload_n hC d_law_878 rfl ?_
  refine y_aload_n hC d_law_879 rfl ?_
  refine y_iload_n (v := i) hC d_law_880 rfl ?_
  refine y_iconst hC d_law_881 ?_
  refine y_iadd (z := i + 1) hC d_law_882 rfl ?_
  refine y_sld (j := i + 1) hC (by omega) d_law_883 ?_
  refine y_call (σ1 := σ1) (r := r) (R' := R_X11_hears) (As := [vi (sX xs (i + 1))]) (rest := []) hC d_law_884 cv_L_108 rfl hA.1 rfl rfl ⟨rfl, rfl, by decide, by decide⟩ (Nat.le_of_ble_eq_true rfl) hw rfl (c_X11_hears κ 0 hA _ (sX_in xs _) σ r σ1 e1) rfl (fun hw1 => ?_)
  refine y_aload_n hC d_law_887 rfl ?_
  refine y_aload_n hC d_law_888 rfl ?_
  refine y_iload_n (v := i) hC d_law_889 rfl ?_
  refine y_iconst hC d_law_890 ?_
  refine y_iadd (z := i + 1) hC d_law_891 rfl ?_
  refine y_sld (j := i + 1) hC (by omega) d_law_892 ?_
  refine y_swap (y_call (σ1 := τ1) (r := r) (R' := R_X12_hears) (As := [vi (sX xs (i + 1))]) (rest := [vi r]) hC.sw d_law_893 cv_L_111 rfl hA'.1 rfl rfl ⟨rfl, rfl, by decide, by decide⟩ (Nat.le_of_ble_eq_true rfl) hw' rfl (c_X12_hears κ' 0 hA' _ (sX_in xs _) τ r τ1 e2) rfl (fun hw2 => y_swap ?_ hC.2.2.1.symm)) hC.2.2.1
  refine y_same hC d_law_896 ?_
  exact k σ1 τ1 h1 hw1 hw2
theorem cs_23 (hC : LC κ κ' p s m meth c b L xs) (hA : At11 κ 0) (hA' : At12 κ' 0) (hi : 0 ≤ i ∧ i + 6 ≤ (L : Int)) (h : IV σ τ) (hw : WF σ) (hw' : WF τ) (k : ∀ σ1 τ1 : Mem, IV σ1 τ1 → WF σ1 → WF τ1 → LW κ κ' p e s m below meth c b 1246 [some (.ref b), some (vr κ 0), some (vr κ' 0), some (vi i)] [] σ1 τ1) : LW κ κ' p e s m below meth c b 901 [some (.ref b), some (vr κ 0), some (vr κ' 0), some (vi i)] [] σ τ := by
  obtain ⟨r, σ1, τ1, e1, e2, h1⟩ := k_cuts h (sX xs (i + 1)) (sX xs (i + 2))
  refine y_aload_n hC d_law_901 rfl ?_
  refine y_aload_n hC d_law_902 rfl ?_
  refine y_iload_n (v := i) hC d_law_903 rfl ?_
  refine y_iconst hC d_law_904 ?_
  refine y_iadd (z := i + 1) hC d_law_905 rfl ?_
  refine y_sld (j := i + 1) hC (by omega) d_law_906 ?_
  refine y_aload_n hC d_law_907 rfl ?_
  refine y_iload_n (v := i) hC d_law_908 rfl ?_
  refine y_iconst hC d_law_909 ?_
  refine y_iadd (z := i + 2) hC d_law_910 rfl ?_
  refine y_sld (j := i + 2) hC (by omega) d_law_911 ?_
  refine y_call (σ1 := σ1) (r := r) (R' := R_X11_cuts) (As := [vi (sX xs (i + 1)), vi (sX xs (i + 2))]) (rest := []) hC d_law_912 cv_L_112 rfl hA.1 rfl rfl ⟨rfl, rfl, by decide, by decide⟩ (Nat.le_of_ble_eq_true rfl) hw rfl (c_X11_cuts κ 0 hA _ (sX_in xs _) _ (sX_in xs _) σ r σ1 e1) rfl (fun hw1 => ?_)
  refine y_aload_n hC d_law_915 rfl ?_
  refine y_aload_n hC d_law_916 rfl ?_
  refine y_iload_n (v := i) hC d_law_917 rfl ?_
  refine y_iconst hC d_law_918 ?_
  refine y_iadd (z := i + 1) hC d_law_919 rfl ?_
  refine y_sld (j := i + 1) hC (by omega) d_law_920 ?_
  refine y_aload_n hC d_law_921 rfl ?_
  refine y_iload_n (v := i) hC d_law_922 rfl ?_
  refine y_iconst hC d_law_923 ?_
  refine y_iadd (z := i + 2) hC d_law_924 rfl ?_
  refine y_sld (j := i + 2) hC (by omega) d_law_925 ?_
  refine y_swap (y_call (σ1 := τ1) (r := r) (R' := R_X12_cuts) (As := [vi (sX xs (i + 1)), vi (sX xs (i + 2))]) (rest := [vi r]) hC.sw d_law_926 cv_L_115 rfl hA'.1 rfl rfl ⟨rfl, rfl, by decide, by decide⟩ (Nat.le_of_ble_eq_true rfl) hw' rfl (c_X12_cuts κ' 0 hA' _ (sX_in xs _) _ (sX_in xs _) τ r τ1 e2) rfl (fun hw2 => y_swap ?_ hC.2.2.1.symm)) hC.2.2.1
  refine y_same hC d_law_929 ?_
  exact k σ1 τ1 h1 hw1 hw2
theorem cs_24 (hC : LC κ κ' p s m meth c b L xs) (hA : At11 κ 0) (hA' : At12 κ' 0) (hi : 0 ≤ i ∧ i + 6 ≤ (L : Int)) (h : IV σ τ) (hw : WF σ) (hw' : WF τ) (k : ∀ σ1 τ1 : Mem, IV σ1 τ1 → WF σ1 → WF τ1 → LW κ κ' p e s m below meth c b 1246 [some (.ref b), some (vr κ 0), some (vr κ' 0), some (vi i)] [] σ1 τ1) : LW κ κ' p e s m below meth c b 934 [some (.ref b), some (vr κ 0), some (vr κ' 0), some (vi i)] [] σ τ := by
  obtain ⟨r, σ1, τ1, e1, e2, h1⟩ := k_count h (sX xs (i + 1)) (sX xs (i + 2))
  refine y_aload_n hC d_law_934 rfl ?_
  refine y_aload_n hC d_law_935 rfl ?_
  refine y_iload_n (v := i) hC d_law_936 rfl ?_
  refine y_iconst hC d_law_937 ?_
  refine y_iadd (z := i + 1) hC d_law_938 rfl ?_
  refine y_sld (j := i + 1) hC (by omega) d_law_939 ?_
  refine y_aload_n hC d_law_940 rfl ?_
  refine y_iload_n (v := i) hC d_law_941 rfl ?_
  refine y_iconst hC d_law_942 ?_
  refine y_iadd (z := i + 2) hC d_law_943 rfl ?_
  refine y_sld (j := i + 2) hC (by omega) d_law_944 ?_
  refine y_call (σ1 := σ1) (r := r) (R' := R_X11_count) (As := [vi (sX xs (i + 1)), vi (sX xs (i + 2))]) (rest := []) hC d_law_945 cv_L_116 rfl hA.1 rfl rfl ⟨rfl, rfl, by decide, by decide⟩ (Nat.le_of_ble_eq_true rfl) hw rfl (c_X11_count κ 0 hA _ (sX_in xs _) _ (sX_in xs _) σ r σ1 e1) rfl (fun hw1 => ?_)
  refine y_aload_n hC d_law_948 rfl ?_
  refine y_aload_n hC d_law_949 rfl ?_
  refine y_iload_n (v := i) hC d_law_950 rfl ?_
  refine y_iconst hC d_law_951 ?_
  refine y_iadd (z := i + 1) hC d_law_952 rfl ?_
  refine y_sld (j := i + 1) hC (by omega) d_law_953 ?_
  refine y_aload_n hC d_law_954 rfl ?_
  refine y_iload_n (v := i) hC d_law_955 rfl ?_
  refine y_iconst hC d_law_956 ?_
  refine y_iadd (z := i + 2) hC d_law_957 rfl ?_
  refine y_sld (j := i + 2) hC (by omega) d_law_958 ?_
  refine y_swap (y_call (σ1 := τ1) (r := r) (R' := R_X12_count) (As := [vi (sX xs (i + 1)), vi (sX xs (i + 2))]) (rest := [vi r]) hC.sw d_law_959 cv_L_119 rfl hA'.1 rfl rfl ⟨rfl, rfl, by decide, by decide⟩ (Nat.le_of_ble_eq_true rfl) hw' rfl (c_X12_count κ' 0 hA' _ (sX_in xs _) _ (sX_in xs _) τ r τ1 e2) rfl (fun hw2 => y_swap ?_ hC.2.2.1.symm)) hC.2.2.1
  refine y_same hC d_law_962 ?_
  exact k σ1 τ1 h1 hw1 hw2
theorem cs_25 (hC : LC κ κ' p s m meth c b L xs) (hA : At11 κ 0) (hA' : At12 κ' 0) (hi : 0 ≤ i ∧ i + 6 ≤ (L : Int)) (h : IV σ τ) (hw : WF σ) (hw' : WF τ) (k : ∀ σ1 τ1 : Mem, IV σ1 τ1 → WF σ1 → WF τ1 → LW κ κ' p e s m below meth c b 1246 [some (.ref b), some (vr κ 0), some (vr κ' 0), some (vi i)] [] σ1 τ1) : LW κ κ' p e s m below meth c b 967 [some (.ref b), some (vr κ 0), some (vr κ' 0), some (vi i)] [] σ τ := by
  obtain ⟨r, σ1, τ1, e1, e2, h1⟩ := k_fits h (sX xs (i + 1))
  refine y_aload_n hC d_law_967 rfl ?_
  refine y_aload_n hC d_law_968 rfl ?_
  refine y_iload_n (v := i) hC d_law_969 rfl ?_
  refine y_iconst hC d_law_970 ?_
  refine y_iadd (z := i + 1) hC d_law_971 rfl ?_
  refine y_sld (j := i + 1) hC (by omega) d_law_972 ?_
  refine y_call (σ1 := σ1) (r := r) (R' := R_X11_fits) (As := [vi (sX xs (i + 1))]) (rest := []) hC d_law_973 cv_L_120 rfl hA.1 rfl rfl ⟨rfl, rfl, by decide, by decide⟩ (Nat.le_of_ble_eq_true rfl) hw rfl (c_X11_fits κ 0 hA _ (sX_in xs _) σ r σ1 e1) rfl (fun hw1 => ?_)
  refine y_aload_n hC d_law_976 rfl ?_
  refine y_aload_n hC d_law_977 rfl ?_
  refine y_iload_n (v := i) hC d_law_978 rfl ?_
  refine y_iconst hC d_law_979 ?_
  refine y_iadd (z := i + 1) hC d_law_980 rfl ?_
  refine y_sld (j := i + 1) hC (by omega) d_law_981 ?_
  refine y_swap (y_call (σ1 := τ1) (r := r) (R' := R_X12_fits) (As := [vi (sX xs (i + 1))]) (rest := [vi r]) hC.sw d_law_982 cv_L_123 rfl hA'.1 rfl rfl ⟨rfl, rfl, by decide, by decide⟩ (Nat.le_of_ble_eq_true rfl) hw' rfl (c_X12_fits κ' 0 hA' _ (sX_in xs _) τ r τ1 e2) rfl (fun hw2 => y_swap ?_ hC.2.2.1.symm)) hC.2.2.1
  refine y_same hC d_law_985 ?_
  exact k σ1 τ1 h1 hw1 hw2
theorem cs_26 (hC : LC κ κ' p s m meth c b L xs) (hA : At11 κ 0) (hA' : At12 κ' 0) (hi : 0 ≤ i ∧ i + 6 ≤ (L : Int)) (h : IV σ τ) (hw : WF σ) (hw' : WF τ) (k : ∀ σ1 τ1 : Mem, IV σ1 τ1 → WF σ1 → WF τ1 → LW κ κ' p e s m below meth c b 1246 [some (.ref b), some (vr κ 0), some (vr κ' 0), some (vi i)] [] σ1 τ1) : LW κ κ' p e s m below meth c b 990 [some (.ref b), some (vr κ 0), some (vr κ' 0), some (vi i)] [] σ τ := by
  obtain ⟨r, σ1, τ1, e1, e2, h1⟩ := k_bank h (sX xs (i + 1)) (sX xs (i + 2))
  refine y_aload_n hC d_law_990 rfl ?_
  refine y_aload_n hC d_law_991 rfl ?_
  refine y_iload_n (v := i) hC d_law_992 rfl ?_
  refine y_iconst hC d_law_993 ?_
  refine y_iadd (z := i + 1) hC d_law_994 rfl ?_
  refine y_sld (j := i + 1) hC (by omega) d_law_995 ?_
  refine y_aload_n hC d_law_996 rfl ?_
  refine y_iload_n (v := i) hC d_law_997 rfl ?_
  refine y_iconst hC d_law_998 ?_
  refine y_iadd (z := i + 2) hC d_law_999 rfl ?_
  refine y_sld (j := i + 2) hC (by omega) d_law_1000 ?_
  refine y_call (σ1 := σ1) (r := r) (R' := R_X11_bank) (As := [vi (sX xs (i + 1)), vi (sX xs (i + 2))]) (rest := []) hC d_law_1001 cv_L_124 rfl hA.1 rfl rfl ⟨rfl, rfl, by decide, by decide⟩ (Nat.le_of_ble_eq_true rfl) hw rfl (c_X11_bank κ 0 hA _ (sX_in xs _) _ (sX_in xs _) σ r σ1 e1) rfl (fun hw1 => ?_)
  refine y_aload_n hC d_law_1004 rfl ?_
  refine y_aload_n hC d_law_1005 rfl ?_
  refine y_iload_n (v := i) hC d_law_1006 rfl ?_
  refine y_iconst hC d_law_1007 ?_
  refine y_iadd (z := i + 1) hC d_law_1008 rfl ?_
  refine y_sld (j := i + 1) hC (by omega) d_law_1009 ?_
  refine y_aload_n hC d_law_1010 rfl ?_
  refine y_iload_n (v := i) hC d_law_1011 rfl ?_
  refine y_iconst hC d_law_1012 ?_
  refine y_iadd (z := i + 2) hC d_law_1013 rfl ?_
  refine y_sld (j := i + 2) hC (by omega) d_law_1014 ?_
  refine y_swap (y_call (σ1 := τ1) (r := r) (R' := R_X12_bank) (As := [vi (sX xs (i + 1)), vi (sX xs (i + 2))]) (rest := [vi r]) hC.sw d_law_1015 cv_L_127 rfl hA'.1 rfl rfl ⟨rfl, rfl, by decide, by decide⟩ (Nat.le_of_ble_eq_true rfl) hw' rfl (c_X12_bank κ' 0 hA' _ (sX_in xs _) _ (sX_in xs _) τ r τ1 e2) rfl (fun hw2 => y_swap ?_ hC.2.2.1.symm)) hC.2.2.1
  refine y_same hC d_law_1018 ?_
  exact k σ1 τ1 h1 hw1 hw2
theorem cs_27 (hC : LC κ κ' p s m meth c b L xs) (hA : At11 κ 0) (hA' : At12 κ' 0) (hi : 0 ≤ i ∧ i + 6 ≤ (L : Int)) (h : IV σ τ) (hw : WF σ) (hw' : WF τ) (k : ∀ σ1 τ1 : Mem, IV σ1 τ1 → WF σ1 → WF τ1 → LW κ κ' p e s m below meth c b 1246 [some (.ref b), some (vr κ 0), some (vr κ' 0), some (vi i)] [] σ1 τ1) : LW κ κ' p e s m below meth c b 1023 [some (.ref b), some (vr κ 0), some (vr κ' 0), some (vi i)] [] σ τ := by
  obtain ⟨r, σ1, τ1, e1, e2, h1⟩ := k_rests h (sX xs (i + 1))
  refine y_aload_n hC d_law_1023 rfl ?_
  refine y_aload_n hC d_law_1024 rfl ?_
  refine y_iload_n (v := i) hC d_law_1025 rfl ?_
  refine y_iconst hC d_law_1026 ?_
  refine y_iadd (z := i + 1) hC d_law_1027 rfl ?_
  refine y_sld (j := i + 1) hC (by omega) d_law_1028 ?_
  refine y_call (σ1 := σ1) (r := r) (R' := R_X11_rests) (As := [vi (sX xs (i + 1))]) (rest := []) hC d_law_1029 cv_L_128 rfl hA.1 rfl rfl ⟨rfl, rfl, by decide, by decide⟩ (Nat.le_of_ble_eq_true rfl) hw rfl (c_X11_rests κ 0 hA _ (sX_in xs _) σ r σ1 e1) rfl (fun hw1 => ?_)
  refine y_aload_n hC d_law_1032 rfl ?_
  refine y_aload_n hC d_law_1033 rfl ?_
  refine y_iload_n (v := i) hC d_law_1034 rfl ?_
  refine y_iconst hC d_law_1035 ?_
  refine y_iadd (z := i + 1) hC d_law_1036 rfl ?_
  refine y_sld (j := i + 1) hC (by omega) d_law_1037 ?_
  refine y_swap (y_call (σ1 := τ1) (r := r) (R' := R_X12_rests) (As := [vi (sX xs (i + 1))]) (rest := [vi r]) hC.sw d_law_1038 cv_L_131 rfl hA'.1 rfl rfl ⟨rfl, rfl, by decide, by decide⟩ (Nat.le_of_ble_eq_true rfl) hw' rfl (c_X12_rests κ' 0 hA' _ (sX_in xs _) τ r τ1 e2) rfl (fun hw2 => y_swap ?_ hC.2.2.1.symm)) hC.2.2.1
  refine y_same hC d_law_1041 ?_
  exact k σ1 τ1 h1 hw1 hw2
theorem cs_28 (hC : LC κ κ' p s m meth c b L xs) (hA : At11 κ 0) (hA' : At12 κ' 0) (hi : 0 ≤ i ∧ i + 6 ≤ (L : Int)) (h : IV σ τ) (hw : WF σ) (hw' : WF τ) (k : ∀ σ1 τ1 : Mem, IV σ1 τ1 → WF σ1 → WF τ1 → LW κ κ' p e s m below meth c b 1246 [some (.ref b), some (vr κ 0), some (vr κ' 0), some (vi i)] [] σ1 τ1) : LW κ κ' p e s m below meth c b 1046 [some (.ref b), some (vr κ 0), some (vr κ' 0), some (vi i)] [] σ τ := by
  obtain ⟨r, σ1, τ1, e1, e2, h1⟩ := k_mark h (sX xs (i + 1))
  refine y_aload_n hC d_law_1046 rfl ?_
  refine y_aload_n hC d_law_1047 rfl ?_
  refine y_iload_n (v := i) hC d_law_1048 rfl ?_
  refine y_iconst hC d_law_1049 ?_
  refine y_iadd (z := i + 1) hC d_law_1050 rfl ?_
  refine y_sld (j := i + 1) hC (by omega) d_law_1051 ?_
  refine y_call (σ1 := σ1) (r := r) (R' := R_X11_mark) (As := [vi (sX xs (i + 1))]) (rest := []) hC d_law_1052 cv_L_132 rfl hA.1 rfl rfl ⟨rfl, rfl, by decide, by decide⟩ (Nat.le_of_ble_eq_true rfl) hw rfl (c_X11_mark κ 0 hA _ (sX_in xs _) σ r σ1 e1) rfl (fun hw1 => ?_)
  refine y_aload_n hC d_law_1055 rfl ?_
  refine y_aload_n hC d_law_1056 rfl ?_
  refine y_iload_n (v := i) hC d_law_1057 rfl ?_
  refine y_iconst hC d_law_1058 ?_
  refine y_iadd (z := i + 1) hC d_law_1059 rfl ?_
  refine y_sld (j := i + 1) hC (by omega) d_law_1060 ?_
  refine y_swap (y_call (σ1 := τ1) (r := r) (R' := R_X12_mark) (As := [vi (sX xs (i + 1))]) (rest := [vi r]) hC.sw d_law_1061 cv_L_135 rfl hA'.1 rfl rfl ⟨rfl, rfl, by decide, by decide⟩ (Nat.le_of_ble_eq_true rfl) hw' rfl (c_X12_mark κ' 0 hA' _ (sX_in xs _) τ r τ1 e2) rfl (fun hw2 => y_swap ?_ hC.2.2.1.symm)) hC.2.2.1
  refine y_same hC d_law_1064 ?_
  exact k σ1 τ1 h1 hw1 hw2
theorem cs_29 (hC : LC κ κ' p s m meth c b L xs) (hA : At11 κ 0) (hA' : At12 κ' 0) (hi : 0 ≤ i ∧ i + 6 ≤ (L : Int)) (h : IV σ τ) (hw : WF σ) (hw' : WF τ) (k : ∀ σ1 τ1 : Mem, IV σ1 τ1 → WF σ1 → WF τ1 → LW κ κ' p e s m below meth c b 1246 [some (.ref b), some (vr κ 0), some (vr κ' 0), some (vi i)] [] σ1 τ1) : LW κ κ' p e s m below meth c b 1069 [some (.ref b), some (vr κ 0), some (vr κ' 0), some (vi i)] [] σ τ := by
  obtain ⟨r, σ1, τ1, e1, e2, h1⟩ := k_share h (sX xs (i + 1)) (sX xs (i + 2))
  refine y_aload_n hC d_law_1069 rfl ?_
  refine y_aload_n hC d_law_1070 rfl ?_
  refine y_iload_n (v := i) hC d_law_1071 rfl ?_
  refine y_iconst hC d_law_1072 ?_
  refine y_iadd (z := i + 1) hC d_law_1073 rfl ?_
  refine y_sld (j := i + 1) hC (by omega) d_law_1074 ?_
  refine y_aload_n hC d_law_1075 rfl ?_
  refine y_iload_n (v := i) hC d_law_1076 rfl ?_
  refine y_iconst hC d_law_1077 ?_
  refine y_iadd (z := i + 2) hC d_law_1078 rfl ?_
  refine y_sld (j := i + 2) hC (by omega) d_law_1079 ?_
  refine y_call (σ1 := σ1) (r := r) (R' := R_X11_share) (As := [vi (sX xs (i + 1)), vi (sX xs (i + 2))]) (rest := []) hC d_law_1080 cv_L_136 rfl hA.1 rfl rfl ⟨rfl, rfl, by decide, by decide⟩ (Nat.le_of_ble_eq_true rfl) hw rfl (c_X11_share κ 0 hA _ (sX_in xs _) _ (sX_in xs _) σ r σ1 e1) rfl (fun hw1 => ?_)
  refine y_aload_n hC d_law_1083 rfl ?_
  refine y_aload_n hC d_law_1084 rfl ?_
  refine y_iload_n (v := i) hC d_law_1085 rfl ?_
  refine y_iconst hC d_law_1086 ?_
  refine y_iadd (z := i + 1) hC d_law_1087 rfl ?_
  refine y_sld (j := i + 1) hC (by omega) d_law_1088 ?_
  refine y_aload_n hC d_law_1089 rfl ?_
  refine y_iload_n (v := i) hC d_law_1090 rfl ?_
  refine y_iconst hC d_law_1091 ?_
  refine y_iadd (z := i + 2) hC d_law_1092 rfl ?_
  refine y_sld (j := i + 2) hC (by omega) d_law_1093 ?_
  refine y_swap (y_call (σ1 := τ1) (r := r) (R' := R_X12_share) (As := [vi (sX xs (i + 1)), vi (sX xs (i + 2))]) (rest := [vi r]) hC.sw d_law_1094 cv_L_139 rfl hA'.1 rfl rfl ⟨rfl, rfl, by decide, by decide⟩ (Nat.le_of_ble_eq_true rfl) hw' rfl (c_X12_share κ' 0 hA' _ (sX_in xs _) _ (sX_in xs _) τ r τ1 e2) rfl (fun hw2 => y_swap ?_ hC.2.2.1.symm)) hC.2.2.1
  refine y_same hC d_law_1097 ?_
  exact k σ1 τ1 h1 hw1 hw2
theorem cs_30 (hC : LC κ κ' p s m meth c b L xs) (hA : At11 κ 0) (hA' : At12 κ' 0) (hi : 0 ≤ i ∧ i + 6 ≤ (L : Int)) (h : IV σ τ) (hw : WF σ) (hw' : WF τ) (k : ∀ σ1 τ1 : Mem, IV σ1 τ1 → WF σ1 → WF τ1 → LW κ κ' p e s m below meth c b 1246 [some (.ref b), some (vr κ 0), some (vr κ' 0), some (vi i)] [] σ1 τ1) : LW κ κ' p e s m below meth c b 1102 [some (.ref b), some (vr κ 0), some (vr κ' 0), some (vi i)] [] σ τ := by
  obtain ⟨r, σ1, τ1, e1, e2, h1⟩ := k_game h (sX xs (i + 1))
  refine y_aload_n hC d_law_1102 rfl ?_
  refine y_aload_n hC d_law_1103 rfl ?_
  refine y_iload_n (v := i) hC d_law_1104 rfl ?_
  refine y_iconst hC d_law_1105 ?_
  refine y_iadd (z := i + 1) hC d_law_1106 rfl ?_
  refine y_sld (j := i + 1) hC (by omega) d_law_1107 ?_
  refine y_call (σ1 := σ1) (r := r) (R' := R_X11_game) (As := [vi (sX xs (i + 1))]) (rest := []) hC d_law_1108 cv_L_140 rfl hA.1 rfl rfl ⟨rfl, rfl, by decide, by decide⟩ (Nat.le_of_ble_eq_true rfl) hw rfl (c_X11_game κ 0 hA _ (sX_in xs _) σ r σ1 e1) rfl (fun hw1 => ?_)
  refine y_aload_n hC d_law_1111 rfl ?_
  refine y_aload_n hC d_law_1112 rfl ?_
  refine y_iload_n (v := i) hC d_law_1113 rfl ?_
  refine y_iconst hC d_law_1114 ?_
  refine y_iadd (z := i + 1) hC d_law_1115 rfl ?_
  refine y_sld (j := i + 1) hC (by omega) d_law_1116 ?_
  refine y_swap (y_call (σ1 := τ1) (r := r) (R' := R_X12_game) (As := [vi (sX xs (i + 1))]) (rest := [vi r]) hC.sw d_law_1117 cv_L_143 rfl hA'.1 rfl rfl ⟨rfl, rfl, by decide, by decide⟩ (Nat.le_of_ble_eq_true rfl) hw' rfl (c_X12_game κ' 0 hA' _ (sX_in xs _) τ r τ1 e2) rfl (fun hw2 => y_swap ?_ hC.2.2.1.symm)) hC.2.2.1
  refine y_same hC d_law_1120 ?_
  exact k σ1 τ1 h1 hw1 hw2
theorem cs_31 (hC : LC κ κ' p s m meth c b L xs) (hA : At11 κ 0) (hA' : At12 κ' 0) (hi : 0 ≤ i ∧ i + 6 ≤ (L : Int)) (h : IV σ τ) (hw : WF σ) (hw' : WF τ) (k : ∀ σ1 τ1 : Mem, IV σ1 τ1 → WF σ1 → WF τ1 → LW κ κ' p e s m below meth c b 1246 [some (.ref b), some (vr κ 0), some (vr κ' 0), some (vi i)] [] σ1 τ1) : LW κ κ' p e s m below meth c b 1125 [some (.ref b), some (vr κ 0), some (vr κ' 0), some (vi i)] [] σ τ := by
  obtain ⟨r, σ1, τ1, e1, e2, h1⟩ := k_crowd h (sX xs (i + 1))
  refine y_aload_n hC d_law_1125 rfl ?_
  refine y_aload_n hC d_law_1126 rfl ?_
  refine y_iload_n (v := i) hC d_law_1127 rfl ?_
  refine y_iconst hC d_law_1128 ?_
  refine y_iadd (z := i + 1) hC d_law_1129 rfl ?_
  refine y_sld (j := i + 1) hC (by omega) d_law_1130 ?_
  refine y_call (σ1 := σ1) (r := r) (R' := R_X11_crowd) (As := [vi (sX xs (i + 1))]) (rest := []) hC d_law_1131 cv_L_144 rfl hA.1 rfl rfl ⟨rfl, rfl, by decide, by decide⟩ (Nat.le_of_ble_eq_true rfl) hw rfl (c_X11_crowd κ 0 hA _ (sX_in xs _) σ r σ1 e1) rfl (fun hw1 => ?_)
  refine y_aload_n hC d_law_1134 rfl ?_
  refine y_aload_n hC d_law_1135 rfl ?_
  refine y_iload_n (v := i) hC d_law_1136 rfl ?_
  refine y_iconst hC d_law_1137 ?_
  refine y_iadd (z := i + 1) hC d_law_1138 rfl ?_
  refine y_sld (j := i + 1) hC (by omega) d_law_1139 ?_
  refine y_swap (y_call (σ1 := τ1) (r := r) (R' := R_X12_crowd) (As := [vi (sX xs (i + 1))]) (rest := [vi r]) hC.sw d_law_1140 cv_L_147 rfl hA'.1 rfl rfl ⟨rfl, rfl, by decide, by decide⟩ (Nat.le_of_ble_eq_true rfl) hw' rfl (c_X12_crowd κ' 0 hA' _ (sX_in xs _) τ r τ1 e2) rfl (fun hw2 => y_swap ?_ hC.2.2.1.symm)) hC.2.2.1
  refine y_same hC d_law_1143 ?_
  exact k σ1 τ1 h1 hw1 hw2
theorem cs_32 (hC : LC κ κ' p s m meth c b L xs) (hA : At11 κ 0) (hA' : At12 κ' 0) (hi : 0 ≤ i ∧ i + 6 ≤ (L : Int)) (h : IV σ τ) (hw : WF σ) (hw' : WF τ) (k : ∀ σ1 τ1 : Mem, IV σ1 τ1 → WF σ1 → WF τ1 → LW κ κ' p e s m below meth c b 1246 [some (.ref b), some (vr κ 0), some (vr κ' 0), some (vi i)] [] σ1 τ1) : LW κ κ' p e s m below meth c b 1148 [some (.ref b), some (vr κ 0), some (vr κ' 0), some (vi i)] [] σ τ := by
  obtain ⟨r, σ1, τ1, e1, e2, h1⟩ := k_heavy h (sX xs (i + 1))
  refine y_aload_n hC d_law_1148 rfl ?_
  refine y_aload_n hC d_law_1149 rfl ?_
  refine y_iload_n (v := i) hC d_law_1150 rfl ?_
  refine y_iconst hC d_law_1151 ?_
  refine y_iadd (z := i + 1) hC d_law_1152 rfl ?_
  refine y_sld (j := i + 1) hC (by omega) d_law_1153 ?_
  refine y_call (σ1 := σ1) (r := r) (R' := R_X11_heavy) (As := [vi (sX xs (i + 1))]) (rest := []) hC d_law_1154 cv_L_148 rfl hA.1 rfl rfl ⟨rfl, rfl, by decide, by decide⟩ (Nat.le_of_ble_eq_true rfl) hw rfl (c_X11_heavy κ 0 hA _ (sX_in xs _) σ r σ1 e1) rfl (fun hw1 => ?_)
  refine y_aload_n hC d_law_1157 rfl ?_
  refine y_aload_n hC d_law_1158 rfl ?_
  refine y_iload_n (v := i) hC d_law_1159 rfl ?_
  refine y_iconst hC d_law_1160 ?_
  refine y_iadd (z := i + 1) hC d_law_1161 rfl ?_
  refine y_sld (j := i + 1) hC (by omega) d_law_1162 ?_
  refine y_swap (y_call (σ1 := τ1) (r := r) (R' := R_X12_heavy) (As := [vi (sX xs (i + 1))]) (rest := [vi r]) hC.sw d_law_1163 cv_L_151 rfl hA'.1 rfl rfl ⟨rfl, rfl, by decide, by decide⟩ (Nat.le_of_ble_eq_true rfl) hw' rfl (c_X12_heavy κ' 0 hA' _ (sX_in xs _) τ r τ1 e2) rfl (fun hw2 => y_swap ?_ hC.2.2.1.symm)) hC.2.2.1
  refine y_same hC d_law_1166 ?_
  exact k σ1 τ1 h1 hw1 hw2
theorem cs_33 (hC : LC κ κ' p s m meth c b L xs) (hA : At11 κ 0) (hA' : At12 κ' 0) (hi : 0 ≤ i ∧ i + 6 ≤ (L : Int)) (h : IV σ τ) (hw : WF σ) (hw' : WF τ) (k : ∀ σ1 τ1 : Mem, IV σ1 τ1 → WF σ1 → WF τ1 → LW κ κ' p e s m below meth c b 1246 [some (.ref b), some (vr κ 0), some (vr κ' 0), some (vi i)] [] σ1 τ1) : LW κ κ' p e s m below meth c b 1171 [some (.ref b), some (vr κ 0), some (vr κ' 0), some (vi i)] [] σ τ := by
  obtain ⟨r, σ1, τ1, e1, e2, h1⟩ := k_undo h 
  refine y_aload_n hC d_law_1171 rfl ?_
  refine y_call (σ1 := σ1) (r := r) (R' := R_X11_undo) (As := []) (rest := []) hC d_law_1172 cv_L_152 rfl hA.1 rfl rfl ⟨rfl, rfl, by decide, by decide⟩ (Nat.le_of_ble_eq_true rfl) hw rfl (c_X11_undo κ 0 hA σ r σ1 e1) rfl (fun hw1 => ?_)
  refine y_aload_n hC d_law_1175 rfl ?_
  refine y_swap (y_call (σ1 := τ1) (r := r) (R' := R_X12_undo) (As := []) (rest := [vi r]) hC.sw d_law_1176 cv_L_156 rfl hA'.1 rfl rfl ⟨rfl, rfl, by decide, by decide⟩ (Nat.le_of_ble_eq_true rfl) hw' rfl (c_X12_undo κ' 0 hA' τ r τ1 e2) rfl (fun hw2 => y_swap ?_ hC.2.2.1.symm)) hC.2.2.1
  refine y_same hC d_law_1179 ?_
  exact k σ1 τ1 h1 hw1 hw2
theorem cs_34 (hC : LC κ κ' p s m meth c b L xs) (hA : At11 κ 0) (hA' : At12 κ' 0) (hi : 0 ≤ i ∧ i + 6 ≤ (L : Int)) (h : IV σ τ) (hw : WF σ) (hw' : WF τ) (k : ∀ σ1 τ1 : Mem, IV σ1 τ1 → WF σ1 → WF τ1 → LW κ κ' p e s m below meth c b 1246 [some (.ref b), some (vr κ 0), some (vr κ' 0), some (vi i)] [] σ1 τ1) : LW κ κ' p e s m below meth c b 1184 [some (.ref b), some (vr κ 0), some (vr κ' 0), some (vi i)] [] σ τ := by
  by_cases hz : sX xs (i + 1) = 0
  · obtain ⟨r, σ1, τ1, e1, e2, h1⟩ := k_image h 0
    refine y_aload_n hC d_law_1184 rfl ?_
    refine y_aload_n hC d_law_1185 rfl ?_
    refine y_iload_n (v := i) hC d_law_1186 rfl ?_
    refine y_iconst hC d_law_1187 ?_
    refine y_iadd (z := i + 1) hC d_law_1188 rfl ?_
    refine y_sld (j := i + 1) hC (by omega) d_law_1189 ?_
    refine y_ifeq hC d_law_1190 (sX_in _ _) (fun _ => ?_) (fun q => absurd hz q)
    refine y_iconst hC d_law_1197 ?_
    refine y_call (σ1 := σ1) (r := r) (R' := R_X11_image) (As := [vi 0]) (rest := []) hC d_law_1198 cv_L_157 rfl hA.1 rfl rfl ⟨rfl, rfl, by decide, by decide⟩ (Nat.le_of_ble_eq_true rfl) hw rfl (c_X11_image κ 0 hA _ (inr_d rfl) σ r σ1 e1) rfl (fun hw1 => ?_)
    refine y_aload_n hC d_law_1201 rfl ?_
    refine y_aload_n hC d_law_1202 rfl ?_
    refine y_iload_n (v := i) hC d_law_1203 rfl ?_
    refine y_iconst hC d_law_1204 ?_
    refine y_iadd (z := i + 1) hC d_law_1205 rfl ?_
    refine y_sld (j := i + 1) hC (by omega) d_law_1206 ?_
    refine y_ifeq hC d_law_1207 (sX_in _ _) (fun _ => ?_) (fun q => absurd hz q)
    refine y_iconst hC d_law_1214 ?_
    refine y_swap (y_call (σ1 := τ1) (r := r) (R' := R_X12_image) (As := [vi 0]) (rest := [vi r]) hC.sw d_law_1215 cv_L_161 rfl hA'.1 rfl rfl ⟨rfl, rfl, by decide, by decide⟩ (Nat.le_of_ble_eq_true rfl) hw' rfl (c_X12_image κ' 0 hA' _ (inr_d rfl) τ r τ1 e2) rfl (fun hw2 => y_swap ?_ hC.2.2.1.symm)) hC.2.2.1
    refine y_same hC d_law_1218 ?_
    exact k σ1 τ1 h1 hw1 hw2
  · obtain ⟨r, σ1, τ1, e1, e2, h1⟩ := k_image h 1
    refine y_aload_n hC d_law_1184 rfl ?_
    refine y_aload_n hC d_law_1185 rfl ?_
    refine y_iload_n (v := i) hC d_law_1186 rfl ?_
    refine y_iconst hC d_law_1187 ?_
    refine y_iadd (z := i + 1) hC d_law_1188 rfl ?_
    refine y_sld (j := i + 1) hC (by omega) d_law_1189 ?_
    refine y_ifeq hC d_law_1190 (sX_in _ _) (fun q => absurd q hz) (fun _ => ?_)
    refine y_iconst hC d_law_1193 ?_
    refine y_goto hC d_law_1194 ?_
    refine y_call (σ1 := σ1) (r := r) (R' := R_X11_image) (As := [vi 1]) (rest := []) hC d_law_1198 cv_L_157 rfl hA.1 rfl rfl ⟨rfl, rfl, by decide, by decide⟩ (Nat.le_of_ble_eq_true rfl) hw rfl (c_X11_image κ 0 hA _ (inr_d rfl) σ r σ1 e1) rfl (fun hw1 => ?_)
    refine y_aload_n hC d_law_1201 rfl ?_
    refine y_aload_n hC d_law_1202 rfl ?_
    refine y_iload_n (v := i) hC d_law_1203 rfl ?_
    refine y_iconst hC d_law_1204 ?_
    refine y_iadd (z := i + 1) hC d_law_1205 rfl ?_
    refine y_sld (j := i + 1) hC (by omega) d_law_1206 ?_
    refine y_ifeq hC d_law_1207 (sX_in _ _) (fun q => absurd q hz) (fun _ => ?_)
    refine y_iconst hC d_law_1210 ?_
    refine y_goto hC d_law_1211 ?_
    refine y_swap (y_call (σ1 := τ1) (r := r) (R' := R_X12_image) (As := [vi 1]) (rest := [vi r]) hC.sw d_law_1215 cv_L_161 rfl hA'.1 rfl rfl ⟨rfl, rfl, by decide, by decide⟩ (Nat.le_of_ble_eq_true rfl) hw' rfl (c_X12_image κ' 0 hA' _ (inr_d rfl) τ r τ1 e2) rfl (fun hw2 => y_swap ?_ hC.2.2.1.symm)) hC.2.2.1
    refine y_same hC d_law_1218 ?_
    exact k σ1 τ1 h1 hw1 hw2
theorem cs_35 (hC : LC κ κ' p s m meth c b L xs) (hA : At11 κ 0) (hA' : At12 κ' 0) (hi : 0 ≤ i ∧ i + 6 ≤ (L : Int)) (h : IV σ τ) (hw : WF σ) (hw' : WF τ) (k : ∀ σ1 τ1 : Mem, IV σ1 τ1 → WF σ1 → WF τ1 → LW κ κ' p e s m below meth c b 1246 [some (.ref b), some (vr κ 0), some (vr κ' 0), some (vi i)] [] σ1 τ1) : LW κ κ' p e s m below meth c b 1223 [some (.ref b), some (vr κ 0), some (vr κ' 0), some (vi i)] [] σ τ := by
  obtain ⟨r, σ1, τ1, e1, e2, h1⟩ := k_look h (sX xs (i + 1))
  refine y_aload_n hC d_law_1223 rfl ?_
  refine y_aload_n hC d_law_1224 rfl ?_
  refine y_iload_n (v := i) hC d_law_1225 rfl ?_
  refine y_iconst hC d_law_1226 ?_
  refine y_iadd (z := i + 1) hC d_law_1227 rfl ?_
  refine y_sld (j := i + 1) hC (by omega) d_law_1228 ?_
  refine y_call (σ1 := σ1) (r := r) (R' := R_X11_look) (As := [vi (sX xs (i + 1))]) (rest := []) hC d_law_1229 cv_L_162 rfl hA.1 rfl rfl ⟨rfl, rfl, by decide, by decide⟩ (Nat.le_of_ble_eq_true rfl) hw rfl (c_X11_look κ 0 hA _ (sX_in xs _) σ r σ1 e1) rfl (fun hw1 => ?_)
  refine y_aload_n hC d_law_1232 rfl ?_
  refine y_aload_n hC d_law_1233 rfl ?_
  refine y_iload_n (v := i) hC d_law_1234 rfl ?_
  refine y_iconst hC d_law_1235 ?_
  refine y_iadd (z := i + 1) hC d_law_1236 rfl ?_
  refine y_sld (j := i + 1) hC (by omega) d_law_1237 ?_
  refine y_swap (y_call (σ1 := τ1) (r := r) (R' := R_X12_look) (As := [vi (sX xs (i + 1))]) (rest := [vi r]) hC.sw d_law_1238 cv_L_165 rfl hA'.1 rfl rfl ⟨rfl, rfl, by decide, by decide⟩ (Nat.le_of_ble_eq_true rfl) hw' rfl (c_X12_look κ' 0 hA' _ (sX_in xs _) τ r τ1 e2) rfl (fun hw2 => y_swap ?_ hC.2.2.1.symm)) hC.2.2.1
  refine y_same hC d_law_1241 ?_
  exact k σ1 τ1 h1 hw1 hw2
end
