section RBM
variable {z : rb_Z} {g : rb_Gd} {b L : Nat} {xs : Nat → Int32} {cs sl : Nat} {Q : State → Prop} {σ τ : rb_St} {o : Nat → Int64}
theorem lc_feed (hC : rb_Lx z g b L xs cs sl) {i : Nat} (hi : i + 6 ≤ L) {r : Int32} {σ' : rb_St} {τ' : rb_St} (h1 : xf_RP_feed (xs (i + 1)) (xs (i + 2)) (xs (i + 3)) (xs (i + 4)) (xs (i + 5)) σ = some (r, σ')) (h2 : xf_M_feed (xs (i + 1)) (xs (i + 2)) (xs (i + 3)) (xs (i + 4)) (xs (i + 5)) τ = some (r, τ')) (kk : rb_LAt z g cs sl Q 1620 (rb_lv g b i) [] σ' τ' o) : rb_LAt z g cs sl Q 220 (rb_lv g b i) [] σ τ o := by
  refine rb_l_aload_n hC 1 dL_law_220 rfl ?_
  refine rb_l_arg hC 1 (by decide) hi (by decide) rfl rfl dL_law_221 dL_law_222 dL_law_224 dL_law_225 dL_law_226 ?_
  refine rb_l_arg hC 2 (by decide) hi (by decide) rfl rfl dL_law_227 dL_law_228 dL_law_230 dL_law_231 dL_law_232 ?_
  refine rb_l_arg hC 3 (by decide) hi (by decide) rfl rfl dL_law_233 dL_law_234 dL_law_236 dL_law_237 dL_law_238 ?_
  refine rb_l_arg hC 4 (by decide) hi (by decide) rfl rfl dL_law_239 dL_law_240 dL_law_242 dL_law_243 dL_law_244 ?_
  refine rb_l_arg hC 5 (by decide) hi (by decide) rfl rfl dL_law_245 dL_law_246 dL_law_248 dL_law_249 dL_law_250 ?_
  refine rb_l_call1 hC mv_L_19 (xc_RP_feed (xs (i + 1)) (xs (i + 2)) (xs (i + 3)) (xs (i + 4)) (xs (i + 5)) σ r σ' h1) lo_X rfl [.int (xs (i + 1)), .int (xs (i + 2)), .int (xs (i + 3)), .int (xs (i + 4)), .int (xs (i + 5))] rfl rfl rfl ⟨by decide, by decide⟩ (Nat.le_of_ble_eq_true rfl) dL_law_251 ?_
  refine rb_l_aload_n hC 2 dL_law_254 rfl ?_
  refine rb_l_arg hC 1 (by decide) hi (by decide) rfl rfl dL_law_255 dL_law_256 dL_law_258 dL_law_259 dL_law_260 ?_
  refine rb_l_arg hC 2 (by decide) hi (by decide) rfl rfl dL_law_261 dL_law_262 dL_law_264 dL_law_265 dL_law_266 ?_
  refine rb_l_arg hC 3 (by decide) hi (by decide) rfl rfl dL_law_267 dL_law_268 dL_law_270 dL_law_271 dL_law_272 ?_
  refine rb_l_arg hC 4 (by decide) hi (by decide) rfl rfl dL_law_273 dL_law_274 dL_law_276 dL_law_277 dL_law_278 ?_
  refine rb_l_arg hC 5 (by decide) hi (by decide) rfl rfl dL_law_279 dL_law_280 dL_law_282 dL_law_283 dL_law_284 ?_
  refine rb_l_call2 hC mv_L_23 (xc_M_feed (xs (i + 1)) (xs (i + 2)) (xs (i + 3)) (xs (i + 4)) (xs (i + 5)) τ r τ' h2) lo_M rfl [.int (xs (i + 1)), .int (xs (i + 2)), .int (xs (i + 3)), .int (xs (i + 4)), .int (xs (i + 5))] rfl rfl rfl ⟨by decide, by decide⟩ (Nat.le_of_ble_eq_true rfl) dL_law_285 ?_
  exact rb_l_icmp_eq hC 1620 dL_law_288 (by decide) (fun _ => kk) (fun h => absurd rfl h)
theorem lc_end (hC : rb_Lx z g b L xs cs sl) {i : Nat} (hi : i + 6 ≤ L) {r : Int32} {σ' : rb_St} {τ' : rb_St} (h1 : xf_RP_end (xs (i + 1)) σ = some (r, σ')) (h2 : xf_M_end (xs (i + 1)) τ = some (r, τ')) (kk : rb_LAt z g cs sl Q 1620 (rb_lv g b i) [] σ' τ' o) : rb_LAt z g cs sl Q 293 (rb_lv g b i) [] σ τ o := by
  refine rb_l_aload_n hC 1 dL_law_293 rfl ?_
  refine rb_l_arg hC 1 (by decide) hi (by decide) rfl rfl dL_law_294 dL_law_295 dL_law_297 dL_law_298 dL_law_299 ?_
  refine rb_l_call1 hC mv_L_24 (xc_RP_end (xs (i + 1)) σ r σ' h1) lo_X rfl [.int (xs (i + 1))] rfl rfl rfl ⟨by decide, by decide⟩ (Nat.le_of_ble_eq_true rfl) dL_law_300 ?_
  refine rb_l_aload_n hC 2 dL_law_303 rfl ?_
  refine rb_l_arg hC 1 (by decide) hi (by decide) rfl rfl dL_law_304 dL_law_305 dL_law_307 dL_law_308 dL_law_309 ?_
  refine rb_l_call2 hC mv_L_28 (xc_M_end (xs (i + 1)) τ r τ' h2) lo_M rfl [.int (xs (i + 1))] rfl rfl rfl ⟨by decide, by decide⟩ (Nat.le_of_ble_eq_true rfl) dL_law_310 ?_
  exact rb_l_icmp_eq hC 1620 dL_law_313 (by decide) (fun _ => kk) (fun h => absurd rfl h)
theorem lc_fault0 (hC : rb_Lx z g b L xs cs sl) {i : Nat} (hi : i + 6 ≤ L) (e0 : xs (i + 1) = 0) {r : Int32} {σ' : rb_St} {τ' : rb_St} (h1 : xf_RP_fault0  σ = some (r, σ')) (h2 : xf_M_fault (xs (i + 1)) τ = some (r, τ')) (kk : rb_LAt z g cs sl Q 1620 (rb_lv g b i) [] σ' τ' o) : rb_LAt z g cs sl Q 318 (rb_lv g b i) [] σ τ o := by
  refine rb_l_aload_n hC 1 dL_law_318 rfl ?_
  refine rb_l_arg hC 1 (by decide) hi (by decide) rfl rfl dL_law_319 dL_law_320 dL_law_322 dL_law_323 dL_law_324 ?_
  refine rb_l_call1 hC mv_L_29 (xc_RP_fault0  σ r σ' h1) lo_X rfl [.int (xs (i + 1))] (by rw [e0]) rfl rfl ⟨by decide, by decide⟩ (Nat.le_of_ble_eq_true rfl) dL_law_325 ?_
  refine rb_l_aload_n hC 2 dL_law_328 rfl ?_
  refine rb_l_arg hC 1 (by decide) hi (by decide) rfl rfl dL_law_329 dL_law_330 dL_law_332 dL_law_333 dL_law_334 ?_
  refine rb_l_call2 hC mv_L_33 (xc_M_fault (xs (i + 1)) τ r τ' h2) lo_M rfl [.int (xs (i + 1))] rfl rfl rfl ⟨by decide, by decide⟩ (Nat.le_of_ble_eq_true rfl) dL_law_335 ?_
  exact rb_l_icmp_eq hC 1620 dL_law_338 (by decide) (fun _ => kk) (fun h => absurd rfl h)
theorem lc_fault1 (hC : rb_Lx z g b L xs cs sl) {i : Nat} (hi : i + 6 ≤ L) (e0 : xs (i + 1) = 1) {r : Int32} {σ' : rb_St} {τ' : rb_St} (h1 : xf_RP_fault1  σ = some (r, σ')) (h2 : xf_M_fault (xs (i + 1)) τ = some (r, τ')) (kk : rb_LAt z g cs sl Q 1620 (rb_lv g b i) [] σ' τ' o) : rb_LAt z g cs sl Q 318 (rb_lv g b i) [] σ τ o := by
  refine rb_l_aload_n hC 1 dL_law_318 rfl ?_
  refine rb_l_arg hC 1 (by decide) hi (by decide) rfl rfl dL_law_319 dL_law_320 dL_law_322 dL_law_323 dL_law_324 ?_
  refine rb_l_call1 hC mv_L_29 (xc_RP_fault1  σ r σ' h1) lo_X rfl [.int (xs (i + 1))] (by rw [e0]) rfl rfl ⟨by decide, by decide⟩ (Nat.le_of_ble_eq_true rfl) dL_law_325 ?_
  refine rb_l_aload_n hC 2 dL_law_328 rfl ?_
  refine rb_l_arg hC 1 (by decide) hi (by decide) rfl rfl dL_law_329 dL_law_330 dL_law_332 dL_law_333 dL_law_334 ?_
  refine rb_l_call2 hC mv_L_33 (xc_M_fault (xs (i + 1)) τ r τ' h2) lo_M rfl [.int (xs (i + 1))] rfl rfl rfl ⟨by decide, by decide⟩ (Nat.le_of_ble_eq_true rfl) dL_law_335 ?_
  exact rb_l_icmp_eq hC 1620 dL_law_338 (by decide) (fun _ => kk) (fun h => absurd rfl h)
theorem lc_fault2 (hC : rb_Lx z g b L xs cs sl) {i : Nat} (hi : i + 6 ≤ L) (e0 : xs (i + 1) = 2) {r : Int32} {σ' : rb_St} {τ' : rb_St} (h1 : xf_RP_fault2  σ = some (r, σ')) (h2 : xf_M_fault (xs (i + 1)) τ = some (r, τ')) (kk : rb_LAt z g cs sl Q 1620 (rb_lv g b i) [] σ' τ' o) : rb_LAt z g cs sl Q 318 (rb_lv g b i) [] σ τ o := by
  refine rb_l_aload_n hC 1 dL_law_318 rfl ?_
  refine rb_l_arg hC 1 (by decide) hi (by decide) rfl rfl dL_law_319 dL_law_320 dL_law_322 dL_law_323 dL_law_324 ?_
  refine rb_l_call1 hC mv_L_29 (xc_RP_fault2  σ r σ' h1) lo_X rfl [.int (xs (i + 1))] (by rw [e0]) rfl rfl ⟨by decide, by decide⟩ (Nat.le_of_ble_eq_true rfl) dL_law_325 ?_
  refine rb_l_aload_n hC 2 dL_law_328 rfl ?_
  refine rb_l_arg hC 1 (by decide) hi (by decide) rfl rfl dL_law_329 dL_law_330 dL_law_332 dL_law_333 dL_law_334 ?_
  refine rb_l_call2 hC mv_L_33 (xc_M_fault (xs (i + 1)) τ r τ' h2) lo_M rfl [.int (xs (i + 1))] rfl rfl rfl ⟨by decide, by decide⟩ (Nat.le_of_ble_eq_true rfl) dL_law_335 ?_
  exact rb_l_icmp_eq hC 1620 dL_law_338 (by decide) (fun _ => kk) (fun h => absurd rfl h)
theorem lc_fault_o (hC : rb_Lx z g b L xs cs sl) {i : Nat} (hi : i + 6 ≤ L) (n0 : ¬ xs (i + 1) = 0) (n1 : ¬ xs (i + 1) = 1) (n2 : ¬ xs (i + 1) = 2) {r : Int32} {σ' : rb_St} {τ' : rb_St} (h1 : xf_RP_fault_o (xs (i + 1)) σ = some (r, σ')) (h2 : xf_M_fault (xs (i + 1)) τ = some (r, τ')) (kk : rb_LAt z g cs sl Q 1620 (rb_lv g b i) [] σ' τ' o) : rb_LAt z g cs sl Q 318 (rb_lv g b i) [] σ τ o := by
  refine rb_l_aload_n hC 1 dL_law_318 rfl ?_
  refine rb_l_arg hC 1 (by decide) hi (by decide) rfl rfl dL_law_319 dL_law_320 dL_law_322 dL_law_323 dL_law_324 ?_
  refine rb_l_call1 hC mv_L_29 (xc_RP_fault_o (xs (i + 1)) n0 n1 n2 σ r σ' h1) lo_X rfl [.int (xs (i + 1))] rfl rfl rfl ⟨by decide, by decide⟩ (Nat.le_of_ble_eq_true rfl) dL_law_325 ?_
  refine rb_l_aload_n hC 2 dL_law_328 rfl ?_
  refine rb_l_arg hC 1 (by decide) hi (by decide) rfl rfl dL_law_329 dL_law_330 dL_law_332 dL_law_333 dL_law_334 ?_
  refine rb_l_call2 hC mv_L_33 (xc_M_fault (xs (i + 1)) τ r τ' h2) lo_M rfl [.int (xs (i + 1))] rfl rfl rfl ⟨by decide, by decide⟩ (Nat.le_of_ble_eq_true rfl) dL_law_335 ?_
  exact rb_l_icmp_eq hC 1620 dL_law_338 (by decide) (fun _ => kk) (fun h => absurd rfl h)
theorem lc_text0 (hC : rb_Lx z g b L xs cs sl) {i : Nat} (hi : i + 6 ≤ L) (e0 : xs (i + 1) = 0) {r : Int32} {σ' : rb_St} {τ' : rb_St} (h1 : xf_RP_text0  σ = some (r, σ')) (h2 : xf_M_text (xs (i + 1)) τ = some (r, τ')) (kk : rb_LAt z g cs sl Q 1620 (rb_lv g b i) [] σ' τ' o) : rb_LAt z g cs sl Q 343 (rb_lv g b i) [] σ τ o := by
  refine rb_l_aload_n hC 1 dL_law_343 rfl ?_
  refine rb_l_arg hC 1 (by decide) hi (by decide) rfl rfl dL_law_344 dL_law_345 dL_law_347 dL_law_348 dL_law_349 ?_
  refine rb_l_call1 hC mv_L_34 (xc_RP_text0  σ r σ' h1) lo_X rfl [.int (xs (i + 1))] (by rw [e0]) rfl rfl ⟨by decide, by decide⟩ (Nat.le_of_ble_eq_true rfl) dL_law_350 ?_
  refine rb_l_aload_n hC 2 dL_law_353 rfl ?_
  refine rb_l_arg hC 1 (by decide) hi (by decide) rfl rfl dL_law_354 dL_law_355 dL_law_357 dL_law_358 dL_law_359 ?_
  refine rb_l_call2 hC mv_L_37 (xc_M_text (xs (i + 1)) τ r τ' h2) lo_M rfl [.int (xs (i + 1))] rfl rfl rfl ⟨by decide, by decide⟩ (Nat.le_of_ble_eq_true rfl) dL_law_360 ?_
  exact rb_l_icmp_eq hC 1620 dL_law_363 (by decide) (fun _ => kk) (fun h => absurd rfl h)
theorem lc_text1 (hC : rb_Lx z g b L xs cs sl) {i : Nat} (hi : i + 6 ≤ L) (e0 : xs (i + 1) = 1) {r : Int32} {σ' : rb_St} {τ' : rb_St} (h1 : xf_RP_text1  σ = some (r, σ')) (h2 : xf_M_text (xs (i + 1)) τ = some (r, τ')) (kk : rb_LAt z g cs sl Q 1620 (rb_lv g b i) [] σ' τ' o) : rb_LAt z g cs sl Q 343 (rb_lv g b i) [] σ τ o := by
  refine rb_l_aload_n hC 1 dL_law_343 rfl ?_
  refine rb_l_arg hC 1 (by decide) hi (by decide) rfl rfl dL_law_344 dL_law_345 dL_law_347 dL_law_348 dL_law_349 ?_
  refine rb_l_call1 hC mv_L_34 (xc_RP_text1  σ r σ' h1) lo_X rfl [.int (xs (i + 1))] (by rw [e0]) rfl rfl ⟨by decide, by decide⟩ (Nat.le_of_ble_eq_true rfl) dL_law_350 ?_
  refine rb_l_aload_n hC 2 dL_law_353 rfl ?_
  refine rb_l_arg hC 1 (by decide) hi (by decide) rfl rfl dL_law_354 dL_law_355 dL_law_357 dL_law_358 dL_law_359 ?_
  refine rb_l_call2 hC mv_L_37 (xc_M_text (xs (i + 1)) τ r τ' h2) lo_M rfl [.int (xs (i + 1))] rfl rfl rfl ⟨by decide, by decide⟩ (Nat.le_of_ble_eq_true rfl) dL_law_360 ?_
  exact rb_l_icmp_eq hC 1620 dL_law_363 (by decide) (fun _ => kk) (fun h => absurd rfl h)
theorem lc_text2 (hC : rb_Lx z g b L xs cs sl) {i : Nat} (hi : i + 6 ≤ L) (e0 : xs (i + 1) = 2) {r : Int32} {σ' : rb_St} {τ' : rb_St} (h1 : xf_RP_text2  σ = some (r, σ')) (h2 : xf_M_text (xs (i + 1)) τ = some (r, τ')) (kk : rb_LAt z g cs sl Q 1620 (rb_lv g b i) [] σ' τ' o) : rb_LAt z g cs sl Q 343 (rb_lv g b i) [] σ τ o := by
  refine rb_l_aload_n hC 1 dL_law_343 rfl ?_
  refine rb_l_arg hC 1 (by decide) hi (by decide) rfl rfl dL_law_344 dL_law_345 dL_law_347 dL_law_348 dL_law_349 ?_
  refine rb_l_call1 hC mv_L_34 (xc_RP_text2  σ r σ' h1) lo_X rfl [.int (xs (i + 1))] (by rw [e0]) rfl rfl ⟨by decide, by decide⟩ (Nat.le_of_ble_eq_true rfl) dL_law_350 ?_
  refine rb_l_aload_n hC 2 dL_law_353 rfl ?_
  refine rb_l_arg hC 1 (by decide) hi (by decide) rfl rfl dL_law_354 dL_law_355 dL_law_357 dL_law_358 dL_law_359 ?_
  refine rb_l_call2 hC mv_L_37 (xc_M_text (xs (i + 1)) τ r τ' h2) lo_M rfl [.int (xs (i + 1))] rfl rfl rfl ⟨by decide, by decide⟩ (Nat.le_of_ble_eq_true rfl) dL_law_360 ?_
  exact rb_l_icmp_eq hC 1620 dL_law_363 (by decide) (fun _ => kk) (fun h => absurd rfl h)
theorem lc_text_o (hC : rb_Lx z g b L xs cs sl) {i : Nat} (hi : i + 6 ≤ L) (n0 : ¬ xs (i + 1) = 0) (n1 : ¬ xs (i + 1) = 1) (n2 : ¬ xs (i + 1) = 2) {r : Int32} {σ' : rb_St} {τ' : rb_St} (h1 : xf_RP_text_o (xs (i + 1)) σ = some (r, σ')) (h2 : xf_M_text (xs (i + 1)) τ = some (r, τ')) (kk : rb_LAt z g cs sl Q 1620 (rb_lv g b i) [] σ' τ' o) : rb_LAt z g cs sl Q 343 (rb_lv g b i) [] σ τ o := by
  refine rb_l_aload_n hC 1 dL_law_343 rfl ?_
  refine rb_l_arg hC 1 (by decide) hi (by decide) rfl rfl dL_law_344 dL_law_345 dL_law_347 dL_law_348 dL_law_349 ?_
  refine rb_l_call1 hC mv_L_34 (xc_RP_text_o (xs (i + 1)) n0 n1 n2 σ r σ' h1) lo_X rfl [.int (xs (i + 1))] rfl rfl rfl ⟨by decide, by decide⟩ (Nat.le_of_ble_eq_true rfl) dL_law_350 ?_
  refine rb_l_aload_n hC 2 dL_law_353 rfl ?_
  refine rb_l_arg hC 1 (by decide) hi (by decide) rfl rfl dL_law_354 dL_law_355 dL_law_357 dL_law_358 dL_law_359 ?_
  refine rb_l_call2 hC mv_L_37 (xc_M_text (xs (i + 1)) τ r τ' h2) lo_M rfl [.int (xs (i + 1))] rfl rfl rfl ⟨by decide, by decide⟩ (Nat.le_of_ble_eq_true rfl) dL_law_360 ?_
  exact rb_l_icmp_eq hC 1620 dL_law_363 (by decide) (fun _ => kk) (fun h => absurd rfl h)
theorem lc_rule (hC : rb_Lx z g b L xs cs sl) {i : Nat} (hi : i + 6 ≤ L) {r : Int32} (h1 : xf_RP_rule (xs (i + 1)) σ = r) (h2 : xf_M_rule (xs (i + 1)) τ = some r) (kk : rb_LAt z g cs sl Q 1620 (rb_lv g b i) [] σ τ o) : rb_LAt z g cs sl Q 368 (rb_lv g b i) [] σ τ o := by
  refine rb_l_aload_n hC 1 dL_law_368 rfl ?_
  refine rb_l_arg hC 1 (by decide) hi (by decide) rfl rfl dL_law_369 dL_law_370 dL_law_372 dL_law_373 dL_law_374 ?_
  refine rb_l_call1 hC mv_L_38 (xc_RP_rule (xs (i + 1)) σ r h1) lo_X rfl [.int (xs (i + 1))] rfl rfl rfl ⟨by decide, by decide⟩ (Nat.le_of_ble_eq_true rfl) dL_law_375 ?_
  refine rb_l_aload_n hC 2 dL_law_378 rfl ?_
  refine rb_l_arg hC 1 (by decide) hi (by decide) rfl rfl dL_law_379 dL_law_380 dL_law_382 dL_law_383 dL_law_384 ?_
  refine rb_l_call2 hC mv_L_41 (xc_M_rule (xs (i + 1)) τ r h2) lo_M rfl [.int (xs (i + 1))] rfl rfl rfl ⟨by decide, by decide⟩ (Nat.le_of_ble_eq_true rfl) dL_law_385 ?_
  exact rb_l_icmp_eq hC 1620 dL_law_388 (by decide) (fun _ => kk) (fun h => absurd rfl h)
theorem lc_stands (hC : rb_Lx z g b L xs cs sl) {i : Nat} (hi : i + 6 ≤ L) {r : Int32} (h1 : xf_RP_stands (xs (i + 1)) σ = some r) (h2 : xf_M_stands (xs (i + 1)) τ = some r) (kk : rb_LAt z g cs sl Q 1620 (rb_lv g b i) [] σ τ o) : rb_LAt z g cs sl Q 461 (rb_lv g b i) [] σ τ o := by
  refine rb_l_aload_n hC 1 dL_law_461 rfl ?_
  refine rb_l_arg hC 1 (by decide) hi (by decide) rfl rfl dL_law_462 dL_law_463 dL_law_465 dL_law_466 dL_law_467 ?_
  refine rb_l_call1 hC mv_L_52 (xc_RP_stands (xs (i + 1)) σ r h1) lo_X rfl [.int (xs (i + 1))] rfl rfl rfl ⟨by decide, by decide⟩ (Nat.le_of_ble_eq_true rfl) dL_law_468 ?_
  refine rb_l_aload_n hC 2 dL_law_471 rfl ?_
  refine rb_l_arg hC 1 (by decide) hi (by decide) rfl rfl dL_law_472 dL_law_473 dL_law_475 dL_law_476 dL_law_477 ?_
  refine rb_l_call2 hC mv_L_55 (xc_M_stands (xs (i + 1)) τ r h2) lo_M rfl [.int (xs (i + 1))] rfl rfl rfl ⟨by decide, by decide⟩ (Nat.le_of_ble_eq_true rfl) dL_law_478 ?_
  exact rb_l_icmp_eq hC 1620 dL_law_481 (by decide) (fun _ => kk) (fun h => absurd rfl h)
theorem lc_law (hC : rb_Lx z g b L xs cs sl) {i : Nat} (hi : i + 6 ≤ L) {r : Int32} {σ' : rb_St} {τ' : rb_St} (h1 : xf_RP_law (xs (i + 1)) σ = some (r, σ')) (h2 : xf_M_law (xs (i + 1)) τ = some (r, τ')) (kk : rb_LAt z g cs sl Q 1620 (rb_lv g b i) [] σ' τ' o) : rb_LAt z g cs sl Q 486 (rb_lv g b i) [] σ τ o := by
  refine rb_l_aload_n hC 1 dL_law_486 rfl ?_
  refine rb_l_arg hC 1 (by decide) hi (by decide) rfl rfl dL_law_487 dL_law_488 dL_law_490 dL_law_491 dL_law_492 ?_
  refine rb_l_call1 hC mv_L_56 (xc_RP_law (xs (i + 1)) σ r σ' h1) lo_X rfl [.int (xs (i + 1))] rfl rfl rfl ⟨by decide, by decide⟩ (Nat.le_of_ble_eq_true rfl) dL_law_493 ?_
  refine rb_l_aload_n hC 2 dL_law_496 rfl ?_
  refine rb_l_arg hC 1 (by decide) hi (by decide) rfl rfl dL_law_497 dL_law_498 dL_law_500 dL_law_501 dL_law_502 ?_
  refine rb_l_call2 hC mv_L_59 (xc_M_law (xs (i + 1)) τ r τ' h2) lo_M rfl [.int (xs (i + 1))] rfl rfl rfl ⟨by decide, by decide⟩ (Nat.le_of_ble_eq_true rfl) dL_law_503 ?_
  exact rb_l_icmp_eq hC 1620 dL_law_506 (by decide) (fun _ => kk) (fun h => absurd rfl h)
theorem lc_step (hC : rb_Lx z g b L xs cs sl) {i : Nat} (hi : i + 6 ≤ L) {r : Int32} (h1 : xf_RP_step (xs (i + 1)) (xs (i + 2)) σ = some r) (h2 : xf_M_step (xs (i + 1)) (xs (i + 2)) τ = some r) (kk : rb_LAt z g cs sl Q 1620 (rb_lv g b i) [] σ τ o) : rb_LAt z g cs sl Q 511 (rb_lv g b i) [] σ τ o := by
  refine rb_l_aload_n hC 1 dL_law_511 rfl ?_
  refine rb_l_arg hC 1 (by decide) hi (by decide) rfl rfl dL_law_512 dL_law_513 dL_law_515 dL_law_516 dL_law_517 ?_
  refine rb_l_arg hC 2 (by decide) hi (by decide) rfl rfl dL_law_518 dL_law_519 dL_law_521 dL_law_522 dL_law_523 ?_
  refine rb_l_call1 hC mv_L_60 (xc_RP_step (xs (i + 1)) (xs (i + 2)) σ r h1) lo_X rfl [.int (xs (i + 1)), .int (xs (i + 2))] rfl rfl rfl ⟨by decide, by decide⟩ (Nat.le_of_ble_eq_true rfl) dL_law_524 ?_
  refine rb_l_aload_n hC 2 dL_law_527 rfl ?_
  refine rb_l_arg hC 1 (by decide) hi (by decide) rfl rfl dL_law_528 dL_law_529 dL_law_531 dL_law_532 dL_law_533 ?_
  refine rb_l_arg hC 2 (by decide) hi (by decide) rfl rfl dL_law_534 dL_law_535 dL_law_537 dL_law_538 dL_law_539 ?_
  refine rb_l_call2 hC mv_L_63 (xc_M_step (xs (i + 1)) (xs (i + 2)) τ r h2) lo_M rfl [.int (xs (i + 1)), .int (xs (i + 2))] rfl rfl rfl ⟨by decide, by decide⟩ (Nat.le_of_ble_eq_true rfl) dL_law_540 ?_
  exact rb_l_icmp_eq hC 1620 dL_law_543 (by decide) (fun _ => kk) (fun h => absurd rfl h)
theorem lc_plait (hC : rb_Lx z g b L xs cs sl) {i : Nat} (hi : i + 6 ≤ L) {r : Int32} {σ' : rb_St} {τ' : rb_St} (h1 : xf_RP_plait (xs (i + 1)) (xs (i + 2)) σ = some (r, σ')) (h2 : xf_M_plait (xs (i + 1)) (xs (i + 2)) τ = some (r, τ')) (kk : rb_LAt z g cs sl Q 1620 (rb_lv g b i) [] σ' τ' o) : rb_LAt z g cs sl Q 548 (rb_lv g b i) [] σ τ o := by
  refine rb_l_aload_n hC 1 dL_law_548 rfl ?_
  refine rb_l_arg hC 1 (by decide) hi (by decide) rfl rfl dL_law_549 dL_law_550 dL_law_552 dL_law_553 dL_law_554 ?_
  refine rb_l_arg hC 2 (by decide) hi (by decide) rfl rfl dL_law_555 dL_law_556 dL_law_558 dL_law_559 dL_law_560 ?_
  refine rb_l_call1 hC mv_L_64 (xc_RP_plait (xs (i + 1)) (xs (i + 2)) σ r σ' h1) lo_X rfl [.int (xs (i + 1)), .int (xs (i + 2))] rfl rfl rfl ⟨by decide, by decide⟩ (Nat.le_of_ble_eq_true rfl) dL_law_561 ?_
  refine rb_l_aload_n hC 2 dL_law_564 rfl ?_
  refine rb_l_arg hC 1 (by decide) hi (by decide) rfl rfl dL_law_565 dL_law_566 dL_law_568 dL_law_569 dL_law_570 ?_
  refine rb_l_arg hC 2 (by decide) hi (by decide) rfl rfl dL_law_571 dL_law_572 dL_law_574 dL_law_575 dL_law_576 ?_
  refine rb_l_call2 hC mv_L_67 (xc_M_plait (xs (i + 1)) (xs (i + 2)) τ r τ' h2) lo_M rfl [.int (xs (i + 1)), .int (xs (i + 2))] rfl rfl rfl ⟨by decide, by decide⟩ (Nat.le_of_ble_eq_true rfl) dL_law_577 ?_
  exact rb_l_icmp_eq hC 1620 dL_law_580 (by decide) (fun _ => kk) (fun h => absurd rfl h)
theorem lc_cross (hC : rb_Lx z g b L xs cs sl) {i : Nat} (hi : i + 6 ≤ L) {r : Int32} {σ' : rb_St} {τ' : rb_St} (h1 : xf_RP_cross (xs (i + 1)) (rb_zb (xs (i + 2))) σ = some (r, σ')) (h2 : xf_M_cross (xs (i + 1)) (rb_zb (xs (i + 2))) τ = some (r, τ')) (kk : rb_LAt z g cs sl Q 1620 (rb_lv g b i) [] σ' τ' o) : rb_LAt z g cs sl Q 585 (rb_lv g b i) [] σ τ o := by
  refine rb_l_aload_n hC 1 dL_law_585 rfl ?_
  refine rb_l_arg hC 1 (by decide) hi (by decide) rfl rfl dL_law_586 dL_law_587 dL_law_589 dL_law_590 dL_law_591 ?_
  refine rb_l_arg hC 2 (by decide) hi (by decide) rfl rfl dL_law_592 dL_law_593 dL_law_595 dL_law_596 dL_law_597 ?_
  refine rb_l_bool hC dL_law_598 rfl dL_law_601 rfl dL_law_602 (by decide) dL_law_605 rfl (by decide) ?_
  refine rb_l_call1 hC mv_L_68 (xc_RP_cross (xs (i + 1)) (rb_zb (xs (i + 2))) σ r σ' h1) lo_X rfl [.int (xs (i + 1)), .int (rb_zb (xs (i + 2)))] rfl rfl rfl ⟨by decide, by decide⟩ (Nat.le_of_ble_eq_true rfl) dL_law_606 ?_
  refine rb_l_aload_n hC 2 dL_law_609 rfl ?_
  refine rb_l_arg hC 1 (by decide) hi (by decide) rfl rfl dL_law_610 dL_law_611 dL_law_613 dL_law_614 dL_law_615 ?_
  refine rb_l_arg hC 2 (by decide) hi (by decide) rfl rfl dL_law_616 dL_law_617 dL_law_619 dL_law_620 dL_law_621 ?_
  refine rb_l_bool hC dL_law_622 rfl dL_law_625 rfl dL_law_626 (by decide) dL_law_629 rfl (by decide) ?_
  refine rb_l_call2 hC mv_L_72 (xc_M_cross (xs (i + 1)) (rb_zb (xs (i + 2))) τ r τ' h2) lo_M rfl [.int (xs (i + 1)), .int (rb_zb (xs (i + 2)))] rfl rfl rfl ⟨by decide, by decide⟩ (Nat.le_of_ble_eq_true rfl) dL_law_630 ?_
  exact rb_l_icmp_eq hC 1620 dL_law_633 (by decide) (fun _ => kk) (fun h => absurd rfl h)
theorem lc_beat (hC : rb_Lx z g b L xs cs sl) {i : Nat} (hi : i + 6 ≤ L) {r : Int32} {σ' : rb_St} {τ' : rb_St} (h1 : xf_RP_beat  σ = some (r, σ')) (h2 : xf_M_beat  τ = some (r, τ')) (kk : rb_LAt z g cs sl Q 1620 (rb_lv g b i) [] σ' τ' o) : rb_LAt z g cs sl Q 638 (rb_lv g b i) [] σ τ o := by
  refine rb_l_aload_n hC 1 dL_law_638 rfl ?_
  refine rb_l_call1 hC mv_L_73 (xc_RP_beat  σ r σ' h1) lo_X rfl [] rfl rfl rfl ⟨by decide, by decide⟩ (Nat.le_of_ble_eq_true rfl) dL_law_639 ?_
  refine rb_l_aload_n hC 2 dL_law_642 rfl ?_
  refine rb_l_call2 hC mv_L_76 (xc_M_beat  τ r τ' h2) lo_M rfl [] rfl rfl rfl ⟨by decide, by decide⟩ (Nat.le_of_ble_eq_true rfl) dL_law_643 ?_
  exact rb_l_icmp_eq hC 1620 dL_law_646 (by decide) (fun _ => kk) (fun h => absurd rfl h)
theorem lc_dance (hC : rb_Lx z g b L xs cs sl) {i : Nat} (hi : i + 6 ≤ L) {r : Int32} {σ' : rb_St} {τ' : rb_St} (h1 : xf_RP_dance (xs (i + 1)) σ = some (r, σ')) (h2 : xf_M_dance (xs (i + 1)) τ = some (r, τ')) (kk : rb_LAt z g cs sl Q 1620 (rb_lv g b i) [] σ' τ' o) : rb_LAt z g cs sl Q 651 (rb_lv g b i) [] σ τ o := by
  refine rb_l_aload_n hC 1 dL_law_651 rfl ?_
  refine rb_l_arg hC 1 (by decide) hi (by decide) rfl rfl dL_law_652 dL_law_653 dL_law_655 dL_law_656 dL_law_657 ?_
  refine rb_l_call1 hC mv_L_77 (xc_RP_dance (xs (i + 1)) σ r σ' h1) lo_X rfl [.int (xs (i + 1))] rfl rfl rfl ⟨by decide, by decide⟩ (Nat.le_of_ble_eq_true rfl) dL_law_658 ?_
  refine rb_l_aload_n hC 2 dL_law_661 rfl ?_
  refine rb_l_arg hC 1 (by decide) hi (by decide) rfl rfl dL_law_662 dL_law_663 dL_law_665 dL_law_666 dL_law_667 ?_
  refine rb_l_call2 hC mv_L_80 (xc_M_dance (xs (i + 1)) τ r τ' h2) lo_M rfl [.int (xs (i + 1))] rfl rfl rfl ⟨by decide, by decide⟩ (Nat.le_of_ble_eq_true rfl) dL_law_668 ?_
  exact rb_l_icmp_eq hC 1620 dL_law_671 (by decide) (fun _ => kk) (fun h => absurd rfl h)
theorem lc_down (hC : rb_Lx z g b L xs cs sl) {i : Nat} (hi : i + 6 ≤ L) {r : Int32} {σ' : rb_St} {τ' : rb_St} (h1 : xf_RP_down (xs (i + 1)) σ = some (r, σ')) (h2 : xf_M_down (xs (i + 1)) τ = some (r, τ')) (kk : rb_LAt z g cs sl Q 1620 (rb_lv g b i) [] σ' τ' o) : rb_LAt z g cs sl Q 676 (rb_lv g b i) [] σ τ o := by
  refine rb_l_aload_n hC 1 dL_law_676 rfl ?_
  refine rb_l_arg hC 1 (by decide) hi (by decide) rfl rfl dL_law_677 dL_law_678 dL_law_680 dL_law_681 dL_law_682 ?_
  refine rb_l_call1 hC mv_L_81 (xc_RP_down (xs (i + 1)) σ r σ' h1) lo_X rfl [.int (xs (i + 1))] rfl rfl rfl ⟨by decide, by decide⟩ (Nat.le_of_ble_eq_true rfl) dL_law_683 ?_
  refine rb_l_aload_n hC 2 dL_law_686 rfl ?_
  refine rb_l_arg hC 1 (by decide) hi (by decide) rfl rfl dL_law_687 dL_law_688 dL_law_690 dL_law_691 dL_law_692 ?_
  refine rb_l_call2 hC mv_L_84 (xc_M_down (xs (i + 1)) τ r τ' h2) lo_M rfl [.int (xs (i + 1))] rfl rfl rfl ⟨by decide, by decide⟩ (Nat.le_of_ble_eq_true rfl) dL_law_693 ?_
  exact rb_l_icmp_eq hC 1620 dL_law_696 (by decide) (fun _ => kk) (fun h => absurd rfl h)
theorem lc_longer (hC : rb_Lx z g b L xs cs sl) {i : Nat} (hi : i + 6 ≤ L) {r : Int32} {σ' : rb_St} {τ' : rb_St} (h1 : xf_RP_longer (xs (i + 1)) (xs (i + 2)) σ = some (r, σ')) (h2 : xf_M_longer (xs (i + 1)) (xs (i + 2)) τ = some (r, τ')) (kk : rb_LAt z g cs sl Q 1620 (rb_lv g b i) [] σ' τ' o) : rb_LAt z g cs sl Q 701 (rb_lv g b i) [] σ τ o := by
  refine rb_l_aload_n hC 1 dL_law_701 rfl ?_
  refine rb_l_arg hC 1 (by decide) hi (by decide) rfl rfl dL_law_702 dL_law_703 dL_law_705 dL_law_706 dL_law_707 ?_
  refine rb_l_arg hC 2 (by decide) hi (by decide) rfl rfl dL_law_708 dL_law_709 dL_law_711 dL_law_712 dL_law_713 ?_
  refine rb_l_call1 hC mv_L_85 (xc_RP_longer (xs (i + 1)) (xs (i + 2)) σ r σ' h1) lo_X rfl [.int (xs (i + 1)), .int (xs (i + 2))] rfl rfl rfl ⟨by decide, by decide⟩ (Nat.le_of_ble_eq_true rfl) dL_law_714 ?_
  refine rb_l_aload_n hC 2 dL_law_717 rfl ?_
  refine rb_l_arg hC 1 (by decide) hi (by decide) rfl rfl dL_law_718 dL_law_719 dL_law_721 dL_law_722 dL_law_723 ?_
  refine rb_l_arg hC 2 (by decide) hi (by decide) rfl rfl dL_law_724 dL_law_725 dL_law_727 dL_law_728 dL_law_729 ?_
  refine rb_l_call2 hC mv_L_88 (xc_M_longer (xs (i + 1)) (xs (i + 2)) τ r τ' h2) lo_M rfl [.int (xs (i + 1)), .int (xs (i + 2))] rfl rfl rfl ⟨by decide, by decide⟩ (Nat.le_of_ble_eq_true rfl) dL_law_730 ?_
  exact rb_l_icmp_eq hC 1620 dL_law_733 (by decide) (fun _ => kk) (fun h => absurd rfl h)
theorem lc_give (hC : rb_Lx z g b L xs cs sl) {i : Nat} (hi : i + 6 ≤ L) {r : Int32} {σ' : rb_St} {τ' : rb_St} (h1 : xf_RP_give (xs (i + 1)) σ = some (r, σ')) (h2 : xf_M_give (xs (i + 1)) τ = some (r, τ')) (kk : rb_LAt z g cs sl Q 1620 (rb_lv g b i) [] σ' τ' o) : rb_LAt z g cs sl Q 738 (rb_lv g b i) [] σ τ o := by
  refine rb_l_aload_n hC 1 dL_law_738 rfl ?_
  refine rb_l_arg hC 1 (by decide) hi (by decide) rfl rfl dL_law_739 dL_law_740 dL_law_742 dL_law_743 dL_law_744 ?_
  refine rb_l_call1 hC mv_L_89 (xc_RP_give (xs (i + 1)) σ r σ' h1) lo_X rfl [.int (xs (i + 1))] rfl rfl rfl ⟨by decide, by decide⟩ (Nat.le_of_ble_eq_true rfl) dL_law_745 ?_
  refine rb_l_aload_n hC 2 dL_law_748 rfl ?_
  refine rb_l_arg hC 1 (by decide) hi (by decide) rfl rfl dL_law_749 dL_law_750 dL_law_752 dL_law_753 dL_law_754 ?_
  refine rb_l_call2 hC mv_L_92 (xc_M_give (xs (i + 1)) τ r τ' h2) lo_M rfl [.int (xs (i + 1))] rfl rfl rfl ⟨by decide, by decide⟩ (Nat.le_of_ble_eq_true rfl) dL_law_755 ?_
  exact rb_l_icmp_eq hC 1620 dL_law_758 (by decide) (fun _ => kk) (fun h => absurd rfl h)
theorem lc_years (hC : rb_Lx z g b L xs cs sl) {i : Nat} (hi : i + 6 ≤ L) {r : Int32} {σ' : rb_St} {τ' : rb_St} (h1 : xf_RP_years (xs (i + 1)) (((xs (i + 2)).toInt64 <<< ((32 : Int32).toInt64 &&& 63)) ||| ((xs (i + 3)).toInt64 &&& 4294967295)) σ = some (r, σ')) (h2 : xf_M_years (xs (i + 1)) (((xs (i + 2)).toInt64 <<< ((32 : Int32).toInt64 &&& 63)) ||| ((xs (i + 3)).toInt64 &&& 4294967295)) τ = some (r, τ')) (kk : rb_LAt z g cs sl Q 1620 (rb_lv g b i) [] σ' τ' o) : rb_LAt z g cs sl Q 763 (rb_lv g b i) [] σ τ o := by
  refine rb_l_aload_n hC 1 dL_law_763 rfl ?_
  refine rb_l_arg hC 1 (by decide) hi (by decide) rfl rfl dL_law_764 dL_law_765 dL_law_767 dL_law_768 dL_law_769 ?_
  refine rb_l_arg hC 2 (by decide) hi (by decide) rfl rfl dL_law_770 dL_law_771 dL_law_773 dL_law_774 dL_law_775 ?_
  refine rb_l_i2l hC dL_law_776 ?_
  refine rb_l_bipush (x := 32) hC dL_law_777 (by decide) ?_
  refine rb_l_lshl hC dL_law_779 ?_
  refine rb_l_arg hC 3 (by decide) hi (by decide) rfl rfl dL_law_780 dL_law_781 dL_law_783 dL_law_784 dL_law_785 ?_
  refine rb_l_i2l hC dL_law_786 ?_
  refine rb_l_ldc2_w (x := 4294967295) hC lk_93 dL_law_787 ?_
  refine rb_l_land hC dL_law_790 ?_
  refine rb_l_lor hC dL_law_791 ?_
  refine rb_l_call1 hC mv_L_95 (xc_RP_years (xs (i + 1)) (((xs (i + 2)).toInt64 <<< ((32 : Int32).toInt64 &&& 63)) ||| ((xs (i + 3)).toInt64 &&& 4294967295)) σ r σ' h1) lo_X rfl [.int (xs (i + 1)), .long (((xs (i + 2)).toInt64 <<< ((32 : Int32).toInt64 &&& 63)) ||| ((xs (i + 3)).toInt64 &&& 4294967295))] rfl rfl rfl ⟨by decide, by decide⟩ (Nat.le_of_ble_eq_true rfl) dL_law_792 ?_
  refine rb_l_aload_n hC 2 dL_law_795 rfl ?_
  refine rb_l_arg hC 1 (by decide) hi (by decide) rfl rfl dL_law_796 dL_law_797 dL_law_799 dL_law_800 dL_law_801 ?_
  refine rb_l_arg hC 2 (by decide) hi (by decide) rfl rfl dL_law_802 dL_law_803 dL_law_805 dL_law_806 dL_law_807 ?_
  refine rb_l_i2l hC dL_law_808 ?_
  refine rb_l_bipush (x := 32) hC dL_law_809 (by decide) ?_
  refine rb_l_lshl hC dL_law_811 ?_
  refine rb_l_arg hC 3 (by decide) hi (by decide) rfl rfl dL_law_812 dL_law_813 dL_law_815 dL_law_816 dL_law_817 ?_
  refine rb_l_i2l hC dL_law_818 ?_
  refine rb_l_ldc2_w (x := 4294967295) hC lk_93 dL_law_819 ?_
  refine rb_l_land hC dL_law_822 ?_
  refine rb_l_lor hC dL_law_823 ?_
  refine rb_l_call2 hC mv_L_99 (xc_M_years (xs (i + 1)) (((xs (i + 2)).toInt64 <<< ((32 : Int32).toInt64 &&& 63)) ||| ((xs (i + 3)).toInt64 &&& 4294967295)) τ r τ' h2) lo_M rfl [.int (xs (i + 1)), .long (((xs (i + 2)).toInt64 <<< ((32 : Int32).toInt64 &&& 63)) ||| ((xs (i + 3)).toInt64 &&& 4294967295))] rfl rfl rfl ⟨by decide, by decide⟩ (Nat.le_of_ble_eq_true rfl) dL_law_824 ?_
  exact rb_l_icmp_eq hC 1620 dL_law_827 (by decide) (fun _ => kk) (fun h => absurd rfl h)
theorem lc_status (hC : rb_Lx z g b L xs cs sl) {i : Nat} (hi : i + 6 ≤ L) {r : Int32} (h1 : xf_RP_status (xs (i + 1)) σ = some r) (h2 : xf_M_status (xs (i + 1)) τ = some r) (kk : rb_LAt z g cs sl Q 1620 (rb_lv g b i) [] σ τ o) : rb_LAt z g cs sl Q 832 (rb_lv g b i) [] σ τ o := by
  refine rb_l_aload_n hC 1 dL_law_832 rfl ?_
  refine rb_l_arg hC 1 (by decide) hi (by decide) rfl rfl dL_law_833 dL_law_834 dL_law_836 dL_law_837 dL_law_838 ?_
  refine rb_l_call1 hC mv_L_100 (xc_RP_status (xs (i + 1)) σ r h1) lo_X rfl [.int (xs (i + 1))] rfl rfl rfl ⟨by decide, by decide⟩ (Nat.le_of_ble_eq_true rfl) dL_law_839 ?_
  refine rb_l_aload_n hC 2 dL_law_842 rfl ?_
  refine rb_l_arg hC 1 (by decide) hi (by decide) rfl rfl dL_law_843 dL_law_844 dL_law_846 dL_law_847 dL_law_848 ?_
  refine rb_l_call2 hC mv_L_103 (xc_M_status (xs (i + 1)) τ r h2) lo_M rfl [.int (xs (i + 1))] rfl rfl rfl ⟨by decide, by decide⟩ (Nat.le_of_ble_eq_true rfl) dL_law_849 ?_
  exact rb_l_icmp_eq hC 1620 dL_law_852 (by decide) (fun _ => kk) (fun h => absurd rfl h)
theorem lc_undo (hC : rb_Lx z g b L xs cs sl) {i : Nat} (hi : i + 6 ≤ L) {r : Int32} {σ' : rb_St} {τ' : rb_St} (h1 : xf_RP_undo  σ = some (r, σ')) (h2 : xf_M_undo  τ = some (r, τ')) (kk : rb_LAt z g cs sl Q 1620 (rb_lv g b i) [] σ' τ' o) : rb_LAt z g cs sl Q 857 (rb_lv g b i) [] σ τ o := by
  refine rb_l_aload_n hC 1 dL_law_857 rfl ?_
  refine rb_l_call1 hC mv_L_104 (xc_RP_undo  σ r σ' h1) lo_X rfl [] rfl rfl rfl ⟨by decide, by decide⟩ (Nat.le_of_ble_eq_true rfl) dL_law_858 ?_
  refine rb_l_aload_n hC 2 dL_law_861 rfl ?_
  refine rb_l_call2 hC mv_L_107 (xc_M_undo  τ r τ' h2) lo_M rfl [] rfl rfl rfl ⟨by decide, by decide⟩ (Nat.le_of_ble_eq_true rfl) dL_law_862 ?_
  exact rb_l_icmp_eq hC 1620 dL_law_865 (by decide) (fun _ => kk) (fun h => absurd rfl h)
theorem lc_log (hC : rb_Lx z g b L xs cs sl) {i : Nat} (hi : i + 6 ≤ L) {r : Int32} (h1 : xf_RP_log (xs (i + 1)) (xs (i + 2)) σ = some r) (h2 : xf_M_log (xs (i + 1)) (xs (i + 2)) τ = some r) (kk : rb_LAt z g cs sl Q 1620 (rb_lv g b i) [] σ τ o) : rb_LAt z g cs sl Q 870 (rb_lv g b i) [] σ τ o := by
  refine rb_l_aload_n hC 1 dL_law_870 rfl ?_
  refine rb_l_arg hC 1 (by decide) hi (by decide) rfl rfl dL_law_871 dL_law_872 dL_law_874 dL_law_875 dL_law_876 ?_
  refine rb_l_arg hC 2 (by decide) hi (by decide) rfl rfl dL_law_877 dL_law_878 dL_law_880 dL_law_881 dL_law_882 ?_
  refine rb_l_call1 hC mv_L_108 (xc_RP_log (xs (i + 1)) (xs (i + 2)) σ r h1) lo_X rfl [.int (xs (i + 1)), .int (xs (i + 2))] rfl rfl rfl ⟨by decide, by decide⟩ (Nat.le_of_ble_eq_true rfl) dL_law_883 ?_
  refine rb_l_aload_n hC 2 dL_law_886 rfl ?_
  refine rb_l_arg hC 1 (by decide) hi (by decide) rfl rfl dL_law_887 dL_law_888 dL_law_890 dL_law_891 dL_law_892 ?_
  refine rb_l_arg hC 2 (by decide) hi (by decide) rfl rfl dL_law_893 dL_law_894 dL_law_896 dL_law_897 dL_law_898 ?_
  refine rb_l_call2 hC mv_L_111 (xc_M_log (xs (i + 1)) (xs (i + 2)) τ r h2) lo_M rfl [.int (xs (i + 1)), .int (xs (i + 2))] rfl rfl rfl ⟨by decide, by decide⟩ (Nat.le_of_ble_eq_true rfl) dL_law_899 ?_
  exact rb_l_icmp_eq hC 1620 dL_law_902 (by decide) (fun _ => kk) (fun h => absurd rfl h)
theorem lc_takes (hC : rb_Lx z g b L xs cs sl) {i : Nat} (hi : i + 6 ≤ L) {r : Int32} {σ' : rb_St} {τ' : rb_St} (h1 : xf_RP_takes (xs (i + 1)) (rb_zb (xs (i + 2))) σ = some (r, σ')) (h2 : xf_M_takes (xs (i + 1)) (rb_zb (xs (i + 2))) τ = some (r, τ')) (kk : rb_LAt z g cs sl Q 1620 (rb_lv g b i) [] σ' τ' o) : rb_LAt z g cs sl Q 907 (rb_lv g b i) [] σ τ o := by
  refine rb_l_aload_n hC 1 dL_law_907 rfl ?_
  refine rb_l_arg hC 1 (by decide) hi (by decide) rfl rfl dL_law_908 dL_law_909 dL_law_911 dL_law_912 dL_law_913 ?_
  refine rb_l_arg hC 2 (by decide) hi (by decide) rfl rfl dL_law_914 dL_law_915 dL_law_917 dL_law_918 dL_law_919 ?_
  refine rb_l_bool hC dL_law_920 rfl dL_law_923 rfl dL_law_924 (by decide) dL_law_927 rfl (by decide) ?_
  refine rb_l_call1 hC mv_L_112 (xc_RP_takes (xs (i + 1)) (rb_zb (xs (i + 2))) σ r σ' h1) lo_X rfl [.int (xs (i + 1)), .int (rb_zb (xs (i + 2)))] rfl rfl rfl ⟨by decide, by decide⟩ (Nat.le_of_ble_eq_true rfl) dL_law_928 ?_
  refine rb_l_aload_n hC 2 dL_law_931 rfl ?_
  refine rb_l_arg hC 1 (by decide) hi (by decide) rfl rfl dL_law_932 dL_law_933 dL_law_935 dL_law_936 dL_law_937 ?_
  refine rb_l_arg hC 2 (by decide) hi (by decide) rfl rfl dL_law_938 dL_law_939 dL_law_941 dL_law_942 dL_law_943 ?_
  refine rb_l_bool hC dL_law_944 rfl dL_law_947 rfl dL_law_948 (by decide) dL_law_951 rfl (by decide) ?_
  refine rb_l_call2 hC mv_L_115 (xc_M_takes (xs (i + 1)) (rb_zb (xs (i + 2))) τ r τ' h2) lo_M rfl [.int (xs (i + 1)), .int (rb_zb (xs (i + 2)))] rfl rfl rfl ⟨by decide, by decide⟩ (Nat.le_of_ble_eq_true rfl) dL_law_952 ?_
  exact rb_l_icmp_eq hC 1620 dL_law_955 (by decide) (fun _ => kk) (fun h => absurd rfl h)
theorem lc_bound (hC : rb_Lx z g b L xs cs sl) {i : Nat} (hi : i + 6 ≤ L) {r : Int32} (h1 : xf_RP_bound (xs (i + 1)) (xs (i + 2)) σ = some r) (h2 : xf_M_bound (xs (i + 1)) (xs (i + 2)) τ = some r) (kk : rb_LAt z g cs sl Q 1620 (rb_lv g b i) [] σ τ o) : rb_LAt z g cs sl Q 960 (rb_lv g b i) [] σ τ o := by
  refine rb_l_aload_n hC 1 dL_law_960 rfl ?_
  refine rb_l_arg hC 1 (by decide) hi (by decide) rfl rfl dL_law_961 dL_law_962 dL_law_964 dL_law_965 dL_law_966 ?_
  refine rb_l_arg hC 2 (by decide) hi (by decide) rfl rfl dL_law_967 dL_law_968 dL_law_970 dL_law_971 dL_law_972 ?_
  refine rb_l_call1 hC mv_L_116 (xc_RP_bound (xs (i + 1)) (xs (i + 2)) σ r h1) lo_X rfl [.int (xs (i + 1)), .int (xs (i + 2))] rfl rfl rfl ⟨by decide, by decide⟩ (Nat.le_of_ble_eq_true rfl) dL_law_973 ?_
  refine rb_l_aload_n hC 2 dL_law_976 rfl ?_
  refine rb_l_arg hC 1 (by decide) hi (by decide) rfl rfl dL_law_977 dL_law_978 dL_law_980 dL_law_981 dL_law_982 ?_
  refine rb_l_arg hC 2 (by decide) hi (by decide) rfl rfl dL_law_983 dL_law_984 dL_law_986 dL_law_987 dL_law_988 ?_
  refine rb_l_call2 hC mv_L_119 (xc_M_bound (xs (i + 1)) (xs (i + 2)) τ r h2) lo_M rfl [.int (xs (i + 1)), .int (xs (i + 2))] rfl rfl rfl ⟨by decide, by decide⟩ (Nat.le_of_ble_eq_true rfl) dL_law_989 ?_
  exact rb_l_icmp_eq hC 1620 dL_law_992 (by decide) (fun _ => kk) (fun h => absurd rfl h)
theorem lc_letOut (hC : rb_Lx z g b L xs cs sl) {i : Nat} (hi : i + 6 ≤ L) {r : Int32} {τ' : rb_St} (h1 : xf_RP_letOut (xs (i + 1)) σ = some r) (h2 : xf_M_letOut (xs (i + 1)) τ = some (r, τ')) (kk : rb_LAt z g cs sl Q 1620 (rb_lv g b i) [] σ τ' o) : rb_LAt z g cs sl Q 997 (rb_lv g b i) [] σ τ o := by
  refine rb_l_aload_n hC 1 dL_law_997 rfl ?_
  refine rb_l_arg hC 1 (by decide) hi (by decide) rfl rfl dL_law_998 dL_law_999 dL_law_1001 dL_law_1002 dL_law_1003 ?_
  refine rb_l_call1 hC mv_L_120 (xc_RP_letOut (xs (i + 1)) σ r h1) lo_X rfl [.int (xs (i + 1))] rfl rfl rfl ⟨by decide, by decide⟩ (Nat.le_of_ble_eq_true rfl) dL_law_1004 ?_
  refine rb_l_aload_n hC 2 dL_law_1007 rfl ?_
  refine rb_l_arg hC 1 (by decide) hi (by decide) rfl rfl dL_law_1008 dL_law_1009 dL_law_1011 dL_law_1012 dL_law_1013 ?_
  refine rb_l_call2 hC mv_L_123 (xc_M_letOut (xs (i + 1)) τ r τ' h2) lo_M rfl [.int (xs (i + 1))] rfl rfl rfl ⟨by decide, by decide⟩ (Nat.le_of_ble_eq_true rfl) dL_law_1014 ?_
  exact rb_l_icmp_eq hC 1620 dL_law_1017 (by decide) (fun _ => kk) (fun h => absurd rfl h)
theorem lc_behind (hC : rb_Lx z g b L xs cs sl) {i : Nat} (hi : i + 6 ≤ L) {r : Int32} {τ' : rb_St} (h1 : xf_RP_behind (xs (i + 1)) (xs (i + 2)) (xs (i + 3)) σ = some r) (h2 : xf_M_behind (xs (i + 1)) (xs (i + 2)) (xs (i + 3)) τ = some (r, τ')) (kk : rb_LAt z g cs sl Q 1620 (rb_lv g b i) [] σ τ' o) : rb_LAt z g cs sl Q 1022 (rb_lv g b i) [] σ τ o := by
  refine rb_l_aload_n hC 1 dL_law_1022 rfl ?_
  refine rb_l_arg hC 1 (by decide) hi (by decide) rfl rfl dL_law_1023 dL_law_1024 dL_law_1026 dL_law_1027 dL_law_1028 ?_
  refine rb_l_arg hC 2 (by decide) hi (by decide) rfl rfl dL_law_1029 dL_law_1030 dL_law_1032 dL_law_1033 dL_law_1034 ?_
  refine rb_l_arg hC 3 (by decide) hi (by decide) rfl rfl dL_law_1035 dL_law_1036 dL_law_1038 dL_law_1039 dL_law_1040 ?_
  refine rb_l_call1 hC mv_L_124 (xc_RP_behind (xs (i + 1)) (xs (i + 2)) (xs (i + 3)) σ r h1) lo_X rfl [.int (xs (i + 1)), .int (xs (i + 2)), .int (xs (i + 3))] rfl rfl rfl ⟨by decide, by decide⟩ (Nat.le_of_ble_eq_true rfl) dL_law_1041 ?_
  refine rb_l_aload_n hC 2 dL_law_1044 rfl ?_
  refine rb_l_arg hC 1 (by decide) hi (by decide) rfl rfl dL_law_1045 dL_law_1046 dL_law_1048 dL_law_1049 dL_law_1050 ?_
  refine rb_l_arg hC 2 (by decide) hi (by decide) rfl rfl dL_law_1051 dL_law_1052 dL_law_1054 dL_law_1055 dL_law_1056 ?_
  refine rb_l_arg hC 3 (by decide) hi (by decide) rfl rfl dL_law_1057 dL_law_1058 dL_law_1060 dL_law_1061 dL_law_1062 ?_
  refine rb_l_call2 hC mv_L_128 (xc_M_behind (xs (i + 1)) (xs (i + 2)) (xs (i + 3)) τ r τ' h2) lo_M rfl [.int (xs (i + 1)), .int (xs (i + 2)), .int (xs (i + 3))] rfl rfl rfl ⟨by decide, by decide⟩ (Nat.le_of_ble_eq_true rfl) dL_law_1063 ?_
  exact rb_l_icmp_eq hC 1620 dL_law_1066 (by decide) (fun _ => kk) (fun h => absurd rfl h)
theorem lc_rounds (hC : rb_Lx z g b L xs cs sl) {i : Nat} (hi : i + 6 ≤ L) {r : Int32} {τ' : rb_St} (h1 : xf_RP_rounds (xs (i + 1)) σ = some r) (h2 : xf_M_rounds (xs (i + 1)) τ = some (r, τ')) (kk : rb_LAt z g cs sl Q 1620 (rb_lv g b i) [] σ τ' o) : rb_LAt z g cs sl Q 1071 (rb_lv g b i) [] σ τ o := by
  refine rb_l_aload_n hC 1 dL_law_1071 rfl ?_
  refine rb_l_arg hC 1 (by decide) hi (by decide) rfl rfl dL_law_1072 dL_law_1073 dL_law_1075 dL_law_1076 dL_law_1077 ?_
  refine rb_l_call1 hC mv_L_129 (xc_RP_rounds (xs (i + 1)) σ r h1) lo_X rfl [.int (xs (i + 1))] rfl rfl rfl ⟨by decide, by decide⟩ (Nat.le_of_ble_eq_true rfl) dL_law_1078 ?_
  refine rb_l_aload_n hC 2 dL_law_1081 rfl ?_
  refine rb_l_arg hC 1 (by decide) hi (by decide) rfl rfl dL_law_1082 dL_law_1083 dL_law_1085 dL_law_1086 dL_law_1087 ?_
  refine rb_l_call2 hC mv_L_132 (xc_M_rounds (xs (i + 1)) τ r τ' h2) lo_M rfl [.int (xs (i + 1))] rfl rfl rfl ⟨by decide, by decide⟩ (Nat.le_of_ble_eq_true rfl) dL_law_1088 ?_
  exact rb_l_icmp_eq hC 1620 dL_law_1091 (by decide) (fun _ => kk) (fun h => absurd rfl h)
theorem lc_knot (hC : rb_Lx z g b L xs cs sl) {i : Nat} (hi : i + 6 ≤ L) {r : Int32} {σ' : rb_St} {τ' : rb_St} (h1 : xf_RP_knot (xs (i + 1)) σ = some (r, σ')) (h2 : xf_M_knot (xs (i + 1)) τ = some (r, τ')) (kk : rb_LAt z g cs sl Q 1620 (rb_lv g b i) [] σ' τ' o) : rb_LAt z g cs sl Q 1096 (rb_lv g b i) [] σ τ o := by
  refine rb_l_aload_n hC 1 dL_law_1096 rfl ?_
  refine rb_l_arg hC 1 (by decide) hi (by decide) rfl rfl dL_law_1097 dL_law_1098 dL_law_1100 dL_law_1101 dL_law_1102 ?_
  refine rb_l_call1 hC mv_L_133 (xc_RP_knot (xs (i + 1)) σ r σ' h1) lo_X rfl [.int (xs (i + 1))] rfl rfl rfl ⟨by decide, by decide⟩ (Nat.le_of_ble_eq_true rfl) dL_law_1103 ?_
  refine rb_l_aload_n hC 2 dL_law_1106 rfl ?_
  refine rb_l_arg hC 1 (by decide) hi (by decide) rfl rfl dL_law_1107 dL_law_1108 dL_law_1110 dL_law_1111 dL_law_1112 ?_
  refine rb_l_call2 hC mv_L_136 (xc_M_knot (xs (i + 1)) τ r τ' h2) lo_M rfl [.int (xs (i + 1))] rfl rfl rfl ⟨by decide, by decide⟩ (Nat.le_of_ble_eq_true rfl) dL_law_1113 ?_
  exact rb_l_icmp_eq hC 1620 dL_law_1116 (by decide) (fun _ => kk) (fun h => absurd rfl h)
theorem lc_same (hC : rb_Lx z g b L xs cs sl) {i : Nat} (hi : i + 6 ≤ L) {r : Int32} {σ' : rb_St} {τ' : rb_St} (h1 : xf_RP_same (xs (i + 1)) (xs (i + 2)) σ = some (r, σ')) (h2 : xf_M_same (xs (i + 1)) (xs (i + 2)) τ = some (r, τ')) (kk : rb_LAt z g cs sl Q 1620 (rb_lv g b i) [] σ' τ' o) : rb_LAt z g cs sl Q 1121 (rb_lv g b i) [] σ τ o := by
  refine rb_l_aload_n hC 1 dL_law_1121 rfl ?_
  refine rb_l_arg hC 1 (by decide) hi (by decide) rfl rfl dL_law_1122 dL_law_1123 dL_law_1125 dL_law_1126 dL_law_1127 ?_
  refine rb_l_arg hC 2 (by decide) hi (by decide) rfl rfl dL_law_1128 dL_law_1129 dL_law_1131 dL_law_1132 dL_law_1133 ?_
  refine rb_l_call1 hC mv_L_137 (xc_RP_same (xs (i + 1)) (xs (i + 2)) σ r σ' h1) lo_X rfl [.int (xs (i + 1)), .int (xs (i + 2))] rfl rfl rfl ⟨by decide, by decide⟩ (Nat.le_of_ble_eq_true rfl) dL_law_1134 ?_
  refine rb_l_aload_n hC 2 dL_law_1137 rfl ?_
  refine rb_l_arg hC 1 (by decide) hi (by decide) rfl rfl dL_law_1138 dL_law_1139 dL_law_1141 dL_law_1142 dL_law_1143 ?_
  refine rb_l_arg hC 2 (by decide) hi (by decide) rfl rfl dL_law_1144 dL_law_1145 dL_law_1147 dL_law_1148 dL_law_1149 ?_
  refine rb_l_call2 hC mv_L_140 (xc_M_same (xs (i + 1)) (xs (i + 2)) τ r τ' h2) lo_M rfl [.int (xs (i + 1)), .int (xs (i + 2))] rfl rfl rfl ⟨by decide, by decide⟩ (Nat.le_of_ble_eq_true rfl) dL_law_1150 ?_
  exact rb_l_icmp_eq hC 1620 dL_law_1153 (by decide) (fun _ => kk) (fun h => absurd rfl h)
theorem lc_nearest (hC : rb_Lx z g b L xs cs sl) {i : Nat} (hi : i + 6 ≤ L) {r : Int32} {σ' : rb_St} {τ' : rb_St} (h1 : xf_RP_nearest (xs (i + 1)) (xs (i + 2)) σ = some (r, σ')) (h2 : xf_M_nearest (xs (i + 1)) (xs (i + 2)) τ = some (r, τ')) (kk : rb_LAt z g cs sl Q 1620 (rb_lv g b i) [] σ' τ' o) : rb_LAt z g cs sl Q 1158 (rb_lv g b i) [] σ τ o := by
  refine rb_l_aload_n hC 1 dL_law_1158 rfl ?_
  refine rb_l_arg hC 1 (by decide) hi (by decide) rfl rfl dL_law_1159 dL_law_1160 dL_law_1162 dL_law_1163 dL_law_1164 ?_
  refine rb_l_arg hC 2 (by decide) hi (by decide) rfl rfl dL_law_1165 dL_law_1166 dL_law_1168 dL_law_1169 dL_law_1170 ?_
  refine rb_l_call1 hC mv_L_141 (xc_RP_nearest (xs (i + 1)) (xs (i + 2)) σ r σ' h1) lo_X rfl [.int (xs (i + 1)), .int (xs (i + 2))] rfl rfl rfl ⟨by decide, by decide⟩ (Nat.le_of_ble_eq_true rfl) dL_law_1171 ?_
  refine rb_l_aload_n hC 2 dL_law_1174 rfl ?_
  refine rb_l_arg hC 1 (by decide) hi (by decide) rfl rfl dL_law_1175 dL_law_1176 dL_law_1178 dL_law_1179 dL_law_1180 ?_
  refine rb_l_arg hC 2 (by decide) hi (by decide) rfl rfl dL_law_1181 dL_law_1182 dL_law_1184 dL_law_1185 dL_law_1186 ?_
  refine rb_l_call2 hC mv_L_144 (xc_M_nearest (xs (i + 1)) (xs (i + 2)) τ r τ' h2) lo_M rfl [.int (xs (i + 1)), .int (xs (i + 2))] rfl rfl rfl ⟨by decide, by decide⟩ (Nat.le_of_ble_eq_true rfl) dL_law_1187 ?_
  exact rb_l_icmp_eq hC 1620 dL_law_1190 (by decide) (fun _ => kk) (fun h => absurd rfl h)
theorem lc_times (hC : rb_Lx z g b L xs cs sl) {i : Nat} (hi : i + 6 ≤ L) {r : Int32} {σ' : rb_St} {τ' : rb_St} (h1 : xf_RP_times (xs (i + 1)) σ = some (r, σ')) (h2 : xf_M_times (xs (i + 1)) τ = some (r, τ')) (kk : rb_LAt z g cs sl Q 1620 (rb_lv g b i) [] σ' τ' o) : rb_LAt z g cs sl Q 1195 (rb_lv g b i) [] σ τ o := by
  refine rb_l_aload_n hC 1 dL_law_1195 rfl ?_
  refine rb_l_arg hC 1 (by decide) hi (by decide) rfl rfl dL_law_1196 dL_law_1197 dL_law_1199 dL_law_1200 dL_law_1201 ?_
  refine rb_l_call1 hC mv_L_145 (xc_RP_times (xs (i + 1)) σ r σ' h1) lo_X rfl [.int (xs (i + 1))] rfl rfl rfl ⟨by decide, by decide⟩ (Nat.le_of_ble_eq_true rfl) dL_law_1202 ?_
  refine rb_l_aload_n hC 2 dL_law_1205 rfl ?_
  refine rb_l_arg hC 1 (by decide) hi (by decide) rfl rfl dL_law_1206 dL_law_1207 dL_law_1209 dL_law_1210 dL_law_1211 ?_
  refine rb_l_call2 hC mv_L_148 (xc_M_times (xs (i + 1)) τ r τ' h2) lo_M rfl [.int (xs (i + 1))] rfl rfl rfl ⟨by decide, by decide⟩ (Nat.le_of_ble_eq_true rfl) dL_law_1212 ?_
  exact rb_l_icmp_eq hC 1620 dL_law_1215 (by decide) (fun _ => kk) (fun h => absurd rfl h)
theorem lc_seen (hC : rb_Lx z g b L xs cs sl) {i : Nat} (hi : i + 6 ≤ L) {r : Int32} {σ' : rb_St} {τ' : rb_St} (h1 : xf_RP_seen (xs (i + 1)) (xs (i + 2)) (xs (i + 3)) (rb_zb (xs (i + 4))) σ = some (r, σ')) (h2 : xf_M_seen (xs (i + 1)) (xs (i + 2)) (xs (i + 3)) (rb_zb (xs (i + 4))) τ = some (r, τ')) (kk : rb_LAt z g cs sl Q 1620 (rb_lv g b i) [] σ' τ' o) : rb_LAt z g cs sl Q 1220 (rb_lv g b i) [] σ τ o := by
  refine rb_l_aload_n hC 1 dL_law_1220 rfl ?_
  refine rb_l_arg hC 1 (by decide) hi (by decide) rfl rfl dL_law_1221 dL_law_1222 dL_law_1224 dL_law_1225 dL_law_1226 ?_
  refine rb_l_arg hC 2 (by decide) hi (by decide) rfl rfl dL_law_1227 dL_law_1228 dL_law_1230 dL_law_1231 dL_law_1232 ?_
  refine rb_l_arg hC 3 (by decide) hi (by decide) rfl rfl dL_law_1233 dL_law_1234 dL_law_1236 dL_law_1237 dL_law_1238 ?_
  refine rb_l_arg hC 4 (by decide) hi (by decide) rfl rfl dL_law_1239 dL_law_1240 dL_law_1242 dL_law_1243 dL_law_1244 ?_
  refine rb_l_bool hC dL_law_1245 rfl dL_law_1248 rfl dL_law_1249 (by decide) dL_law_1252 rfl (by decide) ?_
  refine rb_l_call1 hC mv_L_149 (xc_RP_seen (xs (i + 1)) (xs (i + 2)) (xs (i + 3)) (rb_zb (xs (i + 4))) σ r σ' h1) lo_X rfl [.int (xs (i + 1)), .int (xs (i + 2)), .int (xs (i + 3)), .int (rb_zb (xs (i + 4)))] rfl rfl rfl ⟨by decide, by decide⟩ (Nat.le_of_ble_eq_true rfl) dL_law_1253 ?_
  refine rb_l_aload_n hC 2 dL_law_1256 rfl ?_
  refine rb_l_arg hC 1 (by decide) hi (by decide) rfl rfl dL_law_1257 dL_law_1258 dL_law_1260 dL_law_1261 dL_law_1262 ?_
  refine rb_l_arg hC 2 (by decide) hi (by decide) rfl rfl dL_law_1263 dL_law_1264 dL_law_1266 dL_law_1267 dL_law_1268 ?_
  refine rb_l_arg hC 3 (by decide) hi (by decide) rfl rfl dL_law_1269 dL_law_1270 dL_law_1272 dL_law_1273 dL_law_1274 ?_
  refine rb_l_arg hC 4 (by decide) hi (by decide) rfl rfl dL_law_1275 dL_law_1276 dL_law_1278 dL_law_1279 dL_law_1280 ?_
  refine rb_l_bool hC dL_law_1281 rfl dL_law_1284 rfl dL_law_1285 (by decide) dL_law_1288 rfl (by decide) ?_
  refine rb_l_call2 hC mv_L_153 (xc_M_seen (xs (i + 1)) (xs (i + 2)) (xs (i + 3)) (rb_zb (xs (i + 4))) τ r τ' h2) lo_M rfl [.int (xs (i + 1)), .int (xs (i + 2)), .int (xs (i + 3)), .int (rb_zb (xs (i + 4)))] rfl rfl rfl ⟨by decide, by decide⟩ (Nat.le_of_ble_eq_true rfl) dL_law_1289 ?_
  exact rb_l_icmp_eq hC 1620 dL_law_1292 (by decide) (fun _ => kk) (fun h => absurd rfl h)
theorem lc_fits (hC : rb_Lx z g b L xs cs sl) {i : Nat} (hi : i + 6 ≤ L) {r : Int32} {τ' : rb_St} (h1 : xf_RP_fits  σ = some r) (h2 : xf_M_fits  τ = some (r, τ')) (kk : rb_LAt z g cs sl Q 1620 (rb_lv g b i) [] σ τ' o) : rb_LAt z g cs sl Q 1297 (rb_lv g b i) [] σ τ o := by
  refine rb_l_aload_n hC 1 dL_law_1297 rfl ?_
  refine rb_l_call1 hC mv_L_154 (xc_RP_fits  σ r h1) lo_X rfl [] rfl rfl rfl ⟨by decide, by decide⟩ (Nat.le_of_ble_eq_true rfl) dL_law_1298 ?_
  refine rb_l_aload_n hC 2 dL_law_1301 rfl ?_
  refine rb_l_call2 hC mv_L_157 (xc_M_fits  τ r τ' h2) lo_M rfl [] rfl rfl rfl ⟨by decide, by decide⟩ (Nat.le_of_ble_eq_true rfl) dL_law_1302 ?_
  exact rb_l_icmp_eq hC 1620 dL_law_1305 (by decide) (fun _ => kk) (fun h => absurd rfl h)
theorem lc_ask (hC : rb_Lx z g b L xs cs sl) {i : Nat} (hi : i + 6 ≤ L) {r : Int32} {τ' : rb_St} (h1 : xf_RP_ask (xs (i + 1)) σ = some r) (h2 : xf_M_ask (xs (i + 1)) τ = some (r, τ')) (kk : rb_LAt z g cs sl Q 1620 (rb_lv g b i) [] σ τ' o) : rb_LAt z g cs sl Q 1310 (rb_lv g b i) [] σ τ o := by
  refine rb_l_aload_n hC 1 dL_law_1310 rfl ?_
  refine rb_l_arg hC 1 (by decide) hi (by decide) rfl rfl dL_law_1311 dL_law_1312 dL_law_1314 dL_law_1315 dL_law_1316 ?_
  refine rb_l_call1 hC mv_L_158 (xc_RP_ask (xs (i + 1)) σ r h1) lo_X rfl [.int (xs (i + 1))] rfl rfl rfl ⟨by decide, by decide⟩ (Nat.le_of_ble_eq_true rfl) dL_law_1317 ?_
  refine rb_l_aload_n hC 2 dL_law_1320 rfl ?_
  refine rb_l_arg hC 1 (by decide) hi (by decide) rfl rfl dL_law_1321 dL_law_1322 dL_law_1324 dL_law_1325 dL_law_1326 ?_
  refine rb_l_call2 hC mv_L_161 (xc_M_ask (xs (i + 1)) τ r τ' h2) lo_M rfl [.int (xs (i + 1))] rfl rfl rfl ⟨by decide, by decide⟩ (Nat.le_of_ble_eq_true rfl) dL_law_1327 ?_
  exact rb_l_icmp_eq hC 1620 dL_law_1330 (by decide) (fun _ => kk) (fun h => absurd rfl h)
theorem lc_stripe (hC : rb_Lx z g b L xs cs sl) {i : Nat} (hi : i + 6 ≤ L) {r : Int32} {σ' : rb_St} {τ' : rb_St} (h1 : xf_RP_stripe (xs (i + 1)) σ = some (r, σ')) (h2 : xf_M_stripe (xs (i + 1)) τ = some (r, τ')) (kk : rb_LAt z g cs sl Q 1620 (rb_lv g b i) [] σ' τ' o) : rb_LAt z g cs sl Q 1335 (rb_lv g b i) [] σ τ o := by
  refine rb_l_aload_n hC 1 dL_law_1335 rfl ?_
  refine rb_l_arg hC 1 (by decide) hi (by decide) rfl rfl dL_law_1336 dL_law_1337 dL_law_1339 dL_law_1340 dL_law_1341 ?_
  refine rb_l_call1 hC mv_L_162 (xc_RP_stripe (xs (i + 1)) σ r σ' h1) lo_X rfl [.int (xs (i + 1))] rfl rfl rfl ⟨by decide, by decide⟩ (Nat.le_of_ble_eq_true rfl) dL_law_1342 ?_
  refine rb_l_aload_n hC 2 dL_law_1345 rfl ?_
  refine rb_l_arg hC 1 (by decide) hi (by decide) rfl rfl dL_law_1346 dL_law_1347 dL_law_1349 dL_law_1350 dL_law_1351 ?_
  refine rb_l_call2 hC mv_L_165 (xc_M_stripe (xs (i + 1)) τ r τ' h2) lo_M rfl [.int (xs (i + 1))] rfl rfl rfl ⟨by decide, by decide⟩ (Nat.le_of_ble_eq_true rfl) dL_law_1352 ?_
  exact rb_l_icmp_eq hC 1620 dL_law_1355 (by decide) (fun _ => kk) (fun h => absurd rfl h)
theorem lc_game (hC : rb_Lx z g b L xs cs sl) {i : Nat} (hi : i + 6 ≤ L) {r : Int32} {σ' : rb_St} {τ' : rb_St} (h1 : xf_RP_game (xs (i + 1)) (xs (i + 2)) (xs (i + 3)) (xs (i + 4)) σ = some (r, σ')) (h2 : xf_M_game (xs (i + 1)) (xs (i + 2)) (xs (i + 3)) (xs (i + 4)) τ = some (r, τ')) (kk : rb_LAt z g cs sl Q 1620 (rb_lv g b i) [] σ' τ' o) : rb_LAt z g cs sl Q 1360 (rb_lv g b i) [] σ τ o := by
  refine rb_l_aload_n hC 1 dL_law_1360 rfl ?_
  refine rb_l_arg hC 1 (by decide) hi (by decide) rfl rfl dL_law_1361 dL_law_1362 dL_law_1364 dL_law_1365 dL_law_1366 ?_
  refine rb_l_arg hC 2 (by decide) hi (by decide) rfl rfl dL_law_1367 dL_law_1368 dL_law_1370 dL_law_1371 dL_law_1372 ?_
  refine rb_l_arg hC 3 (by decide) hi (by decide) rfl rfl dL_law_1373 dL_law_1374 dL_law_1376 dL_law_1377 dL_law_1378 ?_
  refine rb_l_arg hC 4 (by decide) hi (by decide) rfl rfl dL_law_1379 dL_law_1380 dL_law_1382 dL_law_1383 dL_law_1384 ?_
  refine rb_l_call1 hC mv_L_166 (xc_RP_game (xs (i + 1)) (xs (i + 2)) (xs (i + 3)) (xs (i + 4)) σ r σ' h1) lo_X rfl [.int (xs (i + 1)), .int (xs (i + 2)), .int (xs (i + 3)), .int (xs (i + 4))] rfl rfl rfl ⟨by decide, by decide⟩ (Nat.le_of_ble_eq_true rfl) dL_law_1385 ?_
  refine rb_l_aload_n hC 2 dL_law_1388 rfl ?_
  refine rb_l_arg hC 1 (by decide) hi (by decide) rfl rfl dL_law_1389 dL_law_1390 dL_law_1392 dL_law_1393 dL_law_1394 ?_
  refine rb_l_arg hC 2 (by decide) hi (by decide) rfl rfl dL_law_1395 dL_law_1396 dL_law_1398 dL_law_1399 dL_law_1400 ?_
  refine rb_l_arg hC 3 (by decide) hi (by decide) rfl rfl dL_law_1401 dL_law_1402 dL_law_1404 dL_law_1405 dL_law_1406 ?_
  refine rb_l_arg hC 4 (by decide) hi (by decide) rfl rfl dL_law_1407 dL_law_1408 dL_law_1410 dL_law_1411 dL_law_1412 ?_
  refine rb_l_call2 hC mv_L_170 (xc_M_game (xs (i + 1)) (xs (i + 2)) (xs (i + 3)) (xs (i + 4)) τ r τ' h2) lo_M rfl [.int (xs (i + 1)), .int (xs (i + 2)), .int (xs (i + 3)), .int (xs (i + 4))] rfl rfl rfl ⟨by decide, by decide⟩ (Nat.le_of_ble_eq_true rfl) dL_law_1413 ?_
  exact rb_l_icmp_eq hC 1620 dL_law_1416 (by decide) (fun _ => kk) (fun h => absurd rfl h)
theorem lc_rests (hC : rb_Lx z g b L xs cs sl) {i : Nat} (hi : i + 6 ≤ L) {r : Int32} {σ' : rb_St} {τ' : rb_St} (h1 : xf_RP_rests (xs (i + 1)) (xs (i + 2)) σ = some (r, σ')) (h2 : xf_M_rests (xs (i + 1)) (xs (i + 2)) τ = some (r, τ')) (kk : rb_LAt z g cs sl Q 1620 (rb_lv g b i) [] σ' τ' o) : rb_LAt z g cs sl Q 1421 (rb_lv g b i) [] σ τ o := by
  refine rb_l_aload_n hC 1 dL_law_1421 rfl ?_
  refine rb_l_arg hC 1 (by decide) hi (by decide) rfl rfl dL_law_1422 dL_law_1423 dL_law_1425 dL_law_1426 dL_law_1427 ?_
  refine rb_l_arg hC 2 (by decide) hi (by decide) rfl rfl dL_law_1428 dL_law_1429 dL_law_1431 dL_law_1432 dL_law_1433 ?_
  refine rb_l_call1 hC mv_L_171 (xc_RP_rests (xs (i + 1)) (xs (i + 2)) σ r σ' h1) lo_X rfl [.int (xs (i + 1)), .int (xs (i + 2))] rfl rfl rfl ⟨by decide, by decide⟩ (Nat.le_of_ble_eq_true rfl) dL_law_1434 ?_
  refine rb_l_aload_n hC 2 dL_law_1437 rfl ?_
  refine rb_l_arg hC 1 (by decide) hi (by decide) rfl rfl dL_law_1438 dL_law_1439 dL_law_1441 dL_law_1442 dL_law_1443 ?_
  refine rb_l_arg hC 2 (by decide) hi (by decide) rfl rfl dL_law_1444 dL_law_1445 dL_law_1447 dL_law_1448 dL_law_1449 ?_
  refine rb_l_call2 hC mv_L_174 (xc_M_rests (xs (i + 1)) (xs (i + 2)) τ r τ' h2) lo_M rfl [.int (xs (i + 1)), .int (xs (i + 2))] rfl rfl rfl ⟨by decide, by decide⟩ (Nat.le_of_ble_eq_true rfl) dL_law_1450 ?_
  exact rb_l_icmp_eq hC 1620 dL_law_1453 (by decide) (fun _ => kk) (fun h => absurd rfl h)
theorem lc_odds (hC : rb_Lx z g b L xs cs sl) {i : Nat} (hi : i + 6 ≤ L) {r : Int32} {σ' : rb_St} {τ' : rb_St} (h1 : xf_RP_odds (xs (i + 1)) (xs (i + 2)) (xs (i + 3)) σ = some (r, σ')) (h2 : xf_M_odds (xs (i + 1)) (xs (i + 2)) (xs (i + 3)) τ = some (r, τ')) (kk : rb_LAt z g cs sl Q 1620 (rb_lv g b i) [] σ' τ' o) : rb_LAt z g cs sl Q 1458 (rb_lv g b i) [] σ τ o := by
  refine rb_l_aload_n hC 1 dL_law_1458 rfl ?_
  refine rb_l_arg hC 1 (by decide) hi (by decide) rfl rfl dL_law_1459 dL_law_1460 dL_law_1462 dL_law_1463 dL_law_1464 ?_
  refine rb_l_arg hC 2 (by decide) hi (by decide) rfl rfl dL_law_1465 dL_law_1466 dL_law_1468 dL_law_1469 dL_law_1470 ?_
  refine rb_l_arg hC 3 (by decide) hi (by decide) rfl rfl dL_law_1471 dL_law_1472 dL_law_1474 dL_law_1475 dL_law_1476 ?_
  refine rb_l_call1 hC mv_L_175 (xc_RP_odds (xs (i + 1)) (xs (i + 2)) (xs (i + 3)) σ r σ' h1) lo_X rfl [.int (xs (i + 1)), .int (xs (i + 2)), .int (xs (i + 3))] rfl rfl rfl ⟨by decide, by decide⟩ (Nat.le_of_ble_eq_true rfl) dL_law_1477 ?_
  refine rb_l_aload_n hC 2 dL_law_1480 rfl ?_
  refine rb_l_arg hC 1 (by decide) hi (by decide) rfl rfl dL_law_1481 dL_law_1482 dL_law_1484 dL_law_1485 dL_law_1486 ?_
  refine rb_l_arg hC 2 (by decide) hi (by decide) rfl rfl dL_law_1487 dL_law_1488 dL_law_1490 dL_law_1491 dL_law_1492 ?_
  refine rb_l_arg hC 3 (by decide) hi (by decide) rfl rfl dL_law_1493 dL_law_1494 dL_law_1496 dL_law_1497 dL_law_1498 ?_
  refine rb_l_call2 hC mv_L_178 (xc_M_odds (xs (i + 1)) (xs (i + 2)) (xs (i + 3)) τ r τ' h2) lo_M rfl [.int (xs (i + 1)), .int (xs (i + 2)), .int (xs (i + 3))] rfl rfl rfl ⟨by decide, by decide⟩ (Nat.le_of_ble_eq_true rfl) dL_law_1499 ?_
  exact rb_l_icmp_eq hC 1620 dL_law_1502 (by decide) (fun _ => kk) (fun h => absurd rfl h)
theorem lc_shares (hC : rb_Lx z g b L xs cs sl) {i : Nat} (hi : i + 6 ≤ L) {r : Int32} (h1 : xf_RP_shares (xs (i + 1)) (xs (i + 2)) σ = some r) (h2 : xf_M_shares (xs (i + 1)) (xs (i + 2)) τ = some r) (kk : rb_LAt z g cs sl Q 1620 (rb_lv g b i) [] σ τ o) : rb_LAt z g cs sl Q 1507 (rb_lv g b i) [] σ τ o := by
  refine rb_l_aload_n hC 1 dL_law_1507 rfl ?_
  refine rb_l_arg hC 1 (by decide) hi (by decide) rfl rfl dL_law_1508 dL_law_1509 dL_law_1511 dL_law_1512 dL_law_1513 ?_
  refine rb_l_arg hC 2 (by decide) hi (by decide) rfl rfl dL_law_1514 dL_law_1515 dL_law_1517 dL_law_1518 dL_law_1519 ?_
  refine rb_l_call1 hC mv_L_179 (xc_RP_shares (xs (i + 1)) (xs (i + 2)) σ r h1) lo_X rfl [.int (xs (i + 1)), .int (xs (i + 2))] rfl rfl rfl ⟨by decide, by decide⟩ (Nat.le_of_ble_eq_true rfl) dL_law_1520 ?_
  refine rb_l_aload_n hC 2 dL_law_1523 rfl ?_
  refine rb_l_arg hC 1 (by decide) hi (by decide) rfl rfl dL_law_1524 dL_law_1525 dL_law_1527 dL_law_1528 dL_law_1529 ?_
  refine rb_l_arg hC 2 (by decide) hi (by decide) rfl rfl dL_law_1530 dL_law_1531 dL_law_1533 dL_law_1534 dL_law_1535 ?_
  refine rb_l_call2 hC mv_L_182 (xc_M_shares (xs (i + 1)) (xs (i + 2)) τ r h2) lo_M rfl [.int (xs (i + 1)), .int (xs (i + 2))] rfl rfl rfl ⟨by decide, by decide⟩ (Nat.le_of_ble_eq_true rfl) dL_law_1536 ?_
  exact rb_l_icmp_eq hC 1620 dL_law_1539 (by decide) (fun _ => kk) (fun h => absurd rfl h)
theorem lc_most (hC : rb_Lx z g b L xs cs sl) {i : Nat} (hi : i + 6 ≤ L) {r : Int32} {σ' : rb_St} {τ' : rb_St} (h1 : xf_RP_most (xs (i + 1)) σ = some (r, σ')) (h2 : xf_M_most (xs (i + 1)) τ = some (r, τ')) (kk : rb_LAt z g cs sl Q 1620 (rb_lv g b i) [] σ' τ' o) : rb_LAt z g cs sl Q 1544 (rb_lv g b i) [] σ τ o := by
  refine rb_l_aload_n hC 1 dL_law_1544 rfl ?_
  refine rb_l_arg hC 1 (by decide) hi (by decide) rfl rfl dL_law_1545 dL_law_1546 dL_law_1548 dL_law_1549 dL_law_1550 ?_
  refine rb_l_call1 hC mv_L_183 (xc_RP_most (xs (i + 1)) σ r σ' h1) lo_X rfl [.int (xs (i + 1))] rfl rfl rfl ⟨by decide, by decide⟩ (Nat.le_of_ble_eq_true rfl) dL_law_1551 ?_
  refine rb_l_aload_n hC 2 dL_law_1554 rfl ?_
  refine rb_l_arg hC 1 (by decide) hi (by decide) rfl rfl dL_law_1555 dL_law_1556 dL_law_1558 dL_law_1559 dL_law_1560 ?_
  refine rb_l_call2 hC mv_L_186 (xc_M_most (xs (i + 1)) τ r τ' h2) lo_M rfl [.int (xs (i + 1))] rfl rfl rfl ⟨by decide, by decide⟩ (Nat.le_of_ble_eq_true rfl) dL_law_1561 ?_
  exact rb_l_icmp_eq hC 1620 dL_law_1564 (by decide) (fun _ => kk) (fun h => absurd rfl h)
theorem lc_image (hC : rb_Lx z g b L xs cs sl) {i : Nat} (hi : i + 6 ≤ L) {r : Int32} {σ' : rb_St} {τ' : rb_St} (h1 : xf_RP_image  σ = some (r, σ')) (h2 : xf_M_image  τ = some (r, τ')) (kk : rb_LAt z g cs sl Q 1620 (rb_lv g b i) [] σ' τ' o) : rb_LAt z g cs sl Q 1569 (rb_lv g b i) [] σ τ o := by
  refine rb_l_aload_n hC 1 dL_law_1569 rfl ?_
  refine rb_l_call1 hC mv_L_187 (xc_RP_image  σ r σ' h1) lo_X rfl [] rfl rfl rfl ⟨by decide, by decide⟩ (Nat.le_of_ble_eq_true rfl) dL_law_1570 ?_
  refine rb_l_aload_n hC 2 dL_law_1573 rfl ?_
  refine rb_l_call2 hC mv_L_190 (xc_M_image  τ r τ' h2) lo_M rfl [] rfl rfl rfl ⟨by decide, by decide⟩ (Nat.le_of_ble_eq_true rfl) dL_law_1574 ?_
  exact rb_l_icmp_eq hC 1620 dL_law_1577 (by decide) (fun _ => kk) (fun h => absurd rfl h)
theorem lc_back (hC : rb_Lx z g b L xs cs sl) {i : Nat} (hi : i + 6 ≤ L) {r : Int32} {σ' : rb_St} {τ' : rb_St} (h1 : xf_RP_back  σ = some (r, σ')) (h2 : xf_M_back  τ = some (r, τ')) (kk : rb_LAt z g cs sl Q 1620 (rb_lv g b i) [] σ' τ' o) : rb_LAt z g cs sl Q 1582 (rb_lv g b i) [] σ τ o := by
  refine rb_l_aload_n hC 1 dL_law_1582 rfl ?_
  refine rb_l_call1 hC mv_L_191 (xc_RP_back  σ r σ' h1) lo_X rfl [] rfl rfl rfl ⟨by decide, by decide⟩ (Nat.le_of_ble_eq_true rfl) dL_law_1583 ?_
  refine rb_l_aload_n hC 2 dL_law_1586 rfl ?_
  refine rb_l_call2 hC mv_L_194 (xc_M_back  τ r τ' h2) lo_M rfl [] rfl rfl rfl ⟨by decide, by decide⟩ (Nat.le_of_ble_eq_true rfl) dL_law_1587 ?_
  exact rb_l_icmp_eq hC 1620 dL_law_1590 (by decide) (fun _ => kk) (fun h => absurd rfl h)
theorem lc_count (hC : rb_Lx z g b L xs cs sl) {i : Nat} (hi : i + 6 ≤ L) {r : Int32} (h1 : xf_RP_count (xs (i + 1)) σ = r) (h2 : xf_M_count (xs (i + 1)) τ = r) (kk : rb_LAt z g cs sl Q 1620 (rb_lv g b i) [] σ τ o) : rb_LAt z g cs sl Q 1595 (rb_lv g b i) [] σ τ o := by
  refine rb_l_aload_n hC 1 dL_law_1595 rfl ?_
  refine rb_l_arg hC 1 (by decide) hi (by decide) rfl rfl dL_law_1596 dL_law_1597 dL_law_1599 dL_law_1600 dL_law_1601 ?_
  refine rb_l_call1 hC mv_L_195 (xc_RP_count (xs (i + 1)) σ r h1) lo_X rfl [.int (xs (i + 1))] rfl rfl rfl ⟨by decide, by decide⟩ (Nat.le_of_ble_eq_true rfl) dL_law_1602 ?_
  refine rb_l_aload_n hC 2 dL_law_1605 rfl ?_
  refine rb_l_arg hC 1 (by decide) hi (by decide) rfl rfl dL_law_1606 dL_law_1607 dL_law_1609 dL_law_1610 dL_law_1611 ?_
  refine rb_l_call2 hC mv_L_198 (xc_M_count (xs (i + 1)) τ r h2) lo_M rfl [.int (xs (i + 1))] rfl rfl rfl ⟨by decide, by decide⟩ (Nat.le_of_ble_eq_true rfl) dL_law_1612 ?_
  exact rb_l_icmp_eq hC 1620 dL_law_1615 (by decide) (fun _ => kk) (fun h => absurd rfl h)
end RBM
