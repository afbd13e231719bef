/-! the law's cases (written by tools/law.py) -/
theorem pu_some {α : Type} {a : Option α} {σ σ' : St} {r : α} (h : pu a σ = some (r, σ')) : a = some r ∧ σ' = σ := by
  unfold pu at h
  cases a with
  | none => cases h
  | some v => cases h; exact ⟨rfl, rfl⟩
theorem lg_same (a : Int64) : lg_cmp a a = 0 := by
  unfold lg_cmp
  simp
abbrev LV (z1 z2 : ZT) (b : Nat) (i : Int32) : List (Nat × Value) := [(3, .int i), (2, .ref (aC z2 0)), (1, .ref (aC z1 0)), (0, .ref b)]
section Cases
variable {x : MX} {z1 z2 : ZT} {b L cs ss : Nat} {xs : Nat → Int32} {i : Int32} {σ τ : St}
def hinA (i : Int32) (L : Nat) : Prop := ∀ k, k ≤ 5 → vp_in (i + nI k) L
theorem LC_0 (C : Lok x (wxC z1) (wxM z2) b L xs) (hR : Rel σ τ) (nx : ∀ σ' τ', Rel σ' τ' → LSim x (wxC z1) (wxM z2) cs ss 1426 (LV z1 z2 b i) [] σ' τ') (hcs : cs ≤ 600000) (hss : ss ≤ 7302250) (hin : hinA i L) : LSim x (wxC z1) (wxM z2) cs ss 196 (LV z1 z2 b i) [] σ τ := by
  obtain ⟨r, σ', τ', e1, e2, hR'⟩ := eq_spelling hR (((xs (i + nI 1).toNatClampNeg).toInt64 <<< ((32 : Int32).toInt64 &&& 63)) ||| ((xs (i + nI 2).toNatClampNeg).toInt64 &&& 4294967295))
  refine L_aload_n C 2 dL_law_196 rfl ?_
  refine L_aload_n C 3 dL_law_197 rfl ?_
  refine L_iload_n C 0 dL_law_198 rfl ?_
  refine L_iconst C (nI 1) dL_law_199 (by decide) ?_
  refine L_iadd C dL_law_200 ?_
  refine L_sld C (hin 1 (by decide)) dL_law_201 ?_
  refine L_i2l C dL_law_202 ?_
  refine L_bipush C 32 dL_law_203 (by decide) ?_
  refine L_lshl C dL_law_205 ?_
  refine L_aload_n C 3 dL_law_206 rfl ?_
  refine L_iload_n C 0 dL_law_207 rfl ?_
  refine L_iconst C (nI 2) dL_law_208 (by decide) ?_
  refine L_iadd C dL_law_209 ?_
  refine L_sld C (hin 2 (by decide)) dL_law_210 ?_
  refine L_i2l C dL_law_211 ?_
  refine L_ldc2 C 4294967295 kl_L_13 dL_law_212 ?_
  refine L_land C dL_law_215 ?_
  refine L_lor C dL_law_216 ?_
  refine L_call C mw_X10_spelling mv_X10_spelling ml_L_15 (con_X10_spelling z1 (mL x) _ σ (r, σ') e1) ⟨by decide, by decide⟩ rfl (q := 0) (show 0 < 59 by decide) rfl (ce_X10 z1 σ) rfl rfl (Nat.le_of_ble_eq_true rfl) dL_law_217 hcs hss ?_
  refine L_aload_n C 1 dL_law_220 rfl ?_
  refine L_aload_n C 3 dL_law_221 rfl ?_
  refine L_iload_n C 0 dL_law_222 rfl ?_
  refine L_iconst C (nI 1) dL_law_223 (by decide) ?_
  refine L_iadd C dL_law_224 ?_
  refine L_sld C (hin 1 (by decide)) dL_law_225 ?_
  refine L_i2l C dL_law_226 ?_
  refine L_bipush C 32 dL_law_227 (by decide) ?_
  refine L_lshl C dL_law_229 ?_
  refine L_aload_n C 3 dL_law_230 rfl ?_
  refine L_iload_n C 0 dL_law_231 rfl ?_
  refine L_iconst C (nI 2) dL_law_232 (by decide) ?_
  refine L_iadd C dL_law_233 ?_
  refine L_sld C (hin 2 (by decide)) dL_law_234 ?_
  refine L_i2l C dL_law_235 ?_
  refine L_ldc2 C 4294967295 kl_L_13 dL_law_236 ?_
  refine L_land C dL_law_239 ?_
  refine L_lor C dL_law_240 ?_
  refine LSim.sw (L_call C.sw mw_X11_spelling mv_X11_spelling ml_L_19 (con_X11_spelling z2 (mL x) _ τ (r, τ') e2) ⟨by decide, by decide⟩ rfl (q := 0) (show 0 < 48 by decide) rfl (ce_X11 z2 τ) rfl rfl (Nat.le_of_ble_eq_true rfl) dL_law_241 hcs hss (LSim.sw ?_))
  exact L_icmp_eq C 1426 dL_law_244 (by decide) (fun _ => nx _ _ hR') (fun hne => absurd rfl hne)
theorem LC_1 (C : Lok x (wxC z1) (wxM z2) b L xs) (hR : Rel σ τ) (nx : ∀ σ' τ', Rel σ' τ' → LSim x (wxC z1) (wxM z2) cs ss 1426 (LV z1 z2 b i) [] σ' τ') (hcs : cs ≤ 600000) (hss : ss ≤ 7302250) (hin : hinA i L) : LSim x (wxC z1) (wxM z2) cs ss 249 (LV z1 z2 b i) [] σ τ := by
  obtain ⟨r, σ', τ', e1, e2, hR'⟩ := eq_letters hR (xs (i + nI 1).toNatClampNeg)
  obtain ⟨e1, s1⟩ := pu_some e1
  rw [s1] at hR'
  obtain ⟨e2, s2⟩ := pu_some e2
  rw [s2] at hR'
  refine L_aload_n C 2 dL_law_249 rfl ?_
  refine L_aload_n C 3 dL_law_250 rfl ?_
  refine L_iload_n C 0 dL_law_251 rfl ?_
  refine L_iconst C (nI 1) dL_law_252 (by decide) ?_
  refine L_iadd C dL_law_253 ?_
  refine L_sld C (hin 1 (by decide)) dL_law_254 ?_
  refine L_call C mw_X10_letters mv_X10_letters ml_L_20 (con_X10_letters z1 (mL x) _ σ r e1) ⟨by decide, by decide⟩ rfl (q := 0) (show 0 < 59 by decide) rfl (ce_X10 z1 σ) rfl rfl (Nat.le_of_ble_eq_true rfl) dL_law_255 hcs hss ?_
  refine L_aload_n C 1 dL_law_258 rfl ?_
  refine L_aload_n C 3 dL_law_259 rfl ?_
  refine L_iload_n C 0 dL_law_260 rfl ?_
  refine L_iconst C (nI 1) dL_law_261 (by decide) ?_
  refine L_iadd C dL_law_262 ?_
  refine L_sld C (hin 1 (by decide)) dL_law_263 ?_
  refine LSim.sw (L_call C.sw mw_X11_letters mv_X11_letters ml_L_24 (con_X11_letters z2 (mL x) _ τ r e2) ⟨by decide, by decide⟩ rfl (q := 0) (show 0 < 48 by decide) rfl (ce_X11 z2 τ) rfl rfl (Nat.le_of_ble_eq_true rfl) dL_law_264 hcs hss (LSim.sw ?_))
  refine L_lcmp C dL_law_267 ?_
  exact L_ifeq C 1426 dL_law_268 (by decide) (fun _ => nx _ _ hR') (fun hne => absurd (lg_same r) hne)
theorem LC_2 (C : Lok x (wxC z1) (wxM z2) b L xs) (hR : Rel σ τ) (nx : ∀ σ' τ', Rel σ' τ' → LSim x (wxC z1) (wxM z2) cs ss 1426 (LV z1 z2 b i) [] σ' τ') (hcs : cs ≤ 600000) (hss : ss ≤ 7302250) (hin : hinA i L) : LSim x (wxC z1) (wxM z2) cs ss 273 (LV z1 z2 b i) [] σ τ := by
  obtain ⟨r, σ', τ', e1, e2, hR'⟩ := eq_feed hR (((xs (i + nI 1).toNatClampNeg).toInt64 <<< ((32 : Int32).toInt64 &&& 63)) ||| ((xs (i + nI 2).toNatClampNeg).toInt64 &&& 4294967295))
  refine L_aload_n C 2 dL_law_273 rfl ?_
  refine L_aload_n C 3 dL_law_274 rfl ?_
  refine L_iload_n C 0 dL_law_275 rfl ?_
  refine L_iconst C (nI 1) dL_law_276 (by decide) ?_
  refine L_iadd C dL_law_277 ?_
  refine L_sld C (hin 1 (by decide)) dL_law_278 ?_
  refine L_i2l C dL_law_279 ?_
  refine L_bipush C 32 dL_law_280 (by decide) ?_
  refine L_lshl C dL_law_282 ?_
  refine L_aload_n C 3 dL_law_283 rfl ?_
  refine L_iload_n C 0 dL_law_284 rfl ?_
  refine L_iconst C (nI 2) dL_law_285 (by decide) ?_
  refine L_iadd C dL_law_286 ?_
  refine L_sld C (hin 2 (by decide)) dL_law_287 ?_
  refine L_i2l C dL_law_288 ?_
  refine L_ldc2 C 4294967295 kl_L_13 dL_law_289 ?_
  refine L_land C dL_law_292 ?_
  refine L_lor C dL_law_293 ?_
  refine L_call C mw_X10_feed mv_X10_feed ml_L_25 (con_X10_feed z1 (mL x) _ σ (r, σ') e1) ⟨by decide, by decide⟩ rfl (q := 0) (show 0 < 59 by decide) rfl (ce_X10 z1 σ) rfl rfl (Nat.le_of_ble_eq_true rfl) dL_law_294 hcs hss ?_
  refine L_aload_n C 1 dL_law_297 rfl ?_
  refine L_aload_n C 3 dL_law_298 rfl ?_
  refine L_iload_n C 0 dL_law_299 rfl ?_
  refine L_iconst C (nI 1) dL_law_300 (by decide) ?_
  refine L_iadd C dL_law_301 ?_
  refine L_sld C (hin 1 (by decide)) dL_law_302 ?_
  refine L_i2l C dL_law_303 ?_
  refine L_bipush C 32 dL_law_304 (by decide) ?_
  refine L_lshl C dL_law_306 ?_
  refine L_aload_n C 3 dL_law_307 rfl ?_
  refine L_iload_n C 0 dL_law_308 rfl ?_
  refine L_iconst C (nI 2) dL_law_309 (by decide) ?_
  refine L_iadd C dL_law_310 ?_
  refine L_sld C (hin 2 (by decide)) dL_law_311 ?_
  refine L_i2l C dL_law_312 ?_
  refine L_ldc2 C 4294967295 kl_L_13 dL_law_313 ?_
  refine L_land C dL_law_316 ?_
  refine L_lor C dL_law_317 ?_
  refine LSim.sw (L_call C.sw mw_X11_feed mv_X11_feed ml_L_28 (con_X11_feed z2 (mL x) _ τ (r, τ') e2) ⟨by decide, by decide⟩ rfl (q := 0) (show 0 < 48 by decide) rfl (ce_X11 z2 τ) rfl rfl (Nat.le_of_ble_eq_true rfl) dL_law_318 hcs hss (LSim.sw ?_))
  exact L_icmp_eq C 1426 dL_law_321 (by decide) (fun _ => nx _ _ hR') (fun hne => absurd rfl hne)
theorem LC_3 (C : Lok x (wxC z1) (wxM z2) b L xs) (hR : Rel σ τ) (nx : ∀ σ' τ', Rel σ' τ' → LSim x (wxC z1) (wxM z2) cs ss 1426 (LV z1 z2 b i) [] σ' τ') (hcs : cs ≤ 600000) (hss : ss ≤ 7302250) (hin : hinA i L) : LSim x (wxC z1) (wxM z2) cs ss 326 (LV z1 z2 b i) [] σ τ := by
  obtain ⟨r, σ', τ', e1, e2, hR'⟩ := eq_end hR (xs (i + nI 1).toNatClampNeg)
  refine L_aload_n C 2 dL_law_326 rfl ?_
  refine L_aload_n C 3 dL_law_327 rfl ?_
  refine L_iload_n C 0 dL_law_328 rfl ?_
  refine L_iconst C (nI 1) dL_law_329 (by decide) ?_
  refine L_iadd C dL_law_330 ?_
  refine L_sld C (hin 1 (by decide)) dL_law_331 ?_
  refine L_call C mw_X10_end mv_X10_end ml_L_29 (con_X10_end z1 (mL x) _ σ (r, σ') e1) ⟨by decide, by decide⟩ rfl (q := 0) (show 0 < 59 by decide) rfl (ce_X10 z1 σ) rfl rfl (Nat.le_of_ble_eq_true rfl) dL_law_332 hcs hss ?_
  refine L_aload_n C 1 dL_law_335 rfl ?_
  refine L_aload_n C 3 dL_law_336 rfl ?_
  refine L_iload_n C 0 dL_law_337 rfl ?_
  refine L_iconst C (nI 1) dL_law_338 (by decide) ?_
  refine L_iadd C dL_law_339 ?_
  refine L_sld C (hin 1 (by decide)) dL_law_340 ?_
  refine LSim.sw (L_call C.sw mw_X11_end mv_X11_end ml_L_33 (con_X11_end z2 (mL x) _ τ (r, τ') e2) ⟨by decide, by decide⟩ rfl (q := 0) (show 0 < 48 by decide) rfl (ce_X11 z2 τ) rfl rfl (Nat.le_of_ble_eq_true rfl) dL_law_341 hcs hss (LSim.sw ?_))
  exact L_icmp_eq C 1426 dL_law_344 (by decide) (fun _ => nx _ _ hR') (fun hne => absurd rfl hne)
theorem LC_4 (C : Lok x (wxC z1) (wxM z2) b L xs) (hR : Rel σ τ) (nx : ∀ σ' τ', Rel σ' τ' → LSim x (wxC z1) (wxM z2) cs ss 1426 (LV z1 z2 b i) [] σ' τ') (hcs : cs ≤ 600000) (hss : ss ≤ 7302250) (hin : hinA i L) : LSim x (wxC z1) (wxM z2) cs ss 349 (LV z1 z2 b i) [] σ τ := by
  obtain ⟨r, σ', τ', e1, e2, hR'⟩ := eq_rules hR
  refine L_aload_n C 2 dL_law_349 rfl ?_
  refine L_call C mw_X10_rules mv_X10_rules ml_L_34 (con_X10_rules z1 (mL x)  σ (r, σ') e1) ⟨by decide, by decide⟩ rfl (q := 0) (show 0 < 59 by decide) rfl (ce_X10 z1 σ) rfl rfl (Nat.le_of_ble_eq_true rfl) dL_law_350 hcs hss ?_
  refine L_aload_n C 1 dL_law_353 rfl ?_
  refine LSim.sw (L_call C.sw mw_X11_rules mv_X11_rules ml_L_38 (con_X11_rules z2 (mL x)  τ (r, τ') e2) ⟨by decide, by decide⟩ rfl (q := 0) (show 0 < 48 by decide) rfl (ce_X11 z2 τ) rfl rfl (Nat.le_of_ble_eq_true rfl) dL_law_354 hcs hss (LSim.sw ?_))
  exact L_icmp_eq C 1426 dL_law_357 (by decide) (fun _ => nx _ _ hR') (fun hne => absurd rfl hne)
theorem LC_5 (C : Lok x (wxC z1) (wxM z2) b L xs) (hR : Rel σ τ) (nx : ∀ σ' τ', Rel σ' τ' → LSim x (wxC z1) (wxM z2) cs ss 1426 (LV z1 z2 b i) [] σ' τ') (hcs : cs ≤ 600000) (hss : ss ≤ 7302250) (hin : hinA i L) : LSim x (wxC z1) (wxM z2) cs ss 362 (LV z1 z2 b i) [] σ τ := by
  obtain ⟨r, σ', τ', e1, e2, hR'⟩ := eq_fault hR
  obtain ⟨e1, s1⟩ := pu_some e1
  rw [s1] at hR'
  obtain ⟨e2, s2⟩ := pu_some e2
  rw [s2] at hR'
  refine L_aload_n C 2 dL_law_362 rfl ?_
  refine L_call C mw_X10_fault mv_X10_fault ml_L_39 (con_X10_fault z1 (mL x)  σ r e1) ⟨by decide, by decide⟩ rfl (q := 0) (show 0 < 59 by decide) rfl (ce_X10 z1 σ) rfl rfl (Nat.le_of_ble_eq_true rfl) dL_law_363 hcs hss ?_
  refine L_aload_n C 1 dL_law_366 rfl ?_
  refine LSim.sw (L_call C.sw mw_X11_fault mv_X11_fault ml_L_42 (con_X11_fault z2 (mL x)  τ r e2) ⟨by decide, by decide⟩ rfl (q := 0) (show 0 < 48 by decide) rfl (ce_X11 z2 τ) rfl rfl (Nat.le_of_ble_eq_true rfl) dL_law_367 hcs hss (LSim.sw ?_))
  exact L_icmp_eq C 1426 dL_law_370 (by decide) (fun _ => nx _ _ hR') (fun hne => absurd rfl hne)
theorem LC_6 (C : Lok x (wxC z1) (wxM z2) b L xs) (hR : Rel σ τ) (nx : ∀ σ' τ', Rel σ' τ' → LSim x (wxC z1) (wxM z2) cs ss 1426 (LV z1 z2 b i) [] σ' τ') (hcs : cs ≤ 600000) (hss : ss ≤ 7302250) (hin : hinA i L) : LSim x (wxC z1) (wxM z2) cs ss 375 (LV z1 z2 b i) [] σ τ := by
  obtain ⟨r, σ', τ', e1, e2, hR'⟩ := eq_rule hR (xs (i + nI 1).toNatClampNeg)
  obtain ⟨e1, s1⟩ := pu_some e1
  rw [s1] at hR'
  obtain ⟨e2, s2⟩ := pu_some e2
  rw [s2] at hR'
  refine L_aload_n C 2 dL_law_375 rfl ?_
  refine L_aload_n C 3 dL_law_376 rfl ?_
  refine L_iload_n C 0 dL_law_377 rfl ?_
  refine L_iconst C (nI 1) dL_law_378 (by decide) ?_
  refine L_iadd C dL_law_379 ?_
  refine L_sld C (hin 1 (by decide)) dL_law_380 ?_
  refine L_call C mw_X10_rule mv_X10_rule ml_L_43 (con_X10_rule z1 (mL x) _ σ r e1) ⟨by decide, by decide⟩ rfl (q := 0) (show 0 < 59 by decide) rfl (ce_X10 z1 σ) rfl rfl (Nat.le_of_ble_eq_true rfl) dL_law_381 hcs hss ?_
  refine L_aload_n C 1 dL_law_384 rfl ?_
  refine L_aload_n C 3 dL_law_385 rfl ?_
  refine L_iload_n C 0 dL_law_386 rfl ?_
  refine L_iconst C (nI 1) dL_law_387 (by decide) ?_
  refine L_iadd C dL_law_388 ?_
  refine L_sld C (hin 1 (by decide)) dL_law_389 ?_
  refine LSim.sw (L_call C.sw mw_X11_rule mv_X11_rule ml_L_46 (con_X11_rule z2 (mL x) _ τ r e2) ⟨by decide, by decide⟩ rfl (q := 0) (show 0 < 48 by decide) rfl (ce_X11 z2 τ) rfl rfl (Nat.le_of_ble_eq_true rfl) dL_law_390 hcs hss (LSim.sw ?_))
  exact L_icmp_eq C 1426 dL_law_393 (by decide) (fun _ => nx _ _ hR') (fun hne => absurd rfl hne)
theorem LC_7 (C : Lok x (wxC z1) (wxM z2) b L xs) (hR : Rel σ τ) (nx : ∀ σ' τ', Rel σ' τ' → LSim x (wxC z1) (wxM z2) cs ss 1426 (LV z1 z2 b i) [] σ' τ') (hcs : cs ≤ 600000) (hss : ss ≤ 7302250) (hin : hinA i L) : LSim x (wxC z1) (wxM z2) cs ss 398 (LV z1 z2 b i) [] σ τ := by
  obtain ⟨r, σ', τ', e1, e2, hR'⟩ := eq_sound hR (xs (i + nI 1).toNatClampNeg)
  obtain ⟨e1, s1⟩ := pu_some e1
  rw [s1] at hR'
  refine L_aload_n C 2 dL_law_398 rfl ?_
  refine L_aload_n C 3 dL_law_399 rfl ?_
  refine L_iload_n C 0 dL_law_400 rfl ?_
  refine L_iconst C (nI 1) dL_law_401 (by decide) ?_
  refine L_iadd C dL_law_402 ?_
  refine L_sld C (hin 1 (by decide)) dL_law_403 ?_
  refine L_call C mw_X10_sound mv_X10_sound ml_L_47 (con_X10_sound z1 (mL x) _ σ r e1) ⟨by decide, by decide⟩ rfl (q := 0) (show 0 < 59 by decide) rfl (ce_X10 z1 σ) rfl rfl (Nat.le_of_ble_eq_true rfl) dL_law_404 hcs hss ?_
  refine L_aload_n C 1 dL_law_407 rfl ?_
  refine L_aload_n C 3 dL_law_408 rfl ?_
  refine L_iload_n C 0 dL_law_409 rfl ?_
  refine L_iconst C (nI 1) dL_law_410 (by decide) ?_
  refine L_iadd C dL_law_411 ?_
  refine L_sld C (hin 1 (by decide)) dL_law_412 ?_
  refine LSim.sw (L_call C.sw mw_X11_sound mv_X11_sound ml_L_50 (con_X11_sound z2 (mL x) _ τ (r, τ') e2) ⟨by decide, by decide⟩ rfl (q := 0) (show 0 < 48 by decide) rfl (ce_X11 z2 τ) rfl rfl (Nat.le_of_ble_eq_true rfl) dL_law_413 hcs hss (LSim.sw ?_))
  refine L_lcmp C dL_law_416 ?_
  exact L_ifeq C 1426 dL_law_417 (by decide) (fun _ => nx _ _ hR') (fun hne => absurd (lg_same r) hne)
theorem LC_8 (C : Lok x (wxC z1) (wxM z2) b L xs) (hR : Rel σ τ) (nx : ∀ σ' τ', Rel σ' τ' → LSim x (wxC z1) (wxM z2) cs ss 1426 (LV z1 z2 b i) [] σ' τ') (hcs : cs ≤ 600000) (hss : ss ≤ 7302250) (hin : hinA i L) : LSim x (wxC z1) (wxM z2) cs ss 422 (LV z1 z2 b i) [] σ τ := by
  obtain ⟨r, σ', τ', e1, e2, hR'⟩ := eq_sounds hR (xs (i + nI 1).toNatClampNeg)
  obtain ⟨e1, s1⟩ := pu_some e1
  rw [s1] at hR'
  refine L_aload_n C 2 dL_law_422 rfl ?_
  refine L_aload_n C 3 dL_law_423 rfl ?_
  refine L_iload_n C 0 dL_law_424 rfl ?_
  refine L_iconst C (nI 1) dL_law_425 (by decide) ?_
  refine L_iadd C dL_law_426 ?_
  refine L_sld C (hin 1 (by decide)) dL_law_427 ?_
  refine L_call C mw_X10_sounds mv_X10_sounds ml_L_51 (con_X10_sounds z1 (mL x) _ σ r e1) ⟨by decide, by decide⟩ rfl (q := 0) (show 0 < 59 by decide) rfl (ce_X10 z1 σ) rfl rfl (Nat.le_of_ble_eq_true rfl) dL_law_428 hcs hss ?_
  refine L_aload_n C 1 dL_law_431 rfl ?_
  refine L_aload_n C 3 dL_law_432 rfl ?_
  refine L_iload_n C 0 dL_law_433 rfl ?_
  refine L_iconst C (nI 1) dL_law_434 (by decide) ?_
  refine L_iadd C dL_law_435 ?_
  refine L_sld C (hin 1 (by decide)) dL_law_436 ?_
  refine LSim.sw (L_call C.sw mw_X11_sounds mv_X11_sounds ml_L_54 (con_X11_sounds z2 (mL x) _ τ (r, τ') e2) ⟨by decide, by decide⟩ rfl (q := 0) (show 0 < 48 by decide) rfl (ce_X11 z2 τ) rfl rfl (Nat.le_of_ble_eq_true rfl) dL_law_437 hcs hss (LSim.sw ?_))
  exact L_icmp_eq C 1426 dL_law_440 (by decide) (fun _ => nx _ _ hR') (fun hne => absurd rfl hne)
theorem LC_9 (C : Lok x (wxC z1) (wxM z2) b L xs) (hR : Rel σ τ) (nx : ∀ σ' τ', Rel σ' τ' → LSim x (wxC z1) (wxM z2) cs ss 1426 (LV z1 z2 b i) [] σ' τ') (hcs : cs ≤ 600000) (hss : ss ≤ 7302250) (hin : hinA i L) : LSim x (wxC z1) (wxM z2) cs ss 445 (LV z1 z2 b i) [] σ τ := by
  obtain ⟨r, σ', τ', e1, e2, hR'⟩ := eq_apart hR (xs (i + nI 1).toNatClampNeg) (xs (i + nI 2).toNatClampNeg)
  obtain ⟨e1, s1⟩ := pu_some e1
  rw [s1] at hR'
  refine L_aload_n C 2 dL_law_445 rfl ?_
  refine L_aload_n C 3 dL_law_446 rfl ?_
  refine L_iload_n C 0 dL_law_447 rfl ?_
  refine L_iconst C (nI 1) dL_law_448 (by decide) ?_
  refine L_iadd C dL_law_449 ?_
  refine L_sld C (hin 1 (by decide)) dL_law_450 ?_
  refine L_aload_n C 3 dL_law_451 rfl ?_
  refine L_iload_n C 0 dL_law_452 rfl ?_
  refine L_iconst C (nI 2) dL_law_453 (by decide) ?_
  refine L_iadd C dL_law_454 ?_
  refine L_sld C (hin 2 (by decide)) dL_law_455 ?_
  refine L_call C mw_X10_apart mv_X10_apart ml_L_55 (con_X10_apart z1 (mL x) _ _ σ r e1) ⟨by decide, by decide⟩ rfl (q := 0) (show 0 < 59 by decide) rfl (ce_X10 z1 σ) rfl rfl (Nat.le_of_ble_eq_true rfl) dL_law_456 hcs hss ?_
  refine L_aload_n C 1 dL_law_459 rfl ?_
  refine L_aload_n C 3 dL_law_460 rfl ?_
  refine L_iload_n C 0 dL_law_461 rfl ?_
  refine L_iconst C (nI 1) dL_law_462 (by decide) ?_
  refine L_iadd C dL_law_463 ?_
  refine L_sld C (hin 1 (by decide)) dL_law_464 ?_
  refine L_aload_n C 3 dL_law_465 rfl ?_
  refine L_iload_n C 0 dL_law_466 rfl ?_
  refine L_iconst C (nI 2) dL_law_467 (by decide) ?_
  refine L_iadd C dL_law_468 ?_
  refine L_sld C (hin 2 (by decide)) dL_law_469 ?_
  refine LSim.sw (L_call C.sw mw_X11_apart mv_X11_apart ml_L_59 (con_X11_apart z2 (mL x) _ _ τ (r, τ') e2) ⟨by decide, by decide⟩ rfl (q := 0) (show 0 < 48 by decide) rfl (ce_X11 z2 τ) rfl rfl (Nat.le_of_ble_eq_true rfl) dL_law_470 hcs hss (LSim.sw ?_))
  exact L_icmp_eq C 1426 dL_law_473 (by decide) (fun _ => nx _ _ hR') (fun hne => absurd rfl hne)
theorem LC_10 (C : Lok x (wxC z1) (wxM z2) b L xs) (hR : Rel σ τ) (nx : ∀ σ' τ', Rel σ' τ' → LSim x (wxC z1) (wxM z2) cs ss 1426 (LV z1 z2 b i) [] σ' τ') (hcs : cs ≤ 600000) (hss : ss ≤ 7302250) (hin : hinA i L) : LSim x (wxC z1) (wxM z2) cs ss 478 (LV z1 z2 b i) [] σ τ := by
  obtain ⟨r, σ', τ', e1, e2, hR'⟩ := eq_name hR (xs (i + nI 1).toNatClampNeg)
  obtain ⟨e1, s1⟩ := pu_some e1
  rw [s1] at hR'
  refine L_aload_n C 2 dL_law_478 rfl ?_
  refine L_aload_n C 3 dL_law_479 rfl ?_
  refine L_iload_n C 0 dL_law_480 rfl ?_
  refine L_iconst C (nI 1) dL_law_481 (by decide) ?_
  refine L_iadd C dL_law_482 ?_
  refine L_sld C (hin 1 (by decide)) dL_law_483 ?_
  refine L_call C mw_X10_name mv_X10_name ml_L_60 (con_X10_name z1 (mL x) _ σ r e1) ⟨by decide, by decide⟩ rfl (q := 0) (show 0 < 59 by decide) rfl (ce_X10 z1 σ) rfl rfl (Nat.le_of_ble_eq_true rfl) dL_law_484 hcs hss ?_
  refine L_aload_n C 1 dL_law_487 rfl ?_
  refine L_aload_n C 3 dL_law_488 rfl ?_
  refine L_iload_n C 0 dL_law_489 rfl ?_
  refine L_iconst C (nI 1) dL_law_490 (by decide) ?_
  refine L_iadd C dL_law_491 ?_
  refine L_sld C (hin 1 (by decide)) dL_law_492 ?_
  refine LSim.sw (L_call C.sw mw_X11_name mv_X11_name ml_L_63 (con_X11_name z2 (mL x) _ τ (r, τ') e2) ⟨by decide, by decide⟩ rfl (q := 0) (show 0 < 48 by decide) rfl (ce_X11 z2 τ) rfl rfl (Nat.le_of_ble_eq_true rfl) dL_law_493 hcs hss (LSim.sw ?_))
  exact L_icmp_eq C 1426 dL_law_496 (by decide) (fun _ => nx _ _ hR') (fun hne => absurd rfl hne)
theorem LC_11 (C : Lok x (wxC z1) (wxM z2) b L xs) (hR : Rel σ τ) (nx : ∀ σ' τ', Rel σ' τ' → LSim x (wxC z1) (wxM z2) cs ss 1426 (LV z1 z2 b i) [] σ' τ') (hcs : cs ≤ 600000) (hss : ss ≤ 7302250) (hin : hinA i L) : LSim x (wxC z1) (wxM z2) cs ss 501 (LV z1 z2 b i) [] σ τ := by
  obtain ⟨r, σ', τ', e1, e2, hR'⟩ := eq_chain hR (xs (i + nI 1).toNatClampNeg) (xs (i + nI 2).toNatClampNeg) (xs (i + nI 3).toNatClampNeg)
  refine L_aload_n C 2 dL_law_501 rfl ?_
  refine L_aload_n C 3 dL_law_502 rfl ?_
  refine L_iload_n C 0 dL_law_503 rfl ?_
  refine L_iconst C (nI 1) dL_law_504 (by decide) ?_
  refine L_iadd C dL_law_505 ?_
  refine L_sld C (hin 1 (by decide)) dL_law_506 ?_
  refine L_aload_n C 3 dL_law_507 rfl ?_
  refine L_iload_n C 0 dL_law_508 rfl ?_
  refine L_iconst C (nI 2) dL_law_509 (by decide) ?_
  refine L_iadd C dL_law_510 ?_
  refine L_sld C (hin 2 (by decide)) dL_law_511 ?_
  refine L_aload_n C 3 dL_law_512 rfl ?_
  refine L_iload_n C 0 dL_law_513 rfl ?_
  refine L_iconst C (nI 3) dL_law_514 (by decide) ?_
  refine L_iadd C dL_law_515 ?_
  refine L_sld C (hin 3 (by decide)) dL_law_516 ?_
  refine L_call C mw_X10_chain mv_X10_chain ml_L_64 (con_X10_chain z1 (mL x) _ _ _ σ (r, σ') e1) ⟨by decide, by decide⟩ rfl (q := 0) (show 0 < 59 by decide) rfl (ce_X10 z1 σ) rfl rfl (Nat.le_of_ble_eq_true rfl) dL_law_517 hcs hss ?_
  refine L_aload_n C 1 dL_law_520 rfl ?_
  refine L_aload_n C 3 dL_law_521 rfl ?_
  refine L_iload_n C 0 dL_law_522 rfl ?_
  refine L_iconst C (nI 1) dL_law_523 (by decide) ?_
  refine L_iadd C dL_law_524 ?_
  refine L_sld C (hin 1 (by decide)) dL_law_525 ?_
  refine L_aload_n C 3 dL_law_526 rfl ?_
  refine L_iload_n C 0 dL_law_527 rfl ?_
  refine L_iconst C (nI 2) dL_law_528 (by decide) ?_
  refine L_iadd C dL_law_529 ?_
  refine L_sld C (hin 2 (by decide)) dL_law_530 ?_
  refine L_aload_n C 3 dL_law_531 rfl ?_
  refine L_iload_n C 0 dL_law_532 rfl ?_
  refine L_iconst C (nI 3) dL_law_533 (by decide) ?_
  refine L_iadd C dL_law_534 ?_
  refine L_sld C (hin 3 (by decide)) dL_law_535 ?_
  refine LSim.sw (L_call C.sw mw_X11_chain mv_X11_chain ml_L_68 (con_X11_chain z2 (mL x) _ _ _ τ (r, τ') e2) ⟨by decide, by decide⟩ rfl (q := 0) (show 0 < 48 by decide) rfl (ce_X11 z2 τ) rfl rfl (Nat.le_of_ble_eq_true rfl) dL_law_536 hcs hss (LSim.sw ?_))
  exact L_icmp_eq C 1426 dL_law_539 (by decide) (fun _ => nx _ _ hR') (fun hne => absurd rfl hne)
theorem LC_12 (C : Lok x (wxC z1) (wxM z2) b L xs) (hR : Rel σ τ) (nx : ∀ σ' τ', Rel σ' τ' → LSim x (wxC z1) (wxM z2) cs ss 1426 (LV z1 z2 b i) [] σ' τ') (hcs : cs ≤ 600000) (hss : ss ≤ 7302250) (hin : hinA i L) : LSim x (wxC z1) (wxM z2) cs ss 544 (LV z1 z2 b i) [] σ τ := by
  obtain ⟨r, σ', τ', e1, e2, hR'⟩ := eq_standing hR (xs (i + nI 1).toNatClampNeg)
  obtain ⟨e1, s1⟩ := pu_some e1
  rw [s1] at hR'
  refine L_aload_n C 2 dL_law_544 rfl ?_
  refine L_aload_n C 3 dL_law_545 rfl ?_
  refine L_iload_n C 0 dL_law_546 rfl ?_
  refine L_iconst C (nI 1) dL_law_547 (by decide) ?_
  refine L_iadd C dL_law_548 ?_
  refine L_sld C (hin 1 (by decide)) dL_law_549 ?_
  refine L_call C mw_X10_standing mv_X10_standing ml_L_69 (con_X10_standing z1 (mL x) _ σ r e1) ⟨by decide, by decide⟩ rfl (q := 0) (show 0 < 59 by decide) rfl (ce_X10 z1 σ) rfl rfl (Nat.le_of_ble_eq_true rfl) dL_law_550 hcs hss ?_
  refine L_aload_n C 1 dL_law_553 rfl ?_
  refine L_aload_n C 3 dL_law_554 rfl ?_
  refine L_iload_n C 0 dL_law_555 rfl ?_
  refine L_iconst C (nI 1) dL_law_556 (by decide) ?_
  refine L_iadd C dL_law_557 ?_
  refine L_sld C (hin 1 (by decide)) dL_law_558 ?_
  refine LSim.sw (L_call C.sw mw_X11_standing mv_X11_standing ml_L_72 (con_X11_standing z2 (mL x) _ τ (r, τ') e2) ⟨by decide, by decide⟩ rfl (q := 0) (show 0 < 48 by decide) rfl (ce_X11 z2 τ) rfl rfl (Nat.le_of_ble_eq_true rfl) dL_law_559 hcs hss (LSim.sw ?_))
  exact L_icmp_eq C 1426 dL_law_562 (by decide) (fun _ => nx _ _ hR') (fun hne => absurd rfl hne)
theorem LC_13 (C : Lok x (wxC z1) (wxM z2) b L xs) (hR : Rel σ τ) (nx : ∀ σ' τ', Rel σ' τ' → LSim x (wxC z1) (wxM z2) cs ss 1426 (LV z1 z2 b i) [] σ' τ') (hcs : cs ≤ 600000) (hss : ss ≤ 7302250) (hin : hinA i L) : LSim x (wxC z1) (wxM z2) cs ss 567 (LV z1 z2 b i) [] σ τ := by
  obtain ⟨r, σ', τ', e1, e2, hR'⟩ := eq_place hR (xs (i + nI 1).toNatClampNeg) (xs (i + nI 2).toNatClampNeg)
  refine L_aload_n C 2 dL_law_567 rfl ?_
  refine L_aload_n C 3 dL_law_568 rfl ?_
  refine L_iload_n C 0 dL_law_569 rfl ?_
  refine L_iconst C (nI 1) dL_law_570 (by decide) ?_
  refine L_iadd C dL_law_571 ?_
  refine L_sld C (hin 1 (by decide)) dL_law_572 ?_
  refine L_aload_n C 3 dL_law_573 rfl ?_
  refine L_iload_n C 0 dL_law_574 rfl ?_
  refine L_iconst C (nI 2) dL_law_575 (by decide) ?_
  refine L_iadd C dL_law_576 ?_
  refine L_sld C (hin 2 (by decide)) dL_law_577 ?_
  refine L_call C mw_X10_place mv_X10_place ml_L_73 (con_X10_place z1 (mL x) _ _ σ (r, σ') e1) ⟨by decide, by decide⟩ rfl (q := 0) (show 0 < 59 by decide) rfl (ce_X10 z1 σ) rfl rfl (Nat.le_of_ble_eq_true rfl) dL_law_578 hcs hss ?_
  refine L_aload_n C 1 dL_law_581 rfl ?_
  refine L_aload_n C 3 dL_law_582 rfl ?_
  refine L_iload_n C 0 dL_law_583 rfl ?_
  refine L_iconst C (nI 1) dL_law_584 (by decide) ?_
  refine L_iadd C dL_law_585 ?_
  refine L_sld C (hin 1 (by decide)) dL_law_586 ?_
  refine L_aload_n C 3 dL_law_587 rfl ?_
  refine L_iload_n C 0 dL_law_588 rfl ?_
  refine L_iconst C (nI 2) dL_law_589 (by decide) ?_
  refine L_iadd C dL_law_590 ?_
  refine L_sld C (hin 2 (by decide)) dL_law_591 ?_
  refine LSim.sw (L_call C.sw mw_X11_place mv_X11_place ml_L_76 (con_X11_place z2 (mL x) _ _ τ (r, τ') e2) ⟨by decide, by decide⟩ rfl (q := 0) (show 0 < 48 by decide) rfl (ce_X11 z2 τ) rfl rfl (Nat.le_of_ble_eq_true rfl) dL_law_592 hcs hss (LSim.sw ?_))
  exact L_icmp_eq C 1426 dL_law_595 (by decide) (fun _ => nx _ _ hR') (fun hne => absurd rfl hne)
theorem LC_14 (C : Lok x (wxC z1) (wxM z2) b L xs) (hR : Rel σ τ) (nx : ∀ σ' τ', Rel σ' τ' → LSim x (wxC z1) (wxM z2) cs ss 1426 (LV z1 z2 b i) [] σ' τ') (hcs : cs ≤ 600000) (hss : ss ≤ 7302250) (hin : hinA i L) : LSim x (wxC z1) (wxM z2) cs ss 600 (LV z1 z2 b i) [] σ τ := by
  obtain ⟨r, σ', τ', e1, e2, hR'⟩ := eq_book hR (xs (i + nI 1).toNatClampNeg) (xs (i + nI 2).toNatClampNeg) (xs (i + nI 3).toNatClampNeg)
  refine L_aload_n C 2 dL_law_600 rfl ?_
  refine L_aload_n C 3 dL_law_601 rfl ?_
  refine L_iload_n C 0 dL_law_602 rfl ?_
  refine L_iconst C (nI 1) dL_law_603 (by decide) ?_
  refine L_iadd C dL_law_604 ?_
  refine L_sld C (hin 1 (by decide)) dL_law_605 ?_
  refine L_aload_n C 3 dL_law_606 rfl ?_
  refine L_iload_n C 0 dL_law_607 rfl ?_
  refine L_iconst C (nI 2) dL_law_608 (by decide) ?_
  refine L_iadd C dL_law_609 ?_
  refine L_sld C (hin 2 (by decide)) dL_law_610 ?_
  refine L_aload_n C 3 dL_law_611 rfl ?_
  refine L_iload_n C 0 dL_law_612 rfl ?_
  refine L_iconst C (nI 3) dL_law_613 (by decide) ?_
  refine L_iadd C dL_law_614 ?_
  refine L_sld C (hin 3 (by decide)) dL_law_615 ?_
  refine L_call C mw_X10_book mv_X10_book ml_L_77 (con_X10_book z1 (mL x) _ _ _ σ (r, σ') e1) ⟨by decide, by decide⟩ rfl (q := 0) (show 0 < 59 by decide) rfl (ce_X10 z1 σ) rfl rfl (Nat.le_of_ble_eq_true rfl) dL_law_616 hcs hss ?_
  refine L_aload_n C 1 dL_law_619 rfl ?_
  refine L_aload_n C 3 dL_law_620 rfl ?_
  refine L_iload_n C 0 dL_law_621 rfl ?_
  refine L_iconst C (nI 1) dL_law_622 (by decide) ?_
  refine L_iadd C dL_law_623 ?_
  refine L_sld C (hin 1 (by decide)) dL_law_624 ?_
  refine L_aload_n C 3 dL_law_625 rfl ?_
  refine L_iload_n C 0 dL_law_626 rfl ?_
  refine L_iconst C (nI 2) dL_law_627 (by decide) ?_
  refine L_iadd C dL_law_628 ?_
  refine L_sld C (hin 2 (by decide)) dL_law_629 ?_
  refine L_aload_n C 3 dL_law_630 rfl ?_
  refine L_iload_n C 0 dL_law_631 rfl ?_
  refine L_iconst C (nI 3) dL_law_632 (by decide) ?_
  refine L_iadd C dL_law_633 ?_
  refine L_sld C (hin 3 (by decide)) dL_law_634 ?_
  refine LSim.sw (L_call C.sw mw_X11_book mv_X11_book ml_L_80 (con_X11_book z2 (mL x) _ _ _ τ (r, τ') e2) ⟨by decide, by decide⟩ rfl (q := 0) (show 0 < 48 by decide) rfl (ce_X11 z2 τ) rfl rfl (Nat.le_of_ble_eq_true rfl) dL_law_635 hcs hss (LSim.sw ?_))
  exact L_icmp_eq C 1426 dL_law_638 (by decide) (fun _ => nx _ _ hR') (fun hne => absurd rfl hne)
theorem LC_15 (C : Lok x (wxC z1) (wxM z2) b L xs) (hR : Rel σ τ) (nx : ∀ σ' τ', Rel σ' τ' → LSim x (wxC z1) (wxM z2) cs ss 1426 (LV z1 z2 b i) [] σ' τ') (hcs : cs ≤ 600000) (hss : ss ≤ 7302250) (hin : hinA i L) : LSim x (wxC z1) (wxM z2) cs ss 643 (LV z1 z2 b i) [] σ τ := by
  by_cases hz : xs (i + nI 3).toNatClampNeg = 0
  · obtain ⟨r, σ', τ', e1, e2, hR'⟩ := eq_hole hR (xs (i + nI 1).toNatClampNeg) (xs (i + nI 2).toNatClampNeg) (nI 0) (Or.inl rfl)
    refine L_aload_n C 2 dL_law_643 rfl ?_
    refine L_aload_n C 3 dL_law_644 rfl ?_
    refine L_iload_n C 0 dL_law_645 rfl ?_
    refine L_iconst C (nI 1) dL_law_646 (by decide) ?_
    refine L_iadd C dL_law_647 ?_
    refine L_sld C (hin 1 (by decide)) dL_law_648 ?_
    refine L_aload_n C 3 dL_law_649 rfl ?_
    refine L_iload_n C 0 dL_law_650 rfl ?_
    refine L_iconst C (nI 2) dL_law_651 (by decide) ?_
    refine L_iadd C dL_law_652 ?_
    refine L_sld C (hin 2 (by decide)) dL_law_653 ?_
    refine L_aload_n C 3 dL_law_654 rfl ?_
    refine L_iload_n C 0 dL_law_655 rfl ?_
    refine L_iconst C (nI 3) dL_law_656 (by decide) ?_
    refine L_iadd C dL_law_657 ?_
    refine L_sld C (hin 3 (by decide)) dL_law_658 ?_
    refine L_ifeq C 666 dL_law_659 (by decide) (fun _ => ?_) (fun hne => absurd hz hne)
    refine L_iconst C (nI 0) dL_law_666 (by decide) ?_
    refine L_call C mw_X10_hole mv_X10_hole ml_L_81 (con_X10_hole z1 (mL x) _ _ _ σ (r, σ') e1) ⟨by decide, by decide⟩ rfl (q := 0) (show 0 < 59 by decide) rfl (ce_X10 z1 σ) rfl rfl (Nat.le_of_ble_eq_true rfl) dL_law_667 hcs hss ?_
    refine L_aload_n C 1 dL_law_670 rfl ?_
    refine L_aload_n C 3 dL_law_671 rfl ?_
    refine L_iload_n C 0 dL_law_672 rfl ?_
    refine L_iconst C (nI 1) dL_law_673 (by decide) ?_
    refine L_iadd C dL_law_674 ?_
    refine L_sld C (hin 1 (by decide)) dL_law_675 ?_
    refine L_aload_n C 3 dL_law_676 rfl ?_
    refine L_iload_n C 0 dL_law_677 rfl ?_
    refine L_iconst C (nI 2) dL_law_678 (by decide) ?_
    refine L_iadd C dL_law_679 ?_
    refine L_sld C (hin 2 (by decide)) dL_law_680 ?_
    refine L_aload_n C 3 dL_law_681 rfl ?_
    refine L_iload_n C 0 dL_law_682 rfl ?_
    refine L_iconst C (nI 3) dL_law_683 (by decide) ?_
    refine L_iadd C dL_law_684 ?_
    refine L_sld C (hin 3 (by decide)) dL_law_685 ?_
    refine L_ifeq C 693 dL_law_686 (by decide) (fun _ => ?_) (fun hne => absurd hz hne)
    refine L_iconst C (nI 0) dL_law_693 (by decide) ?_
    refine LSim.sw (L_call C.sw mw_X11_hole mv_X11_hole ml_L_85 (con_X11_hole z2 (mL x) _ _ _ τ (r, τ') e2) ⟨by decide, by decide⟩ rfl (q := 0) (show 0 < 48 by decide) rfl (ce_X11 z2 τ) rfl rfl (Nat.le_of_ble_eq_true rfl) dL_law_694 hcs hss (LSim.sw ?_))
    exact L_icmp_eq C 1426 dL_law_697 (by decide) (fun _ => nx _ _ hR') (fun hne => absurd rfl hne)
  · obtain ⟨r, σ', τ', e1, e2, hR'⟩ := eq_hole hR (xs (i + nI 1).toNatClampNeg) (xs (i + nI 2).toNatClampNeg) (nI 1) (Or.inr rfl)
    refine L_aload_n C 2 dL_law_643 rfl ?_
    refine L_aload_n C 3 dL_law_644 rfl ?_
    refine L_iload_n C 0 dL_law_645 rfl ?_
    refine L_iconst C (nI 1) dL_law_646 (by decide) ?_
    refine L_iadd C dL_law_647 ?_
    refine L_sld C (hin 1 (by decide)) dL_law_648 ?_
    refine L_aload_n C 3 dL_law_649 rfl ?_
    refine L_iload_n C 0 dL_law_650 rfl ?_
    refine L_iconst C (nI 2) dL_law_651 (by decide) ?_
    refine L_iadd C dL_law_652 ?_
    refine L_sld C (hin 2 (by decide)) dL_law_653 ?_
    refine L_aload_n C 3 dL_law_654 rfl ?_
    refine L_iload_n C 0 dL_law_655 rfl ?_
    refine L_iconst C (nI 3) dL_law_656 (by decide) ?_
    refine L_iadd C dL_law_657 ?_
    refine L_sld C (hin 3 (by decide)) dL_law_658 ?_
    refine L_ifeq C 666 dL_law_659 (by decide) (fun he => absurd he hz) (fun _ => ?_)
    refine L_iconst C (nI 1) dL_law_662 (by decide) ?_
    refine L_goto C 667 dL_law_663 (by decide) ?_
    refine L_call C mw_X10_hole mv_X10_hole ml_L_81 (con_X10_hole z1 (mL x) _ _ _ σ (r, σ') e1) ⟨by decide, by decide⟩ rfl (q := 0) (show 0 < 59 by decide) rfl (ce_X10 z1 σ) rfl rfl (Nat.le_of_ble_eq_true rfl) dL_law_667 hcs hss ?_
    refine L_aload_n C 1 dL_law_670 rfl ?_
    refine L_aload_n C 3 dL_law_671 rfl ?_
    refine L_iload_n C 0 dL_law_672 rfl ?_
    refine L_iconst C (nI 1) dL_law_673 (by decide) ?_
    refine L_iadd C dL_law_674 ?_
    refine L_sld C (hin 1 (by decide)) dL_law_675 ?_
    refine L_aload_n C 3 dL_law_676 rfl ?_
    refine L_iload_n C 0 dL_law_677 rfl ?_
    refine L_iconst C (nI 2) dL_law_678 (by decide) ?_
    refine L_iadd C dL_law_679 ?_
    refine L_sld C (hin 2 (by decide)) dL_law_680 ?_
    refine L_aload_n C 3 dL_law_681 rfl ?_
    refine L_iload_n C 0 dL_law_682 rfl ?_
    refine L_iconst C (nI 3) dL_law_683 (by decide) ?_
    refine L_iadd C dL_law_684 ?_
    refine L_sld C (hin 3 (by decide)) dL_law_685 ?_
    refine L_ifeq C 693 dL_law_686 (by decide) (fun he => absurd he hz) (fun _ => ?_)
    refine L_iconst C (nI 1) dL_law_689 (by decide) ?_
    refine L_goto C 694 dL_law_690 (by decide) ?_
    refine LSim.sw (L_call C.sw mw_X11_hole mv_X11_hole ml_L_85 (con_X11_hole z2 (mL x) _ _ _ τ (r, τ') e2) ⟨by decide, by decide⟩ rfl (q := 0) (show 0 < 48 by decide) rfl (ce_X11 z2 τ) rfl rfl (Nat.le_of_ble_eq_true rfl) dL_law_694 hcs hss (LSim.sw ?_))
    exact L_icmp_eq C 1426 dL_law_697 (by decide) (fun _ => nx _ _ hR') (fun hne => absurd rfl hne)
theorem LC_16 (C : Lok x (wxC z1) (wxM z2) b L xs) (hR : Rel σ τ) (nx : ∀ σ' τ', Rel σ' τ' → LSim x (wxC z1) (wxM z2) cs ss 1426 (LV z1 z2 b i) [] σ' τ') (hcs : cs ≤ 600000) (hss : ss ≤ 7302250) (hin : hinA i L) : LSim x (wxC z1) (wxM z2) cs ss 702 (LV z1 z2 b i) [] σ τ := by
  obtain ⟨r, σ', τ', e1, e2, hR'⟩ := eq_bookOf hR (xs (i + nI 1).toNatClampNeg) (xs (i + nI 2).toNatClampNeg)
  obtain ⟨e1, s1⟩ := pu_some e1
  rw [s1] at hR'
  obtain ⟨e2, s2⟩ := pu_some e2
  rw [s2] at hR'
  refine L_aload_n C 2 dL_law_702 rfl ?_
  refine L_aload_n C 3 dL_law_703 rfl ?_
  refine L_iload_n C 0 dL_law_704 rfl ?_
  refine L_iconst C (nI 1) dL_law_705 (by decide) ?_
  refine L_iadd C dL_law_706 ?_
  refine L_sld C (hin 1 (by decide)) dL_law_707 ?_
  refine L_aload_n C 3 dL_law_708 rfl ?_
  refine L_iload_n C 0 dL_law_709 rfl ?_
  refine L_iconst C (nI 2) dL_law_710 (by decide) ?_
  refine L_iadd C dL_law_711 ?_
  refine L_sld C (hin 2 (by decide)) dL_law_712 ?_
  refine L_call C mw_X10_bookOf mv_X10_bookOf ml_L_86 (con_X10_bookOf z1 (mL x) _ _ σ r e1) ⟨by decide, by decide⟩ rfl (q := 0) (show 0 < 59 by decide) rfl (ce_X10 z1 σ) rfl rfl (Nat.le_of_ble_eq_true rfl) dL_law_713 hcs hss ?_
  refine L_aload_n C 1 dL_law_716 rfl ?_
  refine L_aload_n C 3 dL_law_717 rfl ?_
  refine L_iload_n C 0 dL_law_718 rfl ?_
  refine L_iconst C (nI 1) dL_law_719 (by decide) ?_
  refine L_iadd C dL_law_720 ?_
  refine L_sld C (hin 1 (by decide)) dL_law_721 ?_
  refine L_aload_n C 3 dL_law_722 rfl ?_
  refine L_iload_n C 0 dL_law_723 rfl ?_
  refine L_iconst C (nI 2) dL_law_724 (by decide) ?_
  refine L_iadd C dL_law_725 ?_
  refine L_sld C (hin 2 (by decide)) dL_law_726 ?_
  refine LSim.sw (L_call C.sw mw_X11_bookOf mv_X11_bookOf ml_L_89 (con_X11_bookOf z2 (mL x) _ _ τ r e2) ⟨by decide, by decide⟩ rfl (q := 0) (show 0 < 48 by decide) rfl (ce_X11 z2 τ) rfl rfl (Nat.le_of_ble_eq_true rfl) dL_law_727 hcs hss (LSim.sw ?_))
  exact L_icmp_eq C 1426 dL_law_730 (by decide) (fun _ => nx _ _ hR') (fun hne => absurd rfl hne)
theorem LC_17 (C : Lok x (wxC z1) (wxM z2) b L xs) (hR : Rel σ τ) (nx : ∀ σ' τ', Rel σ' τ' → LSim x (wxC z1) (wxM z2) cs ss 1426 (LV z1 z2 b i) [] σ' τ') (hcs : cs ≤ 600000) (hss : ss ≤ 7302250) (hin : hinA i L) : LSim x (wxC z1) (wxM z2) cs ss 735 (LV z1 z2 b i) [] σ τ := by
  obtain ⟨r, σ', τ', e1, e2, hR'⟩ := eq_line hR (xs (i + nI 1).toNatClampNeg) (xs (i + nI 2).toNatClampNeg) (xs (i + nI 3).toNatClampNeg) (xs (i + nI 4).toNatClampNeg)
  refine L_aload_n C 2 dL_law_735 rfl ?_
  refine L_aload_n C 3 dL_law_736 rfl ?_
  refine L_iload_n C 0 dL_law_737 rfl ?_
  refine L_iconst C (nI 1) dL_law_738 (by decide) ?_
  refine L_iadd C dL_law_739 ?_
  refine L_sld C (hin 1 (by decide)) dL_law_740 ?_
  refine L_aload_n C 3 dL_law_741 rfl ?_
  refine L_iload_n C 0 dL_law_742 rfl ?_
  refine L_iconst C (nI 2) dL_law_743 (by decide) ?_
  refine L_iadd C dL_law_744 ?_
  refine L_sld C (hin 2 (by decide)) dL_law_745 ?_
  refine L_aload_n C 3 dL_law_746 rfl ?_
  refine L_iload_n C 0 dL_law_747 rfl ?_
  refine L_iconst C (nI 3) dL_law_748 (by decide) ?_
  refine L_iadd C dL_law_749 ?_
  refine L_sld C (hin 3 (by decide)) dL_law_750 ?_
  refine L_aload_n C 3 dL_law_751 rfl ?_
  refine L_iload_n C 0 dL_law_752 rfl ?_
  refine L_iconst C (nI 4) dL_law_753 (by decide) ?_
  refine L_iadd C dL_law_754 ?_
  refine L_sld C (hin 4 (by decide)) dL_law_755 ?_
  refine L_call C mw_X10_line mv_X10_line ml_L_90 (con_X10_line z1 (mL x) _ _ _ _ σ (r, σ') e1) ⟨by decide, by decide⟩ rfl (q := 0) (show 0 < 59 by decide) rfl (ce_X10 z1 σ) rfl rfl (Nat.le_of_ble_eq_true rfl) dL_law_756 hcs hss ?_
  refine L_aload_n C 1 dL_law_759 rfl ?_
  refine L_aload_n C 3 dL_law_760 rfl ?_
  refine L_iload_n C 0 dL_law_761 rfl ?_
  refine L_iconst C (nI 1) dL_law_762 (by decide) ?_
  refine L_iadd C dL_law_763 ?_
  refine L_sld C (hin 1 (by decide)) dL_law_764 ?_
  refine L_aload_n C 3 dL_law_765 rfl ?_
  refine L_iload_n C 0 dL_law_766 rfl ?_
  refine L_iconst C (nI 2) dL_law_767 (by decide) ?_
  refine L_iadd C dL_law_768 ?_
  refine L_sld C (hin 2 (by decide)) dL_law_769 ?_
  refine L_aload_n C 3 dL_law_770 rfl ?_
  refine L_iload_n C 0 dL_law_771 rfl ?_
  refine L_iconst C (nI 3) dL_law_772 (by decide) ?_
  refine L_iadd C dL_law_773 ?_
  refine L_sld C (hin 3 (by decide)) dL_law_774 ?_
  refine L_aload_n C 3 dL_law_775 rfl ?_
  refine L_iload_n C 0 dL_law_776 rfl ?_
  refine L_iconst C (nI 4) dL_law_777 (by decide) ?_
  refine L_iadd C dL_law_778 ?_
  refine L_sld C (hin 4 (by decide)) dL_law_779 ?_
  refine LSim.sw (L_call C.sw mw_X11_line mv_X11_line ml_L_94 (con_X11_line z2 (mL x) _ _ _ _ τ (r, τ') e2) ⟨by decide, by decide⟩ rfl (q := 0) (show 0 < 48 by decide) rfl (ce_X11 z2 τ) rfl rfl (Nat.le_of_ble_eq_true rfl) dL_law_780 hcs hss (LSim.sw ?_))
  exact L_icmp_eq C 1426 dL_law_783 (by decide) (fun _ => nx _ _ hR') (fun hne => absurd rfl hne)
theorem LC_18 (C : Lok x (wxC z1) (wxM z2) b L xs) (hR : Rel σ τ) (nx : ∀ σ' τ', Rel σ' τ' → LSim x (wxC z1) (wxM z2) cs ss 1426 (LV z1 z2 b i) [] σ' τ') (hcs : cs ≤ 600000) (hss : ss ≤ 7302250) (hin : hinA i L) : LSim x (wxC z1) (wxM z2) cs ss 788 (LV z1 z2 b i) [] σ τ := by
  obtain ⟨r, σ', τ', e1, e2, hR'⟩ := eq_day hR (xs (i + nI 1).toNatClampNeg)
  refine L_aload_n C 2 dL_law_788 rfl ?_
  refine L_aload_n C 3 dL_law_789 rfl ?_
  refine L_iload_n C 0 dL_law_790 rfl ?_
  refine L_iconst C (nI 1) dL_law_791 (by decide) ?_
  refine L_iadd C dL_law_792 ?_
  refine L_sld C (hin 1 (by decide)) dL_law_793 ?_
  refine L_call C mw_X10_day mv_X10_day ml_L_95 (con_X10_day z1 (mL x) _ σ (r, σ') e1) ⟨by decide, by decide⟩ rfl (q := 0) (show 0 < 59 by decide) rfl (ce_X10 z1 σ) rfl rfl (Nat.le_of_ble_eq_true rfl) dL_law_794 hcs hss ?_
  refine L_aload_n C 1 dL_law_797 rfl ?_
  refine L_aload_n C 3 dL_law_798 rfl ?_
  refine L_iload_n C 0 dL_law_799 rfl ?_
  refine L_iconst C (nI 1) dL_law_800 (by decide) ?_
  refine L_iadd C dL_law_801 ?_
  refine L_sld C (hin 1 (by decide)) dL_law_802 ?_
  refine LSim.sw (L_call C.sw mw_X11_day mv_X11_day ml_L_98 (con_X11_day z2 (mL x) _ τ (r, τ') e2) ⟨by decide, by decide⟩ rfl (q := 0) (show 0 < 48 by decide) rfl (ce_X11 z2 τ) rfl rfl (Nat.le_of_ble_eq_true rfl) dL_law_803 hcs hss (LSim.sw ?_))
  exact L_icmp_eq C 1426 dL_law_806 (by decide) (fun _ => nx _ _ hR') (fun hne => absurd rfl hne)
theorem LC_19 (C : Lok x (wxC z1) (wxM z2) b L xs) (hR : Rel σ τ) (nx : ∀ σ' τ', Rel σ' τ' → LSim x (wxC z1) (wxM z2) cs ss 1426 (LV z1 z2 b i) [] σ' τ') (hcs : cs ≤ 600000) (hss : ss ≤ 7302250) (hin : hinA i L) : LSim x (wxC z1) (wxM z2) cs ss 811 (LV z1 z2 b i) [] σ τ := by
  obtain ⟨r, σ', τ', e1, e2, hR'⟩ := eq_again hR (xs (i + nI 1).toNatClampNeg) (xs (i + nI 2).toNatClampNeg)
  refine L_aload_n C 2 dL_law_811 rfl ?_
  refine L_aload_n C 3 dL_law_812 rfl ?_
  refine L_iload_n C 0 dL_law_813 rfl ?_
  refine L_iconst C (nI 1) dL_law_814 (by decide) ?_
  refine L_iadd C dL_law_815 ?_
  refine L_sld C (hin 1 (by decide)) dL_law_816 ?_
  refine L_aload_n C 3 dL_law_817 rfl ?_
  refine L_iload_n C 0 dL_law_818 rfl ?_
  refine L_iconst C (nI 2) dL_law_819 (by decide) ?_
  refine L_iadd C dL_law_820 ?_
  refine L_sld C (hin 2 (by decide)) dL_law_821 ?_
  refine L_call C mw_X10_again mv_X10_again ml_L_99 (con_X10_again z1 (mL x) _ _ σ (r, σ') e1) ⟨by decide, by decide⟩ rfl (q := 0) (show 0 < 59 by decide) rfl (ce_X10 z1 σ) rfl rfl (Nat.le_of_ble_eq_true rfl) dL_law_822 hcs hss ?_
  refine L_aload_n C 1 dL_law_825 rfl ?_
  refine L_aload_n C 3 dL_law_826 rfl ?_
  refine L_iload_n C 0 dL_law_827 rfl ?_
  refine L_iconst C (nI 1) dL_law_828 (by decide) ?_
  refine L_iadd C dL_law_829 ?_
  refine L_sld C (hin 1 (by decide)) dL_law_830 ?_
  refine L_aload_n C 3 dL_law_831 rfl ?_
  refine L_iload_n C 0 dL_law_832 rfl ?_
  refine L_iconst C (nI 2) dL_law_833 (by decide) ?_
  refine L_iadd C dL_law_834 ?_
  refine L_sld C (hin 2 (by decide)) dL_law_835 ?_
  refine LSim.sw (L_call C.sw mw_X11_again mv_X11_again ml_L_102 (con_X11_again z2 (mL x) _ _ τ (r, τ') e2) ⟨by decide, by decide⟩ rfl (q := 0) (show 0 < 48 by decide) rfl (ce_X11 z2 τ) rfl rfl (Nat.le_of_ble_eq_true rfl) dL_law_836 hcs hss (LSim.sw ?_))
  exact L_icmp_eq C 1426 dL_law_839 (by decide) (fun _ => nx _ _ hR') (fun hne => absurd rfl hne)
theorem LC_20 (C : Lok x (wxC z1) (wxM z2) b L xs) (hR : Rel σ τ) (nx : ∀ σ' τ', Rel σ' τ' → LSim x (wxC z1) (wxM z2) cs ss 1426 (LV z1 z2 b i) [] σ' τ') (hcs : cs ≤ 600000) (hss : ss ≤ 7302250) (hin : hinA i L) : LSim x (wxC z1) (wxM z2) cs ss 844 (LV z1 z2 b i) [] σ τ := by
  obtain ⟨r, σ', τ', e1, e2, hR'⟩ := eq_lineOf hR (xs (i + nI 1).toNatClampNeg) (xs (i + nI 2).toNatClampNeg)
  obtain ⟨e1, s1⟩ := pu_some e1
  rw [s1] at hR'
  refine L_aload_n C 2 dL_law_844 rfl ?_
  refine L_aload_n C 3 dL_law_845 rfl ?_
  refine L_iload_n C 0 dL_law_846 rfl ?_
  refine L_iconst C (nI 1) dL_law_847 (by decide) ?_
  refine L_iadd C dL_law_848 ?_
  refine L_sld C (hin 1 (by decide)) dL_law_849 ?_
  refine L_aload_n C 3 dL_law_850 rfl ?_
  refine L_iload_n C 0 dL_law_851 rfl ?_
  refine L_iconst C (nI 2) dL_law_852 (by decide) ?_
  refine L_iadd C dL_law_853 ?_
  refine L_sld C (hin 2 (by decide)) dL_law_854 ?_
  refine L_call C mw_X10_lineOf mv_X10_lineOf ml_L_103 (con_X10_lineOf z1 (mL x) _ _ σ r e1) ⟨by decide, by decide⟩ rfl (q := 0) (show 0 < 59 by decide) rfl (ce_X10 z1 σ) rfl rfl (Nat.le_of_ble_eq_true rfl) dL_law_855 hcs hss ?_
  refine L_aload_n C 1 dL_law_858 rfl ?_
  refine L_aload_n C 3 dL_law_859 rfl ?_
  refine L_iload_n C 0 dL_law_860 rfl ?_
  refine L_iconst C (nI 1) dL_law_861 (by decide) ?_
  refine L_iadd C dL_law_862 ?_
  refine L_sld C (hin 1 (by decide)) dL_law_863 ?_
  refine L_aload_n C 3 dL_law_864 rfl ?_
  refine L_iload_n C 0 dL_law_865 rfl ?_
  refine L_iconst C (nI 2) dL_law_866 (by decide) ?_
  refine L_iadd C dL_law_867 ?_
  refine L_sld C (hin 2 (by decide)) dL_law_868 ?_
  refine LSim.sw (L_call C.sw mw_X11_lineOf mv_X11_lineOf ml_L_106 (con_X11_lineOf z2 (mL x) _ _ τ (r, τ') e2) ⟨by decide, by decide⟩ rfl (q := 0) (show 0 < 48 by decide) rfl (ce_X11 z2 τ) rfl rfl (Nat.le_of_ble_eq_true rfl) dL_law_869 hcs hss (LSim.sw ?_))
  exact L_icmp_eq C 1426 dL_law_872 (by decide) (fun _ => nx _ _ hR') (fun hne => absurd rfl hne)
theorem LC_21 (C : Lok x (wxC z1) (wxM z2) b L xs) (hR : Rel σ τ) (nx : ∀ σ' τ', Rel σ' τ' → LSim x (wxC z1) (wxM z2) cs ss 1426 (LV z1 z2 b i) [] σ' τ') (hcs : cs ≤ 600000) (hss : ss ≤ 7302250) (hin : hinA i L) : LSim x (wxC z1) (wxM z2) cs ss 877 (LV z1 z2 b i) [] σ τ := by
  obtain ⟨r, σ', τ', e1, e2, hR'⟩ := eq_known hR (xs (i + nI 1).toNatClampNeg) (xs (i + nI 2).toNatClampNeg)
  obtain ⟨e1, s1⟩ := pu_some e1
  rw [s1] at hR'
  obtain ⟨e2, s2⟩ := pu_some e2
  rw [s2] at hR'
  refine L_aload_n C 2 dL_law_877 rfl ?_
  refine L_aload_n C 3 dL_law_878 rfl ?_
  refine L_iload_n C 0 dL_law_879 rfl ?_
  refine L_iconst C (nI 1) dL_law_880 (by decide) ?_
  refine L_iadd C dL_law_881 ?_
  refine L_sld C (hin 1 (by decide)) dL_law_882 ?_
  refine L_aload_n C 3 dL_law_883 rfl ?_
  refine L_iload_n C 0 dL_law_884 rfl ?_
  refine L_iconst C (nI 2) dL_law_885 (by decide) ?_
  refine L_iadd C dL_law_886 ?_
  refine L_sld C (hin 2 (by decide)) dL_law_887 ?_
  refine L_call C mw_X10_known mv_X10_known ml_L_107 (con_X10_known z1 (mL x) _ _ σ r e1) ⟨by decide, by decide⟩ rfl (q := 0) (show 0 < 59 by decide) rfl (ce_X10 z1 σ) rfl rfl (Nat.le_of_ble_eq_true rfl) dL_law_888 hcs hss ?_
  refine L_aload_n C 1 dL_law_891 rfl ?_
  refine L_aload_n C 3 dL_law_892 rfl ?_
  refine L_iload_n C 0 dL_law_893 rfl ?_
  refine L_iconst C (nI 1) dL_law_894 (by decide) ?_
  refine L_iadd C dL_law_895 ?_
  refine L_sld C (hin 1 (by decide)) dL_law_896 ?_
  refine L_aload_n C 3 dL_law_897 rfl ?_
  refine L_iload_n C 0 dL_law_898 rfl ?_
  refine L_iconst C (nI 2) dL_law_899 (by decide) ?_
  refine L_iadd C dL_law_900 ?_
  refine L_sld C (hin 2 (by decide)) dL_law_901 ?_
  refine LSim.sw (L_call C.sw mw_X11_known mv_X11_known ml_L_110 (con_X11_known z2 (mL x) _ _ τ r e2) ⟨by decide, by decide⟩ rfl (q := 0) (show 0 < 48 by decide) rfl (ce_X11 z2 τ) rfl rfl (Nat.le_of_ble_eq_true rfl) dL_law_902 hcs hss (LSim.sw ?_))
  exact L_icmp_eq C 1426 dL_law_905 (by decide) (fun _ => nx _ _ hR') (fun hne => absurd rfl hne)
theorem LC_22 (C : Lok x (wxC z1) (wxM z2) b L xs) (hR : Rel σ τ) (nx : ∀ σ' τ', Rel σ' τ' → LSim x (wxC z1) (wxM z2) cs ss 1426 (LV z1 z2 b i) [] σ' τ') (hcs : cs ≤ 600000) (hss : ss ≤ 7302250) (hin : hinA i L) : LSim x (wxC z1) (wxM z2) cs ss 910 (LV z1 z2 b i) [] σ τ := by
  obtain ⟨r, σ', τ', e1, e2, hR'⟩ := eq_bearers hR (xs (i + nI 1).toNatClampNeg) (xs (i + nI 2).toNatClampNeg) (xs (i + nI 3).toNatClampNeg) (xs (i + nI 4).toNatClampNeg) (xs (i + nI 5).toNatClampNeg)
  obtain ⟨e1, s1⟩ := pu_some e1
  rw [s1] at hR'
  refine L_aload_n C 2 dL_law_910 rfl ?_
  refine L_aload_n C 3 dL_law_911 rfl ?_
  refine L_iload_n C 0 dL_law_912 rfl ?_
  refine L_iconst C (nI 1) dL_law_913 (by decide) ?_
  refine L_iadd C dL_law_914 ?_
  refine L_sld C (hin 1 (by decide)) dL_law_915 ?_
  refine L_aload_n C 3 dL_law_916 rfl ?_
  refine L_iload_n C 0 dL_law_917 rfl ?_
  refine L_iconst C (nI 2) dL_law_918 (by decide) ?_
  refine L_iadd C dL_law_919 ?_
  refine L_sld C (hin 2 (by decide)) dL_law_920 ?_
  refine L_aload_n C 3 dL_law_921 rfl ?_
  refine L_iload_n C 0 dL_law_922 rfl ?_
  refine L_iconst C (nI 3) dL_law_923 (by decide) ?_
  refine L_iadd C dL_law_924 ?_
  refine L_sld C (hin 3 (by decide)) dL_law_925 ?_
  refine L_aload_n C 3 dL_law_926 rfl ?_
  refine L_iload_n C 0 dL_law_927 rfl ?_
  refine L_iconst C (nI 4) dL_law_928 (by decide) ?_
  refine L_iadd C dL_law_929 ?_
  refine L_sld C (hin 4 (by decide)) dL_law_930 ?_
  refine L_aload_n C 3 dL_law_931 rfl ?_
  refine L_iload_n C 0 dL_law_932 rfl ?_
  refine L_iconst C (nI 5) dL_law_933 (by decide) ?_
  refine L_iadd C dL_law_934 ?_
  refine L_sld C (hin 5 (by decide)) dL_law_935 ?_
  refine L_call C mw_X10_bearers mv_X10_bearers ml_L_111 (con_X10_bearers z1 (mL x) _ _ _ _ _ σ r e1) ⟨by decide, by decide⟩ rfl (q := 0) (show 0 < 59 by decide) rfl (ce_X10 z1 σ) rfl rfl (Nat.le_of_ble_eq_true rfl) dL_law_936 hcs hss ?_
  refine L_aload_n C 1 dL_law_939 rfl ?_
  refine L_aload_n C 3 dL_law_940 rfl ?_
  refine L_iload_n C 0 dL_law_941 rfl ?_
  refine L_iconst C (nI 1) dL_law_942 (by decide) ?_
  refine L_iadd C dL_law_943 ?_
  refine L_sld C (hin 1 (by decide)) dL_law_944 ?_
  refine L_aload_n C 3 dL_law_945 rfl ?_
  refine L_iload_n C 0 dL_law_946 rfl ?_
  refine L_iconst C (nI 2) dL_law_947 (by decide) ?_
  refine L_iadd C dL_law_948 ?_
  refine L_sld C (hin 2 (by decide)) dL_law_949 ?_
  refine L_aload_n C 3 dL_law_950 rfl ?_
  refine L_iload_n C 0 dL_law_951 rfl ?_
  refine L_iconst C (nI 3) dL_law_952 (by decide) ?_
  refine L_iadd C dL_law_953 ?_
  refine L_sld C (hin 3 (by decide)) dL_law_954 ?_
  refine L_aload_n C 3 dL_law_955 rfl ?_
  refine L_iload_n C 0 dL_law_956 rfl ?_
  refine L_iconst C (nI 4) dL_law_957 (by decide) ?_
  refine L_iadd C dL_law_958 ?_
  refine L_sld C (hin 4 (by decide)) dL_law_959 ?_
  refine L_aload_n C 3 dL_law_960 rfl ?_
  refine L_iload_n C 0 dL_law_961 rfl ?_
  refine L_iconst C (nI 5) dL_law_962 (by decide) ?_
  refine L_iadd C dL_law_963 ?_
  refine L_sld C (hin 5 (by decide)) dL_law_964 ?_
  refine LSim.sw (L_call C.sw mw_X11_bearers mv_X11_bearers ml_L_115 (con_X11_bearers z2 (mL x) _ _ _ _ _ τ (r, τ') e2) ⟨by decide, by decide⟩ rfl (q := 0) (show 0 < 48 by decide) rfl (ce_X11 z2 τ) rfl rfl (Nat.le_of_ble_eq_true rfl) dL_law_965 hcs hss (LSim.sw ?_))
  exact L_icmp_eq C 1426 dL_law_968 (by decide) (fun _ => nx _ _ hR') (fun hne => absurd rfl hne)
theorem LC_23 (C : Lok x (wxC z1) (wxM z2) b L xs) (hR : Rel σ τ) (nx : ∀ σ' τ', Rel σ' τ' → LSim x (wxC z1) (wxM z2) cs ss 1426 (LV z1 z2 b i) [] σ' τ') (hcs : cs ≤ 600000) (hss : ss ≤ 7302250) (hin : hinA i L) : LSim x (wxC z1) (wxM z2) cs ss 973 (LV z1 z2 b i) [] σ τ := by
  obtain ⟨r, σ', τ', e1, e2, hR'⟩ := eq_first hR (xs (i + nI 1).toNatClampNeg) (xs (i + nI 2).toNatClampNeg)
  obtain ⟨e1, s1⟩ := pu_some e1
  rw [s1] at hR'
  refine L_aload_n C 2 dL_law_973 rfl ?_
  refine L_aload_n C 3 dL_law_974 rfl ?_
  refine L_iload_n C 0 dL_law_975 rfl ?_
  refine L_iconst C (nI 1) dL_law_976 (by decide) ?_
  refine L_iadd C dL_law_977 ?_
  refine L_sld C (hin 1 (by decide)) dL_law_978 ?_
  refine L_aload_n C 3 dL_law_979 rfl ?_
  refine L_iload_n C 0 dL_law_980 rfl ?_
  refine L_iconst C (nI 2) dL_law_981 (by decide) ?_
  refine L_iadd C dL_law_982 ?_
  refine L_sld C (hin 2 (by decide)) dL_law_983 ?_
  refine L_call C mw_X10_first mv_X10_first ml_L_116 (con_X10_first z1 (mL x) _ _ σ r e1) ⟨by decide, by decide⟩ rfl (q := 0) (show 0 < 59 by decide) rfl (ce_X10 z1 σ) rfl rfl (Nat.le_of_ble_eq_true rfl) dL_law_984 hcs hss ?_
  refine L_aload_n C 1 dL_law_987 rfl ?_
  refine L_aload_n C 3 dL_law_988 rfl ?_
  refine L_iload_n C 0 dL_law_989 rfl ?_
  refine L_iconst C (nI 1) dL_law_990 (by decide) ?_
  refine L_iadd C dL_law_991 ?_
  refine L_sld C (hin 1 (by decide)) dL_law_992 ?_
  refine L_aload_n C 3 dL_law_993 rfl ?_
  refine L_iload_n C 0 dL_law_994 rfl ?_
  refine L_iconst C (nI 2) dL_law_995 (by decide) ?_
  refine L_iadd C dL_law_996 ?_
  refine L_sld C (hin 2 (by decide)) dL_law_997 ?_
  refine LSim.sw (L_call C.sw mw_X11_first mv_X11_first ml_L_119 (con_X11_first z2 (mL x) _ _ τ (r, τ') e2) ⟨by decide, by decide⟩ rfl (q := 0) (show 0 < 48 by decide) rfl (ce_X11 z2 τ) rfl rfl (Nat.le_of_ble_eq_true rfl) dL_law_998 hcs hss (LSim.sw ?_))
  exact L_icmp_eq C 1426 dL_law_1001 (by decide) (fun _ => nx _ _ hR') (fun hne => absurd rfl hne)
theorem LC_24 (C : Lok x (wxC z1) (wxM z2) b L xs) (hR : Rel σ τ) (nx : ∀ σ' τ', Rel σ' τ' → LSim x (wxC z1) (wxM z2) cs ss 1426 (LV z1 z2 b i) [] σ' τ') (hcs : cs ≤ 600000) (hss : ss ≤ 7302250) (hin : hinA i L) : LSim x (wxC z1) (wxM z2) cs ss 1006 (LV z1 z2 b i) [] σ τ := by
  obtain ⟨r, σ', τ', e1, e2, hR'⟩ := eq_starts hR (xs (i + nI 1).toNatClampNeg) (xs (i + nI 2).toNatClampNeg)
  refine L_aload_n C 2 dL_law_1006 rfl ?_
  refine L_aload_n C 3 dL_law_1007 rfl ?_
  refine L_iload_n C 0 dL_law_1008 rfl ?_
  refine L_iconst C (nI 1) dL_law_1009 (by decide) ?_
  refine L_iadd C dL_law_1010 ?_
  refine L_sld C (hin 1 (by decide)) dL_law_1011 ?_
  refine L_aload_n C 3 dL_law_1012 rfl ?_
  refine L_iload_n C 0 dL_law_1013 rfl ?_
  refine L_iconst C (nI 2) dL_law_1014 (by decide) ?_
  refine L_iadd C dL_law_1015 ?_
  refine L_sld C (hin 2 (by decide)) dL_law_1016 ?_
  refine L_call C mw_X10_starts mv_X10_starts ml_L_120 (con_X10_starts z1 (mL x) _ _ σ (r, σ') e1) ⟨by decide, by decide⟩ rfl (q := 0) (show 0 < 59 by decide) rfl (ce_X10 z1 σ) rfl rfl (Nat.le_of_ble_eq_true rfl) dL_law_1017 hcs hss ?_
  refine L_aload_n C 1 dL_law_1020 rfl ?_
  refine L_aload_n C 3 dL_law_1021 rfl ?_
  refine L_iload_n C 0 dL_law_1022 rfl ?_
  refine L_iconst C (nI 1) dL_law_1023 (by decide) ?_
  refine L_iadd C dL_law_1024 ?_
  refine L_sld C (hin 1 (by decide)) dL_law_1025 ?_
  refine L_aload_n C 3 dL_law_1026 rfl ?_
  refine L_iload_n C 0 dL_law_1027 rfl ?_
  refine L_iconst C (nI 2) dL_law_1028 (by decide) ?_
  refine L_iadd C dL_law_1029 ?_
  refine L_sld C (hin 2 (by decide)) dL_law_1030 ?_
  refine LSim.sw (L_call C.sw mw_X11_starts mv_X11_starts ml_L_123 (con_X11_starts z2 (mL x) _ _ τ (r, τ') e2) ⟨by decide, by decide⟩ rfl (q := 0) (show 0 < 48 by decide) rfl (ce_X11 z2 τ) rfl rfl (Nat.le_of_ble_eq_true rfl) dL_law_1031 hcs hss (LSim.sw ?_))
  exact L_icmp_eq C 1426 dL_law_1034 (by decide) (fun _ => nx _ _ hR') (fun hne => absurd rfl hne)
theorem LC_25 (C : Lok x (wxC z1) (wxM z2) b L xs) (hR : Rel σ τ) (nx : ∀ σ' τ', Rel σ' τ' → LSim x (wxC z1) (wxM z2) cs ss 1426 (LV z1 z2 b i) [] σ' τ') (hcs : cs ≤ 600000) (hss : ss ≤ 7302250) (hin : hinA i L) : LSim x (wxC z1) (wxM z2) cs ss 1039 (LV z1 z2 b i) [] σ τ := by
  obtain ⟨r, σ', τ', e1, e2, hR'⟩ := eq_judge hR (xs (i + nI 1).toNatClampNeg) (xs (i + nI 2).toNatClampNeg)
  refine L_aload_n C 2 dL_law_1039 rfl ?_
  refine L_aload_n C 3 dL_law_1040 rfl ?_
  refine L_iload_n C 0 dL_law_1041 rfl ?_
  refine L_iconst C (nI 1) dL_law_1042 (by decide) ?_
  refine L_iadd C dL_law_1043 ?_
  refine L_sld C (hin 1 (by decide)) dL_law_1044 ?_
  refine L_aload_n C 3 dL_law_1045 rfl ?_
  refine L_iload_n C 0 dL_law_1046 rfl ?_
  refine L_iconst C (nI 2) dL_law_1047 (by decide) ?_
  refine L_iadd C dL_law_1048 ?_
  refine L_sld C (hin 2 (by decide)) dL_law_1049 ?_
  refine L_call C mw_X10_judge mv_X10_judge ml_L_124 (con_X10_judge z1 (mL x) _ _ σ (r, σ') e1) ⟨by decide, by decide⟩ rfl (q := 0) (show 0 < 59 by decide) rfl (ce_X10 z1 σ) rfl rfl (Nat.le_of_ble_eq_true rfl) dL_law_1050 hcs hss ?_
  refine L_aload_n C 1 dL_law_1053 rfl ?_
  refine L_aload_n C 3 dL_law_1054 rfl ?_
  refine L_iload_n C 0 dL_law_1055 rfl ?_
  refine L_iconst C (nI 1) dL_law_1056 (by decide) ?_
  refine L_iadd C dL_law_1057 ?_
  refine L_sld C (hin 1 (by decide)) dL_law_1058 ?_
  refine L_aload_n C 3 dL_law_1059 rfl ?_
  refine L_iload_n C 0 dL_law_1060 rfl ?_
  refine L_iconst C (nI 2) dL_law_1061 (by decide) ?_
  refine L_iadd C dL_law_1062 ?_
  refine L_sld C (hin 2 (by decide)) dL_law_1063 ?_
  refine LSim.sw (L_call C.sw mw_X11_judge mv_X11_judge ml_L_127 (con_X11_judge z2 (mL x) _ _ τ (r, τ') e2) ⟨by decide, by decide⟩ rfl (q := 0) (show 0 < 48 by decide) rfl (ce_X11 z2 τ) rfl rfl (Nat.le_of_ble_eq_true rfl) dL_law_1064 hcs hss (LSim.sw ?_))
  exact L_icmp_eq C 1426 dL_law_1067 (by decide) (fun _ => nx _ _ hR') (fun hne => absurd rfl hne)
theorem LC_26 (C : Lok x (wxC z1) (wxM z2) b L xs) (hR : Rel σ τ) (nx : ∀ σ' τ', Rel σ' τ' → LSim x (wxC z1) (wxM z2) cs ss 1426 (LV z1 z2 b i) [] σ' τ') (hcs : cs ≤ 600000) (hss : ss ≤ 7302250) (hin : hinA i L) : LSim x (wxC z1) (wxM z2) cs ss 1072 (LV z1 z2 b i) [] σ τ := by
  obtain ⟨r, σ', τ', e1, e2, hR'⟩ := eq_pace hR (xs (i + nI 1).toNatClampNeg)
  refine L_aload_n C 2 dL_law_1072 rfl ?_
  refine L_aload_n C 3 dL_law_1073 rfl ?_
  refine L_iload_n C 0 dL_law_1074 rfl ?_
  refine L_iconst C (nI 1) dL_law_1075 (by decide) ?_
  refine L_iadd C dL_law_1076 ?_
  refine L_sld C (hin 1 (by decide)) dL_law_1077 ?_
  refine L_call C mw_X10_pace mv_X10_pace ml_L_128 (con_X10_pace z1 (mL x) _ σ (r, σ') e1) ⟨by decide, by decide⟩ rfl (q := 0) (show 0 < 59 by decide) rfl (ce_X10 z1 σ) rfl rfl (Nat.le_of_ble_eq_true rfl) dL_law_1078 hcs hss ?_
  refine L_aload_n C 1 dL_law_1081 rfl ?_
  refine L_aload_n C 3 dL_law_1082 rfl ?_
  refine L_iload_n C 0 dL_law_1083 rfl ?_
  refine L_iconst C (nI 1) dL_law_1084 (by decide) ?_
  refine L_iadd C dL_law_1085 ?_
  refine L_sld C (hin 1 (by decide)) dL_law_1086 ?_
  refine LSim.sw (L_call C.sw mw_X11_pace mv_X11_pace ml_L_131 (con_X11_pace z2 (mL x) _ τ (r, τ') e2) ⟨by decide, by decide⟩ rfl (q := 0) (show 0 < 48 by decide) rfl (ce_X11 z2 τ) rfl rfl (Nat.le_of_ble_eq_true rfl) dL_law_1087 hcs hss (LSim.sw ?_))
  exact L_icmp_eq C 1426 dL_law_1090 (by decide) (fun _ => nx _ _ hR') (fun hne => absurd rfl hne)
theorem LC_27 (C : Lok x (wxC z1) (wxM z2) b L xs) (hR : Rel σ τ) (nx : ∀ σ' τ', Rel σ' τ' → LSim x (wxC z1) (wxM z2) cs ss 1426 (LV z1 z2 b i) [] σ' τ') (hcs : cs ≤ 600000) (hss : ss ≤ 7302250) (hin : hinA i L) : LSim x (wxC z1) (wxM z2) cs ss 1095 (LV z1 z2 b i) [] σ τ := by
  obtain ⟨r, σ', τ', e1, e2, hR'⟩ := eq_dies hR (xs (i + nI 1).toNatClampNeg) (xs (i + nI 2).toNatClampNeg)
  obtain ⟨e2, s2⟩ := pu_some e2
  rw [s2] at hR'
  refine L_aload_n C 2 dL_law_1095 rfl ?_
  refine L_aload_n C 3 dL_law_1096 rfl ?_
  refine L_iload_n C 0 dL_law_1097 rfl ?_
  refine L_iconst C (nI 1) dL_law_1098 (by decide) ?_
  refine L_iadd C dL_law_1099 ?_
  refine L_sld C (hin 1 (by decide)) dL_law_1100 ?_
  refine L_aload_n C 3 dL_law_1101 rfl ?_
  refine L_iload_n C 0 dL_law_1102 rfl ?_
  refine L_iconst C (nI 2) dL_law_1103 (by decide) ?_
  refine L_iadd C dL_law_1104 ?_
  refine L_sld C (hin 2 (by decide)) dL_law_1105 ?_
  refine L_call C mw_X10_dies mv_X10_dies ml_L_132 (con_X10_dies z1 (mL x) _ _ σ (r, σ') e1) ⟨by decide, by decide⟩ rfl (q := 0) (show 0 < 59 by decide) rfl (ce_X10 z1 σ) rfl rfl (Nat.le_of_ble_eq_true rfl) dL_law_1106 hcs hss ?_
  refine L_aload_n C 1 dL_law_1109 rfl ?_
  refine L_aload_n C 3 dL_law_1110 rfl ?_
  refine L_iload_n C 0 dL_law_1111 rfl ?_
  refine L_iconst C (nI 1) dL_law_1112 (by decide) ?_
  refine L_iadd C dL_law_1113 ?_
  refine L_sld C (hin 1 (by decide)) dL_law_1114 ?_
  refine L_aload_n C 3 dL_law_1115 rfl ?_
  refine L_iload_n C 0 dL_law_1116 rfl ?_
  refine L_iconst C (nI 2) dL_law_1117 (by decide) ?_
  refine L_iadd C dL_law_1118 ?_
  refine L_sld C (hin 2 (by decide)) dL_law_1119 ?_
  refine LSim.sw (L_call C.sw mw_X11_dies mv_X11_dies ml_L_136 (con_X11_dies z2 (mL x) _ _ τ r e2) ⟨by decide, by decide⟩ rfl (q := 0) (show 0 < 48 by decide) rfl (ce_X11 z2 τ) rfl rfl (Nat.le_of_ble_eq_true rfl) dL_law_1120 hcs hss (LSim.sw ?_))
  refine L_lcmp C dL_law_1123 ?_
  exact L_ifeq C 1426 dL_law_1124 (by decide) (fun _ => nx _ _ hR') (fun hne => absurd (lg_same r) hne)
theorem LC_28 (C : Lok x (wxC z1) (wxM z2) b L xs) (hR : Rel σ τ) (nx : ∀ σ' τ', Rel σ' τ' → LSim x (wxC z1) (wxM z2) cs ss 1426 (LV z1 z2 b i) [] σ' τ') (hcs : cs ≤ 600000) (hss : ss ≤ 7302250) (hin : hinA i L) : LSim x (wxC z1) (wxM z2) cs ss 1129 (LV z1 z2 b i) [] σ τ := by
  obtain ⟨r, σ', τ', e1, e2, hR'⟩ := eq_father hR (xs (i + nI 1).toNatClampNeg) (xs (i + nI 2).toNatClampNeg)
  refine L_aload_n C 2 dL_law_1129 rfl ?_
  refine L_aload_n C 3 dL_law_1130 rfl ?_
  refine L_iload_n C 0 dL_law_1131 rfl ?_
  refine L_iconst C (nI 1) dL_law_1132 (by decide) ?_
  refine L_iadd C dL_law_1133 ?_
  refine L_sld C (hin 1 (by decide)) dL_law_1134 ?_
  refine L_aload_n C 3 dL_law_1135 rfl ?_
  refine L_iload_n C 0 dL_law_1136 rfl ?_
  refine L_iconst C (nI 2) dL_law_1137 (by decide) ?_
  refine L_iadd C dL_law_1138 ?_
  refine L_sld C (hin 2 (by decide)) dL_law_1139 ?_
  refine L_call C mw_X10_father mv_X10_father ml_L_137 (con_X10_father z1 (mL x) _ _ σ (r, σ') e1) ⟨by decide, by decide⟩ rfl (q := 0) (show 0 < 59 by decide) rfl (ce_X10 z1 σ) rfl rfl (Nat.le_of_ble_eq_true rfl) dL_law_1140 hcs hss ?_
  refine L_aload_n C 1 dL_law_1143 rfl ?_
  refine L_aload_n C 3 dL_law_1144 rfl ?_
  refine L_iload_n C 0 dL_law_1145 rfl ?_
  refine L_iconst C (nI 1) dL_law_1146 (by decide) ?_
  refine L_iadd C dL_law_1147 ?_
  refine L_sld C (hin 1 (by decide)) dL_law_1148 ?_
  refine L_aload_n C 3 dL_law_1149 rfl ?_
  refine L_iload_n C 0 dL_law_1150 rfl ?_
  refine L_iconst C (nI 2) dL_law_1151 (by decide) ?_
  refine L_iadd C dL_law_1152 ?_
  refine L_sld C (hin 2 (by decide)) dL_law_1153 ?_
  refine LSim.sw (L_call C.sw mw_X11_father mv_X11_father ml_L_140 (con_X11_father z2 (mL x) _ _ τ (r, τ') e2) ⟨by decide, by decide⟩ rfl (q := 0) (show 0 < 48 by decide) rfl (ce_X11 z2 τ) rfl rfl (Nat.le_of_ble_eq_true rfl) dL_law_1154 hcs hss (LSim.sw ?_))
  exact L_icmp_eq C 1426 dL_law_1157 (by decide) (fun _ => nx _ _ hR') (fun hne => absurd rfl hne)
theorem LC_29 (C : Lok x (wxC z1) (wxM z2) b L xs) (hR : Rel σ τ) (nx : ∀ σ' τ', Rel σ' τ' → LSim x (wxC z1) (wxM z2) cs ss 1426 (LV z1 z2 b i) [] σ' τ') (hcs : cs ≤ 600000) (hss : ss ≤ 7302250) (hin : hinA i L) : LSim x (wxC z1) (wxM z2) cs ss 1162 (LV z1 z2 b i) [] σ τ := by
  obtain ⟨r, σ', τ', e1, e2, hR'⟩ := eq_kin hR (xs (i + nI 1).toNatClampNeg) (xs (i + nI 2).toNatClampNeg)
  obtain ⟨e1, s1⟩ := pu_some e1
  rw [s1] at hR'
  obtain ⟨e2, s2⟩ := pu_some e2
  rw [s2] at hR'
  refine L_aload_n C 2 dL_law_1162 rfl ?_
  refine L_aload_n C 3 dL_law_1163 rfl ?_
  refine L_iload_n C 0 dL_law_1164 rfl ?_
  refine L_iconst C (nI 1) dL_law_1165 (by decide) ?_
  refine L_iadd C dL_law_1166 ?_
  refine L_sld C (hin 1 (by decide)) dL_law_1167 ?_
  refine L_aload_n C 3 dL_law_1168 rfl ?_
  refine L_iload_n C 0 dL_law_1169 rfl ?_
  refine L_iconst C (nI 2) dL_law_1170 (by decide) ?_
  refine L_iadd C dL_law_1171 ?_
  refine L_sld C (hin 2 (by decide)) dL_law_1172 ?_
  refine L_call C mw_X10_kin mv_X10_kin ml_L_141 (con_X10_kin z1 (mL x) _ _ σ r e1) ⟨by decide, by decide⟩ rfl (q := 0) (show 0 < 59 by decide) rfl (ce_X10 z1 σ) rfl rfl (Nat.le_of_ble_eq_true rfl) dL_law_1173 hcs hss ?_
  refine L_aload_n C 1 dL_law_1176 rfl ?_
  refine L_aload_n C 3 dL_law_1177 rfl ?_
  refine L_iload_n C 0 dL_law_1178 rfl ?_
  refine L_iconst C (nI 1) dL_law_1179 (by decide) ?_
  refine L_iadd C dL_law_1180 ?_
  refine L_sld C (hin 1 (by decide)) dL_law_1181 ?_
  refine L_aload_n C 3 dL_law_1182 rfl ?_
  refine L_iload_n C 0 dL_law_1183 rfl ?_
  refine L_iconst C (nI 2) dL_law_1184 (by decide) ?_
  refine L_iadd C dL_law_1185 ?_
  refine L_sld C (hin 2 (by decide)) dL_law_1186 ?_
  refine LSim.sw (L_call C.sw mw_X11_kin mv_X11_kin ml_L_144 (con_X11_kin z2 (mL x) _ _ τ r e2) ⟨by decide, by decide⟩ rfl (q := 0) (show 0 < 48 by decide) rfl (ce_X11 z2 τ) rfl rfl (Nat.le_of_ble_eq_true rfl) dL_law_1187 hcs hss (LSim.sw ?_))
  exact L_icmp_eq C 1426 dL_law_1190 (by decide) (fun _ => nx _ _ hR') (fun hne => absurd rfl hne)
theorem LC_30 (C : Lok x (wxC z1) (wxM z2) b L xs) (hR : Rel σ τ) (nx : ∀ σ' τ', Rel σ' τ' → LSim x (wxC z1) (wxM z2) cs ss 1426 (LV z1 z2 b i) [] σ' τ') (hcs : cs ≤ 600000) (hss : ss ≤ 7302250) (hin : hinA i L) : LSim x (wxC z1) (wxM z2) cs ss 1195 (LV z1 z2 b i) [] σ τ := by
  obtain ⟨r, σ', τ', e1, e2, hR'⟩ := eq_related hR (xs (i + nI 1).toNatClampNeg) (xs (i + nI 2).toNatClampNeg)
  obtain ⟨e1, s1⟩ := pu_some e1
  rw [s1] at hR'
  refine L_aload_n C 2 dL_law_1195 rfl ?_
  refine L_aload_n C 3 dL_law_1196 rfl ?_
  refine L_iload_n C 0 dL_law_1197 rfl ?_
  refine L_iconst C (nI 1) dL_law_1198 (by decide) ?_
  refine L_iadd C dL_law_1199 ?_
  refine L_sld C (hin 1 (by decide)) dL_law_1200 ?_
  refine L_aload_n C 3 dL_law_1201 rfl ?_
  refine L_iload_n C 0 dL_law_1202 rfl ?_
  refine L_iconst C (nI 2) dL_law_1203 (by decide) ?_
  refine L_iadd C dL_law_1204 ?_
  refine L_sld C (hin 2 (by decide)) dL_law_1205 ?_
  refine L_call C mw_X10_related mv_X10_related ml_L_145 (con_X10_related z1 (mL x) _ _ σ r e1) ⟨by decide, by decide⟩ rfl (q := 0) (show 0 < 59 by decide) rfl (ce_X10 z1 σ) rfl rfl (Nat.le_of_ble_eq_true rfl) dL_law_1206 hcs hss ?_
  refine L_aload_n C 1 dL_law_1209 rfl ?_
  refine L_aload_n C 3 dL_law_1210 rfl ?_
  refine L_iload_n C 0 dL_law_1211 rfl ?_
  refine L_iconst C (nI 1) dL_law_1212 (by decide) ?_
  refine L_iadd C dL_law_1213 ?_
  refine L_sld C (hin 1 (by decide)) dL_law_1214 ?_
  refine L_aload_n C 3 dL_law_1215 rfl ?_
  refine L_iload_n C 0 dL_law_1216 rfl ?_
  refine L_iconst C (nI 2) dL_law_1217 (by decide) ?_
  refine L_iadd C dL_law_1218 ?_
  refine L_sld C (hin 2 (by decide)) dL_law_1219 ?_
  refine LSim.sw (L_call C.sw mw_X11_related mv_X11_related ml_L_148 (con_X11_related z2 (mL x) _ _ τ (r, τ') e2) ⟨by decide, by decide⟩ rfl (q := 0) (show 0 < 48 by decide) rfl (ce_X11 z2 τ) rfl rfl (Nat.le_of_ble_eq_true rfl) dL_law_1220 hcs hss (LSim.sw ?_))
  exact L_icmp_eq C 1426 dL_law_1223 (by decide) (fun _ => nx _ _ hR') (fun hne => absurd rfl hne)
theorem LC_31 (C : Lok x (wxC z1) (wxM z2) b L xs) (hR : Rel σ τ) (nx : ∀ σ' τ', Rel σ' τ' → LSim x (wxC z1) (wxM z2) cs ss 1426 (LV z1 z2 b i) [] σ' τ') (hcs : cs ≤ 600000) (hss : ss ≤ 7302250) (hin : hinA i L) : LSim x (wxC z1) (wxM z2) cs ss 1228 (LV z1 z2 b i) [] σ τ := by
  obtain ⟨r, σ', τ', e1, e2, hR'⟩ := eq_issue hR (xs (i + nI 1).toNatClampNeg) (xs (i + nI 2).toNatClampNeg)
  obtain ⟨e1, s1⟩ := pu_some e1
  rw [s1] at hR'
  refine L_aload_n C 2 dL_law_1228 rfl ?_
  refine L_aload_n C 3 dL_law_1229 rfl ?_
  refine L_iload_n C 0 dL_law_1230 rfl ?_
  refine L_iconst C (nI 1) dL_law_1231 (by decide) ?_
  refine L_iadd C dL_law_1232 ?_
  refine L_sld C (hin 1 (by decide)) dL_law_1233 ?_
  refine L_aload_n C 3 dL_law_1234 rfl ?_
  refine L_iload_n C 0 dL_law_1235 rfl ?_
  refine L_iconst C (nI 2) dL_law_1236 (by decide) ?_
  refine L_iadd C dL_law_1237 ?_
  refine L_sld C (hin 2 (by decide)) dL_law_1238 ?_
  refine L_call C mw_X10_issue mv_X10_issue ml_L_149 (con_X10_issue z1 (mL x) _ _ σ r e1) ⟨by decide, by decide⟩ rfl (q := 0) (show 0 < 59 by decide) rfl (ce_X10 z1 σ) rfl rfl (Nat.le_of_ble_eq_true rfl) dL_law_1239 hcs hss ?_
  refine L_aload_n C 1 dL_law_1242 rfl ?_
  refine L_aload_n C 3 dL_law_1243 rfl ?_
  refine L_iload_n C 0 dL_law_1244 rfl ?_
  refine L_iconst C (nI 1) dL_law_1245 (by decide) ?_
  refine L_iadd C dL_law_1246 ?_
  refine L_sld C (hin 1 (by decide)) dL_law_1247 ?_
  refine L_aload_n C 3 dL_law_1248 rfl ?_
  refine L_iload_n C 0 dL_law_1249 rfl ?_
  refine L_iconst C (nI 2) dL_law_1250 (by decide) ?_
  refine L_iadd C dL_law_1251 ?_
  refine L_sld C (hin 2 (by decide)) dL_law_1252 ?_
  refine LSim.sw (L_call C.sw mw_X11_issue mv_X11_issue ml_L_152 (con_X11_issue z2 (mL x) _ _ τ (r, τ') e2) ⟨by decide, by decide⟩ rfl (q := 0) (show 0 < 48 by decide) rfl (ce_X11 z2 τ) rfl rfl (Nat.le_of_ble_eq_true rfl) dL_law_1253 hcs hss (LSim.sw ?_))
  exact L_icmp_eq C 1426 dL_law_1256 (by decide) (fun _ => nx _ _ hR') (fun hne => absurd rfl hne)
theorem LC_32 (C : Lok x (wxC z1) (wxM z2) b L xs) (hR : Rel σ τ) (nx : ∀ σ' τ', Rel σ' τ' → LSim x (wxC z1) (wxM z2) cs ss 1426 (LV z1 z2 b i) [] σ' τ') (hcs : cs ≤ 600000) (hss : ss ≤ 7302250) (hin : hinA i L) : LSim x (wxC z1) (wxM z2) cs ss 1261 (LV z1 z2 b i) [] σ τ := by
  obtain ⟨r, σ', τ', e1, e2, hR'⟩ := eq_sheet hR (xs (i + nI 1).toNatClampNeg) (xs (i + nI 2).toNatClampNeg) (xs (i + nI 3).toNatClampNeg)
  refine L_aload_n C 2 dL_law_1261 rfl ?_
  refine L_aload_n C 3 dL_law_1262 rfl ?_
  refine L_iload_n C 0 dL_law_1263 rfl ?_
  refine L_iconst C (nI 1) dL_law_1264 (by decide) ?_
  refine L_iadd C dL_law_1265 ?_
  refine L_sld C (hin 1 (by decide)) dL_law_1266 ?_
  refine L_aload_n C 3 dL_law_1267 rfl ?_
  refine L_iload_n C 0 dL_law_1268 rfl ?_
  refine L_iconst C (nI 2) dL_law_1269 (by decide) ?_
  refine L_iadd C dL_law_1270 ?_
  refine L_sld C (hin 2 (by decide)) dL_law_1271 ?_
  refine L_aload_n C 3 dL_law_1272 rfl ?_
  refine L_iload_n C 0 dL_law_1273 rfl ?_
  refine L_iconst C (nI 3) dL_law_1274 (by decide) ?_
  refine L_iadd C dL_law_1275 ?_
  refine L_sld C (hin 3 (by decide)) dL_law_1276 ?_
  refine L_call C mw_X10_sheet mv_X10_sheet ml_L_153 (con_X10_sheet z1 (mL x) _ _ _ σ (r, σ') e1) ⟨by decide, by decide⟩ rfl (q := 0) (show 0 < 59 by decide) rfl (ce_X10 z1 σ) rfl rfl (Nat.le_of_ble_eq_true rfl) dL_law_1277 hcs hss ?_
  refine L_aload_n C 1 dL_law_1280 rfl ?_
  refine L_aload_n C 3 dL_law_1281 rfl ?_
  refine L_iload_n C 0 dL_law_1282 rfl ?_
  refine L_iconst C (nI 1) dL_law_1283 (by decide) ?_
  refine L_iadd C dL_law_1284 ?_
  refine L_sld C (hin 1 (by decide)) dL_law_1285 ?_
  refine L_aload_n C 3 dL_law_1286 rfl ?_
  refine L_iload_n C 0 dL_law_1287 rfl ?_
  refine L_iconst C (nI 2) dL_law_1288 (by decide) ?_
  refine L_iadd C dL_law_1289 ?_
  refine L_sld C (hin 2 (by decide)) dL_law_1290 ?_
  refine L_aload_n C 3 dL_law_1291 rfl ?_
  refine L_iload_n C 0 dL_law_1292 rfl ?_
  refine L_iconst C (nI 3) dL_law_1293 (by decide) ?_
  refine L_iadd C dL_law_1294 ?_
  refine L_sld C (hin 3 (by decide)) dL_law_1295 ?_
  refine LSim.sw (L_call C.sw mw_X11_sheet mv_X11_sheet ml_L_156 (con_X11_sheet z2 (mL x) _ _ _ τ (r, τ') e2) ⟨by decide, by decide⟩ rfl (q := 0) (show 0 < 48 by decide) rfl (ce_X11 z2 τ) rfl rfl (Nat.le_of_ble_eq_true rfl) dL_law_1296 hcs hss (LSim.sw ?_))
  exact L_icmp_eq C 1426 dL_law_1299 (by decide) (fun _ => nx _ _ hR') (fun hne => absurd rfl hne)
theorem LC_33 (C : Lok x (wxC z1) (wxM z2) b L xs) (hR : Rel σ τ) (nx : ∀ σ' τ', Rel σ' τ' → LSim x (wxC z1) (wxM z2) cs ss 1426 (LV z1 z2 b i) [] σ' τ') (hcs : cs ≤ 600000) (hss : ss ≤ 7302250) (hin : hinA i L) : LSim x (wxC z1) (wxM z2) cs ss 1304 (LV z1 z2 b i) [] σ τ := by
  obtain ⟨r, σ', τ', e1, e2, hR'⟩ := eq_lay hR (xs (i + nI 1).toNatClampNeg) (xs (i + nI 2).toNatClampNeg) (xs (i + nI 3).toNatClampNeg)
  refine L_aload_n C 2 dL_law_1304 rfl ?_
  refine L_aload_n C 3 dL_law_1305 rfl ?_
  refine L_iload_n C 0 dL_law_1306 rfl ?_
  refine L_iconst C (nI 1) dL_law_1307 (by decide) ?_
  refine L_iadd C dL_law_1308 ?_
  refine L_sld C (hin 1 (by decide)) dL_law_1309 ?_
  refine L_aload_n C 3 dL_law_1310 rfl ?_
  refine L_iload_n C 0 dL_law_1311 rfl ?_
  refine L_iconst C (nI 2) dL_law_1312 (by decide) ?_
  refine L_iadd C dL_law_1313 ?_
  refine L_sld C (hin 2 (by decide)) dL_law_1314 ?_
  refine L_aload_n C 3 dL_law_1315 rfl ?_
  refine L_iload_n C 0 dL_law_1316 rfl ?_
  refine L_iconst C (nI 3) dL_law_1317 (by decide) ?_
  refine L_iadd C dL_law_1318 ?_
  refine L_sld C (hin 3 (by decide)) dL_law_1319 ?_
  refine L_call C mw_X10_lay mv_X10_lay ml_L_157 (con_X10_lay z1 (mL x) _ _ _ σ (r, σ') e1) ⟨by decide, by decide⟩ rfl (q := 0) (show 0 < 59 by decide) rfl (ce_X10 z1 σ) rfl rfl (Nat.le_of_ble_eq_true rfl) dL_law_1320 hcs hss ?_
  refine L_aload_n C 1 dL_law_1323 rfl ?_
  refine L_aload_n C 3 dL_law_1324 rfl ?_
  refine L_iload_n C 0 dL_law_1325 rfl ?_
  refine L_iconst C (nI 1) dL_law_1326 (by decide) ?_
  refine L_iadd C dL_law_1327 ?_
  refine L_sld C (hin 1 (by decide)) dL_law_1328 ?_
  refine L_aload_n C 3 dL_law_1329 rfl ?_
  refine L_iload_n C 0 dL_law_1330 rfl ?_
  refine L_iconst C (nI 2) dL_law_1331 (by decide) ?_
  refine L_iadd C dL_law_1332 ?_
  refine L_sld C (hin 2 (by decide)) dL_law_1333 ?_
  refine L_aload_n C 3 dL_law_1334 rfl ?_
  refine L_iload_n C 0 dL_law_1335 rfl ?_
  refine L_iconst C (nI 3) dL_law_1336 (by decide) ?_
  refine L_iadd C dL_law_1337 ?_
  refine L_sld C (hin 3 (by decide)) dL_law_1338 ?_
  refine LSim.sw (L_call C.sw mw_X11_lay mv_X11_lay ml_L_160 (con_X11_lay z2 (mL x) _ _ _ τ (r, τ') e2) ⟨by decide, by decide⟩ rfl (q := 0) (show 0 < 48 by decide) rfl (ce_X11 z2 τ) rfl rfl (Nat.le_of_ble_eq_true rfl) dL_law_1339 hcs hss (LSim.sw ?_))
  exact L_icmp_eq C 1426 dL_law_1342 (by decide) (fun _ => nx _ _ hR') (fun hne => absurd rfl hne)
theorem LC_34 (C : Lok x (wxC z1) (wxM z2) b L xs) (hR : Rel σ τ) (nx : ∀ σ' τ', Rel σ' τ' → LSim x (wxC z1) (wxM z2) cs ss 1426 (LV z1 z2 b i) [] σ' τ') (hcs : cs ≤ 600000) (hss : ss ≤ 7302250) (hin : hinA i L) : LSim x (wxC z1) (wxM z2) cs ss 1347 (LV z1 z2 b i) [] σ τ := by
  obtain ⟨r, σ', τ', e1, e2, hR'⟩ := eq_read hR (xs (i + nI 1).toNatClampNeg) (xs (i + nI 2).toNatClampNeg) (xs (i + nI 3).toNatClampNeg)
  refine L_aload_n C 2 dL_law_1347 rfl ?_
  refine L_aload_n C 3 dL_law_1348 rfl ?_
  refine L_iload_n C 0 dL_law_1349 rfl ?_
  refine L_iconst C (nI 1) dL_law_1350 (by decide) ?_
  refine L_iadd C dL_law_1351 ?_
  refine L_sld C (hin 1 (by decide)) dL_law_1352 ?_
  refine L_aload_n C 3 dL_law_1353 rfl ?_
  refine L_iload_n C 0 dL_law_1354 rfl ?_
  refine L_iconst C (nI 2) dL_law_1355 (by decide) ?_
  refine L_iadd C dL_law_1356 ?_
  refine L_sld C (hin 2 (by decide)) dL_law_1357 ?_
  refine L_aload_n C 3 dL_law_1358 rfl ?_
  refine L_iload_n C 0 dL_law_1359 rfl ?_
  refine L_iconst C (nI 3) dL_law_1360 (by decide) ?_
  refine L_iadd C dL_law_1361 ?_
  refine L_sld C (hin 3 (by decide)) dL_law_1362 ?_
  refine L_call C mw_X10_read mv_X10_read ml_L_161 (con_X10_read z1 (mL x) _ _ _ σ (r, σ') e1) ⟨by decide, by decide⟩ rfl (q := 0) (show 0 < 59 by decide) rfl (ce_X10 z1 σ) rfl rfl (Nat.le_of_ble_eq_true rfl) dL_law_1363 hcs hss ?_
  refine L_aload_n C 1 dL_law_1366 rfl ?_
  refine L_aload_n C 3 dL_law_1367 rfl ?_
  refine L_iload_n C 0 dL_law_1368 rfl ?_
  refine L_iconst C (nI 1) dL_law_1369 (by decide) ?_
  refine L_iadd C dL_law_1370 ?_
  refine L_sld C (hin 1 (by decide)) dL_law_1371 ?_
  refine L_aload_n C 3 dL_law_1372 rfl ?_
  refine L_iload_n C 0 dL_law_1373 rfl ?_
  refine L_iconst C (nI 2) dL_law_1374 (by decide) ?_
  refine L_iadd C dL_law_1375 ?_
  refine L_sld C (hin 2 (by decide)) dL_law_1376 ?_
  refine L_aload_n C 3 dL_law_1377 rfl ?_
  refine L_iload_n C 0 dL_law_1378 rfl ?_
  refine L_iconst C (nI 3) dL_law_1379 (by decide) ?_
  refine L_iadd C dL_law_1380 ?_
  refine L_sld C (hin 3 (by decide)) dL_law_1381 ?_
  refine LSim.sw (L_call C.sw mw_X11_read mv_X11_read ml_L_164 (con_X11_read z2 (mL x) _ _ _ τ (r, τ') e2) ⟨by decide, by decide⟩ rfl (q := 0) (show 0 < 48 by decide) rfl (ce_X11 z2 τ) rfl rfl (Nat.le_of_ble_eq_true rfl) dL_law_1382 hcs hss (LSim.sw ?_))
  exact L_icmp_eq C 1426 dL_law_1385 (by decide) (fun _ => nx _ _ hR') (fun hne => absurd rfl hne)
theorem LC_35 (C : Lok x (wxC z1) (wxM z2) b L xs) (hR : Rel σ τ) (nx : ∀ σ' τ', Rel σ' τ' → LSim x (wxC z1) (wxM z2) cs ss 1426 (LV z1 z2 b i) [] σ' τ') (hcs : cs ≤ 600000) (hss : ss ≤ 7302250) (hin : hinA i L) : LSim x (wxC z1) (wxM z2) cs ss 1390 (LV z1 z2 b i) [] σ τ := by
  obtain ⟨r, σ', τ', e1, e2, hR'⟩ := eq_torn hR
  obtain ⟨e1, s1⟩ := pu_some e1
  rw [s1] at hR'
  obtain ⟨e2, s2⟩ := pu_some e2
  rw [s2] at hR'
  refine L_aload_n C 2 dL_law_1390 rfl ?_
  refine L_call C mw_X10_torn mv_X10_torn ml_L_165 (con_X10_torn z1 (mL x)  σ r e1) ⟨by decide, by decide⟩ rfl (q := 0) (show 0 < 59 by decide) rfl (ce_X10 z1 σ) rfl rfl (Nat.le_of_ble_eq_true rfl) dL_law_1391 hcs hss ?_
  refine L_aload_n C 1 dL_law_1394 rfl ?_
  refine LSim.sw (L_call C.sw mw_X11_torn mv_X11_torn ml_L_168 (con_X11_torn z2 (mL x)  τ r e2) ⟨by decide, by decide⟩ rfl (q := 0) (show 0 < 48 by decide) rfl (ce_X11 z2 τ) rfl rfl (Nat.le_of_ble_eq_true rfl) dL_law_1395 hcs hss (LSim.sw ?_))
  exact L_icmp_eq C 1426 dL_law_1398 (by decide) (fun _ => nx _ _ hR') (fun hne => absurd rfl hne)
theorem LC_36 (C : Lok x (wxC z1) (wxM z2) b L xs) (hR : Rel σ τ) (nx : ∀ σ' τ', Rel σ' τ' → LSim x (wxC z1) (wxM z2) cs ss 1426 (LV z1 z2 b i) [] σ' τ') (hcs : cs ≤ 600000) (hss : ss ≤ 7302250) (hin : hinA i L) : LSim x (wxC z1) (wxM z2) cs ss 1403 (LV z1 z2 b i) [] σ τ := by
  obtain ⟨r, σ', τ', e1, e2, hR'⟩ := eq_count hR (xs (i + nI 1).toNatClampNeg)
  obtain ⟨e1, s1⟩ := pu_some e1
  rw [s1] at hR'
  refine L_aload_n C 2 dL_law_1403 rfl ?_
  refine L_aload_n C 3 dL_law_1404 rfl ?_
  refine L_iload_n C 0 dL_law_1405 rfl ?_
  refine L_iconst C (nI 1) dL_law_1406 (by decide) ?_
  refine L_iadd C dL_law_1407 ?_
  refine L_sld C (hin 1 (by decide)) dL_law_1408 ?_
  refine L_call C mw_X10_count mv_X10_count ml_L_169 (con_X10_count z1 (mL x) _ σ r e1) ⟨by decide, by decide⟩ rfl (q := 0) (show 0 < 59 by decide) rfl (ce_X10 z1 σ) rfl rfl (Nat.le_of_ble_eq_true rfl) dL_law_1409 hcs hss ?_
  refine L_aload_n C 1 dL_law_1412 rfl ?_
  refine L_aload_n C 3 dL_law_1413 rfl ?_
  refine L_iload_n C 0 dL_law_1414 rfl ?_
  refine L_iconst C (nI 1) dL_law_1415 (by decide) ?_
  refine L_iadd C dL_law_1416 ?_
  refine L_sld C (hin 1 (by decide)) dL_law_1417 ?_
  refine LSim.sw (L_call C.sw mw_X11_count mv_X11_count ml_L_172 (con_X11_count z2 (mL x) _ τ (r, τ') e2) ⟨by decide, by decide⟩ rfl (q := 0) (show 0 < 48 by decide) rfl (ce_X11 z2 τ) rfl rfl (Nat.le_of_ble_eq_true rfl) dL_law_1418 hcs hss (LSim.sw ?_))
  exact L_icmp_eq C 1426 dL_law_1421 (by decide) (fun _ => nx _ _ hR') (fun hne => absurd rfl hne)
end Cases
