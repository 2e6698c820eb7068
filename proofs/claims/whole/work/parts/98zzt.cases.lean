/-! the law's loop: a case for each call -/
theorem lw_c19 : Cond.constantLong RL 19 4294967295 ∈ pg_gd := pg_g (pg_t8 151 rfl) rfl
section LC
variable {S : pg_S} {Λ : pg_L} {M : pg_M} {G : sp_G} {h i b L k sl : Nat} {xs : Nat → Int32} {fs0 fs1 : List pg_F}
theorem lc_0 (hF : pg_full Λ) (hX : pg_isX11 Λ) (h0 : Λ 0 = some (.inl (10, fs0))) (h207 : Λ 207 = some (.inl (11, fs1))) (hh : h < 2 ^ 20) (hk : k ≤ 601024 ∧ sl ≤ 7293033) (hin : lw_in i L) (hI : lw_I M G h) (kk : ∀ M2 G2, lw_I M2 G2 (h + 1) → lq_At S Λ YL 0 1097 (lw_ls i) [] M2 (b, L, xs, k + 1, sl + 6)) : lq_At S Λ YL 0 168 (lw_ls i) [] M (b, L, xs, k, sl) := by
  refine lq_aload_n (j := 3) dL_law_168 rfl rfl ?_
  refine lq_aload_n (j := 4) dL_law_169 rfl rfl ?_
  refine lq_iload (j := 0) dL_law_170 rfl ?_
  refine lq_iconst (v := 1) dL_law_172 rfl ?_
  refine lq_iadd dL_law_173 ?_
  refine lq_sld (hin 1 (by decide)) dL_law_174 ?_
  refine lq_i2l dL_law_175 rfl ?_
  refine lq_bipush (v := 32) dL_law_176 rfl ?_
  refine lq_lshl dL_law_178 rfl ?_
  refine lq_aload_n (j := 4) dL_law_179 rfl rfl ?_
  refine lq_iload (j := 0) dL_law_180 rfl ?_
  refine lq_iconst (v := 2) dL_law_182 rfl ?_
  refine lq_iadd dL_law_183 ?_
  refine lq_sld (hin 2 (by decide)) dL_law_184 ?_
  refine lq_i2l dL_law_185 rfl ?_
  refine lq_ldc2 lw_c19 dL_law_186 ?_
  refine lq_land dL_law_189 ?_
  refine lq_lor dL_law_190 ?_
  refine lq_aload_n (j := 4) dL_law_191 rfl rfl ?_
  refine lq_iload (j := 0) dL_law_192 rfl ?_
  refine lq_iconst (v := 3) dL_law_194 rfl ?_
  refine lq_iadd dL_law_195 ?_
  refine lq_sld (hin 3 (by decide)) dL_law_196 ?_
  refine lq_i2l dL_law_197 rfl ?_
  refine lq_bipush (v := 32) dL_law_198 rfl ?_
  refine lq_lshl dL_law_200 rfl ?_
  refine lq_aload_n (j := 4) dL_law_201 rfl rfl ?_
  refine lq_iload (j := 0) dL_law_202 rfl ?_
  refine lq_iconst (v := 4) dL_law_204 rfl ?_
  refine lq_iadd dL_law_205 ?_
  refine lq_sld (hin 4 (by decide)) dL_law_206 ?_
  refine lq_i2l dL_law_207 rfl ?_
  refine lq_ldc2 lw_c19 dL_law_208 ?_
  refine lq_land dL_law_211 ?_
  refine lq_lor dL_law_212 ?_
  refine lq_aload_n (j := 4) dL_law_213 rfl rfl ?_
  refine lq_iload (j := 0) dL_law_214 rfl ?_
  refine lq_iconst (v := 5) dL_law_216 rfl ?_
  refine lq_iadd dL_law_217 ?_
  refine lq_sld (hin 5 (by decide)) dL_law_218 ?_
  refine lq_i2l dL_law_219 rfl ?_
  refine lq_bipush (v := 32) dL_law_220 rfl ?_
  refine lq_lshl dL_law_222 rfl ?_
  refine lq_aload_n (j := 4) dL_law_223 rfl rfl ?_
  refine lq_iload (j := 0) dL_law_224 rfl ?_
  refine lq_bipush (v := 6) dL_law_226 rfl ?_
  refine lq_iadd dL_law_228 ?_
  refine lq_sld (hin 6 (by decide)) dL_law_229 ?_
  refine lq_i2l dL_law_230 rfl ?_
  refine lq_ldc2 lw_c19 dL_law_231 ?_
  refine lq_land dL_law_234 ?_
  refine lq_lor dL_law_235 ?_
  refine lq_callV (Y' := YX10_feed) (d' := 1) (As := [.long _, .long _, .long _]) (x := 0) (st := []) okX10_feed lkL_21 rfl h0 rfl (by decide) hk (Nat.le_of_ble_eq_true rfl) (rc_feed (d := 0) hF hI.1 hI.2.2) dL_law_236 (fun r M1 h1 => ?_)
  obtain ⟨v1, rfl, e1, g1, o1⟩ := h1
  have m1 := hI.2.1.out o1
  show lq_At S Λ YL 0 239 (lw_ls i) [.int v1] M1 (b, L, xs, k, sl)
  refine lq_aload_n (j := 2) dL_law_239 rfl rfl ?_
  refine lq_aload_n (j := 4) dL_law_240 rfl rfl ?_
  refine lq_iload (j := 0) dL_law_241 rfl ?_
  refine lq_iconst (v := 1) dL_law_243 rfl ?_
  refine lq_iadd dL_law_244 ?_
  refine lq_sld (hin 1 (by decide)) dL_law_245 ?_
  refine lq_i2l dL_law_246 rfl ?_
  refine lq_bipush (v := 32) dL_law_247 rfl ?_
  refine lq_lshl dL_law_249 rfl ?_
  refine lq_aload_n (j := 4) dL_law_250 rfl rfl ?_
  refine lq_iload (j := 0) dL_law_251 rfl ?_
  refine lq_iconst (v := 2) dL_law_253 rfl ?_
  refine lq_iadd dL_law_254 ?_
  refine lq_sld (hin 2 (by decide)) dL_law_255 ?_
  refine lq_i2l dL_law_256 rfl ?_
  refine lq_ldc2 lw_c19 dL_law_257 ?_
  refine lq_land dL_law_260 ?_
  refine lq_lor dL_law_261 ?_
  refine lq_aload_n (j := 4) dL_law_262 rfl rfl ?_
  refine lq_iload (j := 0) dL_law_263 rfl ?_
  refine lq_iconst (v := 3) dL_law_265 rfl ?_
  refine lq_iadd dL_law_266 ?_
  refine lq_sld (hin 3 (by decide)) dL_law_267 ?_
  refine lq_i2l dL_law_268 rfl ?_
  refine lq_bipush (v := 32) dL_law_269 rfl ?_
  refine lq_lshl dL_law_271 rfl ?_
  refine lq_aload_n (j := 4) dL_law_272 rfl rfl ?_
  refine lq_iload (j := 0) dL_law_273 rfl ?_
  refine lq_iconst (v := 4) dL_law_275 rfl ?_
  refine lq_iadd dL_law_276 ?_
  refine lq_sld (hin 4 (by decide)) dL_law_277 ?_
  refine lq_i2l dL_law_278 rfl ?_
  refine lq_ldc2 lw_c19 dL_law_279 ?_
  refine lq_land dL_law_282 ?_
  refine lq_lor dL_law_283 ?_
  refine lq_aload_n (j := 4) dL_law_284 rfl rfl ?_
  refine lq_iload (j := 0) dL_law_285 rfl ?_
  refine lq_iconst (v := 5) dL_law_287 rfl ?_
  refine lq_iadd dL_law_288 ?_
  refine lq_sld (hin 5 (by decide)) dL_law_289 ?_
  refine lq_i2l dL_law_290 rfl ?_
  refine lq_bipush (v := 32) dL_law_291 rfl ?_
  refine lq_lshl dL_law_293 rfl ?_
  refine lq_aload_n (j := 4) dL_law_294 rfl rfl ?_
  refine lq_iload (j := 0) dL_law_295 rfl ?_
  refine lq_bipush (v := 6) dL_law_297 rfl ?_
  refine lq_iadd dL_law_299 ?_
  refine lq_sld (hin 6 (by decide)) dL_law_300 ?_
  refine lq_i2l dL_law_301 rfl ?_
  refine lq_ldc2 lw_c19 dL_law_302 ?_
  refine lq_land dL_law_305 ?_
  refine lq_lor dL_law_306 ?_
  refine lq_callV (Y' := YX11_feed) (d' := 1) (As := [.long _, .long _, .long _]) (x := 207) (st := [.int v1]) okX11_feed lkL_25 rfl h207 rfl (by decide) hk (Nat.le_of_ble_eq_true rfl) (rm_feed (d := 0) hX m1 hI.2.2) dL_law_307 (fun r M2 h2 => ?_)
  obtain ⟨v2, rfl, e2, g2, f2⟩ := h2
  show lq_At S Λ YL 0 310 (lw_ls i) [.int v2, .int v1] M2 (b, L, xs, k, sl)
  refine lq_icmp_eq (tgt := 1097) dL_law_310 rfl (fun _ => ?_) (fun q => absurd (e1.trans e2.symm) q)
  exact lq_more (Nat.le_succ k) (Nat.le_add_right sl 6) (kk M2 _ ⟨g1.off f2, g2, hI.2.2.qfeed.more (Nat.le_succ h)⟩)
theorem lc_1 (hF : pg_full Λ) (hX : pg_isX11 Λ) (h0 : Λ 0 = some (.inl (10, fs0))) (h207 : Λ 207 = some (.inl (11, fs1))) (hh : h < 2 ^ 20) (hk : k ≤ 601024 ∧ sl ≤ 7293033) (hin : lw_in i L) (hI : lw_I M G h) (kk : ∀ M2 G2, lw_I M2 G2 (h + 1) → lq_At S Λ YL 0 1097 (lw_ls i) [] M2 (b, L, xs, k + 1, sl + 6)) : lq_At S Λ YL 0 315 (lw_ls i) [] M (b, L, xs, k, sl) := by
  refine lq_aload_n (j := 3) dL_law_315 rfl rfl ?_
  refine lq_callV (Y' := YX10_line) (d' := 37) (As := []) (x := 0) (st := []) okX10_line lkL_26 rfl h0 rfl (by decide) hk (Nat.le_of_ble_eq_true rfl) (rc_line (d := 0) hF hI.1 hI.2.2) dL_law_316 (fun r M1 h1 => ?_)
  obtain ⟨v1, rfl, e1, g1, o1⟩ := h1
  have m1 := hI.2.1.out o1
  show lq_At S Λ YL 0 319 (lw_ls i) [.int v1] M1 (b, L, xs, k, sl)
  refine lq_aload_n (j := 2) dL_law_319 rfl rfl ?_
  refine lq_callV (Y' := YX11_line) (d' := 36) (As := []) (x := 207) (st := [.int v1]) okX11_line lkL_30 rfl h207 rfl (by decide) hk (Nat.le_of_ble_eq_true rfl) (rm_line (d := 0) hX m1 hI.2.2) dL_law_320 (fun r M2 h2 => ?_)
  obtain ⟨v2, rfl, e2, g2, f2⟩ := h2
  show lq_At S Λ YL 0 323 (lw_ls i) [.int v2, .int v1] M2 (b, L, xs, k, sl)
  refine lq_icmp_eq (tgt := 1097) dL_law_323 rfl (fun _ => ?_) (fun q => absurd (e1.trans e2.symm) q)
  exact lq_more (Nat.le_succ k) (Nat.le_add_right sl 6) (kk M2 _ ⟨g1.off f2, g2, hI.2.2.qline.more (Nat.le_succ h)⟩)
theorem lc_2 (hF : pg_full Λ) (hX : pg_isX11 Λ) (h0 : Λ 0 = some (.inl (10, fs0))) (h207 : Λ 207 = some (.inl (11, fs1))) (hh : h < 2 ^ 20) (hk : k ≤ 601024 ∧ sl ≤ 7293033) (hin : lw_in i L) (hI : lw_I M G h) (kk : ∀ M2 G2, lw_I M2 G2 (h + 1) → lq_At S Λ YL 0 1097 (lw_ls i) [] M2 (b, L, xs, k + 1, sl + 6)) : lq_At S Λ YL 0 328 (lw_ls i) [] M (b, L, xs, k, sl) := by
  refine lq_aload_n (j := 3) dL_law_328 rfl rfl ?_
  refine lq_callV (Y' := YX10_day) (d' := 7) (As := []) (x := 0) (st := []) okX10_day lkL_31 rfl h0 rfl (by decide) hk (Nat.le_of_ble_eq_true rfl) (rc_day (d := 0) hF hI.1 hI.2.2) dL_law_329 (fun r M1 h1 => ?_)
  obtain ⟨v1, rfl, e1, g1, o1⟩ := h1
  have m1 := hI.2.1.out o1
  show lq_At S Λ YL 0 332 (lw_ls i) [.int v1] M1 (b, L, xs, k, sl)
  refine lq_aload_n (j := 2) dL_law_332 rfl rfl ?_
  refine lq_callV (Y' := YX11_day) (d' := 5) (As := []) (x := 207) (st := [.int v1]) okX11_day lkL_34 rfl h207 rfl (by decide) hk (Nat.le_of_ble_eq_true rfl) (rm_day (d := 0) hX m1 hI.2.2) dL_law_333 (fun r M2 h2 => ?_)
  obtain ⟨v2, rfl, e2, g2, f2⟩ := h2
  show lq_At S Λ YL 0 336 (lw_ls i) [.int v2, .int v1] M2 (b, L, xs, k, sl)
  refine lq_icmp_eq (tgt := 1097) dL_law_336 rfl (fun _ => ?_) (fun q => absurd (e1.trans e2.symm) q)
  exact lq_more (Nat.le_succ k) (Nat.le_add_right sl 6) (kk M2 _ ⟨g1.off f2, g2, hI.2.2.qday.more (Nat.le_succ h)⟩)
theorem lc_3 (hF : pg_full Λ) (hX : pg_isX11 Λ) (h0 : Λ 0 = some (.inl (10, fs0))) (h207 : Λ 207 = some (.inl (11, fs1))) (hh : h < 2 ^ 20) (hk : k ≤ 601024 ∧ sl ≤ 7293033) (hin : lw_in i L) (hI : lw_I M G h) (kk : ∀ M2 G2, lw_I M2 G2 (h + 1) → lq_At S Λ YL 0 1097 (lw_ls i) [] M2 (b, L, xs, k + 1, sl + 6)) : lq_At S Λ YL 0 341 (lw_ls i) [] M (b, L, xs, k, sl) := by
  refine lq_aload_n (j := 3) dL_law_341 rfl rfl ?_
  refine lq_aload_n (j := 4) dL_law_342 rfl rfl ?_
  refine lq_iload (j := 0) dL_law_343 rfl ?_
  refine lq_iconst (v := 1) dL_law_345 rfl ?_
  refine lq_iadd dL_law_346 ?_
  refine lq_sld (hin 1 (by decide)) dL_law_347 ?_
  refine lq_aload_n (j := 4) dL_law_348 rfl rfl ?_
  refine lq_iload (j := 0) dL_law_349 rfl ?_
  refine lq_iconst (v := 2) dL_law_351 rfl ?_
  refine lq_iadd dL_law_352 ?_
  refine lq_sld (hin 2 (by decide)) dL_law_353 ?_
  refine lq_callV (Y' := YX10_cloth) (d' := 3) (As := [.int _, .int _]) (x := 0) (st := []) okX10_cloth lkL_35 rfl h0 rfl (by decide) hk (Nat.le_of_ble_eq_true rfl) (rc_cloth (d := 0) (by omega) hF hI.1 hI.2.2) dL_law_354 (fun r M1 h1 => ?_)
  obtain ⟨v1, rfl, e1, g1, o1⟩ := h1
  have m1 := hI.2.1.out o1
  show lq_At S Λ YL 0 357 (lw_ls i) [.int v1] M1 (b, L, xs, k, sl)
  refine lq_aload_n (j := 2) dL_law_357 rfl rfl ?_
  refine lq_aload_n (j := 4) dL_law_358 rfl rfl ?_
  refine lq_iload (j := 0) dL_law_359 rfl ?_
  refine lq_iconst (v := 1) dL_law_361 rfl ?_
  refine lq_iadd dL_law_362 ?_
  refine lq_sld (hin 1 (by decide)) dL_law_363 ?_
  refine lq_aload_n (j := 4) dL_law_364 rfl rfl ?_
  refine lq_iload (j := 0) dL_law_365 rfl ?_
  refine lq_iconst (v := 2) dL_law_367 rfl ?_
  refine lq_iadd dL_law_368 ?_
  refine lq_sld (hin 2 (by decide)) dL_law_369 ?_
  refine lq_callV (Y' := YX11_cloth) (d' := 4) (As := [.int _, .int _]) (x := 207) (st := [.int v1]) okX11_cloth lkL_39 rfl h207 rfl (by decide) hk (Nat.le_of_ble_eq_true rfl) (rm_cloth (d := 0) hX (by omega) m1 hI.2.2) dL_law_370 (fun r M2 h2 => ?_)
  obtain ⟨v2, rfl, e2, g2, f2⟩ := h2
  show lq_At S Λ YL 0 373 (lw_ls i) [.int v2, .int v1] M2 (b, L, xs, k, sl)
  refine lq_icmp_eq (tgt := 1097) dL_law_373 rfl (fun _ => ?_) (fun q => absurd (e1.trans e2.symm) q)
  exact lq_more (Nat.le_succ k) (Nat.le_add_right sl 6) (kk M2 _ ⟨g1.off f2, g2, hI.2.2.more (Nat.le_succ h)⟩)
theorem lc_4 (hF : pg_full Λ) (hX : pg_isX11 Λ) (h0 : Λ 0 = some (.inl (10, fs0))) (h207 : Λ 207 = some (.inl (11, fs1))) (hh : h < 2 ^ 20) (hk : k ≤ 601024 ∧ sl ≤ 7293033) (hin : lw_in i L) (hI : lw_I M G h) (kk : ∀ M2 G2, lw_I M2 G2 (h + 1) → lq_At S Λ YL 0 1097 (lw_ls i) [] M2 (b, L, xs, k + 1, sl + 6)) : lq_At S Λ YL 0 378 (lw_ls i) [] M (b, L, xs, k, sl) := by
  refine lq_aload_n (j := 3) dL_law_378 rfl rfl ?_
  refine lq_aload_n (j := 4) dL_law_379 rfl rfl ?_
  refine lq_iload (j := 0) dL_law_380 rfl ?_
  refine lq_iconst (v := 1) dL_law_382 rfl ?_
  refine lq_iadd dL_law_383 ?_
  refine lq_sld (hin 1 (by decide)) dL_law_384 ?_
  refine lq_aload_n (j := 4) dL_law_385 rfl rfl ?_
  refine lq_iload (j := 0) dL_law_386 rfl ?_
  refine lq_iconst (v := 2) dL_law_388 rfl ?_
  refine lq_iadd dL_law_389 ?_
  refine lq_sld (hin 2 (by decide)) dL_law_390 ?_
  refine lq_callV (Y' := YX10_peg) (d' := 1) (As := [.int _, .int _]) (x := 0) (st := []) okX10_peg lkL_40 rfl h0 rfl (by decide) hk (Nat.le_of_ble_eq_true rfl) (rc_peg (d := 0) hF hI.1 hI.2.2) dL_law_391 (fun r M1 h1 => ?_)
  obtain ⟨v1, rfl, e1, g1, o1⟩ := h1
  have m1 := hI.2.1.out o1
  show lq_At S Λ YL 0 394 (lw_ls i) [.int v1] M1 (b, L, xs, k, sl)
  refine lq_aload_n (j := 2) dL_law_394 rfl rfl ?_
  refine lq_aload_n (j := 4) dL_law_395 rfl rfl ?_
  refine lq_iload (j := 0) dL_law_396 rfl ?_
  refine lq_iconst (v := 1) dL_law_398 rfl ?_
  refine lq_iadd dL_law_399 ?_
  refine lq_sld (hin 1 (by decide)) dL_law_400 ?_
  refine lq_aload_n (j := 4) dL_law_401 rfl rfl ?_
  refine lq_iload (j := 0) dL_law_402 rfl ?_
  refine lq_iconst (v := 2) dL_law_404 rfl ?_
  refine lq_iadd dL_law_405 ?_
  refine lq_sld (hin 2 (by decide)) dL_law_406 ?_
  refine lq_callV (Y' := YX11_peg) (d' := 2) (As := [.int _, .int _]) (x := 207) (st := [.int v1]) okX11_peg lkL_43 rfl h207 rfl (by decide) hk (Nat.le_of_ble_eq_true rfl) (rm_peg (d := 0) hX m1 hI.2.2) dL_law_407 (fun r M2 h2 => ?_)
  obtain ⟨v2, rfl, e2, g2, f2⟩ := h2
  show lq_At S Λ YL 0 410 (lw_ls i) [.int v2, .int v1] M2 (b, L, xs, k, sl)
  refine lq_icmp_eq (tgt := 1097) dL_law_410 rfl (fun _ => ?_) (fun q => absurd (e1.trans e2.symm) q)
  exact lq_more (Nat.le_succ k) (Nat.le_add_right sl 6) (kk M2 _ ⟨g1.off f2, g2, hI.2.2.more (Nat.le_succ h)⟩)
theorem lc_5 (hF : pg_full Λ) (hX : pg_isX11 Λ) (h0 : Λ 0 = some (.inl (10, fs0))) (h207 : Λ 207 = some (.inl (11, fs1))) (hh : h < 2 ^ 20) (hk : k ≤ 601024 ∧ sl ≤ 7293033) (hin : lw_in i L) (hI : lw_I M G h) (kk : ∀ M2 G2, lw_I M2 G2 (h + 1) → lq_At S Λ YL 0 1097 (lw_ls i) [] M2 (b, L, xs, k + 1, sl + 6)) : lq_At S Λ YL 0 415 (lw_ls i) [] M (b, L, xs, k, sl) := by
  refine lq_aload_n (j := 3) dL_law_415 rfl rfl ?_
  refine lq_callV (Y' := YX10_free) (d' := 2) (As := []) (x := 0) (st := []) okX10_free lkL_44 rfl h0 rfl (by decide) hk (Nat.le_of_ble_eq_true rfl) (rc_free (d := 0) hF hI.1 hI.2.2) dL_law_416 (fun r M1 h1 => ?_)
  obtain ⟨v1, rfl, e1, g1, o1⟩ := h1
  have m1 := hI.2.1.out o1
  show lq_At S Λ YL 0 419 (lw_ls i) [.int v1] M1 (b, L, xs, k, sl)
  refine lq_aload_n (j := 2) dL_law_419 rfl rfl ?_
  refine lq_callV (Y' := YX11_free) (d' := 3) (As := []) (x := 207) (st := [.int v1]) okX11_free lkL_47 rfl h207 rfl (by decide) hk (Nat.le_of_ble_eq_true rfl) (rm_free (d := 0) hX m1 hI.2.2) dL_law_420 (fun r M2 h2 => ?_)
  obtain ⟨v2, rfl, e2, g2, f2⟩ := h2
  show lq_At S Λ YL 0 423 (lw_ls i) [.int v2, .int v1] M2 (b, L, xs, k, sl)
  refine lq_icmp_eq (tgt := 1097) dL_law_423 rfl (fun _ => ?_) (fun q => absurd (e1.trans e2.symm) q)
  exact lq_more (Nat.le_succ k) (Nat.le_add_right sl 6) (kk M2 _ ⟨g1.off f2, g2, hI.2.2.more (Nat.le_succ h)⟩)
theorem lc_6 (hF : pg_full Λ) (hX : pg_isX11 Λ) (h0 : Λ 0 = some (.inl (10, fs0))) (h207 : Λ 207 = some (.inl (11, fs1))) (hh : h < 2 ^ 20) (hk : k ≤ 601024 ∧ sl ≤ 7293033) (hin : lw_in i L) (hI : lw_I M G h) (kk : ∀ M2 G2, lw_I M2 G2 (h + 1) → lq_At S Λ YL 0 1097 (lw_ls i) [] M2 (b, L, xs, k + 1, sl + 6)) : lq_At S Λ YL 0 428 (lw_ls i) [] M (b, L, xs, k, sl) := by
  refine lq_aload_n (j := 3) dL_law_428 rfl rfl ?_
  refine lq_callV (Y' := YX10_laws) (d' := 3) (As := []) (x := 0) (st := []) okX10_laws lkL_48 rfl h0 rfl (by decide) hk (Nat.le_of_ble_eq_true rfl) (rc_laws (d := 0) hF hI.1 hI.2.2) dL_law_429 (fun r M1 h1 => ?_)
  obtain ⟨v1, rfl, e1, g1, o1⟩ := h1
  have m1 := hI.2.1.out o1
  show lq_At S Λ YL 0 432 (lw_ls i) [.int v1] M1 (b, L, xs, k, sl)
  refine lq_aload_n (j := 2) dL_law_432 rfl rfl ?_
  refine lq_callV (Y' := YX11_laws) (d' := 4) (As := []) (x := 207) (st := [.int v1]) okX11_laws lkL_51 rfl h207 rfl (by decide) hk (Nat.le_of_ble_eq_true rfl) (rm_laws (d := 0) hX m1 hI.2.2) dL_law_433 (fun r M2 h2 => ?_)
  obtain ⟨v2, rfl, e2, g2, f2⟩ := h2
  show lq_At S Λ YL 0 436 (lw_ls i) [.int v2, .int v1] M2 (b, L, xs, k, sl)
  refine lq_icmp_eq (tgt := 1097) dL_law_436 rfl (fun _ => ?_) (fun q => absurd (e1.trans e2.symm) q)
  exact lq_more (Nat.le_succ k) (Nat.le_add_right sl 6) (kk M2 _ ⟨g1.off f2, g2, hI.2.2.more (Nat.le_succ h)⟩)
theorem lc_7 (hF : pg_full Λ) (hX : pg_isX11 Λ) (h0 : Λ 0 = some (.inl (10, fs0))) (h207 : Λ 207 = some (.inl (11, fs1))) (hh : h < 2 ^ 20) (hk : k ≤ 601024 ∧ sl ≤ 7293033) (hin : lw_in i L) (hI : lw_I M G h) (kk : ∀ M2 G2, lw_I M2 G2 (h + 1) → lq_At S Λ YL 0 1097 (lw_ls i) [] M2 (b, L, xs, k + 1, sl + 6)) : lq_At S Λ YL 0 441 (lw_ls i) [] M (b, L, xs, k, sl) := by
  refine lq_aload_n (j := 3) dL_law_441 rfl rfl ?_
  refine lq_aload_n (j := 4) dL_law_442 rfl rfl ?_
  refine lq_iload (j := 0) dL_law_443 rfl ?_
  refine lq_iconst (v := 1) dL_law_445 rfl ?_
  refine lq_iadd dL_law_446 ?_
  refine lq_sld (hin 1 (by decide)) dL_law_447 ?_
  refine lq_aload_n (j := 4) dL_law_448 rfl rfl ?_
  refine lq_iload (j := 0) dL_law_449 rfl ?_
  refine lq_iconst (v := 2) dL_law_451 rfl ?_
  refine lq_iadd dL_law_452 ?_
  refine lq_sld (hin 2 (by decide)) dL_law_453 ?_
  refine lq_callV (Y' := YX10_hang) (d' := 5) (As := [.int _, .int _]) (x := 0) (st := []) okX10_hang lkL_52 rfl h0 rfl (by decide) hk (Nat.le_of_ble_eq_true rfl) (rc_hang (d := 0) hF hI.1 hI.2.2) dL_law_454 (fun r M1 h1 => ?_)
  obtain ⟨v1, rfl, e1, g1, o1⟩ := h1
  have m1 := hI.2.1.out o1
  show lq_At S Λ YL 0 457 (lw_ls i) [.int v1] M1 (b, L, xs, k, sl)
  refine lq_aload_n (j := 2) dL_law_457 rfl rfl ?_
  refine lq_aload_n (j := 4) dL_law_458 rfl rfl ?_
  refine lq_iload (j := 0) dL_law_459 rfl ?_
  refine lq_iconst (v := 1) dL_law_461 rfl ?_
  refine lq_iadd dL_law_462 ?_
  refine lq_sld (hin 1 (by decide)) dL_law_463 ?_
  refine lq_aload_n (j := 4) dL_law_464 rfl rfl ?_
  refine lq_iload (j := 0) dL_law_465 rfl ?_
  refine lq_iconst (v := 2) dL_law_467 rfl ?_
  refine lq_iadd dL_law_468 ?_
  refine lq_sld (hin 2 (by decide)) dL_law_469 ?_
  refine lq_callV (Y' := YX11_hang) (d' := 4) (As := [.int _, .int _]) (x := 207) (st := [.int v1]) okX11_hang lkL_55 rfl h207 rfl (by decide) hk (Nat.le_of_ble_eq_true rfl) (rm_hang (d := 0) hX m1 hI.2.2) dL_law_470 (fun r M2 h2 => ?_)
  obtain ⟨v2, rfl, e2, g2, f2⟩ := h2
  show lq_At S Λ YL 0 473 (lw_ls i) [.int v2, .int v1] M2 (b, L, xs, k, sl)
  refine lq_icmp_eq (tgt := 1097) dL_law_473 rfl (fun _ => ?_) (fun q => absurd (e1.trans e2.symm) q)
  exact lq_more (Nat.le_succ k) (Nat.le_add_right sl 6) (kk M2 _ ⟨g1.off f2, g2, hI.2.2.qhang.more (Nat.le_succ h)⟩)
theorem lc_8 (hF : pg_full Λ) (hX : pg_isX11 Λ) (h0 : Λ 0 = some (.inl (10, fs0))) (h207 : Λ 207 = some (.inl (11, fs1))) (hh : h < 2 ^ 20) (hk : k ≤ 601024 ∧ sl ≤ 7293033) (hin : lw_in i L) (hI : lw_I M G h) (kk : ∀ M2 G2, lw_I M2 G2 (h + 1) → lq_At S Λ YL 0 1097 (lw_ls i) [] M2 (b, L, xs, k + 1, sl + 6)) : lq_At S Λ YL 0 478 (lw_ls i) [] M (b, L, xs, k, sl) := by
  refine lq_aload_n (j := 3) dL_law_478 rfl rfl ?_
  refine lq_aload_n (j := 4) dL_law_479 rfl rfl ?_
  refine lq_iload (j := 0) dL_law_480 rfl ?_
  refine lq_iconst (v := 1) dL_law_482 rfl ?_
  refine lq_iadd dL_law_483 ?_
  refine lq_sld (hin 1 (by decide)) dL_law_484 ?_
  refine lq_callV (Y' := YX10_take) (d' := 5) (As := [.int _]) (x := 0) (st := []) okX10_take lkL_56 rfl h0 rfl (by decide) hk (Nat.le_of_ble_eq_true rfl) (rc_take (d := 0) hF hI.1 hI.2.2) dL_law_485 (fun r M1 h1 => ?_)
  obtain ⟨v1, rfl, e1, g1, o1⟩ := h1
  have m1 := hI.2.1.out o1
  show lq_At S Λ YL 0 488 (lw_ls i) [.int v1] M1 (b, L, xs, k, sl)
  refine lq_aload_n (j := 2) dL_law_488 rfl rfl ?_
  refine lq_aload_n (j := 4) dL_law_489 rfl rfl ?_
  refine lq_iload (j := 0) dL_law_490 rfl ?_
  refine lq_iconst (v := 1) dL_law_492 rfl ?_
  refine lq_iadd dL_law_493 ?_
  refine lq_sld (hin 1 (by decide)) dL_law_494 ?_
  refine lq_callV (Y' := YX11_take) (d' := 3) (As := [.int _]) (x := 207) (st := [.int v1]) okX11_take lkL_60 rfl h207 rfl (by decide) hk (Nat.le_of_ble_eq_true rfl) (rm_take (d := 0) hX m1 hI.2.2) dL_law_495 (fun r M2 h2 => ?_)
  obtain ⟨v2, rfl, e2, g2, f2⟩ := h2
  show lq_At S Λ YL 0 498 (lw_ls i) [.int v2, .int v1] M2 (b, L, xs, k, sl)
  refine lq_icmp_eq (tgt := 1097) dL_law_498 rfl (fun _ => ?_) (fun q => absurd (e1.trans e2.symm) q)
  exact lq_more (Nat.le_succ k) (Nat.le_add_right sl 6) (kk M2 _ ⟨g1.off f2, g2, hI.2.2.qtake.more (Nat.le_succ h)⟩)
theorem lc_9 (hF : pg_full Λ) (hX : pg_isX11 Λ) (h0 : Λ 0 = some (.inl (10, fs0))) (h207 : Λ 207 = some (.inl (11, fs1))) (hh : h < 2 ^ 20) (hk : k ≤ 601024 ∧ sl ≤ 7293033) (hin : lw_in i L) (hI : lw_I M G h) (kk : ∀ M2 G2, lw_I M2 G2 (h + 1) → lq_At S Λ YL 0 1097 (lw_ls i) [] M2 (b, L, xs, k + 1, sl + 6)) : lq_At S Λ YL 0 503 (lw_ls i) [] M (b, L, xs, k, sl) := by
  refine lq_aload_n (j := 3) dL_law_503 rfl rfl ?_
  refine lq_aload_n (j := 4) dL_law_504 rfl rfl ?_
  refine lq_iload (j := 0) dL_law_505 rfl ?_
  refine lq_iconst (v := 1) dL_law_507 rfl ?_
  refine lq_iadd dL_law_508 ?_
  refine lq_sld (hin 1 (by decide)) dL_law_509 ?_
  refine lq_callV (Y' := YX10_wash) (d' := 5) (As := [.int _]) (x := 0) (st := []) okX10_wash lkL_61 rfl h0 rfl (by decide) hk (Nat.le_of_ble_eq_true rfl) (rc_wash (d := 0) hF hI.1 hI.2.2) dL_law_510 (fun r M1 h1 => ?_)
  obtain ⟨v1, rfl, e1, g1, o1⟩ := h1
  have m1 := hI.2.1.out o1
  show lq_At S Λ YL 0 513 (lw_ls i) [.int v1] M1 (b, L, xs, k, sl)
  refine lq_aload_n (j := 2) dL_law_513 rfl rfl ?_
  refine lq_aload_n (j := 4) dL_law_514 rfl rfl ?_
  refine lq_iload (j := 0) dL_law_515 rfl ?_
  refine lq_iconst (v := 1) dL_law_517 rfl ?_
  refine lq_iadd dL_law_518 ?_
  refine lq_sld (hin 1 (by decide)) dL_law_519 ?_
  refine lq_callV (Y' := YX11_wash) (d' := 3) (As := [.int _]) (x := 207) (st := [.int v1]) okX11_wash lkL_65 rfl h207 rfl (by decide) hk (Nat.le_of_ble_eq_true rfl) (rm_wash (d := 0) hX m1 hI.2.2) dL_law_520 (fun r M2 h2 => ?_)
  obtain ⟨v2, rfl, e2, g2, f2⟩ := h2
  show lq_At S Λ YL 0 523 (lw_ls i) [.int v2, .int v1] M2 (b, L, xs, k, sl)
  refine lq_icmp_eq (tgt := 1097) dL_law_523 rfl (fun _ => ?_) (fun q => absurd (e1.trans e2.symm) q)
  exact lq_more (Nat.le_succ k) (Nat.le_add_right sl 6) (kk M2 _ ⟨g1.off f2, g2, hI.2.2.qwash.more (Nat.le_succ h)⟩)
theorem lc_10 (hF : pg_full Λ) (hX : pg_isX11 Λ) (h0 : Λ 0 = some (.inl (10, fs0))) (h207 : Λ 207 = some (.inl (11, fs1))) (hh : h < 2 ^ 20) (hk : k ≤ 601024 ∧ sl ≤ 7293033) (hin : lw_in i L) (hI : lw_I M G h) (kk : ∀ M2 G2, lw_I M2 G2 (h + 1) → lq_At S Λ YL 0 1097 (lw_ls i) [] M2 (b, L, xs, k + 1, sl + 6)) : lq_At S Λ YL 0 528 (lw_ls i) [] M (b, L, xs, k, sl) := by
  refine lq_aload_n (j := 3) dL_law_528 rfl rfl ?_
  refine lq_aload_n (j := 4) dL_law_529 rfl rfl ?_
  refine lq_iload (j := 0) dL_law_530 rfl ?_
  refine lq_iconst (v := 1) dL_law_532 rfl ?_
  refine lq_iadd dL_law_533 ?_
  refine lq_sld (hin 1 (by decide)) dL_law_534 ?_
  refine lq_callV (Y' := YX10_buy) (d' := 5) (As := [.int _]) (x := 0) (st := []) okX10_buy lkL_66 rfl h0 rfl (by decide) hk (Nat.le_of_ble_eq_true rfl) (rc_buy (d := 0) hF hI.1 hI.2.2) dL_law_535 (fun r M1 h1 => ?_)
  obtain ⟨v1, rfl, e1, g1, o1⟩ := h1
  have m1 := hI.2.1.out o1
  show lq_At S Λ YL 0 538 (lw_ls i) [.int v1] M1 (b, L, xs, k, sl)
  refine lq_aload_n (j := 2) dL_law_538 rfl rfl ?_
  refine lq_aload_n (j := 4) dL_law_539 rfl rfl ?_
  refine lq_iload (j := 0) dL_law_540 rfl ?_
  refine lq_iconst (v := 1) dL_law_542 rfl ?_
  refine lq_iadd dL_law_543 ?_
  refine lq_sld (hin 1 (by decide)) dL_law_544 ?_
  refine lq_callV (Y' := YX11_buy) (d' := 3) (As := [.int _]) (x := 207) (st := [.int v1]) okX11_buy lkL_69 rfl h207 rfl (by decide) hk (Nat.le_of_ble_eq_true rfl) (rm_buy (d := 0) hX m1 hI.2.2) dL_law_545 (fun r M2 h2 => ?_)
  obtain ⟨v2, rfl, e2, g2, f2⟩ := h2
  show lq_At S Λ YL 0 548 (lw_ls i) [.int v2, .int v1] M2 (b, L, xs, k, sl)
  refine lq_icmp_eq (tgt := 1097) dL_law_548 rfl (fun _ => ?_) (fun q => absurd (e1.trans e2.symm) q)
  exact lq_more (Nat.le_succ k) (Nat.le_add_right sl 6) (kk M2 _ ⟨g1.off f2, g2, hI.2.2.qbuy.more (Nat.le_succ h)⟩)
theorem lc_11 (hF : pg_full Λ) (hX : pg_isX11 Λ) (h0 : Λ 0 = some (.inl (10, fs0))) (h207 : Λ 207 = some (.inl (11, fs1))) (hh : h < 2 ^ 20) (hk : k ≤ 601024 ∧ sl ≤ 7293033) (hin : lw_in i L) (hI : lw_I M G h) (kk : ∀ M2 G2, lw_I M2 G2 (h + 1) → lq_At S Λ YL 0 1097 (lw_ls i) [] M2 (b, L, xs, k + 1, sl + 6)) : lq_At S Λ YL 0 553 (lw_ls i) [] M (b, L, xs, k, sl) := by
  refine lq_aload_n (j := 3) dL_law_553 rfl rfl ?_
  refine lq_callV (Y' := YX10_hour) (d' := 6) (As := []) (x := 0) (st := []) okX10_hour lkL_70 rfl h0 rfl (by decide) hk (Nat.le_of_ble_eq_true rfl) (rc_hour (d := 0) (by omega) hF hI.1 hI.2.2) dL_law_554 (fun r M1 h1 => ?_)
  obtain ⟨v1, rfl, e1, g1, o1⟩ := h1
  have m1 := hI.2.1.out o1
  show lq_At S Λ YL 0 557 (lw_ls i) [.int v1] M1 (b, L, xs, k, sl)
  refine lq_aload_n (j := 2) dL_law_557 rfl rfl ?_
  refine lq_callV (Y' := YX11_hour) (d' := 5) (As := []) (x := 207) (st := [.int v1]) okX11_hour lkL_73 rfl h207 rfl (by decide) hk (Nat.le_of_ble_eq_true rfl) (rm_hour (d := 0) hX (by omega) m1 hI.2.2) dL_law_558 (fun r M2 h2 => ?_)
  obtain ⟨v2, rfl, e2, g2, f2⟩ := h2
  show lq_At S Λ YL 0 561 (lw_ls i) [.int v2, .int v1] M2 (b, L, xs, k, sl)
  refine lq_icmp_eq (tgt := 1097) dL_law_561 rfl (fun _ => ?_) (fun q => absurd (e1.trans e2.symm) q)
  exact lq_more (Nat.le_succ k) (Nat.le_add_right sl 6) (kk M2 _ ⟨g1.off f2, g2, hI.2.2.qhour⟩)
theorem lc_12 (hF : pg_full Λ) (hX : pg_isX11 Λ) (h0 : Λ 0 = some (.inl (10, fs0))) (h207 : Λ 207 = some (.inl (11, fs1))) (hh : h < 2 ^ 20) (hk : k ≤ 601024 ∧ sl ≤ 7293033) (hin : lw_in i L) (hI : lw_I M G h) (kk : ∀ M2 G2, lw_I M2 G2 (h + 1) → lq_At S Λ YL 0 1097 (lw_ls i) [] M2 (b, L, xs, k + 1, sl + 6)) : lq_At S Λ YL 0 566 (lw_ls i) [] M (b, L, xs, k, sl) := by
  refine lq_aload_n (j := 3) dL_law_566 rfl rfl ?_
  refine lq_callV (Y' := YX10_undo) (d' := 3) (As := []) (x := 0) (st := []) okX10_undo lkL_74 rfl h0 rfl (by decide) hk (Nat.le_of_ble_eq_true rfl) (rc_undo (d := 0) hF hI.1 hI.2.2) dL_law_567 (fun r M1 h1 => ?_)
  obtain ⟨v1, rfl, e1, g1, o1⟩ := h1
  have m1 := hI.2.1.out o1
  show lq_At S Λ YL 0 570 (lw_ls i) [.int v1] M1 (b, L, xs, k, sl)
  refine lq_aload_n (j := 2) dL_law_570 rfl rfl ?_
  refine lq_callV (Y' := YX11_undo) (d' := 1) (As := []) (x := 207) (st := [.int v1]) okX11_undo lkL_78 rfl h207 rfl (by decide) hk (Nat.le_of_ble_eq_true rfl) (rm_undo (d := 0) hX m1) dL_law_571 (fun r M2 h2 => ?_)
  obtain ⟨v2, rfl, e2, g2, f2⟩ := h2
  show lq_At S Λ YL 0 574 (lw_ls i) [.int v2, .int v1] M2 (b, L, xs, k, sl)
  refine lq_icmp_eq (tgt := 1097) dL_law_574 rfl (fun _ => ?_) (fun q => absurd (e1.trans e2.symm) q)
  exact lq_more (Nat.le_succ k) (Nat.le_add_right sl 6) (kk M2 _ ⟨g1.off f2, g2, hI.2.2.qundo.more (Nat.le_succ h)⟩)
end LC
