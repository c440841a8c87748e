/-! ===== the law: its cases ===== -/
section LC2
variable {p : Program} {l : Launch} {e : Env} {s : State} {m : MethodId} {below : List Frame} {meth : Method} {c : Code} {b L : Nat} {xs : Nat → Int32} {D : va_G} {tc : Nat → ClassId} {ad : Nat → Nat} {nC nS : Nat} {Q : State → Prop}
set_option maxHeartbeats 4000000 in
theorem lc_0 (hk : LK p s m meth c b L xs D tc ad) (hn : nC ≤ 600000 ∧ nS ≤ 7302250) : CaseOk p l e s m below meth c b L D tc ad nC nS Q 164 := by
  intro i z μ hi hz hc hm nx
  obtain ⟨r, ν, ξ, z', q1, q2, g1, g2, g3⟩ := two (f := (fun μ => fX4_letter 400 (xs (i + 1)) μ)) (g := (fun μ => fX5_letter 400 (xs (i + 1)) μ)) (fun μ μ' hc hm => tw_letter  hz hc hm (xs (i + 1))) hc hm
  refine l_aload hk 2 dL_164 rfl rfl ?_
  refine l_aload hk 1 dL_165 rfl rfl ?_
  refine l_iload hk 0 dL_166 rfl rfl ?_
  refine l_iconst hk 1 dL_167 rfl ?_
  refine l_iadd hk dL_168 ?_
  refine l_sld hk (by omega) dL_169 ?_
  refine l_call (k := 0) (cc := 4) (T := TX4) (N := 8) [.int (xs (i + 1))] hk rfl rfl moX4_letter lnL_13 (ctX4_letter ad 400 (xs (i + 1)) μ) q1 rfl (by decide) rfl (Nat.le_of_ble_eq_true rfl) dL_170 ?_ hn
  refine l_aload hk 3 dL_173 rfl rfl ?_
  refine l_aload hk 1 dL_174 rfl rfl ?_
  refine l_iload hk 0 dL_175 rfl rfl ?_
  refine l_iconst hk 1 dL_176 rfl ?_
  refine l_iadd hk dL_177 ?_
  refine l_sld hk (by omega) dL_178 ?_
  refine l_call (k := 47) (cc := 5) (T := TX5) (N := 23) [.int (xs (i + 1))] hk rfl rfl moX5_letter lnL_17 (ctX5_letter ad 400 (xs (i + 1)) ν) q2 rfl (by decide) rfl (Nat.le_of_ble_eq_true rfl) dL_179 ?_ hn
  exact l_same hk 884 dL_182 (by decide) (nx z' ξ g1 g2 g3)
set_option maxHeartbeats 4000000 in
theorem lc_1 (hk : LK p s m meth c b L xs D tc ad) (hn : nC ≤ 600000 ∧ nS ≤ 7302250) : CaseOk p l e s m below meth c b L D tc ad nC nS Q 187 := by
  intro i z μ hi hz hc hm nx
  obtain ⟨r, ν, ξ, z', q1, q2, g1, g2, g3⟩ := two (f := (fun μ => fX4_line 400  μ)) (g := (fun μ => fX5_line 400  μ)) (fun μ μ' hc hm => tw_line (by decide) hz hc hm ) hc hm
  refine l_aload hk 2 dL_187 rfl rfl ?_
  refine l_call (k := 0) (cc := 4) (T := TX4) (N := 8) [] hk rfl rfl moX4_line lnL_18 (ctX4_line ad 400  μ) q1 rfl (by decide) rfl (Nat.le_of_ble_eq_true rfl) dL_188 ?_ hn
  refine l_aload hk 3 dL_191 rfl rfl ?_
  refine l_call (k := 47) (cc := 5) (T := TX5) (N := 23) [] hk rfl rfl moX5_line lnL_22 (ctX5_line ad 400  ν) q2 rfl (by decide) rfl (Nat.le_of_ble_eq_true rfl) dL_192 ?_ hn
  exact l_same hk 884 dL_195 (by decide) (nx z' ξ g1 g2 g3)
set_option maxHeartbeats 4000000 in
theorem lc_2 (hk : LK p s m meth c b L xs D tc ad) (hn : nC ≤ 600000 ∧ nS ≤ 7302250) : CaseOk p l e s m below meth c b L D tc ad nC nS Q 200 := by
  intro i z μ hi hz hc hm nx
  obtain ⟨r, ν, ξ, z', q1, q2, g1, g2, g3⟩ := two (f := (fun μ => fX4_station 400 (xs (i + 1)) (xs (i + 2)) μ)) (g := (fun μ => fX5_station 400 (xs (i + 1)) (xs (i + 2)) μ)) (fun μ μ' hc hm => tw_station (by decide) hz hc hm (xs (i + 1)) (xs (i + 2))) hc hm
  refine l_aload hk 2 dL_200 rfl rfl ?_
  refine l_aload hk 1 dL_201 rfl rfl ?_
  refine l_iload hk 0 dL_202 rfl rfl ?_
  refine l_iconst hk 1 dL_203 rfl ?_
  refine l_iadd hk dL_204 ?_
  refine l_sld hk (by omega) dL_205 ?_
  refine l_aload hk 1 dL_206 rfl rfl ?_
  refine l_iload hk 0 dL_207 rfl rfl ?_
  refine l_iconst hk 2 dL_208 rfl ?_
  refine l_iadd hk dL_209 ?_
  refine l_sld hk (by omega) dL_210 ?_
  refine l_call (k := 0) (cc := 4) (T := TX4) (N := 8) [.int (xs (i + 1)), .int (xs (i + 2))] hk rfl rfl moX4_station lnL_23 (ctX4_station ad 400 (xs (i + 1)) (xs (i + 2)) μ) q1 rfl (by decide) rfl (Nat.le_of_ble_eq_true rfl) dL_211 ?_ hn
  refine l_aload hk 3 dL_214 rfl rfl ?_
  refine l_aload hk 1 dL_215 rfl rfl ?_
  refine l_iload hk 0 dL_216 rfl rfl ?_
  refine l_iconst hk 1 dL_217 rfl ?_
  refine l_iadd hk dL_218 ?_
  refine l_sld hk (by omega) dL_219 ?_
  refine l_aload hk 1 dL_220 rfl rfl ?_
  refine l_iload hk 0 dL_221 rfl rfl ?_
  refine l_iconst hk 2 dL_222 rfl ?_
  refine l_iadd hk dL_223 ?_
  refine l_sld hk (by omega) dL_224 ?_
  refine l_call (k := 47) (cc := 5) (T := TX5) (N := 23) [.int (xs (i + 1)), .int (xs (i + 2))] hk rfl rfl moX5_station lnL_27 (ctX5_station ad 400 (xs (i + 1)) (xs (i + 2)) ν) q2 rfl (by decide) rfl (Nat.le_of_ble_eq_true rfl) dL_225 ?_ hn
  exact l_same hk 884 dL_228 (by decide) (nx z' ξ g1 g2 g3)
set_option maxHeartbeats 4000000 in
theorem lc_3 (hk : LK p s m meth c b L xs D tc ad) (hn : nC ≤ 600000 ∧ nS ≤ 7302250) : CaseOk p l e s m below meth c b L D tc ad nC nS Q 233 := by
  intro i z μ hi hz hc hm nx
  obtain ⟨r, ν, ξ, z', q1, q2, g1, g2, g3⟩ := two (f := (fun μ => fX4_name 400 (xs (i + 1)) (xs (i + 2)) μ)) (g := (fun μ => fX5_name 400 (xs (i + 1)) (xs (i + 2)) μ)) (fun μ μ' hc hm => tw_name (by decide) hz hc hm (xs (i + 1)) (xs (i + 2))) hc hm
  refine l_aload hk 2 dL_233 rfl rfl ?_
  refine l_aload hk 1 dL_234 rfl rfl ?_
  refine l_iload hk 0 dL_235 rfl rfl ?_
  refine l_iconst hk 1 dL_236 rfl ?_
  refine l_iadd hk dL_237 ?_
  refine l_sld hk (by omega) dL_238 ?_
  refine l_aload hk 1 dL_239 rfl rfl ?_
  refine l_iload hk 0 dL_240 rfl rfl ?_
  refine l_iconst hk 2 dL_241 rfl ?_
  refine l_iadd hk dL_242 ?_
  refine l_sld hk (by omega) dL_243 ?_
  refine l_call (k := 0) (cc := 4) (T := TX4) (N := 8) [.int (xs (i + 1)), .int (xs (i + 2))] hk rfl rfl moX4_name lnL_28 (ctX4_name ad 400 (xs (i + 1)) (xs (i + 2)) μ) q1 rfl (by decide) rfl (Nat.le_of_ble_eq_true rfl) dL_244 ?_ hn
  refine l_aload hk 3 dL_247 rfl rfl ?_
  refine l_aload hk 1 dL_248 rfl rfl ?_
  refine l_iload hk 0 dL_249 rfl rfl ?_
  refine l_iconst hk 1 dL_250 rfl ?_
  refine l_iadd hk dL_251 ?_
  refine l_sld hk (by omega) dL_252 ?_
  refine l_aload hk 1 dL_253 rfl rfl ?_
  refine l_iload hk 0 dL_254 rfl rfl ?_
  refine l_iconst hk 2 dL_255 rfl ?_
  refine l_iadd hk dL_256 ?_
  refine l_sld hk (by omega) dL_257 ?_
  refine l_call (k := 47) (cc := 5) (T := TX5) (N := 23) [.int (xs (i + 1)), .int (xs (i + 2))] hk rfl rfl moX5_name lnL_31 (ctX5_name ad 400 (xs (i + 1)) (xs (i + 2)) ν) q2 rfl (by decide) rfl (Nat.le_of_ble_eq_true rfl) dL_258 ?_ hn
  exact l_same hk 884 dL_261 (by decide) (nx z' ξ g1 g2 g3)
set_option maxHeartbeats 4000000 in
theorem lc_4 (hk : LK p s m meth c b L xs D tc ad) (hn : nC ≤ 600000 ∧ nS ≤ 7302250) : CaseOk p l e s m below meth c b L D tc ad nC nS Q 266 := by
  intro i z μ hi hz hc hm nx
  obtain ⟨r, ν, ξ, z', q1, q2, g1, g2, g3⟩ := two (f := (fun μ => fX4_kind 400 (xs (i + 1)) (xs (i + 2)) μ)) (g := (fun μ => fX5_kind 400 (xs (i + 1)) (xs (i + 2)) μ)) (fun μ μ' hc hm => tw_kind  hz hc hm (xs (i + 1)) (xs (i + 2))) hc hm
  refine l_aload hk 2 dL_266 rfl rfl ?_
  refine l_aload hk 1 dL_267 rfl rfl ?_
  refine l_iload hk 0 dL_268 rfl rfl ?_
  refine l_iconst hk 1 dL_269 rfl ?_
  refine l_iadd hk dL_270 ?_
  refine l_sld hk (by omega) dL_271 ?_
  refine l_aload hk 1 dL_272 rfl rfl ?_
  refine l_iload hk 0 dL_273 rfl rfl ?_
  refine l_iconst hk 2 dL_274 rfl ?_
  refine l_iadd hk dL_275 ?_
  refine l_sld hk (by omega) dL_276 ?_
  refine l_call (k := 0) (cc := 4) (T := TX4) (N := 8) [.int (xs (i + 1)), .int (xs (i + 2))] hk rfl rfl moX4_kind lnL_32 (ctX4_kind ad 400 (xs (i + 1)) (xs (i + 2)) μ) q1 rfl (by decide) rfl (Nat.le_of_ble_eq_true rfl) dL_277 ?_ hn
  refine l_aload hk 3 dL_280 rfl rfl ?_
  refine l_aload hk 1 dL_281 rfl rfl ?_
  refine l_iload hk 0 dL_282 rfl rfl ?_
  refine l_iconst hk 1 dL_283 rfl ?_
  refine l_iadd hk dL_284 ?_
  refine l_sld hk (by omega) dL_285 ?_
  refine l_aload hk 1 dL_286 rfl rfl ?_
  refine l_iload hk 0 dL_287 rfl rfl ?_
  refine l_iconst hk 2 dL_288 rfl ?_
  refine l_iadd hk dL_289 ?_
  refine l_sld hk (by omega) dL_290 ?_
  refine l_call (k := 47) (cc := 5) (T := TX5) (N := 23) [.int (xs (i + 1)), .int (xs (i + 2))] hk rfl rfl moX5_kind lnL_35 (ctX5_kind ad 400 (xs (i + 1)) (xs (i + 2)) ν) q2 rfl (by decide) rfl (Nat.le_of_ble_eq_true rfl) dL_291 ?_ hn
  exact l_same hk 884 dL_294 (by decide) (nx z' ξ g1 g2 g3)
set_option maxHeartbeats 4000000 in
theorem lc_5 (hk : LK p s m meth c b L xs D tc ad) (hn : nC ≤ 600000 ∧ nS ≤ 7302250) : CaseOk p l e s m below meth c b L D tc ad nC nS Q 299 := by
  intro i z μ hi hz hc hm nx
  obtain ⟨r, ν, ξ, z', q1, q2, g1, g2, g3⟩ := two (f := (fun μ => fX4_form 400 (xs (i + 1)) μ)) (g := (fun μ => fX5_form 400 (xs (i + 1)) μ)) (fun μ μ' hc hm => tw_form  hz hc hm (xs (i + 1))) hc hm
  refine l_aload hk 2 dL_299 rfl rfl ?_
  refine l_aload hk 1 dL_300 rfl rfl ?_
  refine l_iload hk 0 dL_301 rfl rfl ?_
  refine l_iconst hk 1 dL_302 rfl ?_
  refine l_iadd hk dL_303 ?_
  refine l_sld hk (by omega) dL_304 ?_
  refine l_call (k := 0) (cc := 4) (T := TX4) (N := 8) [.int (xs (i + 1))] hk rfl rfl moX4_form lnL_36 (ctX4_form ad 400 (xs (i + 1)) μ) q1 rfl (by decide) rfl (Nat.le_of_ble_eq_true rfl) dL_305 ?_ hn
  refine l_aload hk 3 dL_308 rfl rfl ?_
  refine l_aload hk 1 dL_309 rfl rfl ?_
  refine l_iload hk 0 dL_310 rfl rfl ?_
  refine l_iconst hk 1 dL_311 rfl ?_
  refine l_iadd hk dL_312 ?_
  refine l_sld hk (by omega) dL_313 ?_
  refine l_call (k := 47) (cc := 5) (T := TX5) (N := 23) [.int (xs (i + 1))] hk rfl rfl moX5_form lnL_39 (ctX5_form ad 400 (xs (i + 1)) ν) q2 rfl (by decide) rfl (Nat.le_of_ble_eq_true rfl) dL_314 ?_ hn
  exact l_same hk 884 dL_317 (by decide) (nx z' ξ g1 g2 g3)
set_option maxHeartbeats 4000000 in
theorem lc_6 (hk : LK p s m meth c b L xs D tc ad) (hn : nC ≤ 600000 ∧ nS ≤ 7302250) : CaseOk p l e s m below meth c b L D tc ad nC nS Q 322 := by
  intro i z μ hi hz hc hm nx
  obtain ⟨r, ν, ξ, z', q1, q2, g1, g2, g3⟩ := two (f := (fun μ => fX4_few 400 (xs (i + 1)) (xs (i + 2)) μ)) (g := (fun μ => fX5_few 400 (xs (i + 1)) (xs (i + 2)) μ)) (fun μ μ' hc hm => tw_few (by decide) hz hc hm (xs (i + 1)) (xs (i + 2))) hc hm
  refine l_aload hk 2 dL_322 rfl rfl ?_
  refine l_aload hk 1 dL_323 rfl rfl ?_
  refine l_iload hk 0 dL_324 rfl rfl ?_
  refine l_iconst hk 1 dL_325 rfl ?_
  refine l_iadd hk dL_326 ?_
  refine l_sld hk (by omega) dL_327 ?_
  refine l_aload hk 1 dL_328 rfl rfl ?_
  refine l_iload hk 0 dL_329 rfl rfl ?_
  refine l_iconst hk 2 dL_330 rfl ?_
  refine l_iadd hk dL_331 ?_
  refine l_sld hk (by omega) dL_332 ?_
  refine l_call (k := 0) (cc := 4) (T := TX4) (N := 8) [.int (xs (i + 1)), .int (xs (i + 2))] hk rfl rfl moX4_few lnL_40 (ctX4_few ad 400 (xs (i + 1)) (xs (i + 2)) μ) q1 rfl (by decide) rfl (Nat.le_of_ble_eq_true rfl) dL_333 ?_ hn
  refine l_aload hk 3 dL_336 rfl rfl ?_
  refine l_aload hk 1 dL_337 rfl rfl ?_
  refine l_iload hk 0 dL_338 rfl rfl ?_
  refine l_iconst hk 1 dL_339 rfl ?_
  refine l_iadd hk dL_340 ?_
  refine l_sld hk (by omega) dL_341 ?_
  refine l_aload hk 1 dL_342 rfl rfl ?_
  refine l_iload hk 0 dL_343 rfl rfl ?_
  refine l_iconst hk 2 dL_344 rfl ?_
  refine l_iadd hk dL_345 ?_
  refine l_sld hk (by omega) dL_346 ?_
  refine l_call (k := 47) (cc := 5) (T := TX5) (N := 23) [.int (xs (i + 1)), .int (xs (i + 2))] hk rfl rfl moX5_few lnL_43 (ctX5_few ad 400 (xs (i + 1)) (xs (i + 2)) ν) q2 rfl (by decide) rfl (Nat.le_of_ble_eq_true rfl) dL_347 ?_ hn
  exact l_same hk 884 dL_350 (by decide) (nx z' ξ g1 g2 g3)
set_option maxHeartbeats 4000000 in
theorem lc_7 (hk : LK p s m meth c b L xs D tc ad) (hn : nC ≤ 600000 ∧ nS ≤ 7302250) : CaseOk p l e s m below meth c b L D tc ad nC nS Q 355 := by
  intro i z μ hi hz hc hm nx
  obtain ⟨r, ν, ξ, z', q1, q2, g1, g2, g3⟩ := two (f := (fun μ => fX4_ways 400 (xs (i + 1)) (xs (i + 2)) (xs (i + 3)) μ)) (g := (fun μ => fX5_ways 400 (xs (i + 1)) (xs (i + 2)) (xs (i + 3)) μ)) (fun μ μ' hc hm => tw_ways (by decide) hz hc hm (xs (i + 1)) (xs (i + 2)) (xs (i + 3))) hc hm
  refine l_aload hk 2 dL_355 rfl rfl ?_
  refine l_aload hk 1 dL_356 rfl rfl ?_
  refine l_iload hk 0 dL_357 rfl rfl ?_
  refine l_iconst hk 1 dL_358 rfl ?_
  refine l_iadd hk dL_359 ?_
  refine l_sld hk (by omega) dL_360 ?_
  refine l_aload hk 1 dL_361 rfl rfl ?_
  refine l_iload hk 0 dL_362 rfl rfl ?_
  refine l_iconst hk 2 dL_363 rfl ?_
  refine l_iadd hk dL_364 ?_
  refine l_sld hk (by omega) dL_365 ?_
  refine l_aload hk 1 dL_366 rfl rfl ?_
  refine l_iload hk 0 dL_367 rfl rfl ?_
  refine l_iconst hk 3 dL_368 rfl ?_
  refine l_iadd hk dL_369 ?_
  refine l_sld hk (by omega) dL_370 ?_
  refine l_call (k := 0) (cc := 4) (T := TX4) (N := 8) [.int (xs (i + 1)), .int (xs (i + 2)), .int (xs (i + 3))] hk rfl rfl moX4_ways lnL_44 (ctX4_ways ad 400 (xs (i + 1)) (xs (i + 2)) (xs (i + 3)) μ) q1 rfl (by decide) rfl (Nat.le_of_ble_eq_true rfl) dL_371 ?_ hn
  refine l_aload hk 3 dL_374 rfl rfl ?_
  refine l_aload hk 1 dL_375 rfl rfl ?_
  refine l_iload hk 0 dL_376 rfl rfl ?_
  refine l_iconst hk 1 dL_377 rfl ?_
  refine l_iadd hk dL_378 ?_
  refine l_sld hk (by omega) dL_379 ?_
  refine l_aload hk 1 dL_380 rfl rfl ?_
  refine l_iload hk 0 dL_381 rfl rfl ?_
  refine l_iconst hk 2 dL_382 rfl ?_
  refine l_iadd hk dL_383 ?_
  refine l_sld hk (by omega) dL_384 ?_
  refine l_aload hk 1 dL_385 rfl rfl ?_
  refine l_iload hk 0 dL_386 rfl rfl ?_
  refine l_iconst hk 3 dL_387 rfl ?_
  refine l_iadd hk dL_388 ?_
  refine l_sld hk (by omega) dL_389 ?_
  refine l_call (k := 47) (cc := 5) (T := TX5) (N := 23) [.int (xs (i + 1)), .int (xs (i + 2)), .int (xs (i + 3))] hk rfl rfl moX5_ways lnL_48 (ctX5_ways ad 400 (xs (i + 1)) (xs (i + 2)) (xs (i + 3)) ν) q2 rfl (by decide) rfl (Nat.le_of_ble_eq_true rfl) dL_390 ?_ hn
  exact l_sameL hk 884 dL_393 dL_394 (by decide) (nx z' ξ g1 g2 g3)
set_option maxHeartbeats 4000000 in
theorem lc_8 (hk : LK p s m meth c b L xs D tc ad) (hn : nC ≤ 600000 ∧ nS ≤ 7302250) : CaseOk p l e s m below meth c b L D tc ad nC nS Q 399 := by
  intro i z μ hi hz hc hm nx
  obtain ⟨r, ν, ξ, z', q1, q2, g1, g2, g3⟩ := two (f := (fun μ => fX4_whither 400 (xs (i + 1)) μ)) (g := (fun μ => fX5_whither 400 (xs (i + 1)) μ)) (fun μ μ' hc hm => tw_whither (by decide) hz hc hm (xs (i + 1))) hc hm
  refine l_aload hk 2 dL_399 rfl rfl ?_
  refine l_aload hk 1 dL_400 rfl rfl ?_
  refine l_iload hk 0 dL_401 rfl rfl ?_
  refine l_iconst hk 1 dL_402 rfl ?_
  refine l_iadd hk dL_403 ?_
  refine l_sld hk (by omega) dL_404 ?_
  refine l_call (k := 0) (cc := 4) (T := TX4) (N := 8) [.int (xs (i + 1))] hk rfl rfl moX4_whither lnL_49 (ctX4_whither ad 400 (xs (i + 1)) μ) q1 rfl (by decide) rfl (Nat.le_of_ble_eq_true rfl) dL_405 ?_ hn
  refine l_aload hk 3 dL_408 rfl rfl ?_
  refine l_aload hk 1 dL_409 rfl rfl ?_
  refine l_iload hk 0 dL_410 rfl rfl ?_
  refine l_iconst hk 1 dL_411 rfl ?_
  refine l_iadd hk dL_412 ?_
  refine l_sld hk (by omega) dL_413 ?_
  refine l_call (k := 47) (cc := 5) (T := TX5) (N := 23) [.int (xs (i + 1))] hk rfl rfl moX5_whither lnL_52 (ctX5_whither ad 400 (xs (i + 1)) ν) q2 rfl (by decide) rfl (Nat.le_of_ble_eq_true rfl) dL_414 ?_ hn
  exact l_same hk 884 dL_417 (by decide) (nx z' ξ g1 g2 g3)
set_option maxHeartbeats 4000000 in
theorem lc_9 (hk : LK p s m meth c b L xs D tc ad) (hn : nC ≤ 600000 ∧ nS ≤ 7302250) : CaseOk p l e s m below meth c b L D tc ad nC nS Q 422 := by
  intro i z μ hi hz hc hm nx
  obtain ⟨r, ν, ξ, z', q1, q2, g1, g2, g3⟩ := two (f := (fun μ => fX4_whence 400 (xs (i + 1)) μ)) (g := (fun μ => fX5_whence 400 (xs (i + 1)) μ)) (fun μ μ' hc hm => tw_whence (by decide) hz hc hm (xs (i + 1))) hc hm
  refine l_aload hk 2 dL_422 rfl rfl ?_
  refine l_aload hk 1 dL_423 rfl rfl ?_
  refine l_iload hk 0 dL_424 rfl rfl ?_
  refine l_iconst hk 1 dL_425 rfl ?_
  refine l_iadd hk dL_426 ?_
  refine l_sld hk (by omega) dL_427 ?_
  refine l_call (k := 0) (cc := 4) (T := TX4) (N := 8) [.int (xs (i + 1))] hk rfl rfl moX4_whence lnL_53 (ctX4_whence ad 400 (xs (i + 1)) μ) q1 rfl (by decide) rfl (Nat.le_of_ble_eq_true rfl) dL_428 ?_ hn
  refine l_aload hk 3 dL_431 rfl rfl ?_
  refine l_aload hk 1 dL_432 rfl rfl ?_
  refine l_iload hk 0 dL_433 rfl rfl ?_
  refine l_iconst hk 1 dL_434 rfl ?_
  refine l_iadd hk dL_435 ?_
  refine l_sld hk (by omega) dL_436 ?_
  refine l_call (k := 47) (cc := 5) (T := TX5) (N := 23) [.int (xs (i + 1))] hk rfl rfl moX5_whence lnL_56 (ctX5_whence ad 400 (xs (i + 1)) ν) q2 rfl (by decide) rfl (Nat.le_of_ble_eq_true rfl) dL_437 ?_ hn
  exact l_same hk 884 dL_440 (by decide) (nx z' ξ g1 g2 g3)
set_option maxHeartbeats 4000000 in
theorem lc_10 (hk : LK p s m meth c b L xs D tc ad) (hn : nC ≤ 600000 ∧ nS ≤ 7302250) : CaseOk p l e s m below meth c b L D tc ad nC nS Q 445 := by
  intro i z μ hi hz hc hm nx
  obtain ⟨r, ν, ξ, z', q1, q2, g1, g2, g3⟩ := two (f := (fun μ => fX4_blind 400  μ)) (g := (fun μ => fX5_blind 400  μ)) (fun μ μ' hc hm => tw_blind (by decide) hz hc hm ) hc hm
  refine l_aload hk 2 dL_445 rfl rfl ?_
  refine l_call (k := 0) (cc := 4) (T := TX4) (N := 8) [] hk rfl rfl moX4_blind lnL_57 (ctX4_blind ad 400  μ) q1 rfl (by decide) rfl (Nat.le_of_ble_eq_true rfl) dL_446 ?_ hn
  refine l_aload hk 3 dL_449 rfl rfl ?_
  refine l_call (k := 47) (cc := 5) (T := TX5) (N := 23) [] hk rfl rfl moX5_blind lnL_60 (ctX5_blind ad 400  ν) q2 rfl (by decide) rfl (Nat.le_of_ble_eq_true rfl) dL_450 ?_ hn
  exact l_same hk 884 dL_453 (by decide) (nx z' ξ g1 g2 g3)
set_option maxHeartbeats 4000000 in
theorem lc_11 (hk : LK p s m meth c b L xs D tc ad) (hn : nC ≤ 600000 ∧ nS ≤ 7302250) : CaseOk p l e s m below meth c b L D tc ad nC nS Q 458 := by
  intro i z μ hi hz hc hm nx
  obtain ⟨r, ν, ξ, z', q1, q2, g1, g2, g3⟩ := two (f := (fun μ => fX4_dead 400  μ)) (g := (fun μ => fX5_dead 400  μ)) (fun μ μ' hc hm => tw_dead (by decide) hz hc hm ) hc hm
  refine l_aload hk 2 dL_458 rfl rfl ?_
  refine l_call (k := 0) (cc := 4) (T := TX4) (N := 8) [] hk rfl rfl moX4_dead lnL_61 (ctX4_dead ad 400  μ) q1 rfl (by decide) rfl (Nat.le_of_ble_eq_true rfl) dL_459 ?_ hn
  refine l_aload hk 3 dL_462 rfl rfl ?_
  refine l_call (k := 47) (cc := 5) (T := TX5) (N := 23) [] hk rfl rfl moX5_dead lnL_64 (ctX5_dead ad 400  ν) q2 rfl (by decide) rfl (Nat.le_of_ble_eq_true rfl) dL_463 ?_ hn
  exact l_same hk 884 dL_466 (by decide) (nx z' ξ g1 g2 g3)
set_option maxHeartbeats 4000000 in
theorem lc_12 (hk : LK p s m meth c b L xs D tc ad) (hn : nC ≤ 600000 ∧ nS ≤ 7302250) : CaseOk p l e s m below meth c b L D tc ad nC nS Q 471 := by
  intro i z μ hi hz hc hm nx
  obtain ⟨r, ν, ξ, z', q1, q2, g1, g2, g3⟩ := two (f := (fun μ => fX4_parts 400 (xs (i + 1)) μ)) (g := (fun μ => fX5_parts 400 (xs (i + 1)) μ)) (fun μ μ' hc hm => tw_parts (by decide) hz hc hm (xs (i + 1))) hc hm
  refine l_aload hk 2 dL_471 rfl rfl ?_
  refine l_aload hk 1 dL_472 rfl rfl ?_
  refine l_iload hk 0 dL_473 rfl rfl ?_
  refine l_iconst hk 1 dL_474 rfl ?_
  refine l_iadd hk dL_475 ?_
  refine l_sld hk (by omega) dL_476 ?_
  refine l_call (k := 0) (cc := 4) (T := TX4) (N := 8) [.int (xs (i + 1))] hk rfl rfl moX4_parts lnL_65 (ctX4_parts ad 400 (xs (i + 1)) μ) q1 rfl (by decide) rfl (Nat.le_of_ble_eq_true rfl) dL_477 ?_ hn
  refine l_aload hk 3 dL_480 rfl rfl ?_
  refine l_aload hk 1 dL_481 rfl rfl ?_
  refine l_iload hk 0 dL_482 rfl rfl ?_
  refine l_iconst hk 1 dL_483 rfl ?_
  refine l_iadd hk dL_484 ?_
  refine l_sld hk (by omega) dL_485 ?_
  refine l_call (k := 47) (cc := 5) (T := TX5) (N := 23) [.int (xs (i + 1))] hk rfl rfl moX5_parts lnL_68 (ctX5_parts ad 400 (xs (i + 1)) ν) q2 rfl (by decide) rfl (Nat.le_of_ble_eq_true rfl) dL_486 ?_ hn
  exact l_same hk 884 dL_489 (by decide) (nx z' ξ g1 g2 g3)
set_option maxHeartbeats 4000000 in
theorem lc_13 (hk : LK p s m meth c b L xs D tc ad) (hn : nC ≤ 600000 ∧ nS ≤ 7302250) : CaseOk p l e s m below meth c b L D tc ad nC nS Q 494 := by
  intro i z μ hi hz hc hm nx
  obtain ⟨r, ν, ξ, z', q1, q2, g1, g2, g3⟩ := two (f := (fun μ => fX4_never 400  μ)) (g := (fun μ => fX5_never 400  μ)) (fun μ μ' hc hm => tw_never (by decide) hz hc hm ) hc hm
  refine l_aload hk 2 dL_494 rfl rfl ?_
  refine l_call (k := 0) (cc := 4) (T := TX4) (N := 8) [] hk rfl rfl moX4_never lnL_69 (ctX4_never ad 400  μ) q1 rfl (by decide) rfl (Nat.le_of_ble_eq_true rfl) dL_495 ?_ hn
  refine l_aload hk 3 dL_498 rfl rfl ?_
  refine l_call (k := 47) (cc := 5) (T := TX5) (N := 23) [] hk rfl rfl moX5_never lnL_72 (ctX5_never ad 400  ν) q2 rfl (by decide) rfl (Nat.le_of_ble_eq_true rfl) dL_499 ?_ hn
  exact l_same hk 884 dL_502 (by decide) (nx z' ξ g1 g2 g3)
set_option maxHeartbeats 4000000 in
theorem lc_14 (hk : LK p s m meth c b L xs D tc ad) (hn : nC ≤ 600000 ∧ nS ≤ 7302250) : CaseOk p l e s m below meth c b L D tc ad nC nS Q 507 := by
  intro i z μ hi hz hc hm nx
  obtain ⟨r, ν, ξ, z', q1, q2, g1, g2, g3⟩ := two (f := (fun μ => fX4_more 400 (xs (i + 1)) (xs (i + 2)) μ)) (g := (fun μ => fX5_more 400 (xs (i + 1)) (xs (i + 2)) μ)) (fun μ μ' hc hm => tw_more (by decide) hz hc hm (xs (i + 1)) (xs (i + 2))) hc hm
  refine l_aload hk 2 dL_507 rfl rfl ?_
  refine l_aload hk 1 dL_508 rfl rfl ?_
  refine l_iload hk 0 dL_509 rfl rfl ?_
  refine l_iconst hk 1 dL_510 rfl ?_
  refine l_iadd hk dL_511 ?_
  refine l_sld hk (by omega) dL_512 ?_
  refine l_aload hk 1 dL_513 rfl rfl ?_
  refine l_iload hk 0 dL_514 rfl rfl ?_
  refine l_iconst hk 2 dL_515 rfl ?_
  refine l_iadd hk dL_516 ?_
  refine l_sld hk (by omega) dL_517 ?_
  refine l_call (k := 0) (cc := 4) (T := TX4) (N := 8) [.int (xs (i + 1)), .int (xs (i + 2))] hk rfl rfl moX4_more lnL_73 (ctX4_more ad 400 (xs (i + 1)) (xs (i + 2)) μ) q1 rfl (by decide) rfl (Nat.le_of_ble_eq_true rfl) dL_518 ?_ hn
  refine l_aload hk 3 dL_521 rfl rfl ?_
  refine l_aload hk 1 dL_522 rfl rfl ?_
  refine l_iload hk 0 dL_523 rfl rfl ?_
  refine l_iconst hk 1 dL_524 rfl ?_
  refine l_iadd hk dL_525 ?_
  refine l_sld hk (by omega) dL_526 ?_
  refine l_aload hk 1 dL_527 rfl rfl ?_
  refine l_iload hk 0 dL_528 rfl rfl ?_
  refine l_iconst hk 2 dL_529 rfl ?_
  refine l_iadd hk dL_530 ?_
  refine l_sld hk (by omega) dL_531 ?_
  refine l_call (k := 47) (cc := 5) (T := TX5) (N := 23) [.int (xs (i + 1)), .int (xs (i + 2))] hk rfl rfl moX5_more lnL_76 (ctX5_more ad 400 (xs (i + 1)) (xs (i + 2)) ν) q2 rfl (by decide) rfl (Nat.le_of_ble_eq_true rfl) dL_532 ?_ hn
  exact l_same hk 884 dL_535 (by decide) (nx z' ξ g1 g2 g3)
set_option maxHeartbeats 4000000 in
theorem lc_15 (hk : LK p s m meth c b L xs D tc ad) (hn : nC ≤ 600000 ∧ nS ≤ 7302250) : CaseOk p l e s m below meth c b L D tc ad nC nS Q 540 := by
  intro i z μ hi hz hc hm nx
  obtain ⟨r, ν, ξ, z', q1, q2, g1, g2, g3⟩ := two (f := (fun μ => fX4_worst 400 (xs (i + 1)) μ)) (g := (fun μ => fX5_worst 400 (xs (i + 1)) μ)) (fun μ μ' hc hm => tw_worst (by decide) hz hc hm (xs (i + 1))) hc hm
  refine l_aload hk 2 dL_540 rfl rfl ?_
  refine l_aload hk 1 dL_541 rfl rfl ?_
  refine l_iload hk 0 dL_542 rfl rfl ?_
  refine l_iconst hk 1 dL_543 rfl ?_
  refine l_iadd hk dL_544 ?_
  refine l_sld hk (by omega) dL_545 ?_
  refine l_call (k := 0) (cc := 4) (T := TX4) (N := 8) [.int (xs (i + 1))] hk rfl rfl moX4_worst lnL_77 (ctX4_worst ad 400 (xs (i + 1)) μ) q1 rfl (by decide) rfl (Nat.le_of_ble_eq_true rfl) dL_546 ?_ hn
  refine l_aload hk 3 dL_549 rfl rfl ?_
  refine l_aload hk 1 dL_550 rfl rfl ?_
  refine l_iload hk 0 dL_551 rfl rfl ?_
  refine l_iconst hk 1 dL_552 rfl ?_
  refine l_iadd hk dL_553 ?_
  refine l_sld hk (by omega) dL_554 ?_
  refine l_call (k := 47) (cc := 5) (T := TX5) (N := 23) [.int (xs (i + 1))] hk rfl rfl moX5_worst lnL_80 (ctX5_worst ad 400 (xs (i + 1)) ν) q2 rfl (by decide) rfl (Nat.le_of_ble_eq_true rfl) dL_555 ?_ hn
  exact l_same hk 884 dL_558 (by decide) (nx z' ξ g1 g2 g3)
set_option maxHeartbeats 4000000 in
theorem lc_16 (hk : LK p s m meth c b L xs D tc ad) (hn : nC ≤ 600000 ∧ nS ≤ 7302250) : CaseOk p l e s m below meth c b L D tc ad nC nS Q 563 := by
  intro i z μ hi hz hc hm nx
  obtain ⟨r, ν, ξ, z', q1, q2, g1, g2, g3⟩ := two (f := (fun μ => fX4_changed 400  μ)) (g := (fun μ => fX5_changed 400  μ)) (fun μ μ' hc hm => tw_changed (by decide) hz hc hm ) hc hm
  refine l_aload hk 2 dL_563 rfl rfl ?_
  refine l_call (k := 0) (cc := 4) (T := TX4) (N := 8) [] hk rfl rfl moX4_changed lnL_81 (ctX4_changed ad 400  μ) q1 rfl (by decide) rfl (Nat.le_of_ble_eq_true rfl) dL_564 ?_ hn
  refine l_aload hk 3 dL_567 rfl rfl ?_
  refine l_call (k := 47) (cc := 5) (T := TX5) (N := 23) [] hk rfl rfl moX5_changed lnL_84 (ctX5_changed ad 400  ν) q2 rfl (by decide) rfl (Nat.le_of_ble_eq_true rfl) dL_568 ?_ hn
  exact l_same hk 884 dL_571 (by decide) (nx z' ξ g1 g2 g3)
set_option maxHeartbeats 4000000 in
theorem lc_17 (hk : LK p s m meth c b L xs D tc ad) (hn : nC ≤ 600000 ∧ nS ≤ 7302250) : CaseOk p l e s m below meth c b L D tc ad nC nS Q 576 := by
  intro i z μ hi hz hc hm nx
  obtain ⟨r, ν, ξ, z', q1, q2, g1, g2, g3⟩ := two (f := (fun μ => fX4_luck 400 (xs (i + 1)) (xs (i + 2)) (xs (i + 3)) (xs (i + 4)) μ)) (g := (fun μ => fX5_luck 400 (xs (i + 1)) (xs (i + 2)) (xs (i + 3)) (xs (i + 4)) μ)) (fun μ μ' hc hm => tw_luck (by decide) hz hc hm (xs (i + 1)) (xs (i + 2)) (xs (i + 3)) (xs (i + 4))) hc hm
  refine l_aload hk 2 dL_576 rfl rfl ?_
  refine l_aload hk 1 dL_577 rfl rfl ?_
  refine l_iload hk 0 dL_578 rfl rfl ?_
  refine l_iconst hk 1 dL_579 rfl ?_
  refine l_iadd hk dL_580 ?_
  refine l_sld hk (by omega) dL_581 ?_
  refine l_aload hk 1 dL_582 rfl rfl ?_
  refine l_iload hk 0 dL_583 rfl rfl ?_
  refine l_iconst hk 2 dL_584 rfl ?_
  refine l_iadd hk dL_585 ?_
  refine l_sld hk (by omega) dL_586 ?_
  refine l_aload hk 1 dL_587 rfl rfl ?_
  refine l_iload hk 0 dL_588 rfl rfl ?_
  refine l_iconst hk 3 dL_589 rfl ?_
  refine l_iadd hk dL_590 ?_
  refine l_sld hk (by omega) dL_591 ?_
  refine l_aload hk 1 dL_592 rfl rfl ?_
  refine l_iload hk 0 dL_593 rfl rfl ?_
  refine l_iconst hk 4 dL_594 rfl ?_
  refine l_iadd hk dL_595 ?_
  refine l_sld hk (by omega) dL_596 ?_
  refine l_call (k := 0) (cc := 4) (T := TX4) (N := 8) [.int (xs (i + 1)), .int (xs (i + 2)), .int (xs (i + 3)), .int (xs (i + 4))] hk rfl rfl moX4_luck lnL_85 (ctX4_luck ad 400 (xs (i + 1)) (xs (i + 2)) (xs (i + 3)) (xs (i + 4)) μ) q1 rfl (by decide) rfl (Nat.le_of_ble_eq_true rfl) dL_597 ?_ hn
  refine l_aload hk 3 dL_600 rfl rfl ?_
  refine l_aload hk 1 dL_601 rfl rfl ?_
  refine l_iload hk 0 dL_602 rfl rfl ?_
  refine l_iconst hk 1 dL_603 rfl ?_
  refine l_iadd hk dL_604 ?_
  refine l_sld hk (by omega) dL_605 ?_
  refine l_aload hk 1 dL_606 rfl rfl ?_
  refine l_iload hk 0 dL_607 rfl rfl ?_
  refine l_iconst hk 2 dL_608 rfl ?_
  refine l_iadd hk dL_609 ?_
  refine l_sld hk (by omega) dL_610 ?_
  refine l_aload hk 1 dL_611 rfl rfl ?_
  refine l_iload hk 0 dL_612 rfl rfl ?_
  refine l_iconst hk 3 dL_613 rfl ?_
  refine l_iadd hk dL_614 ?_
  refine l_sld hk (by omega) dL_615 ?_
  refine l_aload hk 1 dL_616 rfl rfl ?_
  refine l_iload hk 0 dL_617 rfl rfl ?_
  refine l_iconst hk 4 dL_618 rfl ?_
  refine l_iadd hk dL_619 ?_
  refine l_sld hk (by omega) dL_620 ?_
  refine l_call (k := 47) (cc := 5) (T := TX5) (N := 23) [.int (xs (i + 1)), .int (xs (i + 2)), .int (xs (i + 3)), .int (xs (i + 4))] hk rfl rfl moX5_luck lnL_89 (ctX5_luck ad 400 (xs (i + 1)) (xs (i + 2)) (xs (i + 3)) (xs (i + 4)) ν) q2 rfl (by decide) rfl (Nat.le_of_ble_eq_true rfl) dL_621 ?_ hn
  exact l_sameL hk 884 dL_624 dL_625 (by decide) (nx z' ξ g1 g2 g3)
set_option maxHeartbeats 4000000 in
theorem lc_18 (hk : LK p s m meth c b L xs D tc ad) (hn : nC ≤ 600000 ∧ nS ≤ 7302250) : CaseOk p l e s m below meth c b L D tc ad nC nS Q 630 := by
  intro i z μ hi hz hc hm nx
  obtain ⟨r, ν, ξ, z', q1, q2, g1, g2, g3⟩ := two (f := (fun μ => fX4_putIn 400 (xs (i + 1)) (xs (i + 2)) μ)) (g := (fun μ => fX5_putIn 400 (xs (i + 1)) (xs (i + 2)) μ)) (fun μ μ' hc hm => tw_putIn (by decide) hz hc hm (xs (i + 1)) (xs (i + 2))) hc hm
  refine l_aload hk 2 dL_630 rfl rfl ?_
  refine l_aload hk 1 dL_631 rfl rfl ?_
  refine l_iload hk 0 dL_632 rfl rfl ?_
  refine l_iconst hk 1 dL_633 rfl ?_
  refine l_iadd hk dL_634 ?_
  refine l_sld hk (by omega) dL_635 ?_
  refine l_aload hk 1 dL_636 rfl rfl ?_
  refine l_iload hk 0 dL_637 rfl rfl ?_
  refine l_iconst hk 2 dL_638 rfl ?_
  refine l_iadd hk dL_639 ?_
  refine l_sld hk (by omega) dL_640 ?_
  refine l_call (k := 0) (cc := 4) (T := TX4) (N := 8) [.int (xs (i + 1)), .int (xs (i + 2))] hk rfl rfl moX4_putIn lnL_90 (ctX4_putIn ad 400 (xs (i + 1)) (xs (i + 2)) μ) q1 rfl (by decide) rfl (Nat.le_of_ble_eq_true rfl) dL_641 ?_ hn
  refine l_aload hk 3 dL_644 rfl rfl ?_
  refine l_aload hk 1 dL_645 rfl rfl ?_
  refine l_iload hk 0 dL_646 rfl rfl ?_
  refine l_iconst hk 1 dL_647 rfl ?_
  refine l_iadd hk dL_648 ?_
  refine l_sld hk (by omega) dL_649 ?_
  refine l_aload hk 1 dL_650 rfl rfl ?_
  refine l_iload hk 0 dL_651 rfl rfl ?_
  refine l_iconst hk 2 dL_652 rfl ?_
  refine l_iadd hk dL_653 ?_
  refine l_sld hk (by omega) dL_654 ?_
  refine l_call (k := 47) (cc := 5) (T := TX5) (N := 23) [.int (xs (i + 1)), .int (xs (i + 2))] hk rfl rfl moX5_putIn lnL_93 (ctX5_putIn ad 400 (xs (i + 1)) (xs (i + 2)) ν) q2 rfl (by decide) rfl (Nat.le_of_ble_eq_true rfl) dL_655 ?_ hn
  exact l_same hk 884 dL_658 (by decide) (nx z' ξ g1 g2 g3)
set_option maxHeartbeats 4000000 in
theorem lc_19 (hk : LK p s m meth c b L xs D tc ad) (hn : nC ≤ 600000 ∧ nS ≤ 7302250) : CaseOk p l e s m below meth c b L D tc ad nC nS Q 663 := by
  intro i z μ hi hz hc hm nx
  obtain ⟨r, ν, ξ, z', q1, q2, g1, g2, g3⟩ := two (f := (fun μ => fX4_shut 400 (xs (i + 1)) μ)) (g := (fun μ => fX5_shut 400 (xs (i + 1)) μ)) (fun μ μ' hc hm => tw_shut (by decide) hz hc hm (xs (i + 1))) hc hm
  refine l_aload hk 2 dL_663 rfl rfl ?_
  refine l_aload hk 1 dL_664 rfl rfl ?_
  refine l_iload hk 0 dL_665 rfl rfl ?_
  refine l_iconst hk 1 dL_666 rfl ?_
  refine l_iadd hk dL_667 ?_
  refine l_sld hk (by omega) dL_668 ?_
  refine l_call (k := 0) (cc := 4) (T := TX4) (N := 8) [.int (xs (i + 1))] hk rfl rfl moX4_shut lnL_94 (ctX4_shut ad 400 (xs (i + 1)) μ) q1 rfl (by decide) rfl (Nat.le_of_ble_eq_true rfl) dL_669 ?_ hn
  refine l_aload hk 3 dL_672 rfl rfl ?_
  refine l_aload hk 1 dL_673 rfl rfl ?_
  refine l_iload hk 0 dL_674 rfl rfl ?_
  refine l_iconst hk 1 dL_675 rfl ?_
  refine l_iadd hk dL_676 ?_
  refine l_sld hk (by omega) dL_677 ?_
  refine l_call (k := 47) (cc := 5) (T := TX5) (N := 23) [.int (xs (i + 1))] hk rfl rfl moX5_shut lnL_97 (ctX5_shut ad 400 (xs (i + 1)) ν) q2 rfl (by decide) rfl (Nat.le_of_ble_eq_true rfl) dL_678 ?_ hn
  exact l_same hk 884 dL_681 (by decide) (nx z' ξ g1 g2 g3)
set_option maxHeartbeats 4000000 in
theorem lc_20 (hk : LK p s m meth c b L xs D tc ad) (hn : nC ≤ 600000 ∧ nS ≤ 7302250) : CaseOk p l e s m below meth c b L D tc ad nC nS Q 686 := by
  intro i z μ hi hz hc hm nx
  obtain ⟨r, ν, ξ, z', q1, q2, g1, g2, g3⟩ := two (f := (fun μ => fX4_alike 400 (xs (i + 1)) (xs (i + 2)) μ)) (g := (fun μ => fX5_alike 400 (xs (i + 1)) (xs (i + 2)) μ)) (fun μ μ' hc hm => tw_alike (by decide) hz hc hm (xs (i + 1)) (xs (i + 2))) hc hm
  refine l_aload hk 2 dL_686 rfl rfl ?_
  refine l_aload hk 1 dL_687 rfl rfl ?_
  refine l_iload hk 0 dL_688 rfl rfl ?_
  refine l_iconst hk 1 dL_689 rfl ?_
  refine l_iadd hk dL_690 ?_
  refine l_sld hk (by omega) dL_691 ?_
  refine l_aload hk 1 dL_692 rfl rfl ?_
  refine l_iload hk 0 dL_693 rfl rfl ?_
  refine l_iconst hk 2 dL_694 rfl ?_
  refine l_iadd hk dL_695 ?_
  refine l_sld hk (by omega) dL_696 ?_
  refine l_call (k := 0) (cc := 4) (T := TX4) (N := 8) [.int (xs (i + 1)), .int (xs (i + 2))] hk rfl rfl moX4_alike lnL_98 (ctX4_alike ad 400 (xs (i + 1)) (xs (i + 2)) μ) q1 rfl (by decide) rfl (Nat.le_of_ble_eq_true rfl) dL_697 ?_ hn
  refine l_aload hk 3 dL_700 rfl rfl ?_
  refine l_aload hk 1 dL_701 rfl rfl ?_
  refine l_iload hk 0 dL_702 rfl rfl ?_
  refine l_iconst hk 1 dL_703 rfl ?_
  refine l_iadd hk dL_704 ?_
  refine l_sld hk (by omega) dL_705 ?_
  refine l_aload hk 1 dL_706 rfl rfl ?_
  refine l_iload hk 0 dL_707 rfl rfl ?_
  refine l_iconst hk 2 dL_708 rfl ?_
  refine l_iadd hk dL_709 ?_
  refine l_sld hk (by omega) dL_710 ?_
  refine l_call (k := 47) (cc := 5) (T := TX5) (N := 23) [.int (xs (i + 1)), .int (xs (i + 2))] hk rfl rfl moX5_alike lnL_101 (ctX5_alike ad 400 (xs (i + 1)) (xs (i + 2)) ν) q2 rfl (by decide) rfl (Nat.le_of_ble_eq_true rfl) dL_711 ?_ hn
  exact l_same hk 884 dL_714 (by decide) (nx z' ξ g1 g2 g3)
set_option maxHeartbeats 4000000 in
theorem lc_21 (hk : LK p s m meth c b L xs D tc ad) (hn : nC ≤ 600000 ∧ nS ≤ 7302250) : CaseOk p l e s m below meth c b L D tc ad nC nS Q 719 := by
  intro i z μ hi hz hc hm nx
  obtain ⟨r, ν, ξ, z', q1, q2, g1, g2, g3⟩ := two (f := (fun μ => fX4_row 400 (xs (i + 1)) μ)) (g := (fun μ => fX5_row 400 (xs (i + 1)) μ)) (fun μ μ' hc hm => tw_row  hz hc hm (xs (i + 1))) hc hm
  refine l_aload hk 2 dL_719 rfl rfl ?_
  refine l_aload hk 1 dL_720 rfl rfl ?_
  refine l_iload hk 0 dL_721 rfl rfl ?_
  refine l_iconst hk 1 dL_722 rfl ?_
  refine l_iadd hk dL_723 ?_
  refine l_sld hk (by omega) dL_724 ?_
  refine l_call (k := 0) (cc := 4) (T := TX4) (N := 8) [.int (xs (i + 1))] hk rfl rfl moX4_row lnL_102 (ctX4_row ad 400 (xs (i + 1)) μ) q1 rfl (by decide) rfl (Nat.le_of_ble_eq_true rfl) dL_725 ?_ hn
  refine l_aload hk 3 dL_728 rfl rfl ?_
  refine l_aload hk 1 dL_729 rfl rfl ?_
  refine l_iload hk 0 dL_730 rfl rfl ?_
  refine l_iconst hk 1 dL_731 rfl ?_
  refine l_iadd hk dL_732 ?_
  refine l_sld hk (by omega) dL_733 ?_
  refine l_call (k := 47) (cc := 5) (T := TX5) (N := 23) [.int (xs (i + 1))] hk rfl rfl moX5_row lnL_105 (ctX5_row ad 400 (xs (i + 1)) ν) q2 rfl (by decide) rfl (Nat.le_of_ble_eq_true rfl) dL_734 ?_ hn
  exact l_same hk 884 dL_737 (by decide) (nx z' ξ g1 g2 g3)
set_option maxHeartbeats 4000000 in
theorem lc_22 (hk : LK p s m meth c b L xs D tc ad) (hn : nC ≤ 600000 ∧ nS ≤ 7302250) : CaseOk p l e s m below meth c b L D tc ad nC nS Q 742 := by
  intro i z μ hi hz hc hm nx
  obtain ⟨r, ν, ξ, z', q1, q2, g1, g2, g3⟩ := two (f := (fun μ => fX4_gotOn 400 (xs (i + 1)) μ)) (g := (fun μ => fX5_gotOn 400 (xs (i + 1)) μ)) (fun μ μ' hc hm => tw_gotOn (by decide) hz hc hm (xs (i + 1))) hc hm
  refine l_aload hk 2 dL_742 rfl rfl ?_
  refine l_aload hk 1 dL_743 rfl rfl ?_
  refine l_iload hk 0 dL_744 rfl rfl ?_
  refine l_iconst hk 1 dL_745 rfl ?_
  refine l_iadd hk dL_746 ?_
  refine l_sld hk (by omega) dL_747 ?_
  refine l_call (k := 0) (cc := 4) (T := TX4) (N := 8) [.int (xs (i + 1))] hk rfl rfl moX4_gotOn lnL_106 (ctX4_gotOn ad 400 (xs (i + 1)) μ) q1 rfl (by decide) rfl (Nat.le_of_ble_eq_true rfl) dL_748 ?_ hn
  refine l_aload hk 3 dL_751 rfl rfl ?_
  refine l_aload hk 1 dL_752 rfl rfl ?_
  refine l_iload hk 0 dL_753 rfl rfl ?_
  refine l_iconst hk 1 dL_754 rfl ?_
  refine l_iadd hk dL_755 ?_
  refine l_sld hk (by omega) dL_756 ?_
  refine l_call (k := 47) (cc := 5) (T := TX5) (N := 23) [.int (xs (i + 1))] hk rfl rfl moX5_gotOn lnL_110 (ctX5_gotOn ad 400 (xs (i + 1)) ν) q2 rfl (by decide) rfl (Nat.le_of_ble_eq_true rfl) dL_757 ?_ hn
  exact l_sameL hk 884 dL_760 dL_761 (by decide) (nx z' ξ g1 g2 g3)
set_option maxHeartbeats 4000000 in
theorem lc_23 (hk : LK p s m meth c b L xs D tc ad) (hn : nC ≤ 600000 ∧ nS ≤ 7302250) : CaseOk p l e s m below meth c b L D tc ad nC nS Q 766 := by
  intro i z μ hi hz hc hm nx
  obtain ⟨r, ν, ξ, z', q1, q2, g1, g2, g3⟩ := two (f := (fun μ => fX4_misspelt 400  μ)) (g := (fun μ => fX5_misspelt 400  μ)) (fun μ μ' hc hm => tw_misspelt (by decide) hz hc hm ) hc hm
  refine l_aload hk 2 dL_766 rfl rfl ?_
  refine l_call (k := 0) (cc := 4) (T := TX4) (N := 8) [] hk rfl rfl moX4_misspelt lnL_111 (ctX4_misspelt ad 400  μ) q1 rfl (by decide) rfl (Nat.le_of_ble_eq_true rfl) dL_767 ?_ hn
  refine l_aload hk 3 dL_770 rfl rfl ?_
  refine l_call (k := 47) (cc := 5) (T := TX5) (N := 23) [] hk rfl rfl moX5_misspelt lnL_114 (ctX5_misspelt ad 400  ν) q2 rfl (by decide) rfl (Nat.le_of_ble_eq_true rfl) dL_771 ?_ hn
  exact l_same hk 884 dL_774 (by decide) (nx z' ξ g1 g2 g3)
set_option maxHeartbeats 4000000 in
theorem lc_24 (hk : LK p s m meth c b L xs D tc ad) (hn : nC ≤ 600000 ∧ nS ≤ 7302250) : CaseOk p l e s m below meth c b L D tc ad nC nS Q 779 := by
  intro i z μ hi hz hc hm nx
  obtain ⟨r, ν, ξ, z', q1, q2, g1, g2, g3⟩ := two (f := (fun μ => fX4_judge 400  μ)) (g := (fun μ => fX5_judge 400  μ)) (fun μ μ' hc hm => tw_judge (by decide) hz hc hm ) hc hm
  refine l_aload hk 2 dL_779 rfl rfl ?_
  refine l_call (k := 0) (cc := 4) (T := TX4) (N := 8) [] hk rfl rfl moX4_judge lnL_115 (ctX4_judge ad 400  μ) q1 rfl (by decide) rfl (Nat.le_of_ble_eq_true rfl) dL_780 ?_ hn
  refine l_aload hk 3 dL_783 rfl rfl ?_
  refine l_call (k := 47) (cc := 5) (T := TX5) (N := 23) [] hk rfl rfl moX5_judge lnL_118 (ctX5_judge ad 400  ν) q2 rfl (by decide) rfl (Nat.le_of_ble_eq_true rfl) dL_784 ?_ hn
  exact l_same hk 884 dL_787 (by decide) (nx z' ξ g1 g2 g3)
set_option maxHeartbeats 4000000 in
theorem lc_25 (hk : LK p s m meth c b L xs D tc ad) (hn : nC ≤ 600000 ∧ nS ≤ 7302250) : CaseOk p l e s m below meth c b L D tc ad nC nS Q 792 := by
  intro i z μ hi hz hc hm nx
  obtain ⟨r, ν, ξ, z', q1, q2, g1, g2, g3⟩ := two (f := (fun μ => fX4_seeds 400 (xs (i + 1)) (xs (i + 2)) (xs (i + 3)) μ)) (g := (fun μ => fX5_seeds 400 (xs (i + 1)) (xs (i + 2)) (xs (i + 3)) μ)) (fun μ μ' hc hm => tw_seeds (by decide) hz hc hm (xs (i + 1)) (xs (i + 2)) (xs (i + 3))) hc hm
  refine l_aload hk 2 dL_792 rfl rfl ?_
  refine l_aload hk 1 dL_793 rfl rfl ?_
  refine l_iload hk 0 dL_794 rfl rfl ?_
  refine l_iconst hk 1 dL_795 rfl ?_
  refine l_iadd hk dL_796 ?_
  refine l_sld hk (by omega) dL_797 ?_
  refine l_aload hk 1 dL_798 rfl rfl ?_
  refine l_iload hk 0 dL_799 rfl rfl ?_
  refine l_iconst hk 2 dL_800 rfl ?_
  refine l_iadd hk dL_801 ?_
  refine l_sld hk (by omega) dL_802 ?_
  refine l_aload hk 1 dL_803 rfl rfl ?_
  refine l_iload hk 0 dL_804 rfl rfl ?_
  refine l_iconst hk 3 dL_805 rfl ?_
  refine l_iadd hk dL_806 ?_
  refine l_sld hk (by omega) dL_807 ?_
  refine l_call (k := 0) (cc := 4) (T := TX4) (N := 8) [.int (xs (i + 1)), .int (xs (i + 2)), .int (xs (i + 3))] hk rfl rfl moX4_seeds lnL_119 (ctX4_seeds ad 400 (xs (i + 1)) (xs (i + 2)) (xs (i + 3)) μ) q1 rfl (by decide) rfl (Nat.le_of_ble_eq_true rfl) dL_808 ?_ hn
  refine l_aload hk 3 dL_811 rfl rfl ?_
  refine l_aload hk 1 dL_812 rfl rfl ?_
  refine l_iload hk 0 dL_813 rfl rfl ?_
  refine l_iconst hk 1 dL_814 rfl ?_
  refine l_iadd hk dL_815 ?_
  refine l_sld hk (by omega) dL_816 ?_
  refine l_aload hk 1 dL_817 rfl rfl ?_
  refine l_iload hk 0 dL_818 rfl rfl ?_
  refine l_iconst hk 2 dL_819 rfl ?_
  refine l_iadd hk dL_820 ?_
  refine l_sld hk (by omega) dL_821 ?_
  refine l_aload hk 1 dL_822 rfl rfl ?_
  refine l_iload hk 0 dL_823 rfl rfl ?_
  refine l_iconst hk 3 dL_824 rfl ?_
  refine l_iadd hk dL_825 ?_
  refine l_sld hk (by omega) dL_826 ?_
  refine l_call (k := 47) (cc := 5) (T := TX5) (N := 23) [.int (xs (i + 1)), .int (xs (i + 2)), .int (xs (i + 3))] hk rfl rfl moX5_seeds lnL_123 (ctX5_seeds ad 400 (xs (i + 1)) (xs (i + 2)) (xs (i + 3)) ν) q2 rfl (by decide) rfl (Nat.le_of_ble_eq_true rfl) dL_827 ?_ hn
  exact l_same hk 884 dL_830 (by decide) (nx z' ξ g1 g2 g3)
set_option maxHeartbeats 4000000 in
theorem lc_26 (hk : LK p s m meth c b L xs D tc ad) (hn : nC ≤ 600000 ∧ nS ≤ 7302250) : CaseOk p l e s m below meth c b L D tc ad nC nS Q 835 := by
  intro i z μ hi hz hc hm nx
  obtain ⟨r, ν, ξ, z', q1, q2, g1, g2, g3⟩ := two (f := (fun μ => fX4_image 400  μ)) (g := (fun μ => fX5_image 400  μ)) (fun μ μ' hc hm => tw_image (by decide) hz hc hm ) hc hm
  refine l_aload hk 2 dL_835 rfl rfl ?_
  refine l_call (k := 0) (cc := 4) (T := TX4) (N := 8) [] hk rfl rfl moX4_image lnL_124 (ctX4_image ad 400  μ) q1 rfl (by decide) rfl (Nat.le_of_ble_eq_true rfl) dL_836 ?_ hn
  refine l_aload hk 3 dL_839 rfl rfl ?_
  refine l_call (k := 47) (cc := 5) (T := TX5) (N := 23) [] hk rfl rfl moX5_image lnL_127 (ctX5_image ad 400  ν) q2 rfl (by decide) rfl (Nat.le_of_ble_eq_true rfl) dL_840 ?_ hn
  exact l_same hk 884 dL_843 (by decide) (nx z' ξ g1 g2 g3)
set_option maxHeartbeats 4000000 in
theorem lc_27 (hk : LK p s m meth c b L xs D tc ad) (hn : nC ≤ 600000 ∧ nS ≤ 7302250) : CaseOk p l e s m below meth c b L D tc ad nC nS Q 848 := by
  intro i z μ hi hz hc hm nx
  obtain ⟨r, ν, ξ, z', q1, q2, g1, g2, g3⟩ := two (f := (fun μ => fX4_on 400  μ)) (g := (fun μ => fX5_on 400  μ)) (fun μ μ' hc hm => tw_on (by decide) hz hc hm ) hc hm
  refine l_aload hk 2 dL_848 rfl rfl ?_
  refine l_call (k := 0) (cc := 4) (T := TX4) (N := 8) [] hk rfl rfl moX4_on lnL_128 (ctX4_on ad 400  μ) q1 rfl (by decide) rfl (Nat.le_of_ble_eq_true rfl) dL_849 ?_ hn
  refine l_aload hk 3 dL_852 rfl rfl ?_
  refine l_call (k := 47) (cc := 5) (T := TX5) (N := 23) [] hk rfl rfl moX5_on lnL_131 (ctX5_on ad 400  ν) q2 rfl (by decide) rfl (Nat.le_of_ble_eq_true rfl) dL_853 ?_ hn
  exact l_same hk 884 dL_856 (by decide) (nx z' ξ g1 g2 g3)
set_option maxHeartbeats 4000000 in
theorem lc_28 (hk : LK p s m meth c b L xs D tc ad) (hn : nC ≤ 600000 ∧ nS ≤ 7302250) : CaseOk p l e s m below meth c b L D tc ad nC nS Q 861 := by
  intro i z μ hi hz hc hm nx
  obtain ⟨r, ν, ξ, z', q1, q2, g1, g2, g3⟩ := two (f := (fun μ => fX4_count 400 (xs (i + 1)) μ)) (g := (fun μ => fX5_count 400 (xs (i + 1)) μ)) (fun μ μ' hc hm => tw_count (by decide) hz hc hm (xs (i + 1))) hc hm
  refine l_aload hk 2 dL_861 rfl rfl ?_
  refine l_aload hk 1 dL_862 rfl rfl ?_
  refine l_iload hk 0 dL_863 rfl rfl ?_
  refine l_iconst hk 1 dL_864 rfl ?_
  refine l_iadd hk dL_865 ?_
  refine l_sld hk (by omega) dL_866 ?_
  refine l_call (k := 0) (cc := 4) (T := TX4) (N := 8) [.int (xs (i + 1))] hk rfl rfl moX4_count lnL_132 (ctX4_count ad 400 (xs (i + 1)) μ) q1 rfl (by decide) rfl (Nat.le_of_ble_eq_true rfl) dL_867 ?_ hn
  refine l_aload hk 3 dL_870 rfl rfl ?_
  refine l_aload hk 1 dL_871 rfl rfl ?_
  refine l_iload hk 0 dL_872 rfl rfl ?_
  refine l_iconst hk 1 dL_873 rfl ?_
  refine l_iadd hk dL_874 ?_
  refine l_sld hk (by omega) dL_875 ?_
  refine l_call (k := 47) (cc := 5) (T := TX5) (N := 23) [.int (xs (i + 1))] hk rfl rfl moX5_count lnL_135 (ctX5_count ad 400 (xs (i + 1)) ν) q2 rfl (by decide) rfl (Nat.le_of_ble_eq_true rfl) dL_876 ?_ hn
  exact l_same hk 884 dL_879 (by decide) (nx z' ξ g1 g2 g3)
end LC2
