set_option maxRecDepth 40000 in
set_option maxHeartbeats 8000000 in
theorem p_L_law_L204 {G : xG} {d : Nat} {n t : Nat} (hn : 102 ≤ n) (hd : 289 ≤ d) {K1534 : Int32 → xI → Option (Int32 × xI)} (hK1534 : ∀ (v3 : Int32) (w : xI), xC G (yL_law, cLw, 4, some FieldType.boolean) d 1534 [(0, .ref 2000000), (1, .ref 0), (2, .ref 71), (3, .int v3)] [] (xFin n t) w cvI (xFin n t) (K1534 v3 w)) (v3 : Int32) (w : xI) : xC G (yL_law, cLw, 4, some FieldType.boolean) d 204 [(0, .ref 2000000), (1, .ref 0), (2, .ref 71), (3, .int v3)] [] (xFin n t) w cvI (xFin n t) (f_L_law_L204 G.2.2.2.2.2.2.2.1 G.2.2.2.2.2.2.2.2 K1534 v3 w) := by
  unfold f_L_law_L204
  refine y_aload_n dLw_204 rfl 1 rfl ?_
  refine y_aload_n dLw_205 rfl 0 rfl ?_
  refine y_iload_n dLw_206 rfl 3 rfl ?_
  refine y_iconst (v := 1) dLw_207 (by decide) ?_
  refine y_iadd dLw_208 ?_
  refine y_sld dLw_209 ?_
  refine y_aload_n dLw_210 rfl 0 rfl ?_
  refine y_iload_n dLw_211 rfl 3 rfl ?_
  refine y_iconst (v := 2) dLw_212 (by decide) ?_
  refine y_iadd dLw_213 ?_
  refine y_sld dLw_214 ?_
  refine y_callV (As := [.int (G.2.2.2.2.2.2.2.2 (v3 + (1 : Int32)).toNatClampNeg), .int (G.2.2.2.2.2.2.2.2 (v3 + (2 : Int32)).toNatClampNeg)]) (d2 := d - 1) dLw_215 kL_13 (by omega) rfl rfl (Nat.le_of_ble_eq_true rfl) (xlt rfl hn) rfl rfl (p_X10_scale (Nat.le_trans (by decide) hn) (by omega)  _ _ _) (fun r204001 w204002 _ => ?_)
  refine y_aload_n dLw_218 rfl 2 rfl ?_
  refine y_aload_n dLw_219 rfl 0 rfl ?_
  refine y_iload_n dLw_220 rfl 3 rfl ?_
  refine y_iconst (v := 1) dLw_221 (by decide) ?_
  refine y_iadd dLw_222 ?_
  refine y_sld dLw_223 ?_
  refine y_aload_n dLw_224 rfl 0 rfl ?_
  refine y_iload_n dLw_225 rfl 3 rfl ?_
  refine y_iconst (v := 2) dLw_226 (by decide) ?_
  refine y_iadd dLw_227 ?_
  refine y_sld dLw_228 ?_
  refine y_callV (As := [.int (G.2.2.2.2.2.2.2.2 (v3 + (1 : Int32)).toNatClampNeg), .int (G.2.2.2.2.2.2.2.2 (v3 + (2 : Int32)).toNatClampNeg)]) (d2 := d - 1) dLw_229 kL_17 (by omega) rfl rfl (Nat.le_of_ble_eq_true rfl) (xlt rfl hn) rfl rfl (p_X11_scale hn (by omega)  _ _ _) (fun r204003 w204004 _ => ?_)
  refine y_icmp_eq (tgt := 1534) dLw_232 (by decide) ?_ ?_
  · exact hK1534 v3 w204004 
  · refine y_iconst (v := 0) dLw_235 (by decide) ?_
    exact y_ireturn dLw_236 rfl rfl rfl
set_option maxRecDepth 40000 in
set_option maxHeartbeats 8000000 in
theorem p_L_law_L237 {G : xG} {d : Nat} {n t : Nat} (hn : 102 ≤ n) (hd : 289 ≤ d) {K1534 : Int32 → xI → Option (Int32 × xI)} (hK1534 : ∀ (v3 : Int32) (w : xI), xC G (yL_law, cLw, 4, some FieldType.boolean) d 1534 [(0, .ref 2000000), (1, .ref 0), (2, .ref 71), (3, .int v3)] [] (xFin n t) w cvI (xFin n t) (K1534 v3 w)) (v3 : Int32) (w : xI) : xC G (yL_law, cLw, 4, some FieldType.boolean) d 237 [(0, .ref 2000000), (1, .ref 0), (2, .ref 71), (3, .int v3)] [] (xFin n t) w cvI (xFin n t) (f_L_law_L237 G.2.2.2.2.2.2.2.1 G.2.2.2.2.2.2.2.2 K1534 v3 w) := by
  unfold f_L_law_L237
  refine y_aload_n dLw_237 rfl 1 rfl ?_
  refine y_aload_n dLw_238 rfl 0 rfl ?_
  refine y_iload_n dLw_239 rfl 3 rfl ?_
  refine y_iconst (v := 1) dLw_240 (by decide) ?_
  refine y_iadd dLw_241 ?_
  refine y_sld dLw_242 ?_
  refine y_callV (As := [.int (G.2.2.2.2.2.2.2.2 (v3 + (1 : Int32)).toNatClampNeg)]) (d2 := d - 1) dLw_243 kL_18 (by omega) rfl rfl (Nat.le_of_ble_eq_true rfl) (xlt rfl hn) rfl rfl (p_X10_stone (Nat.le_trans (by decide) hn) (by omega)  _ _) (fun r237001 w237002 _ => ?_)
  refine y_aload_n dLw_246 rfl 2 rfl ?_
  refine y_aload_n dLw_247 rfl 0 rfl ?_
  refine y_iload_n dLw_248 rfl 3 rfl ?_
  refine y_iconst (v := 1) dLw_249 (by decide) ?_
  refine y_iadd dLw_250 ?_
  refine y_sld dLw_251 ?_
  refine y_callV (As := [.int (G.2.2.2.2.2.2.2.2 (v3 + (1 : Int32)).toNatClampNeg)]) (d2 := d - 1) dLw_252 kL_22 (by omega) rfl rfl (Nat.le_of_ble_eq_true rfl) (xlt rfl hn) rfl rfl (p_X11_stone hn (by omega)  _ _) (fun r237003 w237004 _ => ?_)
  refine y_icmp_eq (tgt := 1534) dLw_255 (by decide) ?_ ?_
  · exact hK1534 v3 w237004 
  · refine y_iconst (v := 0) dLw_258 (by decide) ?_
    exact y_ireturn dLw_259 rfl rfl rfl
set_option maxRecDepth 40000 in
set_option maxHeartbeats 8000000 in
theorem p_L_law_L260 {G : xG} {d : Nat} {n t : Nat} (hn : 102 ≤ n) (hd : 289 ≤ d) {K1534 : Int32 → xI → Option (Int32 × xI)} (hK1534 : ∀ (v3 : Int32) (w : xI), xC G (yL_law, cLw, 4, some FieldType.boolean) d 1534 [(0, .ref 2000000), (1, .ref 0), (2, .ref 71), (3, .int v3)] [] (xFin n t) w cvI (xFin n t) (K1534 v3 w)) (v3 : Int32) (w : xI) : xC G (yL_law, cLw, 4, some FieldType.boolean) d 260 [(0, .ref 2000000), (1, .ref 0), (2, .ref 71), (3, .int v3)] [] (xFin n t) w cvI (xFin n t) (f_L_law_L260 G.2.2.2.2.2.2.2.1 G.2.2.2.2.2.2.2.2 K1534 v3 w) := by
  unfold f_L_law_L260
  refine y_aload_n dLw_260 rfl 1 rfl ?_
  refine y_callV (As := []) (d2 := d - 1) dLw_261 kL_23 (by omega) rfl rfl (Nat.le_of_ble_eq_true rfl) (xlt rfl hn) rfl rfl (p_X10_sell (Nat.le_trans (by decide) hn) (by omega)   _) (fun r260001 w260002 _ => ?_)
  refine y_aload_n dLw_264 rfl 2 rfl ?_
  refine y_callV (As := []) (d2 := d - 1) dLw_265 kL_27 (by omega) rfl rfl (Nat.le_of_ble_eq_true rfl) (xlt rfl hn) rfl rfl (p_X11_sell hn (by omega)   _) (fun r260003 w260004 _ => ?_)
  refine y_icmp_eq (tgt := 1534) dLw_268 (by decide) ?_ ?_
  · exact hK1534 v3 w260004 
  · refine y_iconst (v := 0) dLw_271 (by decide) ?_
    exact y_ireturn dLw_272 rfl rfl rfl
set_option maxRecDepth 40000 in
set_option maxHeartbeats 8000000 in
theorem p_L_law_L273 {G : xG} {d : Nat} {n t : Nat} (hn : 102 ≤ n) (hd : 289 ≤ d) {K1534 : Int32 → xI → Option (Int32 × xI)} (hK1534 : ∀ (v3 : Int32) (w : xI), xC G (yL_law, cLw, 4, some FieldType.boolean) d 1534 [(0, .ref 2000000), (1, .ref 0), (2, .ref 71), (3, .int v3)] [] (xFin n t) w cvI (xFin n t) (K1534 v3 w)) (v3 : Int32) (w : xI) : xC G (yL_law, cLw, 4, some FieldType.boolean) d 273 [(0, .ref 2000000), (1, .ref 0), (2, .ref 71), (3, .int v3)] [] (xFin n t) w cvI (xFin n t) (f_L_law_L273 G.2.2.2.2.2.2.2.1 G.2.2.2.2.2.2.2.2 K1534 v3 w) := by
  unfold f_L_law_L273
  refine y_aload_n dLw_273 rfl 1 rfl ?_
  refine y_aload_n dLw_274 rfl 0 rfl ?_
  refine y_iload_n dLw_275 rfl 3 rfl ?_
  refine y_iconst (v := 1) dLw_276 (by decide) ?_
  refine y_iadd dLw_277 ?_
  refine y_sld dLw_278 ?_
  refine y_callV (As := [.int (G.2.2.2.2.2.2.2.2 (v3 + (1 : Int32)).toNatClampNeg)]) (d2 := d - 1) dLw_279 kL_28 (by omega) rfl rfl (Nat.le_of_ble_eq_true rfl) (xlt rfl hn) rfl rfl (p_X10_stoneTold (Nat.le_trans (by decide) hn) (by omega)  _ _) (fun r273001 w273002 _ => ?_)
  refine y_aload_n dLw_282 rfl 2 rfl ?_
  refine y_aload_n dLw_283 rfl 0 rfl ?_
  refine y_iload_n dLw_284 rfl 3 rfl ?_
  refine y_iconst (v := 1) dLw_285 (by decide) ?_
  refine y_iadd dLw_286 ?_
  refine y_sld dLw_287 ?_
  refine y_callV (As := [.int (G.2.2.2.2.2.2.2.2 (v3 + (1 : Int32)).toNatClampNeg)]) (d2 := d - 1) dLw_288 kL_31 (by omega) rfl rfl (Nat.le_of_ble_eq_true rfl) (xlt rfl hn) rfl rfl (p_X11_stoneTold hn (by omega)  _ _) (fun r273003 w273004 _ => ?_)
  refine y_icmp_eq (tgt := 1534) dLw_291 (by decide) ?_ ?_
  · exact hK1534 v3 w273004 
  · refine y_iconst (v := 0) dLw_294 (by decide) ?_
    exact y_ireturn dLw_295 rfl rfl rfl
set_option maxRecDepth 40000 in
set_option maxHeartbeats 8000000 in
theorem p_L_law_L296 {G : xG} {d : Nat} {n t : Nat} (hn : 102 ≤ n) (hd : 289 ≤ d) {K1534 : Int32 → xI → Option (Int32 × xI)} (hK1534 : ∀ (v3 : Int32) (w : xI), xC G (yL_law, cLw, 4, some FieldType.boolean) d 1534 [(0, .ref 2000000), (1, .ref 0), (2, .ref 71), (3, .int v3)] [] (xFin n t) w cvI (xFin n t) (K1534 v3 w)) (v3 : Int32) (w : xI) : xC G (yL_law, cLw, 4, some FieldType.boolean) d 296 [(0, .ref 2000000), (1, .ref 0), (2, .ref 71), (3, .int v3)] [] (xFin n t) w cvI (xFin n t) (f_L_law_L296 G.2.2.2.2.2.2.2.1 G.2.2.2.2.2.2.2.2 K1534 v3 w) := by
  unfold f_L_law_L296
  refine y_aload_n dLw_296 rfl 1 rfl ?_
  refine y_aload_n dLw_297 rfl 0 rfl ?_
  refine y_iload_n dLw_298 rfl 3 rfl ?_
  refine y_iconst (v := 1) dLw_299 (by decide) ?_
  refine y_iadd dLw_300 ?_
  refine y_sld dLw_301 ?_
  refine y_callV (As := [.int (G.2.2.2.2.2.2.2.2 (v3 + (1 : Int32)).toNatClampNeg)]) (d2 := d - 1) dLw_302 kL_32 (by omega) rfl rfl (Nat.le_of_ble_eq_true rfl) (xlt rfl hn) rfl rfl (p_X10_count (Nat.le_trans (by decide) hn) (by omega)  _ _) (fun r296001 w296002 _ => ?_)
  refine y_aload_n dLw_305 rfl 2 rfl ?_
  refine y_aload_n dLw_306 rfl 0 rfl ?_
  refine y_iload_n dLw_307 rfl 3 rfl ?_
  refine y_iconst (v := 1) dLw_308 (by decide) ?_
  refine y_iadd dLw_309 ?_
  refine y_sld dLw_310 ?_
  refine y_callV (As := [.int (G.2.2.2.2.2.2.2.2 (v3 + (1 : Int32)).toNatClampNeg)]) (d2 := d - 1) dLw_311 kL_35 (by omega) rfl rfl (Nat.le_of_ble_eq_true rfl) (xlt rfl hn) rfl rfl (p_X11_count hn (by omega)  _ _) (fun r296003 w296004 _ => ?_)
  refine y_icmp_eq (tgt := 1534) dLw_314 (by decide) ?_ ?_
  · exact hK1534 v3 w296004 
  · refine y_iconst (v := 0) dLw_317 (by decide) ?_
    exact y_ireturn dLw_318 rfl rfl rfl
set_option maxRecDepth 40000 in
set_option maxHeartbeats 8000000 in
theorem p_L_law_L319 {G : xG} {d : Nat} {n t : Nat} (hn : 102 ≤ n) (hd : 289 ≤ d) {K1534 : Int32 → xI → Option (Int32 × xI)} (hK1534 : ∀ (v3 : Int32) (w : xI), xC G (yL_law, cLw, 4, some FieldType.boolean) d 1534 [(0, .ref 2000000), (1, .ref 0), (2, .ref 71), (3, .int v3)] [] (xFin n t) w cvI (xFin n t) (K1534 v3 w)) (v3 : Int32) (w : xI) : xC G (yL_law, cLw, 4, some FieldType.boolean) d 319 [(0, .ref 2000000), (1, .ref 0), (2, .ref 71), (3, .int v3)] [] (xFin n t) w cvI (xFin n t) (f_L_law_L319 G.2.2.2.2.2.2.2.1 G.2.2.2.2.2.2.2.2 K1534 v3 w) := by
  unfold f_L_law_L319
  refine y_aload_n dLw_319 rfl 1 rfl ?_
  refine y_aload_n dLw_320 rfl 0 rfl ?_
  refine y_iload_n dLw_321 rfl 3 rfl ?_
  refine y_iconst (v := 1) dLw_322 (by decide) ?_
  refine y_iadd dLw_323 ?_
  refine y_sld dLw_324 ?_
  refine y_aload_n dLw_325 rfl 0 rfl ?_
  refine y_iload_n dLw_326 rfl 3 rfl ?_
  refine y_iconst (v := 2) dLw_327 (by decide) ?_
  refine y_iadd dLw_328 ?_
  refine y_sld dLw_329 ?_
  refine y_aload_n dLw_330 rfl 0 rfl ?_
  refine y_iload_n dLw_331 rfl 3 rfl ?_
  refine y_iconst (v := 3) dLw_332 (by decide) ?_
  refine y_iadd dLw_333 ?_
  refine y_sld dLw_334 ?_
  refine y_aload_n dLw_335 rfl 0 rfl ?_
  refine y_iload_n dLw_336 rfl 3 rfl ?_
  refine y_iconst (v := 4) dLw_337 (by decide) ?_
  refine y_iadd dLw_338 ?_
  refine y_sld dLw_339 ?_
  refine y_aload_n dLw_340 rfl 0 rfl ?_
  refine y_iload_n dLw_341 rfl 3 rfl ?_
  refine y_iconst (v := 5) dLw_342 (by decide) ?_
  refine y_iadd dLw_343 ?_
  refine y_sld dLw_344 ?_
  refine y_aload_n dLw_345 rfl 0 rfl ?_
  refine y_iload_n dLw_346 rfl 3 rfl ?_
  refine y_bipush (v := 6) dLw_347 (by decide) ?_
  refine y_iadd dLw_349 ?_
  refine y_sld dLw_350 ?_
  refine y_callV (As := [.int (G.2.2.2.2.2.2.2.2 (v3 + (1 : Int32)).toNatClampNeg), .int (G.2.2.2.2.2.2.2.2 (v3 + (2 : Int32)).toNatClampNeg), .int (G.2.2.2.2.2.2.2.2 (v3 + (3 : Int32)).toNatClampNeg), .int (G.2.2.2.2.2.2.2.2 (v3 + (4 : Int32)).toNatClampNeg), .int (G.2.2.2.2.2.2.2.2 (v3 + (5 : Int32)).toNatClampNeg), .int (G.2.2.2.2.2.2.2.2 (v3 + (6 : Int32)).toNatClampNeg)]) (d2 := d - 1) dLw_351 kL_36 (by omega) rfl rfl (Nat.le_of_ble_eq_true rfl) (xlt rfl hn) rfl rfl (p_X10_feed (Nat.le_trans (by decide) hn) (by omega)  _ _ _ _ _ _ _) (fun r319001 w319002 _ => ?_)
  refine y_aload_n dLw_354 rfl 2 rfl ?_
  refine y_aload_n dLw_355 rfl 0 rfl ?_
  refine y_iload_n dLw_356 rfl 3 rfl ?_
  refine y_iconst (v := 1) dLw_357 (by decide) ?_
  refine y_iadd dLw_358 ?_
  refine y_sld dLw_359 ?_
  refine y_aload_n dLw_360 rfl 0 rfl ?_
  refine y_iload_n dLw_361 rfl 3 rfl ?_
  refine y_iconst (v := 2) dLw_362 (by decide) ?_
  refine y_iadd dLw_363 ?_
  refine y_sld dLw_364 ?_
  refine y_aload_n dLw_365 rfl 0 rfl ?_
  refine y_iload_n dLw_366 rfl 3 rfl ?_
  refine y_iconst (v := 3) dLw_367 (by decide) ?_
  refine y_iadd dLw_368 ?_
  refine y_sld dLw_369 ?_
  refine y_aload_n dLw_370 rfl 0 rfl ?_
  refine y_iload_n dLw_371 rfl 3 rfl ?_
  refine y_iconst (v := 4) dLw_372 (by decide) ?_
  refine y_iadd dLw_373 ?_
  refine y_sld dLw_374 ?_
  refine y_aload_n dLw_375 rfl 0 rfl ?_
  refine y_iload_n dLw_376 rfl 3 rfl ?_
  refine y_iconst (v := 5) dLw_377 (by decide) ?_
  refine y_iadd dLw_378 ?_
  refine y_sld dLw_379 ?_
  refine y_aload_n dLw_380 rfl 0 rfl ?_
  refine y_iload_n dLw_381 rfl 3 rfl ?_
  refine y_bipush (v := 6) dLw_382 (by decide) ?_
  refine y_iadd dLw_384 ?_
  refine y_sld dLw_385 ?_
  refine y_callV (As := [.int (G.2.2.2.2.2.2.2.2 (v3 + (1 : Int32)).toNatClampNeg), .int (G.2.2.2.2.2.2.2.2 (v3 + (2 : Int32)).toNatClampNeg), .int (G.2.2.2.2.2.2.2.2 (v3 + (3 : Int32)).toNatClampNeg), .int (G.2.2.2.2.2.2.2.2 (v3 + (4 : Int32)).toNatClampNeg), .int (G.2.2.2.2.2.2.2.2 (v3 + (5 : Int32)).toNatClampNeg), .int (G.2.2.2.2.2.2.2.2 (v3 + (6 : Int32)).toNatClampNeg)]) (d2 := d - 1) dLw_386 kL_40 (by omega) rfl rfl (Nat.le_of_ble_eq_true rfl) (xlt rfl hn) rfl rfl (p_X11_feed hn (by omega)  _ _ _ _ _ _ _) (fun r319003 w319004 _ => ?_)
  refine y_icmp_eq (tgt := 1534) dLw_389 (by decide) ?_ ?_
  · exact hK1534 v3 w319004 
  · refine y_iconst (v := 0) dLw_392 (by decide) ?_
    exact y_ireturn dLw_393 rfl rfl rfl
set_option maxRecDepth 40000 in
set_option maxHeartbeats 8000000 in
theorem p_L_law_L394 {G : xG} {d : Nat} {n t : Nat} (hn : 102 ≤ n) (hd : 289 ≤ d) {K1534 : Int32 → xI → Option (Int32 × xI)} (hK1534 : ∀ (v3 : Int32) (w : xI), xC G (yL_law, cLw, 4, some FieldType.boolean) d 1534 [(0, .ref 2000000), (1, .ref 0), (2, .ref 71), (3, .int v3)] [] (xFin n t) w cvI (xFin n t) (K1534 v3 w)) (v3 : Int32) (w : xI) : xC G (yL_law, cLw, 4, some FieldType.boolean) d 394 [(0, .ref 2000000), (1, .ref 0), (2, .ref 71), (3, .int v3)] [] (xFin n t) w cvI (xFin n t) (f_L_law_L394 G.2.2.2.2.2.2.2.1 G.2.2.2.2.2.2.2.2 K1534 v3 w) := by
  unfold f_L_law_L394
  refine y_aload_n dLw_394 rfl 1 rfl ?_
  refine y_callV (As := []) (d2 := d - 1) dLw_395 kL_41 (by omega) rfl rfl (Nat.le_of_ble_eq_true rfl) (xlt rfl hn) rfl rfl (p_X10_text (Nat.le_trans (by decide) hn) (by omega)   _) (fun r394001 w394002 _ => ?_)
  refine y_aload_n dLw_398 rfl 2 rfl ?_
  refine y_callV (As := []) (d2 := d - 1) dLw_399 kL_44 (by omega) rfl rfl (Nat.le_of_ble_eq_true rfl) (xlt rfl hn) rfl rfl (p_X11_text hn (by omega)   _) (fun r394003 w394004 _ => ?_)
  refine y_icmp_eq (tgt := 1534) dLw_402 (by decide) ?_ ?_
  · exact hK1534 v3 w394004 
  · refine y_iconst (v := 0) dLw_405 (by decide) ?_
    exact y_ireturn dLw_406 rfl rfl rfl
set_option maxRecDepth 40000 in
set_option maxHeartbeats 8000000 in
theorem p_L_law_L407 {G : xG} {d : Nat} {n t : Nat} (hn : 102 ≤ n) (hd : 289 ≤ d) {K1534 : Int32 → xI → Option (Int32 × xI)} (hK1534 : ∀ (v3 : Int32) (w : xI), xC G (yL_law, cLw, 4, some FieldType.boolean) d 1534 [(0, .ref 2000000), (1, .ref 0), (2, .ref 71), (3, .int v3)] [] (xFin n t) w cvI (xFin n t) (K1534 v3 w)) (v3 : Int32) (w : xI) : xC G (yL_law, cLw, 4, some FieldType.boolean) d 407 [(0, .ref 2000000), (1, .ref 0), (2, .ref 71), (3, .int v3)] [] (xFin n t) w cvI (xFin n t) (f_L_law_L407 G.2.2.2.2.2.2.2.1 G.2.2.2.2.2.2.2.2 K1534 v3 w) := by
  unfold f_L_law_L407
  refine y_aload_n dLw_407 rfl 1 rfl ?_
  refine y_aload_n dLw_408 rfl 0 rfl ?_
  refine y_iload_n dLw_409 rfl 3 rfl ?_
  refine y_iconst (v := 1) dLw_410 (by decide) ?_
  refine y_iadd dLw_411 ?_
  refine y_sld dLw_412 ?_
  refine y_callV (As := [.int (G.2.2.2.2.2.2.2.2 (v3 + (1 : Int32)).toNatClampNeg)]) (d2 := d - 1) dLw_413 kL_45 (by omega) rfl rfl (Nat.le_of_ble_eq_true rfl) (xlt rfl hn) rfl rfl (p_X10_force (Nat.le_trans (by decide) hn) (by omega)  _ _) (fun r407001 w407002 _ => ?_)
  refine y_aload_n dLw_416 rfl 2 rfl ?_
  refine y_aload_n dLw_417 rfl 0 rfl ?_
  refine y_iload_n dLw_418 rfl 3 rfl ?_
  refine y_iconst (v := 1) dLw_419 (by decide) ?_
  refine y_iadd dLw_420 ?_
  refine y_sld dLw_421 ?_
  refine y_callV (As := [.int (G.2.2.2.2.2.2.2.2 (v3 + (1 : Int32)).toNatClampNeg)]) (d2 := d - 1) dLw_422 kL_48 (by omega) rfl rfl (Nat.le_of_ble_eq_true rfl) (xlt rfl hn) rfl rfl (p_X11_force hn (by omega)  _ _) (fun r407003 w407004 _ => ?_)
  refine y_icmp_eq (tgt := 1534) dLw_425 (by decide) ?_ ?_
  · exact hK1534 v3 w407004 
  · refine y_iconst (v := 0) dLw_428 (by decide) ?_
    exact y_ireturn dLw_429 rfl rfl rfl
set_option maxRecDepth 40000 in
set_option maxHeartbeats 8000000 in
theorem p_L_law_L430 {G : xG} {d : Nat} {n t : Nat} (hn : 102 ≤ n) (hd : 289 ≤ d) {K1534 : Int32 → xI → Option (Int32 × xI)} (hK1534 : ∀ (v3 : Int32) (w : xI), xC G (yL_law, cLw, 4, some FieldType.boolean) d 1534 [(0, .ref 2000000), (1, .ref 0), (2, .ref 71), (3, .int v3)] [] (xFin n t) w cvI (xFin n t) (K1534 v3 w)) (v3 : Int32) (w : xI) : xC G (yL_law, cLw, 4, some FieldType.boolean) d 430 [(0, .ref 2000000), (1, .ref 0), (2, .ref 71), (3, .int v3)] [] (xFin n t) w cvI (xFin n t) (f_L_law_L430 G.2.2.2.2.2.2.2.1 G.2.2.2.2.2.2.2.2 K1534 v3 w) := by
  unfold f_L_law_L430
  refine y_aload_n dLw_430 rfl 1 rfl ?_
  refine y_aload_n dLw_431 rfl 0 rfl ?_
  refine y_iload_n dLw_432 rfl 3 rfl ?_
  refine y_iconst (v := 1) dLw_433 (by decide) ?_
  refine y_iadd dLw_434 ?_
  refine y_sld dLw_435 ?_
  refine y_aload_n dLw_436 rfl 0 rfl ?_
  refine y_iload_n dLw_437 rfl 3 rfl ?_
  refine y_iconst (v := 2) dLw_438 (by decide) ?_
  refine y_iadd dLw_439 ?_
  refine y_sld dLw_440 ?_
  refine y_aload_n dLw_441 rfl 0 rfl ?_
  refine y_iload_n dLw_442 rfl 3 rfl ?_
  refine y_iconst (v := 3) dLw_443 (by decide) ?_
  refine y_iadd dLw_444 ?_
  refine y_sld dLw_445 ?_
  refine y_aload_n dLw_446 rfl 0 rfl ?_
  refine y_iload_n dLw_447 rfl 3 rfl ?_
  refine y_iconst (v := 4) dLw_448 (by decide) ?_
  refine y_iadd dLw_449 ?_
  refine y_sld dLw_450 ?_
  refine y_callV (As := [.int (G.2.2.2.2.2.2.2.2 (v3 + (1 : Int32)).toNatClampNeg), .int (G.2.2.2.2.2.2.2.2 (v3 + (2 : Int32)).toNatClampNeg), .int (G.2.2.2.2.2.2.2.2 (v3 + (3 : Int32)).toNatClampNeg), .int (G.2.2.2.2.2.2.2.2 (v3 + (4 : Int32)).toNatClampNeg)]) (d2 := d - 1) dLw_451 kL_49 (by omega) rfl rfl (Nat.le_of_ble_eq_true rfl) (xlt rfl hn) rfl rfl (p_X10_asks (Nat.le_trans (by decide) hn) (by omega)  _ _ _ _ _) (fun r430001 w430002 _ => ?_)
  refine y_aload_n dLw_454 rfl 2 rfl ?_
  refine y_aload_n dLw_455 rfl 0 rfl ?_
  refine y_iload_n dLw_456 rfl 3 rfl ?_
  refine y_iconst (v := 1) dLw_457 (by decide) ?_
  refine y_iadd dLw_458 ?_
  refine y_sld dLw_459 ?_
  refine y_aload_n dLw_460 rfl 0 rfl ?_
  refine y_iload_n dLw_461 rfl 3 rfl ?_
  refine y_iconst (v := 2) dLw_462 (by decide) ?_
  refine y_iadd dLw_463 ?_
  refine y_sld dLw_464 ?_
  refine y_aload_n dLw_465 rfl 0 rfl ?_
  refine y_iload_n dLw_466 rfl 3 rfl ?_
  refine y_iconst (v := 3) dLw_467 (by decide) ?_
  refine y_iadd dLw_468 ?_
  refine y_sld dLw_469 ?_
  refine y_aload_n dLw_470 rfl 0 rfl ?_
  refine y_iload_n dLw_471 rfl 3 rfl ?_
  refine y_iconst (v := 4) dLw_472 (by decide) ?_
  refine y_iadd dLw_473 ?_
  refine y_sld dLw_474 ?_
  refine y_callV (As := [.int (G.2.2.2.2.2.2.2.2 (v3 + (1 : Int32)).toNatClampNeg), .int (G.2.2.2.2.2.2.2.2 (v3 + (2 : Int32)).toNatClampNeg), .int (G.2.2.2.2.2.2.2.2 (v3 + (3 : Int32)).toNatClampNeg), .int (G.2.2.2.2.2.2.2.2 (v3 + (4 : Int32)).toNatClampNeg)]) (d2 := d - 1) dLw_475 kL_53 (by omega) rfl rfl (Nat.le_of_ble_eq_true rfl) (xlt rfl hn) rfl rfl (p_X11_asks hn (by omega)  _ _ _ _ _) (fun r430003 w430004 _ => ?_)
  refine y_icmp_eq (tgt := 1534) dLw_478 (by decide) ?_ ?_
  · exact hK1534 v3 w430004 
  · refine y_iconst (v := 0) dLw_481 (by decide) ?_
    exact y_ireturn dLw_482 rfl rfl rfl
set_option maxRecDepth 40000 in
set_option maxHeartbeats 8000000 in
theorem p_L_law_L483 {G : xG} {d : Nat} {n t : Nat} (hn : 102 ≤ n) (hd : 289 ≤ d) {K1534 : Int32 → xI → Option (Int32 × xI)} (hK1534 : ∀ (v3 : Int32) (w : xI), xC G (yL_law, cLw, 4, some FieldType.boolean) d 1534 [(0, .ref 2000000), (1, .ref 0), (2, .ref 71), (3, .int v3)] [] (xFin n t) w cvI (xFin n t) (K1534 v3 w)) (v3 : Int32) (w : xI) : xC G (yL_law, cLw, 4, some FieldType.boolean) d 483 [(0, .ref 2000000), (1, .ref 0), (2, .ref 71), (3, .int v3)] [] (xFin n t) w cvI (xFin n t) (f_L_law_L483 G.2.2.2.2.2.2.2.1 G.2.2.2.2.2.2.2.2 K1534 v3 w) := by
  unfold f_L_law_L483
  refine y_aload_n dLw_483 rfl 1 rfl ?_
  refine y_aload_n dLw_484 rfl 0 rfl ?_
  refine y_iload_n dLw_485 rfl 3 rfl ?_
  refine y_iconst (v := 1) dLw_486 (by decide) ?_
  refine y_iadd dLw_487 ?_
  refine y_sld dLw_488 ?_
  refine y_aload_n dLw_489 rfl 0 rfl ?_
  refine y_iload_n dLw_490 rfl 3 rfl ?_
  refine y_iconst (v := 2) dLw_491 (by decide) ?_
  refine y_iadd dLw_492 ?_
  refine y_sld dLw_493 ?_
  refine y_aload_n dLw_494 rfl 0 rfl ?_
  refine y_iload_n dLw_495 rfl 3 rfl ?_
  refine y_iconst (v := 3) dLw_496 (by decide) ?_
  refine y_iadd dLw_497 ?_
  refine y_sld dLw_498 ?_
  refine y_aload_n dLw_499 rfl 0 rfl ?_
  refine y_iload_n dLw_500 rfl 3 rfl ?_
  refine y_iconst (v := 4) dLw_501 (by decide) ?_
  refine y_iadd dLw_502 ?_
  refine y_sld dLw_503 ?_
  refine y_aload_n dLw_504 rfl 0 rfl ?_
  refine y_iload_n dLw_505 rfl 3 rfl ?_
  refine y_iconst (v := 5) dLw_506 (by decide) ?_
  refine y_iadd dLw_507 ?_
  refine y_sld dLw_508 ?_
  refine y_callV (As := [.int (G.2.2.2.2.2.2.2.2 (v3 + (1 : Int32)).toNatClampNeg), .int (G.2.2.2.2.2.2.2.2 (v3 + (2 : Int32)).toNatClampNeg), .int (G.2.2.2.2.2.2.2.2 (v3 + (3 : Int32)).toNatClampNeg), .int (G.2.2.2.2.2.2.2.2 (v3 + (4 : Int32)).toNatClampNeg), .int (G.2.2.2.2.2.2.2.2 (v3 + (5 : Int32)).toNatClampNeg)]) (d2 := d - 1) dLw_509 kL_54 (by omega) rfl rfl (Nat.le_of_ble_eq_true rfl) (xlt rfl hn) rfl rfl (p_X10_cart (Nat.le_trans (by decide) hn) (by omega)  _ _ _ _ _ _) (fun r483001 w483002 _ => ?_)
  refine y_aload_n dLw_512 rfl 2 rfl ?_
  refine y_aload_n dLw_513 rfl 0 rfl ?_
  refine y_iload_n dLw_514 rfl 3 rfl ?_
  refine y_iconst (v := 1) dLw_515 (by decide) ?_
  refine y_iadd dLw_516 ?_
  refine y_sld dLw_517 ?_
  refine y_aload_n dLw_518 rfl 0 rfl ?_
  refine y_iload_n dLw_519 rfl 3 rfl ?_
  refine y_iconst (v := 2) dLw_520 (by decide) ?_
  refine y_iadd dLw_521 ?_
  refine y_sld dLw_522 ?_
  refine y_aload_n dLw_523 rfl 0 rfl ?_
  refine y_iload_n dLw_524 rfl 3 rfl ?_
  refine y_iconst (v := 3) dLw_525 (by decide) ?_
  refine y_iadd dLw_526 ?_
  refine y_sld dLw_527 ?_
  refine y_aload_n dLw_528 rfl 0 rfl ?_
  refine y_iload_n dLw_529 rfl 3 rfl ?_
  refine y_iconst (v := 4) dLw_530 (by decide) ?_
  refine y_iadd dLw_531 ?_
  refine y_sld dLw_532 ?_
  refine y_aload_n dLw_533 rfl 0 rfl ?_
  refine y_iload_n dLw_534 rfl 3 rfl ?_
  refine y_iconst (v := 5) dLw_535 (by decide) ?_
  refine y_iadd dLw_536 ?_
  refine y_sld dLw_537 ?_
  refine y_callV (As := [.int (G.2.2.2.2.2.2.2.2 (v3 + (1 : Int32)).toNatClampNeg), .int (G.2.2.2.2.2.2.2.2 (v3 + (2 : Int32)).toNatClampNeg), .int (G.2.2.2.2.2.2.2.2 (v3 + (3 : Int32)).toNatClampNeg), .int (G.2.2.2.2.2.2.2.2 (v3 + (4 : Int32)).toNatClampNeg), .int (G.2.2.2.2.2.2.2.2 (v3 + (5 : Int32)).toNatClampNeg)]) (d2 := d - 1) dLw_538 kL_58 (by omega) rfl rfl (Nat.le_of_ble_eq_true rfl) (xlt rfl hn) rfl rfl (p_X11_cart hn (by omega)  _ _ _ _ _ _) (fun r483003 w483004 _ => ?_)
  refine y_icmp_eq (tgt := 1534) dLw_541 (by decide) ?_ ?_
  · exact hK1534 v3 w483004 
  · refine y_iconst (v := 0) dLw_544 (by decide) ?_
    exact y_ireturn dLw_545 rfl rfl rfl
set_option maxRecDepth 40000 in
set_option maxHeartbeats 8000000 in
theorem p_L_law_L546 {G : xG} {d : Nat} {n t : Nat} (hn : 102 ≤ n) (hd : 289 ≤ d) {K1534 : Int32 → xI → Option (Int32 × xI)} (hK1534 : ∀ (v3 : Int32) (w : xI), xC G (yL_law, cLw, 4, some FieldType.boolean) d 1534 [(0, .ref 2000000), (1, .ref 0), (2, .ref 71), (3, .int v3)] [] (xFin n t) w cvI (xFin n t) (K1534 v3 w)) (v3 : Int32) (w : xI) : xC G (yL_law, cLw, 4, some FieldType.boolean) d 546 [(0, .ref 2000000), (1, .ref 0), (2, .ref 71), (3, .int v3)] [] (xFin n t) w cvI (xFin n t) (f_L_law_L546 G.2.2.2.2.2.2.2.1 G.2.2.2.2.2.2.2.2 K1534 v3 w) := by
  unfold f_L_law_L546
  refine y_aload_n dLw_546 rfl 1 rfl ?_
  refine y_aload_n dLw_547 rfl 0 rfl ?_
  refine y_iload_n dLw_548 rfl 3 rfl ?_
  refine y_iconst (v := 1) dLw_549 (by decide) ?_
  refine y_iadd dLw_550 ?_
  refine y_sld dLw_551 ?_
  refine y_aload_n dLw_552 rfl 0 rfl ?_
  refine y_iload_n dLw_553 rfl 3 rfl ?_
  refine y_iconst (v := 2) dLw_554 (by decide) ?_
  refine y_iadd dLw_555 ?_
  refine y_sld dLw_556 ?_
  refine y_aload_n dLw_557 rfl 0 rfl ?_
  refine y_iload_n dLw_558 rfl 3 rfl ?_
  refine y_iconst (v := 3) dLw_559 (by decide) ?_
  refine y_iadd dLw_560 ?_
  refine y_sld dLw_561 ?_
  refine y_callV (As := [.int (G.2.2.2.2.2.2.2.2 (v3 + (1 : Int32)).toNatClampNeg), .int (G.2.2.2.2.2.2.2.2 (v3 + (2 : Int32)).toNatClampNeg), .int (G.2.2.2.2.2.2.2.2 (v3 + (3 : Int32)).toNatClampNeg)]) (d2 := d - 1) dLw_562 kL_59 (by omega) rfl rfl (Nat.le_of_ble_eq_true rfl) (xlt rfl hn) rfl rfl (p_X10_set (Nat.le_trans (by decide) hn) (by omega)  _ _ _ _) (fun r546001 w546002 _ => ?_)
  refine y_aload_n dLw_565 rfl 2 rfl ?_
  refine y_aload_n dLw_566 rfl 0 rfl ?_
  refine y_iload_n dLw_567 rfl 3 rfl ?_
  refine y_iconst (v := 1) dLw_568 (by decide) ?_
  refine y_iadd dLw_569 ?_
  refine y_sld dLw_570 ?_
  refine y_aload_n dLw_571 rfl 0 rfl ?_
  refine y_iload_n dLw_572 rfl 3 rfl ?_
  refine y_iconst (v := 2) dLw_573 (by decide) ?_
  refine y_iadd dLw_574 ?_
  refine y_sld dLw_575 ?_
  refine y_aload_n dLw_576 rfl 0 rfl ?_
  refine y_iload_n dLw_577 rfl 3 rfl ?_
  refine y_iconst (v := 3) dLw_578 (by decide) ?_
  refine y_iadd dLw_579 ?_
  refine y_sld dLw_580 ?_
  refine y_callV (As := [.int (G.2.2.2.2.2.2.2.2 (v3 + (1 : Int32)).toNatClampNeg), .int (G.2.2.2.2.2.2.2.2 (v3 + (2 : Int32)).toNatClampNeg), .int (G.2.2.2.2.2.2.2.2 (v3 + (3 : Int32)).toNatClampNeg)]) (d2 := d - 1) dLw_581 kL_63 (by omega) rfl rfl (Nat.le_of_ble_eq_true rfl) (xlt rfl hn) rfl rfl (p_X11_set hn (by omega)  _ _ _ _) (fun r546003 w546004 _ => ?_)
  refine y_icmp_eq (tgt := 1534) dLw_584 (by decide) ?_ ?_
  · exact hK1534 v3 w546004 
  · refine y_iconst (v := 0) dLw_587 (by decide) ?_
    exact y_ireturn dLw_588 rfl rfl rfl
set_option maxRecDepth 40000 in
set_option maxHeartbeats 8000000 in
theorem p_L_law_L589 {G : xG} {d : Nat} {n t : Nat} (hn : 102 ≤ n) (hd : 289 ≤ d) {K1534 : Int32 → xI → Option (Int32 × xI)} (hK1534 : ∀ (v3 : Int32) (w : xI), xC G (yL_law, cLw, 4, some FieldType.boolean) d 1534 [(0, .ref 2000000), (1, .ref 0), (2, .ref 71), (3, .int v3)] [] (xFin n t) w cvI (xFin n t) (K1534 v3 w)) (v3 : Int32) (w : xI) : xC G (yL_law, cLw, 4, some FieldType.boolean) d 589 [(0, .ref 2000000), (1, .ref 0), (2, .ref 71), (3, .int v3)] [] (xFin n t) w cvI (xFin n t) (f_L_law_L589 G.2.2.2.2.2.2.2.1 G.2.2.2.2.2.2.2.2 K1534 v3 w) := by
  unfold f_L_law_L589
  refine y_aload_n dLw_589 rfl 1 rfl ?_
  refine y_aload_n dLw_590 rfl 0 rfl ?_
  refine y_iload_n dLw_591 rfl 3 rfl ?_
  refine y_iconst (v := 1) dLw_592 (by decide) ?_
  refine y_iadd dLw_593 ?_
  refine y_sld dLw_594 ?_
  refine y_aload_n dLw_595 rfl 0 rfl ?_
  refine y_iload_n dLw_596 rfl 3 rfl ?_
  refine y_iconst (v := 2) dLw_597 (by decide) ?_
  refine y_iadd dLw_598 ?_
  refine y_sld dLw_599 ?_
  refine y_callV (As := [.int (G.2.2.2.2.2.2.2.2 (v3 + (1 : Int32)).toNatClampNeg), .int (G.2.2.2.2.2.2.2.2 (v3 + (2 : Int32)).toNatClampNeg)]) (d2 := d - 1) dLw_600 kL_64 (by omega) rfl rfl (Nat.le_of_ble_eq_true rfl) (xlt rfl hn) rfl rfl (p_X10_cartTold (Nat.le_trans (by decide) hn) (by omega)  _ _ _) (fun r589001 w589002 _ => ?_)
  refine y_aload_n dLw_603 rfl 2 rfl ?_
  refine y_aload_n dLw_604 rfl 0 rfl ?_
  refine y_iload_n dLw_605 rfl 3 rfl ?_
  refine y_iconst (v := 1) dLw_606 (by decide) ?_
  refine y_iadd dLw_607 ?_
  refine y_sld dLw_608 ?_
  refine y_aload_n dLw_609 rfl 0 rfl ?_
  refine y_iload_n dLw_610 rfl 3 rfl ?_
  refine y_iconst (v := 2) dLw_611 (by decide) ?_
  refine y_iadd dLw_612 ?_
  refine y_sld dLw_613 ?_
  refine y_callV (As := [.int (G.2.2.2.2.2.2.2.2 (v3 + (1 : Int32)).toNatClampNeg), .int (G.2.2.2.2.2.2.2.2 (v3 + (2 : Int32)).toNatClampNeg)]) (d2 := d - 1) dLw_614 kL_67 (by omega) rfl rfl (Nat.le_of_ble_eq_true rfl) (xlt rfl hn) rfl rfl (p_X11_cartTold hn (by omega)  _ _ _) (fun r589003 w589004 _ => ?_)
  refine y_icmp_eq (tgt := 1534) dLw_617 (by decide) ?_ ?_
  · exact hK1534 v3 w589004 
  · refine y_iconst (v := 0) dLw_620 (by decide) ?_
    exact y_ireturn dLw_621 rfl rfl rfl
set_option maxRecDepth 40000 in
set_option maxHeartbeats 8000000 in
theorem p_L_law_L622 {G : xG} {d : Nat} {n t : Nat} (hn : 102 ≤ n) (hd : 289 ≤ d) {K1534 : Int32 → xI → Option (Int32 × xI)} (hK1534 : ∀ (v3 : Int32) (w : xI), xC G (yL_law, cLw, 4, some FieldType.boolean) d 1534 [(0, .ref 2000000), (1, .ref 0), (2, .ref 71), (3, .int v3)] [] (xFin n t) w cvI (xFin n t) (K1534 v3 w)) (v3 : Int32) (w : xI) : xC G (yL_law, cLw, 4, some FieldType.boolean) d 622 [(0, .ref 2000000), (1, .ref 0), (2, .ref 71), (3, .int v3)] [] (xFin n t) w cvI (xFin n t) (f_L_law_L622 G.2.2.2.2.2.2.2.1 G.2.2.2.2.2.2.2.2 K1534 v3 w) := by
  unfold f_L_law_L622
  refine y_aload_n dLw_622 rfl 1 rfl ?_
  refine y_aload_n dLw_623 rfl 0 rfl ?_
  refine y_iload_n dLw_624 rfl 3 rfl ?_
  refine y_iconst (v := 1) dLw_625 (by decide) ?_
  refine y_iadd dLw_626 ?_
  refine y_sld dLw_627 ?_
  refine y_aload_n dLw_628 rfl 0 rfl ?_
  refine y_iload_n dLw_629 rfl 3 rfl ?_
  refine y_iconst (v := 2) dLw_630 (by decide) ?_
  refine y_iadd dLw_631 ?_
  refine y_sld dLw_632 ?_
  refine y_aload_n dLw_633 rfl 0 rfl ?_
  refine y_iload_n dLw_634 rfl 3 rfl ?_
  refine y_iconst (v := 3) dLw_635 (by decide) ?_
  refine y_iadd dLw_636 ?_
  refine y_sld dLw_637 ?_
  refine y_callV (As := [.int (G.2.2.2.2.2.2.2.2 (v3 + (1 : Int32)).toNatClampNeg), .int (G.2.2.2.2.2.2.2.2 (v3 + (2 : Int32)).toNatClampNeg), .int (G.2.2.2.2.2.2.2.2 (v3 + (3 : Int32)).toNatClampNeg)]) (d2 := d - 1) dLw_638 kL_68 (by omega) rfl rfl (Nat.le_of_ble_eq_true rfl) (xlt rfl hn) rfl rfl (p_X10_at (Nat.le_trans (by decide) hn) (by omega)  _ _ _ _) (fun r622001 w622002 _ => ?_)
  refine y_aload_n dLw_641 rfl 2 rfl ?_
  refine y_aload_n dLw_642 rfl 0 rfl ?_
  refine y_iload_n dLw_643 rfl 3 rfl ?_
  refine y_iconst (v := 1) dLw_644 (by decide) ?_
  refine y_iadd dLw_645 ?_
  refine y_sld dLw_646 ?_
  refine y_aload_n dLw_647 rfl 0 rfl ?_
  refine y_iload_n dLw_648 rfl 3 rfl ?_
  refine y_iconst (v := 2) dLw_649 (by decide) ?_
  refine y_iadd dLw_650 ?_
  refine y_sld dLw_651 ?_
  refine y_aload_n dLw_652 rfl 0 rfl ?_
  refine y_iload_n dLw_653 rfl 3 rfl ?_
  refine y_iconst (v := 3) dLw_654 (by decide) ?_
  refine y_iadd dLw_655 ?_
  refine y_sld dLw_656 ?_
  refine y_callV (As := [.int (G.2.2.2.2.2.2.2.2 (v3 + (1 : Int32)).toNatClampNeg), .int (G.2.2.2.2.2.2.2.2 (v3 + (2 : Int32)).toNatClampNeg), .int (G.2.2.2.2.2.2.2.2 (v3 + (3 : Int32)).toNatClampNeg)]) (d2 := d - 1) dLw_657 kL_71 (by omega) rfl rfl (Nat.le_of_ble_eq_true rfl) (xlt rfl hn) rfl rfl (p_X11_at hn (by omega)  _ _ _ _) (fun r622003 w622004 _ => ?_)
  refine y_icmp_eq (tgt := 1534) dLw_660 (by decide) ?_ ?_
  · exact hK1534 v3 w622004 
  · refine y_iconst (v := 0) dLw_663 (by decide) ?_
    exact y_ireturn dLw_664 rfl rfl rfl
set_option maxRecDepth 40000 in
set_option maxHeartbeats 8000000 in
theorem p_L_law_L665 {G : xG} {d : Nat} {n t : Nat} (hn : 102 ≤ n) (hd : 289 ≤ d) {K1534 : Int32 → xI → Option (Int32 × xI)} (hK1534 : ∀ (v3 : Int32) (w : xI), xC G (yL_law, cLw, 4, some FieldType.boolean) d 1534 [(0, .ref 2000000), (1, .ref 0), (2, .ref 71), (3, .int v3)] [] (xFin n t) w cvI (xFin n t) (K1534 v3 w)) (v3 : Int32) (w : xI) : xC G (yL_law, cLw, 4, some FieldType.boolean) d 665 [(0, .ref 2000000), (1, .ref 0), (2, .ref 71), (3, .int v3)] [] (xFin n t) w cvI (xFin n t) (f_L_law_L665 G.2.2.2.2.2.2.2.1 G.2.2.2.2.2.2.2.2 K1534 v3 w) := by
  unfold f_L_law_L665
  refine y_aload_n dLw_665 rfl 1 rfl ?_
  refine y_aload_n dLw_666 rfl 0 rfl ?_
  refine y_iload_n dLw_667 rfl 3 rfl ?_
  refine y_iconst (v := 1) dLw_668 (by decide) ?_
  refine y_iadd dLw_669 ?_
  refine y_sld dLw_670 ?_
  refine y_callV (As := [.int (G.2.2.2.2.2.2.2.2 (v3 + (1 : Int32)).toNatClampNeg)]) (d2 := d - 1) dLw_671 kL_72 (by omega) rfl rfl (Nat.le_of_ble_eq_true rfl) (xlt rfl hn) rfl rfl (p_X10_make (Nat.le_trans (by decide) hn) (by omega)  _ _) (fun r665001 w665002 _ => ?_)
  refine y_aload_n dLw_674 rfl 2 rfl ?_
  refine y_aload_n dLw_675 rfl 0 rfl ?_
  refine y_iload_n dLw_676 rfl 3 rfl ?_
  refine y_iconst (v := 1) dLw_677 (by decide) ?_
  refine y_iadd dLw_678 ?_
  refine y_sld dLw_679 ?_
  refine y_callV (As := [.int (G.2.2.2.2.2.2.2.2 (v3 + (1 : Int32)).toNatClampNeg)]) (d2 := d - 1) dLw_680 kL_75 (by omega) rfl rfl (Nat.le_of_ble_eq_true rfl) (xlt rfl hn) rfl rfl (p_X11_make hn (by omega)  _ _) (fun r665003 w665004 _ => ?_)
  refine y_icmp_eq (tgt := 1534) dLw_683 (by decide) ?_ ?_
  · exact hK1534 v3 w665004 
  · refine y_iconst (v := 0) dLw_686 (by decide) ?_
    exact y_ireturn dLw_687 rfl rfl rfl
set_option maxRecDepth 40000 in
set_option maxHeartbeats 8000000 in
theorem p_L_law_L688 {G : xG} {d : Nat} {n t : Nat} (hn : 102 ≤ n) (hd : 289 ≤ d) {K1534 : Int32 → xI → Option (Int32 × xI)} (hK1534 : ∀ (v3 : Int32) (w : xI), xC G (yL_law, cLw, 4, some FieldType.boolean) d 1534 [(0, .ref 2000000), (1, .ref 0), (2, .ref 71), (3, .int v3)] [] (xFin n t) w cvI (xFin n t) (K1534 v3 w)) (v3 : Int32) (w : xI) : xC G (yL_law, cLw, 4, some FieldType.boolean) d 688 [(0, .ref 2000000), (1, .ref 0), (2, .ref 71), (3, .int v3)] [] (xFin n t) w cvI (xFin n t) (f_L_law_L688 G.2.2.2.2.2.2.2.1 G.2.2.2.2.2.2.2.2 K1534 v3 w) := by
  unfold f_L_law_L688
  refine y_aload_n dLw_688 rfl 1 rfl ?_
  refine y_aload_n dLw_689 rfl 0 rfl ?_
  refine y_iload_n dLw_690 rfl 3 rfl ?_
  refine y_iconst (v := 1) dLw_691 (by decide) ?_
  refine y_iadd dLw_692 ?_
  refine y_sld dLw_693 ?_
  refine y_aload_n dLw_694 rfl 0 rfl ?_
  refine y_iload_n dLw_695 rfl 3 rfl ?_
  refine y_iconst (v := 2) dLw_696 (by decide) ?_
  refine y_iadd dLw_697 ?_
  refine y_sld dLw_698 ?_
  refine y_callV (As := [.int (G.2.2.2.2.2.2.2.2 (v3 + (1 : Int32)).toNatClampNeg), .int (G.2.2.2.2.2.2.2.2 (v3 + (2 : Int32)).toNatClampNeg)]) (d2 := d - 1) dLw_699 kL_76 (by omega) rfl rfl (Nat.le_of_ble_eq_true rfl) (xlt rfl hn) rfl rfl (p_X10_makings (Nat.le_trans (by decide) hn) (by omega)  _ _ _) (fun r688001 w688002 _ => ?_)
  refine y_aload_n dLw_702 rfl 2 rfl ?_
  refine y_aload_n dLw_703 rfl 0 rfl ?_
  refine y_iload_n dLw_704 rfl 3 rfl ?_
  refine y_iconst (v := 1) dLw_705 (by decide) ?_
  refine y_iadd dLw_706 ?_
  refine y_sld dLw_707 ?_
  refine y_aload_n dLw_708 rfl 0 rfl ?_
  refine y_iload_n dLw_709 rfl 3 rfl ?_
  refine y_iconst (v := 2) dLw_710 (by decide) ?_
  refine y_iadd dLw_711 ?_
  refine y_sld dLw_712 ?_
  refine y_callV (As := [.int (G.2.2.2.2.2.2.2.2 (v3 + (1 : Int32)).toNatClampNeg), .int (G.2.2.2.2.2.2.2.2 (v3 + (2 : Int32)).toNatClampNeg)]) (d2 := d - 1) dLw_713 kL_79 (by omega) rfl rfl (Nat.le_of_ble_eq_true rfl) (xlt rfl hn) rfl rfl (p_X11_makings hn (by omega)  _ _ _) (fun r688003 w688004 _ => ?_)
  refine y_icmp_eq (tgt := 1534) dLw_716 (by decide) ?_ ?_
  · exact hK1534 v3 w688004 
  · refine y_iconst (v := 0) dLw_719 (by decide) ?_
    exact y_ireturn dLw_720 rfl rfl rfl
set_option maxRecDepth 40000 in
set_option maxHeartbeats 8000000 in
theorem p_L_law_L721 {G : xG} {d : Nat} {n t : Nat} (hn : 102 ≤ n) (hd : 289 ≤ d) {K1534 : Int32 → xI → Option (Int32 × xI)} (hK1534 : ∀ (v3 : Int32) (w : xI), xC G (yL_law, cLw, 4, some FieldType.boolean) d 1534 [(0, .ref 2000000), (1, .ref 0), (2, .ref 71), (3, .int v3)] [] (xFin n t) w cvI (xFin n t) (K1534 v3 w)) (v3 : Int32) (w : xI) : xC G (yL_law, cLw, 4, some FieldType.boolean) d 721 [(0, .ref 2000000), (1, .ref 0), (2, .ref 71), (3, .int v3)] [] (xFin n t) w cvI (xFin n t) (f_L_law_L721 G.2.2.2.2.2.2.2.1 G.2.2.2.2.2.2.2.2 K1534 v3 w) := by
  unfold f_L_law_L721
  refine y_aload_n dLw_721 rfl 1 rfl ?_
  refine y_aload_n dLw_722 rfl 0 rfl ?_
  refine y_iload_n dLw_723 rfl 3 rfl ?_
  refine y_iconst (v := 1) dLw_724 (by decide) ?_
  refine y_iadd dLw_725 ?_
  refine y_sld dLw_726 ?_
  refine y_aload_n dLw_727 rfl 0 rfl ?_
  refine y_iload_n dLw_728 rfl 3 rfl ?_
  refine y_iconst (v := 2) dLw_729 (by decide) ?_
  refine y_iadd dLw_730 ?_
  refine y_sld dLw_731 ?_
  refine y_callV (As := [.int (G.2.2.2.2.2.2.2.2 (v3 + (1 : Int32)).toNatClampNeg), .int (G.2.2.2.2.2.2.2.2 (v3 + (2 : Int32)).toNatClampNeg)]) (d2 := d - 1) dLw_732 kL_80 (by omega) rfl rfl (Nat.le_of_ble_eq_true rfl) (xlt rfl hn) rfl rfl (p_X10_own (Nat.le_trans (by decide) hn) (by omega)  _ _ _) (fun r721001 w721002 _ => ?_)
  refine y_aload_n dLw_735 rfl 2 rfl ?_
  refine y_aload_n dLw_736 rfl 0 rfl ?_
  refine y_iload_n dLw_737 rfl 3 rfl ?_
  refine y_iconst (v := 1) dLw_738 (by decide) ?_
  refine y_iadd dLw_739 ?_
  refine y_sld dLw_740 ?_
  refine y_aload_n dLw_741 rfl 0 rfl ?_
  refine y_iload_n dLw_742 rfl 3 rfl ?_
  refine y_iconst (v := 2) dLw_743 (by decide) ?_
  refine y_iadd dLw_744 ?_
  refine y_sld dLw_745 ?_
  refine y_callV (As := [.int (G.2.2.2.2.2.2.2.2 (v3 + (1 : Int32)).toNatClampNeg), .int (G.2.2.2.2.2.2.2.2 (v3 + (2 : Int32)).toNatClampNeg)]) (d2 := d - 1) dLw_746 kL_83 (by omega) rfl rfl (Nat.le_of_ble_eq_true rfl) (xlt rfl hn) rfl rfl (p_X11_own hn (by omega)  _ _ _) (fun r721003 w721004 _ => ?_)
  refine y_icmp_eq (tgt := 1534) dLw_749 (by decide) ?_ ?_
  · exact hK1534 v3 w721004 
  · refine y_iconst (v := 0) dLw_752 (by decide) ?_
    exact y_ireturn dLw_753 rfl rfl rfl
set_option maxRecDepth 40000 in
set_option maxHeartbeats 8000000 in
theorem p_L_law_L754 {G : xG} {d : Nat} {n t : Nat} (hn : 102 ≤ n) (hd : 289 ≤ d) {K1534 : Int32 → xI → Option (Int32 × xI)} (hK1534 : ∀ (v3 : Int32) (w : xI), xC G (yL_law, cLw, 4, some FieldType.boolean) d 1534 [(0, .ref 2000000), (1, .ref 0), (2, .ref 71), (3, .int v3)] [] (xFin n t) w cvI (xFin n t) (K1534 v3 w)) (v3 : Int32) (w : xI) : xC G (yL_law, cLw, 4, some FieldType.boolean) d 754 [(0, .ref 2000000), (1, .ref 0), (2, .ref 71), (3, .int v3)] [] (xFin n t) w cvI (xFin n t) (f_L_law_L754 G.2.2.2.2.2.2.2.1 G.2.2.2.2.2.2.2.2 K1534 v3 w) := by
  unfold f_L_law_L754
  refine y_aload_n dLw_754 rfl 1 rfl ?_
  refine y_aload_n dLw_755 rfl 0 rfl ?_
  refine y_iload_n dLw_756 rfl 3 rfl ?_
  refine y_iconst (v := 1) dLw_757 (by decide) ?_
  refine y_iadd dLw_758 ?_
  refine y_sld dLw_759 ?_
  refine y_callV (As := [.int (G.2.2.2.2.2.2.2.2 (v3 + (1 : Int32)).toNatClampNeg)]) (d2 := d - 1) dLw_760 kL_84 (by omega) rfl rfl (Nat.le_of_ble_eq_true rfl) (xlt rfl hn) rfl rfl (p_X10_falsely (Nat.le_trans (by decide) hn) (by omega)  _ _) (fun r754001 w754002 _ => ?_)
  refine y_aload_n dLw_763 rfl 2 rfl ?_
  refine y_aload_n dLw_764 rfl 0 rfl ?_
  refine y_iload_n dLw_765 rfl 3 rfl ?_
  refine y_iconst (v := 1) dLw_766 (by decide) ?_
  refine y_iadd dLw_767 ?_
  refine y_sld dLw_768 ?_
  refine y_callV (As := [.int (G.2.2.2.2.2.2.2.2 (v3 + (1 : Int32)).toNatClampNeg)]) (d2 := d - 1) dLw_769 kL_87 (by omega) rfl rfl (Nat.le_of_ble_eq_true rfl) (xlt rfl hn) rfl rfl (p_X11_falsely hn (by omega)  _ _) (fun r754003 w754004 _ => ?_)
  refine y_icmp_eq (tgt := 1534) dLw_772 (by decide) ?_ ?_
  · exact hK1534 v3 w754004 
  · refine y_iconst (v := 0) dLw_775 (by decide) ?_
    exact y_ireturn dLw_776 rfl rfl rfl
set_option maxRecDepth 40000 in
set_option maxHeartbeats 8000000 in
theorem p_L_law_L777 {G : xG} {d : Nat} {n t : Nat} (hn : 102 ≤ n) (hd : 289 ≤ d) {K1534 : Int32 → xI → Option (Int32 × xI)} (hK1534 : ∀ (v3 : Int32) (w : xI), xC G (yL_law, cLw, 4, some FieldType.boolean) d 1534 [(0, .ref 2000000), (1, .ref 0), (2, .ref 71), (3, .int v3)] [] (xFin n t) w cvI (xFin n t) (K1534 v3 w)) (v3 : Int32) (w : xI) : xC G (yL_law, cLw, 4, some FieldType.boolean) d 777 [(0, .ref 2000000), (1, .ref 0), (2, .ref 71), (3, .int v3)] [] (xFin n t) w cvI (xFin n t) (f_L_law_L777 G.2.2.2.2.2.2.2.1 G.2.2.2.2.2.2.2.2 K1534 v3 w) := by
  unfold f_L_law_L777
  refine y_aload_n dLw_777 rfl 1 rfl ?_
  refine y_aload_n dLw_778 rfl 0 rfl ?_
  refine y_iload_n dLw_779 rfl 3 rfl ?_
  refine y_iconst (v := 1) dLw_780 (by decide) ?_
  refine y_iadd dLw_781 ?_
  refine y_sld dLw_782 ?_
  refine y_aload_n dLw_783 rfl 0 rfl ?_
  refine y_iload_n dLw_784 rfl 3 rfl ?_
  refine y_iconst (v := 2) dLw_785 (by decide) ?_
  refine y_iadd dLw_786 ?_
  refine y_sld dLw_787 ?_
  refine y_aload_n dLw_788 rfl 0 rfl ?_
  refine y_iload_n dLw_789 rfl 3 rfl ?_
  refine y_iconst (v := 3) dLw_790 (by decide) ?_
  refine y_iadd dLw_791 ?_
  refine y_sld dLw_792 ?_
  refine y_callV (As := [.int (G.2.2.2.2.2.2.2.2 (v3 + (1 : Int32)).toNatClampNeg), .int (G.2.2.2.2.2.2.2.2 (v3 + (2 : Int32)).toNatClampNeg), .int (G.2.2.2.2.2.2.2.2 (v3 + (3 : Int32)).toNatClampNeg)]) (d2 := d - 1) dLw_793 kL_88 (by omega) rfl rfl (Nat.le_of_ble_eq_true rfl) (xlt rfl hn) rfl rfl (p_X10_scales (Nat.le_trans (by decide) hn) (by omega)  _ _ _ _) (fun r777001 w777002 _ => ?_)
  refine y_aload_n dLw_796 rfl 2 rfl ?_
  refine y_aload_n dLw_797 rfl 0 rfl ?_
  refine y_iload_n dLw_798 rfl 3 rfl ?_
  refine y_iconst (v := 1) dLw_799 (by decide) ?_
  refine y_iadd dLw_800 ?_
  refine y_sld dLw_801 ?_
  refine y_aload_n dLw_802 rfl 0 rfl ?_
  refine y_iload_n dLw_803 rfl 3 rfl ?_
  refine y_iconst (v := 2) dLw_804 (by decide) ?_
  refine y_iadd dLw_805 ?_
  refine y_sld dLw_806 ?_
  refine y_aload_n dLw_807 rfl 0 rfl ?_
  refine y_iload_n dLw_808 rfl 3 rfl ?_
  refine y_iconst (v := 3) dLw_809 (by decide) ?_
  refine y_iadd dLw_810 ?_
  refine y_sld dLw_811 ?_
  refine y_callV (As := [.int (G.2.2.2.2.2.2.2.2 (v3 + (1 : Int32)).toNatClampNeg), .int (G.2.2.2.2.2.2.2.2 (v3 + (2 : Int32)).toNatClampNeg), .int (G.2.2.2.2.2.2.2.2 (v3 + (3 : Int32)).toNatClampNeg)]) (d2 := d - 1) dLw_812 kL_91 (by omega) rfl rfl (Nat.le_of_ble_eq_true rfl) (xlt rfl hn) rfl rfl (p_X11_scales hn (by omega)  _ _ _ _) (fun r777003 w777004 _ => ?_)
  refine y_icmp_eq (tgt := 1534) dLw_815 (by decide) ?_ ?_
  · exact hK1534 v3 w777004 
  · refine y_iconst (v := 0) dLw_818 (by decide) ?_
    exact y_ireturn dLw_819 rfl rfl rfl
set_option maxRecDepth 40000 in
set_option maxHeartbeats 8000000 in
theorem p_L_law_L820 {G : xG} {d : Nat} {n t : Nat} (hn : 102 ≤ n) (hd : 289 ≤ d) {K1534 : Int32 → xI → Option (Int32 × xI)} (hK1534 : ∀ (v3 : Int32) (w : xI), xC G (yL_law, cLw, 4, some FieldType.boolean) d 1534 [(0, .ref 2000000), (1, .ref 0), (2, .ref 71), (3, .int v3)] [] (xFin n t) w cvI (xFin n t) (K1534 v3 w)) (v3 : Int32) (w : xI) : xC G (yL_law, cLw, 4, some FieldType.boolean) d 820 [(0, .ref 2000000), (1, .ref 0), (2, .ref 71), (3, .int v3)] [] (xFin n t) w cvI (xFin n t) (f_L_law_L820 G.2.2.2.2.2.2.2.1 G.2.2.2.2.2.2.2.2 K1534 v3 w) := by
  unfold f_L_law_L820
  refine y_aload_n dLw_820 rfl 1 rfl ?_
  refine y_aload_n dLw_821 rfl 0 rfl ?_
  refine y_iload_n dLw_822 rfl 3 rfl ?_
  refine y_iconst (v := 1) dLw_823 (by decide) ?_
  refine y_iadd dLw_824 ?_
  refine y_sld dLw_825 ?_
  refine y_aload_n dLw_826 rfl 0 rfl ?_
  refine y_iload_n dLw_827 rfl 3 rfl ?_
  refine y_iconst (v := 2) dLw_828 (by decide) ?_
  refine y_iadd dLw_829 ?_
  refine y_sld dLw_830 ?_
  refine y_callV (As := [.int (G.2.2.2.2.2.2.2.2 (v3 + (1 : Int32)).toNatClampNeg), .int (G.2.2.2.2.2.2.2.2 (v3 + (2 : Int32)).toNatClampNeg)]) (d2 := d - 1) dLw_831 kL_92 (by omega) rfl rfl (Nat.le_of_ble_eq_true rfl) (xlt rfl hn) rfl rfl (p_X10_pairs (Nat.le_trans (by decide) hn) (by omega)  _ _ _) (fun r820001 w820002 _ => ?_)
  refine y_aload_n dLw_834 rfl 2 rfl ?_
  refine y_aload_n dLw_835 rfl 0 rfl ?_
  refine y_iload_n dLw_836 rfl 3 rfl ?_
  refine y_iconst (v := 1) dLw_837 (by decide) ?_
  refine y_iadd dLw_838 ?_
  refine y_sld dLw_839 ?_
  refine y_aload_n dLw_840 rfl 0 rfl ?_
  refine y_iload_n dLw_841 rfl 3 rfl ?_
  refine y_iconst (v := 2) dLw_842 (by decide) ?_
  refine y_iadd dLw_843 ?_
  refine y_sld dLw_844 ?_
  refine y_callV (As := [.int (G.2.2.2.2.2.2.2.2 (v3 + (1 : Int32)).toNatClampNeg), .int (G.2.2.2.2.2.2.2.2 (v3 + (2 : Int32)).toNatClampNeg)]) (d2 := d - 1) dLw_845 kL_95 (by omega) rfl rfl (Nat.le_of_ble_eq_true rfl) (xlt rfl hn) rfl rfl (p_X11_pairs hn (by omega)  _ _ _) (fun r820003 w820004 _ => ?_)
  refine y_icmp_eq (tgt := 1534) dLw_848 (by decide) ?_ ?_
  · exact hK1534 v3 w820004 
  · refine y_iconst (v := 0) dLw_851 (by decide) ?_
    exact y_ireturn dLw_852 rfl rfl rfl
set_option maxRecDepth 40000 in
set_option maxHeartbeats 8000000 in
theorem p_L_law_L853 {G : xG} {d : Nat} {n t : Nat} (hn : 102 ≤ n) (hd : 289 ≤ d) {K1534 : Int32 → xI → Option (Int32 × xI)} (hK1534 : ∀ (v3 : Int32) (w : xI), xC G (yL_law, cLw, 4, some FieldType.boolean) d 1534 [(0, .ref 2000000), (1, .ref 0), (2, .ref 71), (3, .int v3)] [] (xFin n t) w cvI (xFin n t) (K1534 v3 w)) (v3 : Int32) (w : xI) : xC G (yL_law, cLw, 4, some FieldType.boolean) d 853 [(0, .ref 2000000), (1, .ref 0), (2, .ref 71), (3, .int v3)] [] (xFin n t) w cvI (xFin n t) (f_L_law_L853 G.2.2.2.2.2.2.2.1 G.2.2.2.2.2.2.2.2 K1534 v3 w) := by
  unfold f_L_law_L853
  refine y_aload_n dLw_853 rfl 1 rfl ?_
  refine y_aload_n dLw_854 rfl 0 rfl ?_
  refine y_iload_n dLw_855 rfl 3 rfl ?_
  refine y_iconst (v := 1) dLw_856 (by decide) ?_
  refine y_iadd dLw_857 ?_
  refine y_sld dLw_858 ?_
  refine y_aload_n dLw_859 rfl 0 rfl ?_
  refine y_iload_n dLw_860 rfl 3 rfl ?_
  refine y_iconst (v := 2) dLw_861 (by decide) ?_
  refine y_iadd dLw_862 ?_
  refine y_sld dLw_863 ?_
  refine y_callV (As := [.int (G.2.2.2.2.2.2.2.2 (v3 + (1 : Int32)).toNatClampNeg), .int (G.2.2.2.2.2.2.2.2 (v3 + (2 : Int32)).toNatClampNeg)]) (d2 := d - 1) dLw_864 kL_96 (by omega) rfl rfl (Nat.le_of_ble_eq_true rfl) (xlt rfl hn) rfl rfl (p_X10_against (Nat.le_trans (by decide) hn) (by omega)  _ _ _) (fun r853001 w853002 _ => ?_)
  refine y_aload_n dLw_867 rfl 2 rfl ?_
  refine y_aload_n dLw_868 rfl 0 rfl ?_
  refine y_iload_n dLw_869 rfl 3 rfl ?_
  refine y_iconst (v := 1) dLw_870 (by decide) ?_
  refine y_iadd dLw_871 ?_
  refine y_sld dLw_872 ?_
  refine y_aload_n dLw_873 rfl 0 rfl ?_
  refine y_iload_n dLw_874 rfl 3 rfl ?_
  refine y_iconst (v := 2) dLw_875 (by decide) ?_
  refine y_iadd dLw_876 ?_
  refine y_sld dLw_877 ?_
  refine y_callV (As := [.int (G.2.2.2.2.2.2.2.2 (v3 + (1 : Int32)).toNatClampNeg), .int (G.2.2.2.2.2.2.2.2 (v3 + (2 : Int32)).toNatClampNeg)]) (d2 := d - 1) dLw_878 kL_99 (by omega) rfl rfl (Nat.le_of_ble_eq_true rfl) (xlt rfl hn) rfl rfl (p_X11_against hn (by omega)  _ _ _) (fun r853003 w853004 _ => ?_)
  refine y_icmp_eq (tgt := 1534) dLw_881 (by decide) ?_ ?_
  · exact hK1534 v3 w853004 
  · refine y_iconst (v := 0) dLw_884 (by decide) ?_
    exact y_ireturn dLw_885 rfl rfl rfl
set_option maxRecDepth 40000 in
set_option maxHeartbeats 8000000 in
theorem p_L_law_L886 {G : xG} {d : Nat} {n t : Nat} (hn : 102 ≤ n) (hd : 289 ≤ d) {K1534 : Int32 → xI → Option (Int32 × xI)} (hK1534 : ∀ (v3 : Int32) (w : xI), xC G (yL_law, cLw, 4, some FieldType.boolean) d 1534 [(0, .ref 2000000), (1, .ref 0), (2, .ref 71), (3, .int v3)] [] (xFin n t) w cvI (xFin n t) (K1534 v3 w)) (v3 : Int32) (w : xI) : xC G (yL_law, cLw, 4, some FieldType.boolean) d 886 [(0, .ref 2000000), (1, .ref 0), (2, .ref 71), (3, .int v3)] [] (xFin n t) w cvI (xFin n t) (f_L_law_L886 G.2.2.2.2.2.2.2.1 G.2.2.2.2.2.2.2.2 K1534 v3 w) := by
  unfold f_L_law_L886
  refine y_aload_n dLw_886 rfl 1 rfl ?_
  refine y_aload_n dLw_887 rfl 0 rfl ?_
  refine y_iload_n dLw_888 rfl 3 rfl ?_
  refine y_iconst (v := 1) dLw_889 (by decide) ?_
  refine y_iadd dLw_890 ?_
  refine y_sld dLw_891 ?_
  refine y_aload_n dLw_892 rfl 0 rfl ?_
  refine y_iload_n dLw_893 rfl 3 rfl ?_
  refine y_iconst (v := 2) dLw_894 (by decide) ?_
  refine y_iadd dLw_895 ?_
  refine y_sld dLw_896 ?_
  refine y_callV (As := [.int (G.2.2.2.2.2.2.2.2 (v3 + (1 : Int32)).toNatClampNeg), .int (G.2.2.2.2.2.2.2.2 (v3 + (2 : Int32)).toNatClampNeg)]) (d2 := d - 1) dLw_897 kL_100 (by omega) rfl rfl (Nat.le_of_ble_eq_true rfl) (xlt rfl hn) rfl rfl (p_X10_best (Nat.le_trans (by decide) hn) (by omega)  _ _ _) (fun r886001 w886002 _ => ?_)
  refine y_aload_n dLw_900 rfl 2 rfl ?_
  refine y_aload_n dLw_901 rfl 0 rfl ?_
  refine y_iload_n dLw_902 rfl 3 rfl ?_
  refine y_iconst (v := 1) dLw_903 (by decide) ?_
  refine y_iadd dLw_904 ?_
  refine y_sld dLw_905 ?_
  refine y_aload_n dLw_906 rfl 0 rfl ?_
  refine y_iload_n dLw_907 rfl 3 rfl ?_
  refine y_iconst (v := 2) dLw_908 (by decide) ?_
  refine y_iadd dLw_909 ?_
  refine y_sld dLw_910 ?_
  refine y_callV (As := [.int (G.2.2.2.2.2.2.2.2 (v3 + (1 : Int32)).toNatClampNeg), .int (G.2.2.2.2.2.2.2.2 (v3 + (2 : Int32)).toNatClampNeg)]) (d2 := d - 1) dLw_911 kL_103 (by omega) rfl rfl (Nat.le_of_ble_eq_true rfl) (xlt rfl hn) rfl rfl (p_X11_best hn (by omega)  _ _ _) (fun r886003 w886004 _ => ?_)
  refine y_icmp_eq (tgt := 1534) dLw_914 (by decide) ?_ ?_
  · exact hK1534 v3 w886004 
  · refine y_iconst (v := 0) dLw_917 (by decide) ?_
    exact y_ireturn dLw_918 rfl rfl rfl
set_option maxRecDepth 40000 in
set_option maxHeartbeats 8000000 in
theorem p_L_law_L919 {G : xG} {d : Nat} {n t : Nat} (hn : 102 ≤ n) (hd : 289 ≤ d) {K1534 : Int32 → xI → Option (Int32 × xI)} (hK1534 : ∀ (v3 : Int32) (w : xI), xC G (yL_law, cLw, 4, some FieldType.boolean) d 1534 [(0, .ref 2000000), (1, .ref 0), (2, .ref 71), (3, .int v3)] [] (xFin n t) w cvI (xFin n t) (K1534 v3 w)) (v3 : Int32) (w : xI) : xC G (yL_law, cLw, 4, some FieldType.boolean) d 919 [(0, .ref 2000000), (1, .ref 0), (2, .ref 71), (3, .int v3)] [] (xFin n t) w cvI (xFin n t) (f_L_law_L919 G.2.2.2.2.2.2.2.1 G.2.2.2.2.2.2.2.2 K1534 v3 w) := by
  unfold f_L_law_L919
  refine y_aload_n dLw_919 rfl 1 rfl ?_
  refine y_aload_n dLw_920 rfl 0 rfl ?_
  refine y_iload_n dLw_921 rfl 3 rfl ?_
  refine y_iconst (v := 1) dLw_922 (by decide) ?_
  refine y_iadd dLw_923 ?_
  refine y_sld dLw_924 ?_
  refine y_aload_n dLw_925 rfl 0 rfl ?_
  refine y_iload_n dLw_926 rfl 3 rfl ?_
  refine y_iconst (v := 2) dLw_927 (by decide) ?_
  refine y_iadd dLw_928 ?_
  refine y_sld dLw_929 ?_
  refine y_callV (As := [.int (G.2.2.2.2.2.2.2.2 (v3 + (1 : Int32)).toNatClampNeg), .int (G.2.2.2.2.2.2.2.2 (v3 + (2 : Int32)).toNatClampNeg)]) (d2 := d - 1) dLw_930 kL_104 (by omega) rfl rfl (Nat.le_of_ble_eq_true rfl) (xlt rfl hn) rfl rfl (p_X10_dusk (Nat.le_trans (by decide) hn) (by omega)  _ _ _) (fun r919001 w919002 _ => ?_)
  refine y_aload_n dLw_933 rfl 2 rfl ?_
  refine y_aload_n dLw_934 rfl 0 rfl ?_
  refine y_iload_n dLw_935 rfl 3 rfl ?_
  refine y_iconst (v := 1) dLw_936 (by decide) ?_
  refine y_iadd dLw_937 ?_
  refine y_sld dLw_938 ?_
  refine y_aload_n dLw_939 rfl 0 rfl ?_
  refine y_iload_n dLw_940 rfl 3 rfl ?_
  refine y_iconst (v := 2) dLw_941 (by decide) ?_
  refine y_iadd dLw_942 ?_
  refine y_sld dLw_943 ?_
  refine y_callV (As := [.int (G.2.2.2.2.2.2.2.2 (v3 + (1 : Int32)).toNatClampNeg), .int (G.2.2.2.2.2.2.2.2 (v3 + (2 : Int32)).toNatClampNeg)]) (d2 := d - 1) dLw_944 kL_107 (by omega) rfl rfl (Nat.le_of_ble_eq_true rfl) (xlt rfl hn) rfl rfl (p_X11_dusk hn (by omega)  _ _ _) (fun r919003 w919004 _ => ?_)
  refine y_icmp_eq (tgt := 1534) dLw_947 (by decide) ?_ ?_
  · exact hK1534 v3 w919004 
  · refine y_iconst (v := 0) dLw_950 (by decide) ?_
    exact y_ireturn dLw_951 rfl rfl rfl
set_option maxRecDepth 40000 in
set_option maxHeartbeats 8000000 in
theorem p_L_law_L952 {G : xG} {d : Nat} {n t : Nat} (hn : 102 ≤ n) (hd : 289 ≤ d) {K1534 : Int32 → xI → Option (Int32 × xI)} (hK1534 : ∀ (v3 : Int32) (w : xI), xC G (yL_law, cLw, 4, some FieldType.boolean) d 1534 [(0, .ref 2000000), (1, .ref 0), (2, .ref 71), (3, .int v3)] [] (xFin n t) w cvI (xFin n t) (K1534 v3 w)) (v3 : Int32) (w : xI) : xC G (yL_law, cLw, 4, some FieldType.boolean) d 952 [(0, .ref 2000000), (1, .ref 0), (2, .ref 71), (3, .int v3)] [] (xFin n t) w cvI (xFin n t) (f_L_law_L952 G.2.2.2.2.2.2.2.1 G.2.2.2.2.2.2.2.2 K1534 v3 w) := by
  unfold f_L_law_L952
  refine y_aload_n dLw_952 rfl 1 rfl ?_
  refine y_aload_n dLw_953 rfl 0 rfl ?_
  refine y_iload_n dLw_954 rfl 3 rfl ?_
  refine y_iconst (v := 1) dLw_955 (by decide) ?_
  refine y_iadd dLw_956 ?_
  refine y_sld dLw_957 ?_
  refine y_aload_n dLw_958 rfl 0 rfl ?_
  refine y_iload_n dLw_959 rfl 3 rfl ?_
  refine y_iconst (v := 2) dLw_960 (by decide) ?_
  refine y_iadd dLw_961 ?_
  refine y_sld dLw_962 ?_
  refine y_callV (As := [.int (G.2.2.2.2.2.2.2.2 (v3 + (1 : Int32)).toNatClampNeg), .int (G.2.2.2.2.2.2.2.2 (v3 + (2 : Int32)).toNatClampNeg)]) (d2 := d - 1) dLw_963 kL_108 (by omega) rfl rfl (Nat.le_of_ble_eq_true rfl) (xlt rfl hn) rfl rfl (p_X10_goes (Nat.le_trans (by decide) hn) (by omega)  _ _ _) (fun r952001 w952002 _ => ?_)
  refine y_aload_n dLw_966 rfl 2 rfl ?_
  refine y_aload_n dLw_967 rfl 0 rfl ?_
  refine y_iload_n dLw_968 rfl 3 rfl ?_
  refine y_iconst (v := 1) dLw_969 (by decide) ?_
  refine y_iadd dLw_970 ?_
  refine y_sld dLw_971 ?_
  refine y_aload_n dLw_972 rfl 0 rfl ?_
  refine y_iload_n dLw_973 rfl 3 rfl ?_
  refine y_iconst (v := 2) dLw_974 (by decide) ?_
  refine y_iadd dLw_975 ?_
  refine y_sld dLw_976 ?_
  refine y_callV (As := [.int (G.2.2.2.2.2.2.2.2 (v3 + (1 : Int32)).toNatClampNeg), .int (G.2.2.2.2.2.2.2.2 (v3 + (2 : Int32)).toNatClampNeg)]) (d2 := d - 1) dLw_977 kL_111 (by omega) rfl rfl (Nat.le_of_ble_eq_true rfl) (xlt rfl hn) rfl rfl (p_X11_goes hn (by omega)  _ _ _) (fun r952003 w952004 _ => ?_)
  refine y_icmp_eq (tgt := 1534) dLw_980 (by decide) ?_ ?_
  · exact hK1534 v3 w952004 
  · refine y_iconst (v := 0) dLw_983 (by decide) ?_
    exact y_ireturn dLw_984 rfl rfl rfl
set_option maxRecDepth 40000 in
set_option maxHeartbeats 8000000 in
theorem p_L_law_L985 {G : xG} {d : Nat} {n t : Nat} (hn : 102 ≤ n) (hd : 289 ≤ d) {K1534 : Int32 → xI → Option (Int32 × xI)} (hK1534 : ∀ (v3 : Int32) (w : xI), xC G (yL_law, cLw, 4, some FieldType.boolean) d 1534 [(0, .ref 2000000), (1, .ref 0), (2, .ref 71), (3, .int v3)] [] (xFin n t) w cvI (xFin n t) (K1534 v3 w)) (v3 : Int32) (w : xI) : xC G (yL_law, cLw, 4, some FieldType.boolean) d 985 [(0, .ref 2000000), (1, .ref 0), (2, .ref 71), (3, .int v3)] [] (xFin n t) w cvI (xFin n t) (f_L_law_L985 G.2.2.2.2.2.2.2.1 G.2.2.2.2.2.2.2.2 K1534 v3 w) := by
  unfold f_L_law_L985
  refine y_aload_n dLw_985 rfl 1 rfl ?_
  refine y_aload_n dLw_986 rfl 0 rfl ?_
  refine y_iload_n dLw_987 rfl 3 rfl ?_
  refine y_iconst (v := 1) dLw_988 (by decide) ?_
  refine y_iadd dLw_989 ?_
  refine y_sld dLw_990 ?_
  refine y_callV (As := [.int (G.2.2.2.2.2.2.2.2 (v3 + (1 : Int32)).toNatClampNeg)]) (d2 := d - 1) dLw_991 kL_112 (by omega) rfl rfl (Nat.le_of_ble_eq_true rfl) (xlt rfl hn) rfl rfl (p_X10_hold (Nat.le_trans (by decide) hn) (by omega)  _ _) (fun r985001 w985002 _ => ?_)
  refine y_aload_n dLw_994 rfl 2 rfl ?_
  refine y_aload_n dLw_995 rfl 0 rfl ?_
  refine y_iload_n dLw_996 rfl 3 rfl ?_
  refine y_iconst (v := 1) dLw_997 (by decide) ?_
  refine y_iadd dLw_998 ?_
  refine y_sld dLw_999 ?_
  refine y_callV (As := [.int (G.2.2.2.2.2.2.2.2 (v3 + (1 : Int32)).toNatClampNeg)]) (d2 := d - 1) dLw_1000 kL_115 (by omega) rfl rfl (Nat.le_of_ble_eq_true rfl) (xlt rfl hn) rfl rfl (p_X11_hold hn (by omega)  _ _) (fun r985003 w985004 _ => ?_)
  refine y_icmp_eq (tgt := 1534) dLw_1003 (by decide) ?_ ?_
  · exact hK1534 v3 w985004 
  · refine y_iconst (v := 0) dLw_1006 (by decide) ?_
    exact y_ireturn dLw_1007 rfl rfl rfl
set_option maxRecDepth 40000 in
set_option maxHeartbeats 8000000 in
theorem p_L_law_L1008 {G : xG} {d : Nat} {n t : Nat} (hn : 102 ≤ n) (hd : 289 ≤ d) {K1534 : Int32 → xI → Option (Int32 × xI)} (hK1534 : ∀ (v3 : Int32) (w : xI), xC G (yL_law, cLw, 4, some FieldType.boolean) d 1534 [(0, .ref 2000000), (1, .ref 0), (2, .ref 71), (3, .int v3)] [] (xFin n t) w cvI (xFin n t) (K1534 v3 w)) (v3 : Int32) (w : xI) : xC G (yL_law, cLw, 4, some FieldType.boolean) d 1008 [(0, .ref 2000000), (1, .ref 0), (2, .ref 71), (3, .int v3)] [] (xFin n t) w cvI (xFin n t) (f_L_law_L1008 G.2.2.2.2.2.2.2.1 G.2.2.2.2.2.2.2.2 K1534 v3 w) := by
  unfold f_L_law_L1008
  refine y_aload_n dLw_1008 rfl 1 rfl ?_
  refine y_aload_n dLw_1009 rfl 0 rfl ?_
  refine y_iload_n dLw_1010 rfl 3 rfl ?_
  refine y_iconst (v := 1) dLw_1011 (by decide) ?_
  refine y_iadd dLw_1012 ?_
  refine y_sld dLw_1013 ?_
  refine y_callV (As := [.int (G.2.2.2.2.2.2.2.2 (v3 + (1 : Int32)).toNatClampNeg)]) (d2 := d - 1) dLw_1014 kL_116 (by omega) rfl rfl (Nat.le_of_ble_eq_true rfl) (xlt rfl hn) rfl rfl (p_X10_gain (Nat.le_trans (by decide) hn) (by omega)  _ _) (fun r1008001 w1008002 _ => ?_)
  refine y_aload_n dLw_1017 rfl 2 rfl ?_
  refine y_aload_n dLw_1018 rfl 0 rfl ?_
  refine y_iload_n dLw_1019 rfl 3 rfl ?_
  refine y_iconst (v := 1) dLw_1020 (by decide) ?_
  refine y_iadd dLw_1021 ?_
  refine y_sld dLw_1022 ?_
  refine y_callV (As := [.int (G.2.2.2.2.2.2.2.2 (v3 + (1 : Int32)).toNatClampNeg)]) (d2 := d - 1) dLw_1023 kL_119 (by omega) rfl rfl (Nat.le_of_ble_eq_true rfl) (xlt rfl hn) rfl rfl (p_X11_gain hn (by omega)  _ _) (fun r1008003 w1008004 _ => ?_)
  refine y_icmp_eq (tgt := 1534) dLw_1026 (by decide) ?_ ?_
  · exact hK1534 v3 w1008004 
  · refine y_iconst (v := 0) dLw_1029 (by decide) ?_
    exact y_ireturn dLw_1030 rfl rfl rfl
set_option maxRecDepth 40000 in
set_option maxHeartbeats 8000000 in
theorem p_L_law_L1031 {G : xG} {d : Nat} {n t : Nat} (hn : 102 ≤ n) (hd : 289 ≤ d) {K1534 : Int32 → xI → Option (Int32 × xI)} (hK1534 : ∀ (v3 : Int32) (w : xI), xC G (yL_law, cLw, 4, some FieldType.boolean) d 1534 [(0, .ref 2000000), (1, .ref 0), (2, .ref 71), (3, .int v3)] [] (xFin n t) w cvI (xFin n t) (K1534 v3 w)) (v3 : Int32) (w : xI) : xC G (yL_law, cLw, 4, some FieldType.boolean) d 1031 [(0, .ref 2000000), (1, .ref 0), (2, .ref 71), (3, .int v3)] [] (xFin n t) w cvI (xFin n t) (f_L_law_L1031 G.2.2.2.2.2.2.2.1 G.2.2.2.2.2.2.2.2 K1534 v3 w) := by
  unfold f_L_law_L1031
  refine y_aload_n dLw_1031 rfl 1 rfl ?_
  refine y_aload_n dLw_1032 rfl 0 rfl ?_
  refine y_iload_n dLw_1033 rfl 3 rfl ?_
  refine y_iconst (v := 1) dLw_1034 (by decide) ?_
  refine y_iadd dLw_1035 ?_
  refine y_sld dLw_1036 ?_
  refine y_aload_n dLw_1037 rfl 0 rfl ?_
  refine y_iload_n dLw_1038 rfl 3 rfl ?_
  refine y_iconst (v := 2) dLw_1039 (by decide) ?_
  refine y_iadd dLw_1040 ?_
  refine y_sld dLw_1041 ?_
  refine y_callV (As := [.int (G.2.2.2.2.2.2.2.2 (v3 + (1 : Int32)).toNatClampNeg), .int (G.2.2.2.2.2.2.2.2 (v3 + (2 : Int32)).toNatClampNeg)]) (d2 := d - 1) dLw_1042 kL_120 (by omega) rfl rfl (Nat.le_of_ble_eq_true rfl) (xlt rfl hn) rfl rfl (p_X10_bring (Nat.le_trans (by decide) hn) (by omega)  _ _ _) (fun r1031001 w1031002 _ => ?_)
  refine y_aload_n dLw_1045 rfl 2 rfl ?_
  refine y_aload_n dLw_1046 rfl 0 rfl ?_
  refine y_iload_n dLw_1047 rfl 3 rfl ?_
  refine y_iconst (v := 1) dLw_1048 (by decide) ?_
  refine y_iadd dLw_1049 ?_
  refine y_sld dLw_1050 ?_
  refine y_aload_n dLw_1051 rfl 0 rfl ?_
  refine y_iload_n dLw_1052 rfl 3 rfl ?_
  refine y_iconst (v := 2) dLw_1053 (by decide) ?_
  refine y_iadd dLw_1054 ?_
  refine y_sld dLw_1055 ?_
  refine y_callV (As := [.int (G.2.2.2.2.2.2.2.2 (v3 + (1 : Int32)).toNatClampNeg), .int (G.2.2.2.2.2.2.2.2 (v3 + (2 : Int32)).toNatClampNeg)]) (d2 := d - 1) dLw_1056 kL_123 (by omega) rfl rfl (Nat.le_of_ble_eq_true rfl) (xlt rfl hn) rfl rfl (p_X11_bring hn (by omega)  _ _ _) (fun r1031003 w1031004 _ => ?_)
  refine y_icmp_eq (tgt := 1534) dLw_1059 (by decide) ?_ ?_
  · exact hK1534 v3 w1031004 
  · refine y_iconst (v := 0) dLw_1062 (by decide) ?_
    exact y_ireturn dLw_1063 rfl rfl rfl
set_option maxRecDepth 40000 in
set_option maxHeartbeats 8000000 in
theorem p_L_law_L1064 {G : xG} {d : Nat} {n t : Nat} (hn : 102 ≤ n) (hd : 289 ≤ d) {K1534 : Int32 → xI → Option (Int32 × xI)} (hK1534 : ∀ (v3 : Int32) (w : xI), xC G (yL_law, cLw, 4, some FieldType.boolean) d 1534 [(0, .ref 2000000), (1, .ref 0), (2, .ref 71), (3, .int v3)] [] (xFin n t) w cvI (xFin n t) (K1534 v3 w)) (v3 : Int32) (w : xI) : xC G (yL_law, cLw, 4, some FieldType.boolean) d 1064 [(0, .ref 2000000), (1, .ref 0), (2, .ref 71), (3, .int v3)] [] (xFin n t) w cvI (xFin n t) (f_L_law_L1064 G.2.2.2.2.2.2.2.1 G.2.2.2.2.2.2.2.2 K1534 v3 w) := by
  unfold f_L_law_L1064
  refine y_aload_n dLw_1064 rfl 1 rfl ?_
  refine y_aload_n dLw_1065 rfl 0 rfl ?_
  refine y_iload_n dLw_1066 rfl 3 rfl ?_
  refine y_iconst (v := 1) dLw_1067 (by decide) ?_
  refine y_iadd dLw_1068 ?_
  refine y_sld dLw_1069 ?_
  refine y_callV (As := [.int (G.2.2.2.2.2.2.2.2 (v3 + (1 : Int32)).toNatClampNeg)]) (d2 := d - 1) dLw_1070 kL_124 (by omega) rfl rfl (Nat.le_of_ble_eq_true rfl) (xlt rfl hn) rfl rfl (p_X10_judge (Nat.le_trans (by decide) hn) (by omega)  _ _) (fun r1064001 w1064002 _ => ?_)
  refine y_aload_n dLw_1073 rfl 2 rfl ?_
  refine y_aload_n dLw_1074 rfl 0 rfl ?_
  refine y_iload_n dLw_1075 rfl 3 rfl ?_
  refine y_iconst (v := 1) dLw_1076 (by decide) ?_
  refine y_iadd dLw_1077 ?_
  refine y_sld dLw_1078 ?_
  refine y_callV (As := [.int (G.2.2.2.2.2.2.2.2 (v3 + (1 : Int32)).toNatClampNeg)]) (d2 := d - 1) dLw_1079 kL_127 (by omega) rfl rfl (Nat.le_of_ble_eq_true rfl) (xlt rfl hn) rfl rfl (p_X11_judge hn (by omega)  _ _) (fun r1064003 w1064004 _ => ?_)
  refine y_icmp_eq (tgt := 1534) dLw_1082 (by decide) ?_ ?_
  · exact hK1534 v3 w1064004 
  · refine y_iconst (v := 0) dLw_1085 (by decide) ?_
    exact y_ireturn dLw_1086 rfl rfl rfl
set_option maxRecDepth 40000 in
set_option maxHeartbeats 8000000 in
theorem p_L_law_L1087 {G : xG} {d : Nat} {n t : Nat} (hn : 102 ≤ n) (hd : 289 ≤ d) {K1534 : Int32 → xI → Option (Int32 × xI)} (hK1534 : ∀ (v3 : Int32) (w : xI), xC G (yL_law, cLw, 4, some FieldType.boolean) d 1534 [(0, .ref 2000000), (1, .ref 0), (2, .ref 71), (3, .int v3)] [] (xFin n t) w cvI (xFin n t) (K1534 v3 w)) (v3 : Int32) (w : xI) : xC G (yL_law, cLw, 4, some FieldType.boolean) d 1087 [(0, .ref 2000000), (1, .ref 0), (2, .ref 71), (3, .int v3)] [] (xFin n t) w cvI (xFin n t) (f_L_law_L1087 G.2.2.2.2.2.2.2.1 G.2.2.2.2.2.2.2.2 K1534 v3 w) := by
  unfold f_L_law_L1087
  refine y_aload_n dLw_1087 rfl 1 rfl ?_
  refine y_aload_n dLw_1088 rfl 0 rfl ?_
  refine y_iload_n dLw_1089 rfl 3 rfl ?_
  refine y_iconst (v := 1) dLw_1090 (by decide) ?_
  refine y_iadd dLw_1091 ?_
  refine y_sld dLw_1092 ?_
  refine y_callV (As := [.int (G.2.2.2.2.2.2.2.2 (v3 + (1 : Int32)).toNatClampNeg)]) (d2 := d - 1) dLw_1093 kL_128 (by omega) rfl rfl (Nat.le_of_ble_eq_true rfl) (xlt rfl hn) rfl rfl (p_X10_laws (Nat.le_trans (by decide) hn) (by omega)  _ _) (fun r1087001 w1087002 _ => ?_)
  refine y_aload_n dLw_1096 rfl 2 rfl ?_
  refine y_aload_n dLw_1097 rfl 0 rfl ?_
  refine y_iload_n dLw_1098 rfl 3 rfl ?_
  refine y_iconst (v := 1) dLw_1099 (by decide) ?_
  refine y_iadd dLw_1100 ?_
  refine y_sld dLw_1101 ?_
  refine y_callV (As := [.int (G.2.2.2.2.2.2.2.2 (v3 + (1 : Int32)).toNatClampNeg)]) (d2 := d - 1) dLw_1102 kL_131 (by omega) rfl rfl (Nat.le_of_ble_eq_true rfl) (xlt rfl hn) rfl rfl (p_X11_laws hn (by omega)  _ _) (fun r1087003 w1087004 _ => ?_)
  refine y_icmp_eq (tgt := 1534) dLw_1105 (by decide) ?_ ?_
  · exact hK1534 v3 w1087004 
  · refine y_iconst (v := 0) dLw_1108 (by decide) ?_
    exact y_ireturn dLw_1109 rfl rfl rfl
set_option maxRecDepth 40000 in
set_option maxHeartbeats 8000000 in
theorem p_L_law_L1110 {G : xG} {d : Nat} {n t : Nat} (hn : 102 ≤ n) (hd : 289 ≤ d) {K1534 : Int32 → xI → Option (Int32 × xI)} (hK1534 : ∀ (v3 : Int32) (w : xI), xC G (yL_law, cLw, 4, some FieldType.boolean) d 1534 [(0, .ref 2000000), (1, .ref 0), (2, .ref 71), (3, .int v3)] [] (xFin n t) w cvI (xFin n t) (K1534 v3 w)) (v3 : Int32) (w : xI) : xC G (yL_law, cLw, 4, some FieldType.boolean) d 1110 [(0, .ref 2000000), (1, .ref 0), (2, .ref 71), (3, .int v3)] [] (xFin n t) w cvI (xFin n t) (f_L_law_L1110 G.2.2.2.2.2.2.2.1 G.2.2.2.2.2.2.2.2 K1534 v3 w) := by
  unfold f_L_law_L1110
  refine y_aload_n dLw_1110 rfl 1 rfl ?_
  refine y_aload_n dLw_1111 rfl 0 rfl ?_
  refine y_iload_n dLw_1112 rfl 3 rfl ?_
  refine y_iconst (v := 1) dLw_1113 (by decide) ?_
  refine y_iadd dLw_1114 ?_
  refine y_sld dLw_1115 ?_
  refine y_callV (As := [.int (G.2.2.2.2.2.2.2.2 (v3 + (1 : Int32)).toNatClampNeg)]) (d2 := d - 1) dLw_1116 kL_132 (by omega) rfl rfl (Nat.le_of_ble_eq_true rfl) (xlt rfl hn) rfl rfl (p_X10_film (Nat.le_trans (by decide) hn) (by omega)  _ _) (fun r1110001 w1110002 _ => ?_)
  refine y_aload_n dLw_1119 rfl 2 rfl ?_
  refine y_aload_n dLw_1120 rfl 0 rfl ?_
  refine y_iload_n dLw_1121 rfl 3 rfl ?_
  refine y_iconst (v := 1) dLw_1122 (by decide) ?_
  refine y_iadd dLw_1123 ?_
  refine y_sld dLw_1124 ?_
  refine y_callV (As := [.int (G.2.2.2.2.2.2.2.2 (v3 + (1 : Int32)).toNatClampNeg)]) (d2 := d - 1) dLw_1125 kL_135 (by omega) rfl rfl (Nat.le_of_ble_eq_true rfl) (xlt rfl hn) rfl rfl (p_X11_film hn (by omega)  _ _) (fun r1110003 w1110004 _ => ?_)
  refine y_icmp_eq (tgt := 1534) dLw_1128 (by decide) ?_ ?_
  · exact hK1534 v3 w1110004 
  · refine y_iconst (v := 0) dLw_1131 (by decide) ?_
    exact y_ireturn dLw_1132 rfl rfl rfl
set_option maxRecDepth 40000 in
set_option maxHeartbeats 8000000 in
theorem p_L_law_L1133 {G : xG} {d : Nat} {n t : Nat} (hn : 102 ≤ n) (hd : 289 ≤ d) {K1534 : Int32 → xI → Option (Int32 × xI)} (hK1534 : ∀ (v3 : Int32) (w : xI), xC G (yL_law, cLw, 4, some FieldType.boolean) d 1534 [(0, .ref 2000000), (1, .ref 0), (2, .ref 71), (3, .int v3)] [] (xFin n t) w cvI (xFin n t) (K1534 v3 w)) (v3 : Int32) (w : xI) : xC G (yL_law, cLw, 4, some FieldType.boolean) d 1133 [(0, .ref 2000000), (1, .ref 0), (2, .ref 71), (3, .int v3)] [] (xFin n t) w cvI (xFin n t) (f_L_law_L1133 G.2.2.2.2.2.2.2.1 G.2.2.2.2.2.2.2.2 K1534 v3 w) := by
  unfold f_L_law_L1133
  refine y_aload_n dLw_1133 rfl 1 rfl ?_
  refine y_aload_n dLw_1134 rfl 0 rfl ?_
  refine y_iload_n dLw_1135 rfl 3 rfl ?_
  refine y_iconst (v := 1) dLw_1136 (by decide) ?_
  refine y_iadd dLw_1137 ?_
  refine y_sld dLw_1138 ?_
  refine y_aload_n dLw_1139 rfl 0 rfl ?_
  refine y_iload_n dLw_1140 rfl 3 rfl ?_
  refine y_iconst (v := 2) dLw_1141 (by decide) ?_
  refine y_iadd dLw_1142 ?_
  refine y_sld dLw_1143 ?_
  refine y_aload_n dLw_1144 rfl 0 rfl ?_
  refine y_iload_n dLw_1145 rfl 3 rfl ?_
  refine y_iconst (v := 3) dLw_1146 (by decide) ?_
  refine y_iadd dLw_1147 ?_
  refine y_sld dLw_1148 ?_
  refine y_aload_n dLw_1149 rfl 0 rfl ?_
  refine y_iload_n dLw_1150 rfl 3 rfl ?_
  refine y_iconst (v := 4) dLw_1151 (by decide) ?_
  refine y_iadd dLw_1152 ?_
  refine y_sld dLw_1153 ?_
  refine y_callV (As := [.int (G.2.2.2.2.2.2.2.2 (v3 + (1 : Int32)).toNatClampNeg), .int (G.2.2.2.2.2.2.2.2 (v3 + (2 : Int32)).toNatClampNeg), .int (G.2.2.2.2.2.2.2.2 (v3 + (3 : Int32)).toNatClampNeg), .int (G.2.2.2.2.2.2.2.2 (v3 + (4 : Int32)).toNatClampNeg)]) (d2 := d - 1) dLw_1154 kL_136 (by omega) rfl rfl (Nat.le_of_ble_eq_true rfl) (xlt rfl hn) rfl rfl (p_X10_lost (Nat.le_trans (by decide) hn) (by omega)  _ _ _ _ _) (fun r1133001 w1133002 _ => ?_)
  refine y_aload_n dLw_1157 rfl 2 rfl ?_
  refine y_aload_n dLw_1158 rfl 0 rfl ?_
  refine y_iload_n dLw_1159 rfl 3 rfl ?_
  refine y_iconst (v := 1) dLw_1160 (by decide) ?_
  refine y_iadd dLw_1161 ?_
  refine y_sld dLw_1162 ?_
  refine y_aload_n dLw_1163 rfl 0 rfl ?_
  refine y_iload_n dLw_1164 rfl 3 rfl ?_
  refine y_iconst (v := 2) dLw_1165 (by decide) ?_
  refine y_iadd dLw_1166 ?_
  refine y_sld dLw_1167 ?_
  refine y_aload_n dLw_1168 rfl 0 rfl ?_
  refine y_iload_n dLw_1169 rfl 3 rfl ?_
  refine y_iconst (v := 3) dLw_1170 (by decide) ?_
  refine y_iadd dLw_1171 ?_
  refine y_sld dLw_1172 ?_
  refine y_aload_n dLw_1173 rfl 0 rfl ?_
  refine y_iload_n dLw_1174 rfl 3 rfl ?_
  refine y_iconst (v := 4) dLw_1175 (by decide) ?_
  refine y_iadd dLw_1176 ?_
  refine y_sld dLw_1177 ?_
  refine y_callV (As := [.int (G.2.2.2.2.2.2.2.2 (v3 + (1 : Int32)).toNatClampNeg), .int (G.2.2.2.2.2.2.2.2 (v3 + (2 : Int32)).toNatClampNeg), .int (G.2.2.2.2.2.2.2.2 (v3 + (3 : Int32)).toNatClampNeg), .int (G.2.2.2.2.2.2.2.2 (v3 + (4 : Int32)).toNatClampNeg)]) (d2 := d - 1) dLw_1178 kL_139 (by omega) rfl rfl (Nat.le_of_ble_eq_true rfl) (xlt rfl hn) rfl rfl (p_X11_lost hn (by omega)  _ _ _ _ _) (fun r1133003 w1133004 _ => ?_)
  refine y_icmp_eq (tgt := 1534) dLw_1181 (by decide) ?_ ?_
  · exact hK1534 v3 w1133004 
  · refine y_iconst (v := 0) dLw_1184 (by decide) ?_
    exact y_ireturn dLw_1185 rfl rfl rfl
set_option maxRecDepth 40000 in
set_option maxHeartbeats 8000000 in
theorem p_L_law_L1186 {G : xG} {d : Nat} {n t : Nat} (hn : 102 ≤ n) (hd : 289 ≤ d) {K1534 : Int32 → xI → Option (Int32 × xI)} (hK1534 : ∀ (v3 : Int32) (w : xI), xC G (yL_law, cLw, 4, some FieldType.boolean) d 1534 [(0, .ref 2000000), (1, .ref 0), (2, .ref 71), (3, .int v3)] [] (xFin n t) w cvI (xFin n t) (K1534 v3 w)) (v3 : Int32) (w : xI) : xC G (yL_law, cLw, 4, some FieldType.boolean) d 1186 [(0, .ref 2000000), (1, .ref 0), (2, .ref 71), (3, .int v3)] [] (xFin n t) w cvI (xFin n t) (f_L_law_L1186 G.2.2.2.2.2.2.2.1 G.2.2.2.2.2.2.2.2 K1534 v3 w) := by
  unfold f_L_law_L1186
  refine y_aload_n dLw_1186 rfl 1 rfl ?_
  refine y_aload_n dLw_1187 rfl 0 rfl ?_
  refine y_iload_n dLw_1188 rfl 3 rfl ?_
  refine y_iconst (v := 1) dLw_1189 (by decide) ?_
  refine y_iadd dLw_1190 ?_
  refine y_sld dLw_1191 ?_
  refine y_aload_n dLw_1192 rfl 0 rfl ?_
  refine y_iload_n dLw_1193 rfl 3 rfl ?_
  refine y_iconst (v := 2) dLw_1194 (by decide) ?_
  refine y_iadd dLw_1195 ?_
  refine y_sld dLw_1196 ?_
  refine y_callV (As := [.int (G.2.2.2.2.2.2.2.2 (v3 + (1 : Int32)).toNatClampNeg), .int (G.2.2.2.2.2.2.2.2 (v3 + (2 : Int32)).toNatClampNeg)]) (d2 := d - 1) dLw_1197 kL_140 (by omega) rfl rfl (Nat.le_of_ble_eq_true rfl) (xlt rfl hn) rfl rfl (p_X10_drawn (Nat.le_trans (by decide) hn) (by omega)  _ _ _) (fun r1186001 w1186002 _ => ?_)
  refine y_aload_n dLw_1200 rfl 2 rfl ?_
  refine y_aload_n dLw_1201 rfl 0 rfl ?_
  refine y_iload_n dLw_1202 rfl 3 rfl ?_
  refine y_iconst (v := 1) dLw_1203 (by decide) ?_
  refine y_iadd dLw_1204 ?_
  refine y_sld dLw_1205 ?_
  refine y_aload_n dLw_1206 rfl 0 rfl ?_
  refine y_iload_n dLw_1207 rfl 3 rfl ?_
  refine y_iconst (v := 2) dLw_1208 (by decide) ?_
  refine y_iadd dLw_1209 ?_
  refine y_sld dLw_1210 ?_
  refine y_callV (As := [.int (G.2.2.2.2.2.2.2.2 (v3 + (1 : Int32)).toNatClampNeg), .int (G.2.2.2.2.2.2.2.2 (v3 + (2 : Int32)).toNatClampNeg)]) (d2 := d - 1) dLw_1211 kL_143 (by omega) rfl rfl (Nat.le_of_ble_eq_true rfl) (xlt rfl hn) rfl rfl (p_X11_drawn hn (by omega)  _ _ _) (fun r1186003 w1186004 _ => ?_)
  refine y_icmp_eq (tgt := 1534) dLw_1214 (by decide) ?_ ?_
  · exact hK1534 v3 w1186004 
  · refine y_iconst (v := 0) dLw_1217 (by decide) ?_
    exact y_ireturn dLw_1218 rfl rfl rfl
set_option maxRecDepth 40000 in
set_option maxHeartbeats 8000000 in
theorem p_L_law_L1219 {G : xG} {d : Nat} {n t : Nat} (hn : 102 ≤ n) (hd : 289 ≤ d) {K1534 : Int32 → xI → Option (Int32 × xI)} (hK1534 : ∀ (v3 : Int32) (w : xI), xC G (yL_law, cLw, 4, some FieldType.boolean) d 1534 [(0, .ref 2000000), (1, .ref 0), (2, .ref 71), (3, .int v3)] [] (xFin n t) w cvI (xFin n t) (K1534 v3 w)) (v3 : Int32) (w : xI) : xC G (yL_law, cLw, 4, some FieldType.boolean) d 1219 [(0, .ref 2000000), (1, .ref 0), (2, .ref 71), (3, .int v3)] [] (xFin n t) w cvI (xFin n t) (f_L_law_L1219 G.2.2.2.2.2.2.2.1 G.2.2.2.2.2.2.2.2 K1534 v3 w) := by
  unfold f_L_law_L1219
  refine y_aload_n dLw_1219 rfl 1 rfl ?_
  refine y_aload_n dLw_1220 rfl 0 rfl ?_
  refine y_iload_n dLw_1221 rfl 3 rfl ?_
  refine y_iconst (v := 1) dLw_1222 (by decide) ?_
  refine y_iadd dLw_1223 ?_
  refine y_sld dLw_1224 ?_
  refine y_aload_n dLw_1225 rfl 0 rfl ?_
  refine y_iload_n dLw_1226 rfl 3 rfl ?_
  refine y_iconst (v := 2) dLw_1227 (by decide) ?_
  refine y_iadd dLw_1228 ?_
  refine y_sld dLw_1229 ?_
  refine y_aload_n dLw_1230 rfl 0 rfl ?_
  refine y_iload_n dLw_1231 rfl 3 rfl ?_
  refine y_iconst (v := 3) dLw_1232 (by decide) ?_
  refine y_iadd dLw_1233 ?_
  refine y_sld dLw_1234 ?_
  refine y_aload_n dLw_1235 rfl 0 rfl ?_
  refine y_iload_n dLw_1236 rfl 3 rfl ?_
  refine y_iconst (v := 4) dLw_1237 (by decide) ?_
  refine y_iadd dLw_1238 ?_
  refine y_sld dLw_1239 ?_
  refine y_callV (As := [.int (G.2.2.2.2.2.2.2.2 (v3 + (1 : Int32)).toNatClampNeg), .int (G.2.2.2.2.2.2.2.2 (v3 + (2 : Int32)).toNatClampNeg), .int (G.2.2.2.2.2.2.2.2 (v3 + (3 : Int32)).toNatClampNeg), .int (G.2.2.2.2.2.2.2.2 (v3 + (4 : Int32)).toNatClampNeg)]) (d2 := d - 1) dLw_1240 kL_144 (by omega) rfl rfl (Nat.le_of_ble_eq_true rfl) (xlt rfl hn) rfl rfl (p_X10_odds (Nat.le_trans (by decide) hn) (by omega)  _ _ _ _ _) (fun r1219001 w1219002 _ => ?_)
  refine y_aload_n dLw_1243 rfl 2 rfl ?_
  refine y_aload_n dLw_1244 rfl 0 rfl ?_
  refine y_iload_n dLw_1245 rfl 3 rfl ?_
  refine y_iconst (v := 1) dLw_1246 (by decide) ?_
  refine y_iadd dLw_1247 ?_
  refine y_sld dLw_1248 ?_
  refine y_aload_n dLw_1249 rfl 0 rfl ?_
  refine y_iload_n dLw_1250 rfl 3 rfl ?_
  refine y_iconst (v := 2) dLw_1251 (by decide) ?_
  refine y_iadd dLw_1252 ?_
  refine y_sld dLw_1253 ?_
  refine y_aload_n dLw_1254 rfl 0 rfl ?_
  refine y_iload_n dLw_1255 rfl 3 rfl ?_
  refine y_iconst (v := 3) dLw_1256 (by decide) ?_
  refine y_iadd dLw_1257 ?_
  refine y_sld dLw_1258 ?_
  refine y_aload_n dLw_1259 rfl 0 rfl ?_
  refine y_iload_n dLw_1260 rfl 3 rfl ?_
  refine y_iconst (v := 4) dLw_1261 (by decide) ?_
  refine y_iadd dLw_1262 ?_
  refine y_sld dLw_1263 ?_
  refine y_callV (As := [.int (G.2.2.2.2.2.2.2.2 (v3 + (1 : Int32)).toNatClampNeg), .int (G.2.2.2.2.2.2.2.2 (v3 + (2 : Int32)).toNatClampNeg), .int (G.2.2.2.2.2.2.2.2 (v3 + (3 : Int32)).toNatClampNeg), .int (G.2.2.2.2.2.2.2.2 (v3 + (4 : Int32)).toNatClampNeg)]) (d2 := d - 1) dLw_1264 kL_148 (by omega) rfl rfl (Nat.le_of_ble_eq_true rfl) (xlt rfl hn) rfl rfl (p_X11_odds hn (by omega)  _ _ _ _ _) (fun r1219003 w1219004 _ => ?_)
  refine y_lcmp dLw_1267 ?_
  refine y_if_eq (tgt := 1534) dLw_1268 (by decide) ?_ ?_
  · exact hK1534 v3 w1219004 
  · refine y_iconst (v := 0) dLw_1271 (by decide) ?_
    exact y_ireturn dLw_1272 rfl rfl rfl
set_option maxRecDepth 40000 in
set_option maxHeartbeats 8000000 in
theorem p_L_law_L1273 {G : xG} {d : Nat} {n t : Nat} (hn : 102 ≤ n) (hd : 289 ≤ d) {K1534 : Int32 → xI → Option (Int32 × xI)} (hK1534 : ∀ (v3 : Int32) (w : xI), xC G (yL_law, cLw, 4, some FieldType.boolean) d 1534 [(0, .ref 2000000), (1, .ref 0), (2, .ref 71), (3, .int v3)] [] (xFin n t) w cvI (xFin n t) (K1534 v3 w)) (v3 : Int32) (w : xI) : xC G (yL_law, cLw, 4, some FieldType.boolean) d 1273 [(0, .ref 2000000), (1, .ref 0), (2, .ref 71), (3, .int v3)] [] (xFin n t) w cvI (xFin n t) (f_L_law_L1273 G.2.2.2.2.2.2.2.1 G.2.2.2.2.2.2.2.2 K1534 v3 w) := by
  unfold f_L_law_L1273
  refine y_aload_n dLw_1273 rfl 1 rfl ?_
  refine y_callV (As := []) (d2 := d - 1) dLw_1274 kL_149 (by omega) rfl rfl (Nat.le_of_ble_eq_true rfl) (xlt rfl hn) rfl rfl (p_X10_image (Nat.le_trans (by decide) hn) (by omega)   _) (fun r1273001 w1273002 _ => ?_)
  refine y_aload_n dLw_1277 rfl 2 rfl ?_
  refine y_callV (As := []) (d2 := d - 1) dLw_1278 kL_152 (by omega) rfl rfl (Nat.le_of_ble_eq_true rfl) (xlt rfl hn) rfl rfl (p_X11_image hn (by omega)   _) (fun r1273003 w1273004 _ => ?_)
  refine y_icmp_eq (tgt := 1534) dLw_1281 (by decide) ?_ ?_
  · exact hK1534 v3 w1273004 
  · refine y_iconst (v := 0) dLw_1284 (by decide) ?_
    exact y_ireturn dLw_1285 rfl rfl rfl
set_option maxRecDepth 40000 in
set_option maxHeartbeats 8000000 in
theorem p_L_law_L1286 {G : xG} {d : Nat} {n t : Nat} (hn : 102 ≤ n) (hd : 289 ≤ d) {K1534 : Int32 → xI → Option (Int32 × xI)} (hK1534 : ∀ (v3 : Int32) (w : xI), xC G (yL_law, cLw, 4, some FieldType.boolean) d 1534 [(0, .ref 2000000), (1, .ref 0), (2, .ref 71), (3, .int v3)] [] (xFin n t) w cvI (xFin n t) (K1534 v3 w)) (v3 : Int32) (w : xI) : xC G (yL_law, cLw, 4, some FieldType.boolean) d 1286 [(0, .ref 2000000), (1, .ref 0), (2, .ref 71), (3, .int v3)] [] (xFin n t) w cvI (xFin n t) (f_L_law_L1286 G.2.2.2.2.2.2.2.1 G.2.2.2.2.2.2.2.2 K1534 v3 w) := by
  unfold f_L_law_L1286
  refine y_aload_n dLw_1286 rfl 1 rfl ?_
  refine y_callV (As := []) (d2 := d - 1) dLw_1287 kL_153 (by omega) rfl rfl (Nat.le_of_ble_eq_true rfl) (xlt rfl hn) rfl rfl (p_X10_back (Nat.le_trans (by decide) hn) (by omega)   _) (fun r1286001 w1286002 _ => ?_)
  refine y_aload_n dLw_1290 rfl 2 rfl ?_
  refine y_callV (As := []) (d2 := d - 1) dLw_1291 kL_156 (by omega) rfl rfl (Nat.le_of_ble_eq_true rfl) (xlt rfl hn) rfl rfl (p_X11_back hn (by omega)   _) (fun r1286003 w1286004 _ => ?_)
  refine y_icmp_eq (tgt := 1534) dLw_1294 (by decide) ?_ ?_
  · exact hK1534 v3 w1286004 
  · refine y_iconst (v := 0) dLw_1297 (by decide) ?_
    exact y_ireturn dLw_1298 rfl rfl rfl
set_option maxRecDepth 40000 in
set_option maxHeartbeats 8000000 in
theorem p_L_law_L1299 {G : xG} {d : Nat} {n t : Nat} (hn : 102 ≤ n) (hd : 289 ≤ d) {K1534 : Int32 → xI → Option (Int32 × xI)} (hK1534 : ∀ (v3 : Int32) (w : xI), xC G (yL_law, cLw, 4, some FieldType.boolean) d 1534 [(0, .ref 2000000), (1, .ref 0), (2, .ref 71), (3, .int v3)] [] (xFin n t) w cvI (xFin n t) (K1534 v3 w)) (v3 : Int32) (w : xI) : xC G (yL_law, cLw, 4, some FieldType.boolean) d 1299 [(0, .ref 2000000), (1, .ref 0), (2, .ref 71), (3, .int v3)] [] (xFin n t) w cvI (xFin n t) (f_L_law_L1299 G.2.2.2.2.2.2.2.1 G.2.2.2.2.2.2.2.2 K1534 v3 w) := by
  unfold f_L_law_L1299
  refine y_aload_n dLw_1299 rfl 1 rfl ?_
  refine y_aload_n dLw_1300 rfl 0 rfl ?_
  refine y_iload_n dLw_1301 rfl 3 rfl ?_
  refine y_iconst (v := 1) dLw_1302 (by decide) ?_
  refine y_iadd dLw_1303 ?_
  refine y_sld dLw_1304 ?_
  refine y_aload_n dLw_1305 rfl 0 rfl ?_
  refine y_iload_n dLw_1306 rfl 3 rfl ?_
  refine y_iconst (v := 2) dLw_1307 (by decide) ?_
  refine y_iadd dLw_1308 ?_
  refine y_sld dLw_1309 ?_
  refine y_aload_n dLw_1310 rfl 0 rfl ?_
  refine y_iload_n dLw_1311 rfl 3 rfl ?_
  refine y_iconst (v := 3) dLw_1312 (by decide) ?_
  refine y_iadd dLw_1313 ?_
  refine y_sld dLw_1314 ?_
  refine y_callV (As := [.int (G.2.2.2.2.2.2.2.2 (v3 + (1 : Int32)).toNatClampNeg), .int (G.2.2.2.2.2.2.2.2 (v3 + (2 : Int32)).toNatClampNeg), .int (G.2.2.2.2.2.2.2.2 (v3 + (3 : Int32)).toNatClampNeg)]) (d2 := d - 1) dLw_1315 kL_157 (by omega) rfl rfl (Nat.le_of_ble_eq_true rfl) (xlt rfl hn) rfl rfl (p_X10_sheet (Nat.le_trans (by decide) hn) (by omega)  _ _ _ _) (fun r1299001 w1299002 _ => ?_)
  refine y_aload_n dLw_1318 rfl 2 rfl ?_
  refine y_aload_n dLw_1319 rfl 0 rfl ?_
  refine y_iload_n dLw_1320 rfl 3 rfl ?_
  refine y_iconst (v := 1) dLw_1321 (by decide) ?_
  refine y_iadd dLw_1322 ?_
  refine y_sld dLw_1323 ?_
  refine y_aload_n dLw_1324 rfl 0 rfl ?_
  refine y_iload_n dLw_1325 rfl 3 rfl ?_
  refine y_iconst (v := 2) dLw_1326 (by decide) ?_
  refine y_iadd dLw_1327 ?_
  refine y_sld dLw_1328 ?_
  refine y_aload_n dLw_1329 rfl 0 rfl ?_
  refine y_iload_n dLw_1330 rfl 3 rfl ?_
  refine y_iconst (v := 3) dLw_1331 (by decide) ?_
  refine y_iadd dLw_1332 ?_
  refine y_sld dLw_1333 ?_
  refine y_callV (As := [.int (G.2.2.2.2.2.2.2.2 (v3 + (1 : Int32)).toNatClampNeg), .int (G.2.2.2.2.2.2.2.2 (v3 + (2 : Int32)).toNatClampNeg), .int (G.2.2.2.2.2.2.2.2 (v3 + (3 : Int32)).toNatClampNeg)]) (d2 := d - 1) dLw_1334 kL_160 (by omega) rfl rfl (Nat.le_of_ble_eq_true rfl) (xlt rfl hn) rfl rfl (p_X11_sheet hn (by omega)  _ _ _ _) (fun r1299003 w1299004 _ => ?_)
  refine y_icmp_eq (tgt := 1534) dLw_1337 (by decide) ?_ ?_
  · exact hK1534 v3 w1299004 
  · refine y_iconst (v := 0) dLw_1340 (by decide) ?_
    exact y_ireturn dLw_1341 rfl rfl rfl
set_option maxRecDepth 40000 in
set_option maxHeartbeats 8000000 in
theorem p_L_law_L1342 {G : xG} {d : Nat} {n t : Nat} (hn : 102 ≤ n) (hd : 289 ≤ d) {K1534 : Int32 → xI → Option (Int32 × xI)} (hK1534 : ∀ (v3 : Int32) (w : xI), xC G (yL_law, cLw, 4, some FieldType.boolean) d 1534 [(0, .ref 2000000), (1, .ref 0), (2, .ref 71), (3, .int v3)] [] (xFin n t) w cvI (xFin n t) (K1534 v3 w)) (v3 : Int32) (w : xI) : xC G (yL_law, cLw, 4, some FieldType.boolean) d 1342 [(0, .ref 2000000), (1, .ref 0), (2, .ref 71), (3, .int v3)] [] (xFin n t) w cvI (xFin n t) (f_L_law_L1342 G.2.2.2.2.2.2.2.1 G.2.2.2.2.2.2.2.2 K1534 v3 w) := by
  unfold f_L_law_L1342
  refine y_aload_n dLw_1342 rfl 1 rfl ?_
  refine y_aload_n dLw_1343 rfl 0 rfl ?_
  refine y_iload_n dLw_1344 rfl 3 rfl ?_
  refine y_iconst (v := 1) dLw_1345 (by decide) ?_
  refine y_iadd dLw_1346 ?_
  refine y_sld dLw_1347 ?_
  refine y_aload_n dLw_1348 rfl 0 rfl ?_
  refine y_iload_n dLw_1349 rfl 3 rfl ?_
  refine y_iconst (v := 2) dLw_1350 (by decide) ?_
  refine y_iadd dLw_1351 ?_
  refine y_sld dLw_1352 ?_
  refine y_aload_n dLw_1353 rfl 0 rfl ?_
  refine y_iload_n dLw_1354 rfl 3 rfl ?_
  refine y_iconst (v := 3) dLw_1355 (by decide) ?_
  refine y_iadd dLw_1356 ?_
  refine y_sld dLw_1357 ?_
  refine y_callV (As := [.int (G.2.2.2.2.2.2.2.2 (v3 + (1 : Int32)).toNatClampNeg), .int (G.2.2.2.2.2.2.2.2 (v3 + (2 : Int32)).toNatClampNeg), .int (G.2.2.2.2.2.2.2.2 (v3 + (3 : Int32)).toNatClampNeg)]) (d2 := d - 1) dLw_1358 kL_161 (by omega) rfl rfl (Nat.le_of_ble_eq_true rfl) (xlt rfl hn) rfl rfl (p_X10_cell (Nat.le_trans (by decide) hn) (by omega)  _ _ _ _) (fun r1342001 w1342002 _ => ?_)
  refine y_aload_n dLw_1361 rfl 2 rfl ?_
  refine y_aload_n dLw_1362 rfl 0 rfl ?_
  refine y_iload_n dLw_1363 rfl 3 rfl ?_
  refine y_iconst (v := 1) dLw_1364 (by decide) ?_
  refine y_iadd dLw_1365 ?_
  refine y_sld dLw_1366 ?_
  refine y_aload_n dLw_1367 rfl 0 rfl ?_
  refine y_iload_n dLw_1368 rfl 3 rfl ?_
  refine y_iconst (v := 2) dLw_1369 (by decide) ?_
  refine y_iadd dLw_1370 ?_
  refine y_sld dLw_1371 ?_
  refine y_aload_n dLw_1372 rfl 0 rfl ?_
  refine y_iload_n dLw_1373 rfl 3 rfl ?_
  refine y_iconst (v := 3) dLw_1374 (by decide) ?_
  refine y_iadd dLw_1375 ?_
  refine y_sld dLw_1376 ?_
  refine y_callV (As := [.int (G.2.2.2.2.2.2.2.2 (v3 + (1 : Int32)).toNatClampNeg), .int (G.2.2.2.2.2.2.2.2 (v3 + (2 : Int32)).toNatClampNeg), .int (G.2.2.2.2.2.2.2.2 (v3 + (3 : Int32)).toNatClampNeg)]) (d2 := d - 1) dLw_1377 kL_164 (by omega) rfl rfl (Nat.le_of_ble_eq_true rfl) (xlt rfl hn) rfl rfl (p_X11_cell hn (by omega)  _ _ _ _) (fun r1342003 w1342004 _ => ?_)
  refine y_icmp_eq (tgt := 1534) dLw_1380 (by decide) ?_ ?_
  · exact hK1534 v3 w1342004 
  · refine y_iconst (v := 0) dLw_1383 (by decide) ?_
    exact y_ireturn dLw_1384 rfl rfl rfl
set_option maxRecDepth 40000 in
set_option maxHeartbeats 8000000 in
theorem p_L_law_L1385 {G : xG} {d : Nat} {n t : Nat} (hn : 102 ≤ n) (hd : 289 ≤ d) {K1534 : Int32 → xI → Option (Int32 × xI)} (hK1534 : ∀ (v3 : Int32) (w : xI), xC G (yL_law, cLw, 4, some FieldType.boolean) d 1534 [(0, .ref 2000000), (1, .ref 0), (2, .ref 71), (3, .int v3)] [] (xFin n t) w cvI (xFin n t) (K1534 v3 w)) (v3 : Int32) (w : xI) : xC G (yL_law, cLw, 4, some FieldType.boolean) d 1385 [(0, .ref 2000000), (1, .ref 0), (2, .ref 71), (3, .int v3)] [] (xFin n t) w cvI (xFin n t) (f_L_law_L1385 G.2.2.2.2.2.2.2.1 G.2.2.2.2.2.2.2.2 K1534 v3 w) := by
  unfold f_L_law_L1385
  refine y_aload_n dLw_1385 rfl 1 rfl ?_
  refine y_aload_n dLw_1386 rfl 0 rfl ?_
  refine y_iload_n dLw_1387 rfl 3 rfl ?_
  refine y_iconst (v := 1) dLw_1388 (by decide) ?_
  refine y_iadd dLw_1389 ?_
  refine y_sld dLw_1390 ?_
  refine y_aload_n dLw_1391 rfl 0 rfl ?_
  refine y_iload_n dLw_1392 rfl 3 rfl ?_
  refine y_iconst (v := 2) dLw_1393 (by decide) ?_
  refine y_iadd dLw_1394 ?_
  refine y_sld dLw_1395 ?_
  refine y_aload_n dLw_1396 rfl 0 rfl ?_
  refine y_iload_n dLw_1397 rfl 3 rfl ?_
  refine y_iconst (v := 3) dLw_1398 (by decide) ?_
  refine y_iadd dLw_1399 ?_
  refine y_sld dLw_1400 ?_
  refine y_aload_n dLw_1401 rfl 0 rfl ?_
  refine y_iload_n dLw_1402 rfl 3 rfl ?_
  refine y_iconst (v := 4) dLw_1403 (by decide) ?_
  refine y_iadd dLw_1404 ?_
  refine y_sld dLw_1405 ?_
  refine y_aload_n dLw_1406 rfl 0 rfl ?_
  refine y_iload_n dLw_1407 rfl 3 rfl ?_
  refine y_iconst (v := 5) dLw_1408 (by decide) ?_
  refine y_iadd dLw_1409 ?_
  refine y_sld dLw_1410 ?_
  refine y_callV (As := [.int (G.2.2.2.2.2.2.2.2 (v3 + (1 : Int32)).toNatClampNeg), .int (G.2.2.2.2.2.2.2.2 (v3 + (2 : Int32)).toNatClampNeg), .int (G.2.2.2.2.2.2.2.2 (v3 + (3 : Int32)).toNatClampNeg), .int (G.2.2.2.2.2.2.2.2 (v3 + (4 : Int32)).toNatClampNeg), .int (G.2.2.2.2.2.2.2.2 (v3 + (5 : Int32)).toNatClampNeg)]) (d2 := d - 1) dLw_1411 kL_165 (by omega) rfl rfl (Nat.le_of_ble_eq_true rfl) (xlt rfl hn) rfl rfl (p_X10_copy (Nat.le_trans (by decide) hn) (by omega)  _ _ _ _ _ _) (fun r1385001 w1385002 _ => ?_)
  refine y_aload_n dLw_1414 rfl 2 rfl ?_
  refine y_aload_n dLw_1415 rfl 0 rfl ?_
  refine y_iload_n dLw_1416 rfl 3 rfl ?_
  refine y_iconst (v := 1) dLw_1417 (by decide) ?_
  refine y_iadd dLw_1418 ?_
  refine y_sld dLw_1419 ?_
  refine y_aload_n dLw_1420 rfl 0 rfl ?_
  refine y_iload_n dLw_1421 rfl 3 rfl ?_
  refine y_iconst (v := 2) dLw_1422 (by decide) ?_
  refine y_iadd dLw_1423 ?_
  refine y_sld dLw_1424 ?_
  refine y_aload_n dLw_1425 rfl 0 rfl ?_
  refine y_iload_n dLw_1426 rfl 3 rfl ?_
  refine y_iconst (v := 3) dLw_1427 (by decide) ?_
  refine y_iadd dLw_1428 ?_
  refine y_sld dLw_1429 ?_
  refine y_aload_n dLw_1430 rfl 0 rfl ?_
  refine y_iload_n dLw_1431 rfl 3 rfl ?_
  refine y_iconst (v := 4) dLw_1432 (by decide) ?_
  refine y_iadd dLw_1433 ?_
  refine y_sld dLw_1434 ?_
  refine y_aload_n dLw_1435 rfl 0 rfl ?_
  refine y_iload_n dLw_1436 rfl 3 rfl ?_
  refine y_iconst (v := 5) dLw_1437 (by decide) ?_
  refine y_iadd dLw_1438 ?_
  refine y_sld dLw_1439 ?_
  refine y_callV (As := [.int (G.2.2.2.2.2.2.2.2 (v3 + (1 : Int32)).toNatClampNeg), .int (G.2.2.2.2.2.2.2.2 (v3 + (2 : Int32)).toNatClampNeg), .int (G.2.2.2.2.2.2.2.2 (v3 + (3 : Int32)).toNatClampNeg), .int (G.2.2.2.2.2.2.2.2 (v3 + (4 : Int32)).toNatClampNeg), .int (G.2.2.2.2.2.2.2.2 (v3 + (5 : Int32)).toNatClampNeg)]) (d2 := d - 1) dLw_1440 kL_168 (by omega) rfl rfl (Nat.le_of_ble_eq_true rfl) (xlt rfl hn) rfl rfl (p_X11_copy hn (by omega)  _ _ _ _ _ _) (fun r1385003 w1385004 _ => ?_)
  refine y_icmp_eq (tgt := 1534) dLw_1443 (by decide) ?_ ?_
  · exact hK1534 v3 w1385004 
  · refine y_iconst (v := 0) dLw_1446 (by decide) ?_
    exact y_ireturn dLw_1447 rfl rfl rfl
set_option maxRecDepth 40000 in
set_option maxHeartbeats 8000000 in
theorem p_L_law_L1448 {G : xG} {d : Nat} {n t : Nat} (hn : 102 ≤ n) (hd : 289 ≤ d) {K1534 : Int32 → xI → Option (Int32 × xI)} (hK1534 : ∀ (v3 : Int32) (w : xI), xC G (yL_law, cLw, 4, some FieldType.boolean) d 1534 [(0, .ref 2000000), (1, .ref 0), (2, .ref 71), (3, .int v3)] [] (xFin n t) w cvI (xFin n t) (K1534 v3 w)) (v3 : Int32) (w : xI) : xC G (yL_law, cLw, 4, some FieldType.boolean) d 1448 [(0, .ref 2000000), (1, .ref 0), (2, .ref 71), (3, .int v3)] [] (xFin n t) w cvI (xFin n t) (f_L_law_L1448 G.2.2.2.2.2.2.2.1 G.2.2.2.2.2.2.2.2 K1534 v3 w) := by
  unfold f_L_law_L1448
  refine y_aload_n dLw_1448 rfl 1 rfl ?_
  refine y_aload_n dLw_1449 rfl 0 rfl ?_
  refine y_iload_n dLw_1450 rfl 3 rfl ?_
  refine y_iconst (v := 1) dLw_1451 (by decide) ?_
  refine y_iadd dLw_1452 ?_
  refine y_sld dLw_1453 ?_
  refine y_aload_n dLw_1454 rfl 0 rfl ?_
  refine y_iload_n dLw_1455 rfl 3 rfl ?_
  refine y_iconst (v := 2) dLw_1456 (by decide) ?_
  refine y_iadd dLw_1457 ?_
  refine y_sld dLw_1458 ?_
  refine y_aload_n dLw_1459 rfl 0 rfl ?_
  refine y_iload_n dLw_1460 rfl 3 rfl ?_
  refine y_iconst (v := 3) dLw_1461 (by decide) ?_
  refine y_iadd dLw_1462 ?_
  refine y_sld dLw_1463 ?_
  refine y_aload_n dLw_1464 rfl 0 rfl ?_
  refine y_iload_n dLw_1465 rfl 3 rfl ?_
  refine y_iconst (v := 4) dLw_1466 (by decide) ?_
  refine y_iadd dLw_1467 ?_
  refine y_sld dLw_1468 ?_
  refine y_callV (As := [.int (G.2.2.2.2.2.2.2.2 (v3 + (1 : Int32)).toNatClampNeg), .int (G.2.2.2.2.2.2.2.2 (v3 + (2 : Int32)).toNatClampNeg), .int (G.2.2.2.2.2.2.2.2 (v3 + (3 : Int32)).toNatClampNeg), .int (G.2.2.2.2.2.2.2.2 (v3 + (4 : Int32)).toNatClampNeg)]) (d2 := d - 1) dLw_1469 kL_169 (by omega) rfl rfl (Nat.le_of_ble_eq_true rfl) (xlt rfl hn) rfl rfl (p_X10_cartsBy (Nat.le_trans (by decide) hn) (by omega)  _ _ _ _ _) (fun r1448001 w1448002 _ => ?_)
  refine y_aload_n dLw_1472 rfl 2 rfl ?_
  refine y_aload_n dLw_1473 rfl 0 rfl ?_
  refine y_iload_n dLw_1474 rfl 3 rfl ?_
  refine y_iconst (v := 1) dLw_1475 (by decide) ?_
  refine y_iadd dLw_1476 ?_
  refine y_sld dLw_1477 ?_
  refine y_aload_n dLw_1478 rfl 0 rfl ?_
  refine y_iload_n dLw_1479 rfl 3 rfl ?_
  refine y_iconst (v := 2) dLw_1480 (by decide) ?_
  refine y_iadd dLw_1481 ?_
  refine y_sld dLw_1482 ?_
  refine y_aload_n dLw_1483 rfl 0 rfl ?_
  refine y_iload_n dLw_1484 rfl 3 rfl ?_
  refine y_iconst (v := 3) dLw_1485 (by decide) ?_
  refine y_iadd dLw_1486 ?_
  refine y_sld dLw_1487 ?_
  refine y_aload_n dLw_1488 rfl 0 rfl ?_
  refine y_iload_n dLw_1489 rfl 3 rfl ?_
  refine y_iconst (v := 4) dLw_1490 (by decide) ?_
  refine y_iadd dLw_1491 ?_
  refine y_sld dLw_1492 ?_
  refine y_callV (As := [.int (G.2.2.2.2.2.2.2.2 (v3 + (1 : Int32)).toNatClampNeg), .int (G.2.2.2.2.2.2.2.2 (v3 + (2 : Int32)).toNatClampNeg), .int (G.2.2.2.2.2.2.2.2 (v3 + (3 : Int32)).toNatClampNeg), .int (G.2.2.2.2.2.2.2.2 (v3 + (4 : Int32)).toNatClampNeg)]) (d2 := d - 1) dLw_1493 kL_172 (by omega) rfl rfl (Nat.le_of_ble_eq_true rfl) (xlt rfl hn) rfl rfl (p_X11_cartsBy hn (by omega)  _ _ _ _ _) (fun r1448003 w1448004 _ => ?_)
  refine y_icmp_eq (tgt := 1534) dLw_1496 (by decide) ?_ ?_
  · exact hK1534 v3 w1448004 
  · refine y_iconst (v := 0) dLw_1499 (by decide) ?_
    exact y_ireturn dLw_1500 rfl rfl rfl
set_option maxRecDepth 40000 in
set_option maxHeartbeats 8000000 in
theorem p_L_law_L1501 {G : xG} {d : Nat} {n t : Nat} (hn : 102 ≤ n) (hd : 289 ≤ d) {K1534 : Int32 → xI → Option (Int32 × xI)} (hK1534 : ∀ (v3 : Int32) (w : xI), xC G (yL_law, cLw, 4, some FieldType.boolean) d 1534 [(0, .ref 2000000), (1, .ref 0), (2, .ref 71), (3, .int v3)] [] (xFin n t) w cvI (xFin n t) (K1534 v3 w)) (v3 : Int32) (w : xI) : xC G (yL_law, cLw, 4, some FieldType.boolean) d 1501 [(0, .ref 2000000), (1, .ref 0), (2, .ref 71), (3, .int v3)] [] (xFin n t) w cvI (xFin n t) (f_L_law_L1501 G.2.2.2.2.2.2.2.1 G.2.2.2.2.2.2.2.2 K1534 v3 w) := by
  unfold f_L_law_L1501
  refine y_aload_n dLw_1501 rfl 1 rfl ?_
  refine y_aload_n dLw_1502 rfl 0 rfl ?_
  refine y_iload_n dLw_1503 rfl 3 rfl ?_
  refine y_iconst (v := 1) dLw_1504 (by decide) ?_
  refine y_iadd dLw_1505 ?_
  refine y_sld dLw_1506 ?_
  refine y_aload_n dLw_1507 rfl 0 rfl ?_
  refine y_iload_n dLw_1508 rfl 3 rfl ?_
  refine y_iconst (v := 2) dLw_1509 (by decide) ?_
  refine y_iadd dLw_1510 ?_
  refine y_sld dLw_1511 ?_
  refine y_callV (As := [.int (G.2.2.2.2.2.2.2.2 (v3 + (1 : Int32)).toNatClampNeg), .int (G.2.2.2.2.2.2.2.2 (v3 + (2 : Int32)).toNatClampNeg)]) (d2 := d - 1) dLw_1512 kL_173 (by omega) rfl rfl (Nat.le_of_ble_eq_true rfl) (xlt rfl hn) rfl rfl (p_X10_taken (Nat.le_trans (by decide) hn) (by omega)  _ _ _) (fun r1501001 w1501002 _ => ?_)
  refine y_aload_n dLw_1515 rfl 2 rfl ?_
  refine y_aload_n dLw_1516 rfl 0 rfl ?_
  refine y_iload_n dLw_1517 rfl 3 rfl ?_
  refine y_iconst (v := 1) dLw_1518 (by decide) ?_
  refine y_iadd dLw_1519 ?_
  refine y_sld dLw_1520 ?_
  refine y_aload_n dLw_1521 rfl 0 rfl ?_
  refine y_iload_n dLw_1522 rfl 3 rfl ?_
  refine y_iconst (v := 2) dLw_1523 (by decide) ?_
  refine y_iadd dLw_1524 ?_
  refine y_sld dLw_1525 ?_
  refine y_callV (As := [.int (G.2.2.2.2.2.2.2.2 (v3 + (1 : Int32)).toNatClampNeg), .int (G.2.2.2.2.2.2.2.2 (v3 + (2 : Int32)).toNatClampNeg)]) (d2 := d - 1) dLw_1526 kL_176 (by omega) rfl rfl (Nat.le_of_ble_eq_true rfl) (xlt rfl hn) rfl rfl (p_X11_taken hn (by omega)  _ _ _) (fun r1501003 w1501004 _ => ?_)
  refine y_icmp_eq (tgt := 1534) dLw_1529 (by decide) ?_ ?_
  · exact hK1534 v3 w1501004 
  · refine y_iconst (v := 0) dLw_1532 (by decide) ?_
    exact y_ireturn dLw_1533 rfl rfl rfl
set_option maxRecDepth 40000 in
set_option maxHeartbeats 8000000 in
theorem p_L_law_L1534 {G : xG} {d : Nat} {n t : Nat} (hn : 102 ≤ n) (hd : 289 ≤ d) {K18 : Int32 → xI → Option (Int32 × xI)} (hK18 : ∀ (v3 : Int32) (w : xI), xC G (yL_law, cLw, 4, some FieldType.boolean) d 18 [(0, .ref 2000000), (1, .ref 0), (2, .ref 71), (3, .int v3)] [] (xFin n t) w cvI (xFin n t) (K18 v3 w)) (v3 : Int32) (w : xI) : xC G (yL_law, cLw, 4, some FieldType.boolean) d 1534 [(0, .ref 2000000), (1, .ref 0), (2, .ref 71), (3, .int v3)] [] (xFin n t) w cvI (xFin n t) (f_L_law_L1534 G.2.2.2.2.2.2.2.1 G.2.2.2.2.2.2.2.2 K18 v3 w) := by
  unfold f_L_law_L1534
  refine z_iinc (j := 3) dLw_1534 (by decide) rfl (by decide) (fun x1534001 => ?_)
  refine y_loc (lv' := [(3, .int x1534001), (0, .ref 2000000), (1, .ref 0), (2, .ref 71)]) rfl ?_
  refine y_goto (tgt := 18) dLw_1537 (by decide) ?_
  refine y_sub [(0, .ref 2000000), (1, .ref 0), (2, .ref 71), (3, .int x1534001)] [1, 2, 3, 0] rfl ?_
  exact hK18 x1534001 w 
set_option maxRecDepth 40000 in
set_option maxHeartbeats 8000000 in
theorem p_L_law_L18 {G : xG} {d : Nat} {n t : Nat} (hn : 102 ≤ n) (hd : 289 ≤ d) : ∀ (fu : Nat) (v3 : Int32) (w : xI), xC G (yL_law, cLw, 4, some FieldType.boolean) d 18 [(0, .ref 2000000), (1, .ref 0), (2, .ref 71), (3, .int v3)] [] (xFin n t) w cvI (xFin n t) (f_L_law_L18 G.2.2.2.2.2.2.2.1 G.2.2.2.2.2.2.2.2 fu v3 w) := by
  intro fu
  induction fu with
  | zero => intro v3 w; exact xC.none
  | succ fu ih =>
    intro v3 w
    rw [f_L_law_L18]
    refine y_iload_n dLw_18 rfl 3 rfl ?_
    refine y_aload_n dLw_19 rfl 0 rfl ?_
    refine y_slen dLw_20 ?_
    refine y_bipush (v := 7) dLw_21 (by decide) ?_
    refine y_isub dLw_23 ?_
    refine y_icmp_gt (tgt := 1540) dLw_24 (by decide) ?_ ?_
    · refine y_iconst (v := 1) dLw_1540 (by decide) ?_
      exact y_ireturn dLw_1541 rfl rfl rfl
    · refine y_aload_n dLw_27 rfl 0 rfl ?_
      refine y_iload_n dLw_28 rfl 3 rfl ?_
      refine y_sld dLw_29 ?_
      refine y_bipush (v := 63) dLw_30 (by decide) ?_
      refine y_iand dLw_32 ?_
      refine xC.ite (fun hs18001 => ?_) (fun hs18001 => ?_)
      · refine y_table (tgt := 204) (v := 0) dLw_33 hs18001 (by decide) (by decide) rfl (by decide) ?_
        refine p_L_law_L204 hn hd ?_ v3 w 
        · intro v3_18002 w18002 
          refine p_L_law_L1534 hn hd ?_ v3_18002 w18002 
          · intro v3_18003 w18003 
            exact ih v3_18003 w18003 
      · refine xC.ite (fun hs18004 => ?_) (fun hs18004 => ?_)
        · refine y_table (tgt := 237) (v := 1) dLw_33 hs18004 (by decide) (by decide) rfl (by decide) ?_
          refine p_L_law_L237 hn hd ?_ v3 w 
          · intro v3_18005 w18005 
            refine p_L_law_L1534 hn hd ?_ v3_18005 w18005 
            · intro v3_18006 w18006 
              exact ih v3_18006 w18006 
        · refine xC.ite (fun hs18007 => ?_) (fun hs18007 => ?_)
          · refine y_table (tgt := 260) (v := 2) dLw_33 hs18007 (by decide) (by decide) rfl (by decide) ?_
            refine p_L_law_L260 hn hd ?_ v3 w 
            · intro v3_18008 w18008 
              refine p_L_law_L1534 hn hd ?_ v3_18008 w18008 
              · intro v3_18009 w18009 
                exact ih v3_18009 w18009 
          · refine xC.ite (fun hs18010 => ?_) (fun hs18010 => ?_)
            · refine y_table (tgt := 273) (v := 3) dLw_33 hs18010 (by decide) (by decide) rfl (by decide) ?_
              refine p_L_law_L273 hn hd ?_ v3 w 
              · intro v3_18011 w18011 
                refine p_L_law_L1534 hn hd ?_ v3_18011 w18011 
                · intro v3_18012 w18012 
                  exact ih v3_18012 w18012 
            · refine xC.ite (fun hs18013 => ?_) (fun hs18013 => ?_)
              · refine y_table (tgt := 296) (v := 4) dLw_33 hs18013 (by decide) (by decide) rfl (by decide) ?_
                refine p_L_law_L296 hn hd ?_ v3 w 
                · intro v3_18014 w18014 
                  refine p_L_law_L1534 hn hd ?_ v3_18014 w18014 
                  · intro v3_18015 w18015 
                    exact ih v3_18015 w18015 
              · refine xC.ite (fun hs18016 => ?_) (fun hs18016 => ?_)
                · refine y_table (tgt := 319) (v := 5) dLw_33 hs18016 (by decide) (by decide) rfl (by decide) ?_
                  refine p_L_law_L319 hn hd ?_ v3 w 
                  · intro v3_18017 w18017 
                    refine p_L_law_L1534 hn hd ?_ v3_18017 w18017 
                    · intro v3_18018 w18018 
                      exact ih v3_18018 w18018 
                · refine xC.ite (fun hs18019 => ?_) (fun hs18019 => ?_)
                  · refine y_table (tgt := 394) (v := 6) dLw_33 hs18019 (by decide) (by decide) rfl (by decide) ?_
                    refine p_L_law_L394 hn hd ?_ v3 w 
                    · intro v3_18020 w18020 
                      refine p_L_law_L1534 hn hd ?_ v3_18020 w18020 
                      · intro v3_18021 w18021 
                        exact ih v3_18021 w18021 
                  · refine xC.ite (fun hs18022 => ?_) (fun hs18022 => ?_)
                    · refine y_table (tgt := 407) (v := 7) dLw_33 hs18022 (by decide) (by decide) rfl (by decide) ?_
                      refine p_L_law_L407 hn hd ?_ v3 w 
                      · intro v3_18023 w18023 
                        refine p_L_law_L1534 hn hd ?_ v3_18023 w18023 
                        · intro v3_18024 w18024 
                          exact ih v3_18024 w18024 
                    · refine xC.ite (fun hs18025 => ?_) (fun hs18025 => ?_)
                      · refine y_table (tgt := 430) (v := 8) dLw_33 hs18025 (by decide) (by decide) rfl (by decide) ?_
                        refine p_L_law_L430 hn hd ?_ v3 w 
                        · intro v3_18026 w18026 
                          refine p_L_law_L1534 hn hd ?_ v3_18026 w18026 
                          · intro v3_18027 w18027 
                            exact ih v3_18027 w18027 
                      · refine xC.ite (fun hs18028 => ?_) (fun hs18028 => ?_)
                        · refine y_table (tgt := 483) (v := 9) dLw_33 hs18028 (by decide) (by decide) rfl (by decide) ?_
                          refine p_L_law_L483 hn hd ?_ v3 w 
                          · intro v3_18029 w18029 
                            refine p_L_law_L1534 hn hd ?_ v3_18029 w18029 
                            · intro v3_18030 w18030 
                              exact ih v3_18030 w18030 
                        · refine xC.ite (fun hs18031 => ?_) (fun hs18031 => ?_)
                          · refine y_table (tgt := 546) (v := 10) dLw_33 hs18031 (by decide) (by decide) rfl (by decide) ?_
                            refine p_L_law_L546 hn hd ?_ v3 w 
                            · intro v3_18032 w18032 
                              refine p_L_law_L1534 hn hd ?_ v3_18032 w18032 
                              · intro v3_18033 w18033 
                                exact ih v3_18033 w18033 
                          · refine xC.ite (fun hs18034 => ?_) (fun hs18034 => ?_)
                            · refine y_table (tgt := 589) (v := 11) dLw_33 hs18034 (by decide) (by decide) rfl (by decide) ?_
                              refine p_L_law_L589 hn hd ?_ v3 w 
                              · intro v3_18035 w18035 
                                refine p_L_law_L1534 hn hd ?_ v3_18035 w18035 
                                · intro v3_18036 w18036 
                                  exact ih v3_18036 w18036 
                            · refine xC.ite (fun hs18037 => ?_) (fun hs18037 => ?_)
                              · refine y_table (tgt := 622) (v := 12) dLw_33 hs18037 (by decide) (by decide) rfl (by decide) ?_
                                refine p_L_law_L622 hn hd ?_ v3 w 
                                · intro v3_18038 w18038 
                                  refine p_L_law_L1534 hn hd ?_ v3_18038 w18038 
                                  · intro v3_18039 w18039 
                                    exact ih v3_18039 w18039 
                              · refine xC.ite (fun hs18040 => ?_) (fun hs18040 => ?_)
                                · refine y_table (tgt := 665) (v := 13) dLw_33 hs18040 (by decide) (by decide) rfl (by decide) ?_
                                  refine p_L_law_L665 hn hd ?_ v3 w 
                                  · intro v3_18041 w18041 
                                    refine p_L_law_L1534 hn hd ?_ v3_18041 w18041 
                                    · intro v3_18042 w18042 
                                      exact ih v3_18042 w18042 
                                · refine xC.ite (fun hs18043 => ?_) (fun hs18043 => ?_)
                                  · refine y_table (tgt := 688) (v := 14) dLw_33 hs18043 (by decide) (by decide) rfl (by decide) ?_
                                    refine p_L_law_L688 hn hd ?_ v3 w 
                                    · intro v3_18044 w18044 
                                      refine p_L_law_L1534 hn hd ?_ v3_18044 w18044 
                                      · intro v3_18045 w18045 
                                        exact ih v3_18045 w18045 
                                  · refine xC.ite (fun hs18046 => ?_) (fun hs18046 => ?_)
                                    · refine y_table (tgt := 721) (v := 15) dLw_33 hs18046 (by decide) (by decide) rfl (by decide) ?_
                                      refine p_L_law_L721 hn hd ?_ v3 w 
                                      · intro v3_18047 w18047 
                                        refine p_L_law_L1534 hn hd ?_ v3_18047 w18047 
                                        · intro v3_18048 w18048 
                                          exact ih v3_18048 w18048 
                                    · refine xC.ite (fun hs18049 => ?_) (fun hs18049 => ?_)
                                      · refine y_table (tgt := 754) (v := 16) dLw_33 hs18049 (by decide) (by decide) rfl (by decide) ?_
                                        refine p_L_law_L754 hn hd ?_ v3 w 
                                        · intro v3_18050 w18050 
                                          refine p_L_law_L1534 hn hd ?_ v3_18050 w18050 
                                          · intro v3_18051 w18051 
                                            exact ih v3_18051 w18051 
                                      · refine xC.ite (fun hs18052 => ?_) (fun hs18052 => ?_)
                                        · refine y_table (tgt := 777) (v := 17) dLw_33 hs18052 (by decide) (by decide) rfl (by decide) ?_
                                          refine p_L_law_L777 hn hd ?_ v3 w 
                                          · intro v3_18053 w18053 
                                            refine p_L_law_L1534 hn hd ?_ v3_18053 w18053 
                                            · intro v3_18054 w18054 
                                              exact ih v3_18054 w18054 
                                        · refine xC.ite (fun hs18055 => ?_) (fun hs18055 => ?_)
                                          · refine y_table (tgt := 820) (v := 18) dLw_33 hs18055 (by decide) (by decide) rfl (by decide) ?_
                                            refine p_L_law_L820 hn hd ?_ v3 w 
                                            · intro v3_18056 w18056 
                                              refine p_L_law_L1534 hn hd ?_ v3_18056 w18056 
                                              · intro v3_18057 w18057 
                                                exact ih v3_18057 w18057 
                                          · refine xC.ite (fun hs18058 => ?_) (fun hs18058 => ?_)
                                            · refine y_table (tgt := 853) (v := 19) dLw_33 hs18058 (by decide) (by decide) rfl (by decide) ?_
                                              refine p_L_law_L853 hn hd ?_ v3 w 
                                              · intro v3_18059 w18059 
                                                refine p_L_law_L1534 hn hd ?_ v3_18059 w18059 
                                                · intro v3_18060 w18060 
                                                  exact ih v3_18060 w18060 
                                            · refine xC.ite (fun hs18061 => ?_) (fun hs18061 => ?_)
                                              · refine y_table (tgt := 886) (v := 20) dLw_33 hs18061 (by decide) (by decide) rfl (by decide) ?_
                                                refine p_L_law_L886 hn hd ?_ v3 w 
                                                · intro v3_18062 w18062 
                                                  refine p_L_law_L1534 hn hd ?_ v3_18062 w18062 
                                                  · intro v3_18063 w18063 
                                                    exact ih v3_18063 w18063 
                                              · refine xC.ite (fun hs18064 => ?_) (fun hs18064 => ?_)
                                                · refine y_table (tgt := 919) (v := 21) dLw_33 hs18064 (by decide) (by decide) rfl (by decide) ?_
                                                  refine p_L_law_L919 hn hd ?_ v3 w 
                                                  · intro v3_18065 w18065 
                                                    refine p_L_law_L1534 hn hd ?_ v3_18065 w18065 
                                                    · intro v3_18066 w18066 
                                                      exact ih v3_18066 w18066 
                                                · refine xC.ite (fun hs18067 => ?_) (fun hs18067 => ?_)
                                                  · refine y_table (tgt := 952) (v := 22) dLw_33 hs18067 (by decide) (by decide) rfl (by decide) ?_
                                                    refine p_L_law_L952 hn hd ?_ v3 w 
                                                    · intro v3_18068 w18068 
                                                      refine p_L_law_L1534 hn hd ?_ v3_18068 w18068 
                                                      · intro v3_18069 w18069 
                                                        exact ih v3_18069 w18069 
                                                  · refine xC.ite (fun hs18070 => ?_) (fun hs18070 => ?_)
                                                    · refine y_table (tgt := 985) (v := 23) dLw_33 hs18070 (by decide) (by decide) rfl (by decide) ?_
                                                      refine p_L_law_L985 hn hd ?_ v3 w 
                                                      · intro v3_18071 w18071 
                                                        refine p_L_law_L1534 hn hd ?_ v3_18071 w18071 
                                                        · intro v3_18072 w18072 
                                                          exact ih v3_18072 w18072 
                                                    · refine xC.ite (fun hs18073 => ?_) (fun hs18073 => ?_)
                                                      · refine y_table (tgt := 1008) (v := 24) dLw_33 hs18073 (by decide) (by decide) rfl (by decide) ?_
                                                        refine p_L_law_L1008 hn hd ?_ v3 w 
                                                        · intro v3_18074 w18074 
                                                          refine p_L_law_L1534 hn hd ?_ v3_18074 w18074 
                                                          · intro v3_18075 w18075 
                                                            exact ih v3_18075 w18075 
                                                      · refine xC.ite (fun hs18076 => ?_) (fun hs18076 => ?_)
                                                        · refine y_table (tgt := 1031) (v := 25) dLw_33 hs18076 (by decide) (by decide) rfl (by decide) ?_
                                                          refine p_L_law_L1031 hn hd ?_ v3 w 
                                                          · intro v3_18077 w18077 
                                                            refine p_L_law_L1534 hn hd ?_ v3_18077 w18077 
                                                            · intro v3_18078 w18078 
                                                              exact ih v3_18078 w18078 
                                                        · refine xC.ite (fun hs18079 => ?_) (fun hs18079 => ?_)
                                                          · refine y_table (tgt := 1064) (v := 26) dLw_33 hs18079 (by decide) (by decide) rfl (by decide) ?_
                                                            refine p_L_law_L1064 hn hd ?_ v3 w 
                                                            · intro v3_18080 w18080 
                                                              refine p_L_law_L1534 hn hd ?_ v3_18080 w18080 
                                                              · intro v3_18081 w18081 
                                                                exact ih v3_18081 w18081 
                                                          · refine xC.ite (fun hs18082 => ?_) (fun hs18082 => ?_)
                                                            · refine y_table (tgt := 1087) (v := 27) dLw_33 hs18082 (by decide) (by decide) rfl (by decide) ?_
                                                              refine p_L_law_L1087 hn hd ?_ v3 w 
                                                              · intro v3_18083 w18083 
                                                                refine p_L_law_L1534 hn hd ?_ v3_18083 w18083 
                                                                · intro v3_18084 w18084 
                                                                  exact ih v3_18084 w18084 
                                                            · refine xC.ite (fun hs18085 => ?_) (fun hs18085 => ?_)
                                                              · refine y_table (tgt := 1110) (v := 28) dLw_33 hs18085 (by decide) (by decide) rfl (by decide) ?_
                                                                refine p_L_law_L1110 hn hd ?_ v3 w 
                                                                · intro v3_18086 w18086 
                                                                  refine p_L_law_L1534 hn hd ?_ v3_18086 w18086 
                                                                  · intro v3_18087 w18087 
                                                                    exact ih v3_18087 w18087 
                                                              · refine xC.ite (fun hs18088 => ?_) (fun hs18088 => ?_)
                                                                · refine y_table (tgt := 1133) (v := 29) dLw_33 hs18088 (by decide) (by decide) rfl (by decide) ?_
                                                                  refine p_L_law_L1133 hn hd ?_ v3 w 
                                                                  · intro v3_18089 w18089 
                                                                    refine p_L_law_L1534 hn hd ?_ v3_18089 w18089 
                                                                    · intro v3_18090 w18090 
                                                                      exact ih v3_18090 w18090 
                                                                · refine xC.ite (fun hs18091 => ?_) (fun hs18091 => ?_)
                                                                  · refine y_table (tgt := 1186) (v := 30) dLw_33 hs18091 (by decide) (by decide) rfl (by decide) ?_
                                                                    refine p_L_law_L1186 hn hd ?_ v3 w 
                                                                    · intro v3_18092 w18092 
                                                                      refine p_L_law_L1534 hn hd ?_ v3_18092 w18092 
                                                                      · intro v3_18093 w18093 
                                                                        exact ih v3_18093 w18093 
                                                                  · refine xC.ite (fun hs18094 => ?_) (fun hs18094 => ?_)
                                                                    · refine y_table (tgt := 1219) (v := 31) dLw_33 hs18094 (by decide) (by decide) rfl (by decide) ?_
                                                                      refine p_L_law_L1219 hn hd ?_ v3 w 
                                                                      · intro v3_18095 w18095 
                                                                        refine p_L_law_L1534 hn hd ?_ v3_18095 w18095 
                                                                        · intro v3_18096 w18096 
                                                                          exact ih v3_18096 w18096 
                                                                    · refine xC.ite (fun hs18097 => ?_) (fun hs18097 => ?_)
                                                                      · refine y_table (tgt := 1273) (v := 32) dLw_33 hs18097 (by decide) (by decide) rfl (by decide) ?_
                                                                        refine p_L_law_L1273 hn hd ?_ v3 w 
                                                                        · intro v3_18098 w18098 
                                                                          refine p_L_law_L1534 hn hd ?_ v3_18098 w18098 
                                                                          · intro v3_18099 w18099 
                                                                            exact ih v3_18099 w18099 
                                                                      · refine xC.ite (fun hs18100 => ?_) (fun hs18100 => ?_)
                                                                        · refine y_table (tgt := 1286) (v := 33) dLw_33 hs18100 (by decide) (by decide) rfl (by decide) ?_
                                                                          refine p_L_law_L1286 hn hd ?_ v3 w 
                                                                          · intro v3_18101 w18101 
                                                                            refine p_L_law_L1534 hn hd ?_ v3_18101 w18101 
                                                                            · intro v3_18102 w18102 
                                                                              exact ih v3_18102 w18102 
                                                                        · refine xC.ite (fun hs18103 => ?_) (fun hs18103 => ?_)
                                                                          · refine y_table (tgt := 1299) (v := 34) dLw_33 hs18103 (by decide) (by decide) rfl (by decide) ?_
                                                                            refine p_L_law_L1299 hn hd ?_ v3 w 
                                                                            · intro v3_18104 w18104 
                                                                              refine p_L_law_L1534 hn hd ?_ v3_18104 w18104 
                                                                              · intro v3_18105 w18105 
                                                                                exact ih v3_18105 w18105 
                                                                          · refine xC.ite (fun hs18106 => ?_) (fun hs18106 => ?_)
                                                                            · refine y_table (tgt := 1342) (v := 35) dLw_33 hs18106 (by decide) (by decide) rfl (by decide) ?_
                                                                              refine p_L_law_L1342 hn hd ?_ v3 w 
                                                                              · intro v3_18107 w18107 
                                                                                refine p_L_law_L1534 hn hd ?_ v3_18107 w18107 
                                                                                · intro v3_18108 w18108 
                                                                                  exact ih v3_18108 w18108 
                                                                            · refine xC.ite (fun hs18109 => ?_) (fun hs18109 => ?_)
                                                                              · refine y_table (tgt := 1385) (v := 36) dLw_33 hs18109 (by decide) (by decide) rfl (by decide) ?_
                                                                                refine p_L_law_L1385 hn hd ?_ v3 w 
                                                                                · intro v3_18110 w18110 
                                                                                  refine p_L_law_L1534 hn hd ?_ v3_18110 w18110 
                                                                                  · intro v3_18111 w18111 
                                                                                    exact ih v3_18111 w18111 
                                                                              · refine xC.ite (fun hs18112 => ?_) (fun hs18112 => ?_)
                                                                                · refine y_table (tgt := 1448) (v := 37) dLw_33 hs18112 (by decide) (by decide) rfl (by decide) ?_
                                                                                  refine p_L_law_L1448 hn hd ?_ v3 w 
                                                                                  · intro v3_18113 w18113 
                                                                                    refine p_L_law_L1534 hn hd ?_ v3_18113 w18113 
                                                                                    · intro v3_18114 w18114 
                                                                                      exact ih v3_18114 w18114 
                                                                                · refine xC.ite (fun hs18115 => ?_) (fun hs18115 => ?_)
                                                                                  · refine y_table (tgt := 1501) (v := 38) dLw_33 hs18115 (by decide) (by decide) rfl (by decide) ?_
                                                                                    refine p_L_law_L1501 hn hd ?_ v3 w 
                                                                                    · intro v3_18116 w18116 
                                                                                      refine p_L_law_L1534 hn hd ?_ v3_18116 w18116 
                                                                                      · intro v3_18117 w18117 
                                                                                        exact ih v3_18117 w18117 
                                                                                  · refine y_tableD (tgt := 1534) dLw_33 (xtab (n := 39) (fun k hk => by match k, hk with | 0, _ => exact lv_neT hs18001 (show (0 : Int32).toInt = 0 from rfl) | 1, _ => exact lv_neT hs18004 (show (1 : Int32).toInt = 1 from rfl) | 2, _ => exact lv_neT hs18007 (show (2 : Int32).toInt = 2 from rfl) | 3, _ => exact lv_neT hs18010 (show (3 : Int32).toInt = 3 from rfl) | 4, _ => exact lv_neT hs18013 (show (4 : Int32).toInt = 4 from rfl) | 5, _ => exact lv_neT hs18016 (show (5 : Int32).toInt = 5 from rfl) | 6, _ => exact lv_neT hs18019 (show (6 : Int32).toInt = 6 from rfl) | 7, _ => exact lv_neT hs18022 (show (7 : Int32).toInt = 7 from rfl) | 8, _ => exact lv_neT hs18025 (show (8 : Int32).toInt = 8 from rfl) | 9, _ => exact lv_neT hs18028 (show (9 : Int32).toInt = 9 from rfl) | 10, _ => exact lv_neT hs18031 (show (10 : Int32).toInt = 10 from rfl) | 11, _ => exact lv_neT hs18034 (show (11 : Int32).toInt = 11 from rfl) | 12, _ => exact lv_neT hs18037 (show (12 : Int32).toInt = 12 from rfl) | 13, _ => exact lv_neT hs18040 (show (13 : Int32).toInt = 13 from rfl) | 14, _ => exact lv_neT hs18043 (show (14 : Int32).toInt = 14 from rfl) | 15, _ => exact lv_neT hs18046 (show (15 : Int32).toInt = 15 from rfl) | 16, _ => exact lv_neT hs18049 (show (16 : Int32).toInt = 16 from rfl) | 17, _ => exact lv_neT hs18052 (show (17 : Int32).toInt = 17 from rfl) | 18, _ => exact lv_neT hs18055 (show (18 : Int32).toInt = 18 from rfl) | 19, _ => exact lv_neT hs18058 (show (19 : Int32).toInt = 19 from rfl) | 20, _ => exact lv_neT hs18061 (show (20 : Int32).toInt = 20 from rfl) | 21, _ => exact lv_neT hs18064 (show (21 : Int32).toInt = 21 from rfl) | 22, _ => exact lv_neT hs18067 (show (22 : Int32).toInt = 22 from rfl) | 23, _ => exact lv_neT hs18070 (show (23 : Int32).toInt = 23 from rfl) | 24, _ => exact lv_neT hs18073 (show (24 : Int32).toInt = 24 from rfl) | 25, _ => exact lv_neT hs18076 (show (25 : Int32).toInt = 25 from rfl) | 26, _ => exact lv_neT hs18079 (show (26 : Int32).toInt = 26 from rfl) | 27, _ => exact lv_neT hs18082 (show (27 : Int32).toInt = 27 from rfl) | 28, _ => exact lv_neT hs18085 (show (28 : Int32).toInt = 28 from rfl) | 29, _ => exact lv_neT hs18088 (show (29 : Int32).toInt = 29 from rfl) | 30, _ => exact lv_neT hs18091 (show (30 : Int32).toInt = 30 from rfl) | 31, _ => exact lv_neT hs18094 (show (31 : Int32).toInt = 31 from rfl) | 32, _ => exact lv_neT hs18097 (show (32 : Int32).toInt = 32 from rfl) | 33, _ => exact lv_neT hs18100 (show (33 : Int32).toInt = 33 from rfl) | 34, _ => exact lv_neT hs18103 (show (34 : Int32).toInt = 34 from rfl) | 35, _ => exact lv_neT hs18106 (show (35 : Int32).toInt = 35 from rfl) | 36, _ => exact lv_neT hs18109 (show (36 : Int32).toInt = 36 from rfl) | 37, _ => exact lv_neT hs18112 (show (37 : Int32).toInt = 37 from rfl) | 38, _ => exact lv_neT hs18115 (show (38 : Int32).toInt = 38 from rfl) | z + 39, hz9 => omega)) (by decide) ?_
                                                                                    refine p_L_law_L1534 hn hd ?_ v3 w 
                                                                                    · intro v3_18118 w18118 
                                                                                      exact ih v3_18118 w18118 
theorem xswM0 {G : xG} (w : xI) : ∀ i, i < 71 → xcell G (xFin 71 3646) w i = xcell G (71, 3646, xSH, xrm_0) w i := by
  intro i hi
  refine xsw_all ?_
  funext j x
  show xR0 i j x = if i = 71 then none else xR0 i j x
  rw [if_neg (by omega)]
set_option maxRecDepth 20000 in
set_option maxHeartbeats 4000000 in
theorem p_law {G : xG} : xC G (yL_law, cLw, 4, some FieldType.boolean) 400 0 [(0, .ref 2000000)] [] (0, 0, xSH, xr_0) (fun _ _ => 0) cvI (xFin 102 7041) (f_law G.2.2.2.2.2.2.2.1 G.2.2.2.2.2.2.2.2) := by
  unfold f_law
  refine y_new (ci := 10) (N := 12) dLw_0 q20 q21 q1 rfl inX10 rfl tyX10_ok rfl (fun _ _ => rfl) hdefX10 ?_
  show xC G (yL_law, cLw, 4, some FieldType.boolean) 400 3 [(0, .ref 2000000)] [.ref 0] (1, 12, xSH, xr_0) (xzero (fun _ _ => 0) 0) _ _ _
  refine y_dup dLw_3 rfl ?_
  refine y_callI (As := []) (d2 := 399) dLw_4 kL_9 (by decide) rfl rfl (Nat.le_of_ble_eq_true rfl) (Nat.le_of_ble_eq_true rfl) (pg_0 (by decide) _) (fun _ w1 _ => ?_)
  show xC G (yL_law, cLw, 4, some FieldType.boolean) 400 7 [(0, .ref 2000000)] [.ref 0] (xFin 71 3646) w1 _ _ _
  refine y_astore_n (lv' := [(1, .ref 0), (0, .ref 2000000)]) dLw_7 rfl (by decide) rfl ?_
  refine xC.swap (F2 := (71, 3646, xSH, xrm_0)) (w2 := w1) rfl rfl (xswM0 w1) ?_
  refine y_new (ci := 11) (N := 61) dLw_8 q974 q975 q17 rfl inX11 rfl tyX11_ok rfl (fun _ _ => rfl) hdefX11 ?_
  show xC G (yL_law, cLw, 4, some FieldType.boolean) 400 11 [(1, .ref 0), (0, .ref 2000000)] [.ref 71] (72, 3707, xSH, xrm_0) (xzero w1 71) _ _ _
  refine y_dup dLw_11 rfl ?_
  refine y_callI (As := []) (d2 := 399) dLw_12 kL_12 (by decide) rfl rfl (Nat.le_of_ble_eq_true rfl) (Nat.le_of_ble_eq_true rfl) (pg_71 (by decide) _) (fun _ w2 _ => ?_)
  show xC G (yL_law, cLw, 4, some FieldType.boolean) 400 15 [(1, .ref 0), (0, .ref 2000000)] [.ref 71] (xFin 102 7041) w2 _ _ _
  refine y_astore_n (lv' := [(2, .ref 71), (1, .ref 0), (0, .ref 2000000)]) dLw_15 rfl (by decide) rfl ?_
  refine y_iconst (v := 0) dLw_16 (by decide) ?_
  refine y_istore_n (lv' := [(3, .int 0), (2, .ref 71), (1, .ref 0), (0, .ref 2000000)]) dLw_17 rfl (by decide) rfl ?_
  refine y_sub [(0, .ref 2000000), (1, .ref 0), (2, .ref 71), (3, .int 0)] [3, 2, 1, 0] rfl ?_
  exact p_L_law_L18 (by decide) (by decide) 2000 0 w2
