/-! the law's 48 cases; written by wip/whole/genlaw.py -/
set_option maxHeartbeats 4000000 in
theorem law_c0 {p : Program} {l : Launch} {e : Env} {s : State} {m : MethodId} {below : List Frame} {meth : Method} {c : Code} {b L : Nat} {xs : Nat → Int32} {E : tEn} {Q : State → Prop} {J : tHp → tHp → Prop} {H : Heap} {locs : List Loc} {cells slots i : Nat} {ls : Array Slot} {hX hM : tHp} {aX aM : List Nat} {fX fM : List Value} (C0 : lw_At p s m meth c b L xs) (hU : tU E (fun q => s.heap.size ≤ q) s) (hL : L ≤ 2560) (hi : i + 5 ≤ L) (hl : lv_has ls 4 [(0, .ref b), (1, .ref (tad E aX 0)), (2, .ref (tad E aM 0)), (3, .int (nI i))]) (hcs : cells + 3 ≤ 600000) (hss : slots + 873 ≤ 7302250) (hcX : hX[0]? = some (.inl (7, fX))) (hcM : hM[0]? = some (.inl (8, fM))) (hw : tW2 E (fun q => s.heap.size ≤ q) aX aM hX hM H) (hS : va_S (fun q => s.heap.size ≤ q) s.heap H locs) (hA : ∀ (x0 : Int32), tSameI l E J yX7_setVariables cX7_setVariables 3 yX8_setVariables cX8_setVariables 4 [.int x0] hX hM) (hK : ∀ (hX' hM' : tHp) (aX' aM' : List Nat) (H' : Heap) (locs' : List Loc) (cells' slots' : Nat), J hX' hM' → tW2 E (fun q => s.heap.size ≤ q) aX' aM' hX' hM' H' → va_S (fun q => s.heap.size ≤ q) s.heap H' locs' → cells' ≤ cells + 3 → slots' ≤ slots + 873 → lv_has ls 4 [(0, .ref b), (1, .ref (tad E aX' 0)), (2, .ref (tad E aM' 0)), (3, .int (nI i))] → W p l e room_1 s m #[Value.ref b] below meth c H' locs' cells' slots' Q (F0 m 1618 ls [])) : W p l e room_1 s m #[Value.ref b] below meth c H locs cells slots Q (F0 m 240 ls []) := by
  obtain ⟨hx, hb, hr, hmx, hown, -, hXs, hbl, hlocks, hgv⟩ := id C0
  have hts := hU.hts #[Value.ref b]
  refine lv_aload_n hx hb dL_law_240 rfl (lv_at hl 1 rfl) ?_
  refine lw_rd (k := 1) (q := 246) C0 hS hl (by omega) hL rfl dL_law_241 dL_law_242 dL_law_243 dL_law_244 dL_law_245 rfl ?_
  obtain ⟨z, hX', hM', dX, dM, kX, nX, q1, q2, q3, q4, e1, e2, hJ⟩ := hA (xs (i + 1))
  refine lw_call (as := [.int (xs (i + 1))]) (rest := []) (q := 249) (ci := 7) C0 hU hl.1 tm_X7_setVariables ml_L_13 ti_X7_setVariables hcX rfl dL_law_246 rfl e1 rfl (fun _ => rfl) (fun _ => rfl) rfl (Nat.le_of_ble_eq_true rfl) q1 (by omega) (by omega) hw hS (fun aX' H1 locs1 w1 s1 t1 => ?_)
  refine lv_aload_n hx hb dL_law_249 rfl (lv_at hl 2 rfl) ?_
  refine lw_rd (k := 1) (q := 255) C0 s1 hl (by omega) hL rfl dL_law_250 dL_law_251 dL_law_252 dL_law_253 dL_law_254 rfl ?_
  refine lw_call (as := [.int (xs (i + 1))]) (rest := [.int z]) (q := 258) (ci := 8) C0 hU hl.1 tm_X8_setVariables ml_L_17 ti_X8_setVariables hcM rfl dL_law_255 rfl e2 rfl (fun _ => rfl) (fun _ => rfl) rfl (Nat.le_of_ble_eq_true rfl) q2 (by omega) (by omega) w1.swap s1 (fun aM' H2 locs2 w2 s2 t2 => ?_)
  refine lv_icmp_eq (tgt := 1618) hx hb dL_law_258 (by decide) (fun _ => ?_) (fun c9 => absurd rfl c9)
  refine hK hX' hM' aX' aM' H2 locs2 _ _ hJ w2.swap s2 (by omega) (by omega) ?_
  rw [t1, t2]; exact hl
set_option maxHeartbeats 4000000 in
theorem law_c1 {p : Program} {l : Launch} {e : Env} {s : State} {m : MethodId} {below : List Frame} {meth : Method} {c : Code} {b L : Nat} {xs : Nat → Int32} {E : tEn} {Q : State → Prop} {J : tHp → tHp → Prop} {H : Heap} {locs : List Loc} {cells slots i : Nat} {ls : Array Slot} {hX hM : tHp} {aX aM : List Nat} {fX fM : List Value} (C0 : lw_At p s m meth c b L xs) (hU : tU E (fun q => s.heap.size ≤ q) s) (hL : L ≤ 2560) (hi : i + 5 ≤ L) (hl : lv_has ls 4 [(0, .ref b), (1, .ref (tad E aX 0)), (2, .ref (tad E aM 0)), (3, .int (nI i))]) (hcs : cells + 3 ≤ 600000) (hss : slots + 873 ≤ 7302250) (hcX : hX[0]? = some (.inl (7, fX))) (hcM : hM[0]? = some (.inl (8, fM))) (hw : tW2 E (fun q => s.heap.size ≤ q) aX aM hX hM H) (hS : va_S (fun q => s.heap.size ≤ q) s.heap H locs) (hA : tSameI l E J yX7_variables cX7_variables 1 yX8_variables cX8_variables 1 [] hX hM) (hK : ∀ (hX' hM' : tHp) (aX' aM' : List Nat) (H' : Heap) (locs' : List Loc) (cells' slots' : Nat), J hX' hM' → tW2 E (fun q => s.heap.size ≤ q) aX' aM' hX' hM' H' → va_S (fun q => s.heap.size ≤ q) s.heap H' locs' → cells' ≤ cells + 3 → slots' ≤ slots + 873 → lv_has ls 4 [(0, .ref b), (1, .ref (tad E aX' 0)), (2, .ref (tad E aM' 0)), (3, .int (nI i))] → W p l e room_1 s m #[Value.ref b] below meth c H' locs' cells' slots' Q (F0 m 1618 ls [])) : W p l e room_1 s m #[Value.ref b] below meth c H locs cells slots Q (F0 m 263 ls []) := by
  obtain ⟨hx, hb, hr, hmx, hown, -, hXs, hbl, hlocks, hgv⟩ := id C0
  have hts := hU.hts #[Value.ref b]
  refine lv_aload_n hx hb dL_law_263 rfl (lv_at hl 1 rfl) ?_
  obtain ⟨z, hX', hM', dX, dM, kX, nX, q1, q2, q3, q4, e1, e2, hJ⟩ := hA 
  refine lw_call (as := []) (rest := []) (q := 267) (ci := 7) C0 hU hl.1 tm_X7_variables ml_L_18 ti_X7_variables hcX rfl dL_law_264 rfl e1 rfl (fun _ => rfl) (fun _ => rfl) rfl (Nat.le_of_ble_eq_true rfl) q1 (by omega) (by omega) hw hS (fun aX' H1 locs1 w1 s1 t1 => ?_)
  refine lv_aload_n hx hb dL_law_267 rfl (lv_at hl 2 rfl) ?_
  refine lw_call (as := []) (rest := [.int z]) (q := 271) (ci := 8) C0 hU hl.1 tm_X8_variables ml_L_22 ti_X8_variables hcM rfl dL_law_268 rfl e2 rfl (fun _ => rfl) (fun _ => rfl) rfl (Nat.le_of_ble_eq_true rfl) q2 (by omega) (by omega) w1.swap s1 (fun aM' H2 locs2 w2 s2 t2 => ?_)
  refine lv_icmp_eq (tgt := 1618) hx hb dL_law_271 (by decide) (fun _ => ?_) (fun c9 => absurd rfl c9)
  refine hK hX' hM' aX' aM' H2 locs2 _ _ hJ w2.swap s2 (by omega) (by omega) ?_
  rw [t1, t2]; exact hl
set_option maxHeartbeats 4000000 in
theorem law_c2 {p : Program} {l : Launch} {e : Env} {s : State} {m : MethodId} {below : List Frame} {meth : Method} {c : Code} {b L : Nat} {xs : Nat → Int32} {E : tEn} {Q : State → Prop} {J : tHp → tHp → Prop} {H : Heap} {locs : List Loc} {cells slots i : Nat} {ls : Array Slot} {hX hM : tHp} {aX aM : List Nat} {fX fM : List Value} (C0 : lw_At p s m meth c b L xs) (hU : tU E (fun q => s.heap.size ≤ q) s) (hL : L ≤ 2560) (hi : i + 5 ≤ L) (hl : lv_has ls 4 [(0, .ref b), (1, .ref (tad E aX 0)), (2, .ref (tad E aM 0)), (3, .int (nI i))]) (hcs : cells + 3 ≤ 600000) (hss : slots + 873 ≤ 7302250) (hcX : hX[0]? = some (.inl (7, fX))) (hcM : hM[0]? = some (.inl (8, fM))) (hw : tW2 E (fun q => s.heap.size ≤ q) aX aM hX hM H) (hS : va_S (fun q => s.heap.size ≤ q) s.heap H locs) (hA : ∀ (x0 : Int32) (x1 : Int64), tSameI l E J yX7_setTable cX7_setTable 4 yX8_setTable cX8_setTable 4 [.int x0, .long x1] hX hM) (hK : ∀ (hX' hM' : tHp) (aX' aM' : List Nat) (H' : Heap) (locs' : List Loc) (cells' slots' : Nat), J hX' hM' → tW2 E (fun q => s.heap.size ≤ q) aX' aM' hX' hM' H' → va_S (fun q => s.heap.size ≤ q) s.heap H' locs' → cells' ≤ cells + 3 → slots' ≤ slots + 873 → lv_has ls 4 [(0, .ref b), (1, .ref (tad E aX' 0)), (2, .ref (tad E aM' 0)), (3, .int (nI i))] → W p l e room_1 s m #[Value.ref b] below meth c H' locs' cells' slots' Q (F0 m 1618 ls [])) : W p l e room_1 s m #[Value.ref b] below meth c H locs cells slots Q (F0 m 276 ls []) := by
  obtain ⟨hx, hb, hr, hmx, hown, -, hXs, hbl, hlocks, hgv⟩ := id C0
  have hts := hU.hts #[Value.ref b]
  refine lv_aload_n hx hb dL_law_276 rfl (lv_at hl 1 rfl) ?_
  refine lw_rd (k := 1) (q := 282) C0 hS hl (by omega) hL rfl dL_law_277 dL_law_278 dL_law_279 dL_law_280 dL_law_281 rfl ?_
  refine lw_rd (k := 2) (q := 287) C0 hS hl (by omega) hL rfl dL_law_282 dL_law_283 dL_law_284 dL_law_285 dL_law_286 rfl ?_
  refine lv_i2l (v := (Int32.toInt64 (xs (i + 2)))) hx hb dL_law_287 rfl ?_
  refine lv_bipush (v := 32) hx hb dL_law_288 rfl ?_
  refine lv_lshl (v := (tlshl (Int32.toInt64 (xs (i + 2))) 32)) hx hb dL_law_290 rfl ?_
  refine lw_rd (k := 3) (q := 296) C0 hS hl (by omega) hL rfl dL_law_291 dL_law_292 dL_law_293 dL_law_294 dL_law_295 rfl ?_
  refine lv_i2l (v := (Int32.toInt64 (xs (i + 3)))) hx hb dL_law_296 rfl ?_
  refine lv_ldc2 hx hb hown (hts _ (tmem kc_L_23 rfl)) dL_law_297 ?_
  refine lv_land hx hb dL_law_300 ?_
  refine lv_lor hx hb dL_law_301 ?_
  obtain ⟨z, hX', hM', dX, dM, kX, nX, q1, q2, q3, q4, e1, e2, hJ⟩ := hA (xs (i + 1)) ((tlshl (Int32.toInt64 (xs (i + 2))) 32) ||| ((Int32.toInt64 (xs (i + 3))) &&& 4294967295))
  refine lw_call (as := [.int (xs (i + 1)), .long ((tlshl (Int32.toInt64 (xs (i + 2))) 32) ||| ((Int32.toInt64 (xs (i + 3))) &&& 4294967295))]) (rest := []) (q := 305) (ci := 7) C0 hU hl.1 tm_X7_setTable ml_L_25 ti_X7_setTable hcX rfl dL_law_302 rfl e1 rfl (fun _ => rfl) (fun _ => rfl) rfl (Nat.le_of_ble_eq_true rfl) q1 (by omega) (by omega) hw hS (fun aX' H1 locs1 w1 s1 t1 => ?_)
  refine lv_aload_n hx hb dL_law_305 rfl (lv_at hl 2 rfl) ?_
  refine lw_rd (k := 1) (q := 311) C0 s1 hl (by omega) hL rfl dL_law_306 dL_law_307 dL_law_308 dL_law_309 dL_law_310 rfl ?_
  refine lw_rd (k := 2) (q := 316) C0 s1 hl (by omega) hL rfl dL_law_311 dL_law_312 dL_law_313 dL_law_314 dL_law_315 rfl ?_
  refine lv_i2l (v := (Int32.toInt64 (xs (i + 2)))) hx hb dL_law_316 rfl ?_
  refine lv_bipush (v := 32) hx hb dL_law_317 rfl ?_
  refine lv_lshl (v := (tlshl (Int32.toInt64 (xs (i + 2))) 32)) hx hb dL_law_319 rfl ?_
  refine lw_rd (k := 3) (q := 325) C0 s1 hl (by omega) hL rfl dL_law_320 dL_law_321 dL_law_322 dL_law_323 dL_law_324 rfl ?_
  refine lv_i2l (v := (Int32.toInt64 (xs (i + 3)))) hx hb dL_law_325 rfl ?_
  refine lv_ldc2 hx hb hown (hts _ (tmem kc_L_23 rfl)) dL_law_326 ?_
  refine lv_land hx hb dL_law_329 ?_
  refine lv_lor hx hb dL_law_330 ?_
  refine lw_call (as := [.int (xs (i + 1)), .long ((tlshl (Int32.toInt64 (xs (i + 2))) 32) ||| ((Int32.toInt64 (xs (i + 3))) &&& 4294967295))]) (rest := [.int z]) (q := 334) (ci := 8) C0 hU hl.1 tm_X8_setTable ml_L_29 ti_X8_setTable hcM rfl dL_law_331 rfl e2 rfl (fun _ => rfl) (fun _ => rfl) rfl (Nat.le_of_ble_eq_true rfl) q2 (by omega) (by omega) w1.swap s1 (fun aM' H2 locs2 w2 s2 t2 => ?_)
  refine lv_icmp_eq (tgt := 1618) hx hb dL_law_334 (by decide) (fun _ => ?_) (fun c9 => absurd rfl c9)
  refine hK hX' hM' aX' aM' H2 locs2 _ _ hJ w2.swap s2 (by omega) (by omega) ?_
  rw [t1, t2]; exact hl
set_option maxHeartbeats 4000000 in
theorem law_c3 {p : Program} {l : Launch} {e : Env} {s : State} {m : MethodId} {below : List Frame} {meth : Method} {c : Code} {b L : Nat} {xs : Nat → Int32} {E : tEn} {Q : State → Prop} {J : tHp → tHp → Prop} {H : Heap} {locs : List Loc} {cells slots i : Nat} {ls : Array Slot} {hX hM : tHp} {aX aM : List Nat} {fX fM : List Value} (C0 : lw_At p s m meth c b L xs) (hU : tU E (fun q => s.heap.size ≤ q) s) (hL : L ≤ 2560) (hi : i + 5 ≤ L) (hl : lv_has ls 4 [(0, .ref b), (1, .ref (tad E aX 0)), (2, .ref (tad E aM 0)), (3, .int (nI i))]) (hcs : cells + 3 ≤ 600000) (hss : slots + 873 ≤ 7302250) (hcX : hX[0]? = some (.inl (7, fX))) (hcM : hM[0]? = some (.inl (8, fM))) (hw : tW2 E (fun q => s.heap.size ≤ q) aX aM hX hM H) (hS : va_S (fun q => s.heap.size ≤ q) s.heap H locs) (hA : ∀ (x0 : Int32), tSameJ l E J yX7_table cX7_table 3 yX8_table cX8_table 2 [.int x0] hX hM) (hK : ∀ (hX' hM' : tHp) (aX' aM' : List Nat) (H' : Heap) (locs' : List Loc) (cells' slots' : Nat), J hX' hM' → tW2 E (fun q => s.heap.size ≤ q) aX' aM' hX' hM' H' → va_S (fun q => s.heap.size ≤ q) s.heap H' locs' → cells' ≤ cells + 3 → slots' ≤ slots + 873 → lv_has ls 4 [(0, .ref b), (1, .ref (tad E aX' 0)), (2, .ref (tad E aM' 0)), (3, .int (nI i))] → W p l e room_1 s m #[Value.ref b] below meth c H' locs' cells' slots' Q (F0 m 1618 ls [])) : W p l e room_1 s m #[Value.ref b] below meth c H locs cells slots Q (F0 m 339 ls []) := by
  obtain ⟨hx, hb, hr, hmx, hown, -, hXs, hbl, hlocks, hgv⟩ := id C0
  have hts := hU.hts #[Value.ref b]
  refine lv_aload_n hx hb dL_law_339 rfl (lv_at hl 1 rfl) ?_
  refine lw_rd (k := 1) (q := 345) C0 hS hl (by omega) hL rfl dL_law_340 dL_law_341 dL_law_342 dL_law_343 dL_law_344 rfl ?_
  obtain ⟨z, hX', hM', dX, dM, kX, nX, q1, q2, q3, q4, e1, e2, hJ⟩ := hA (xs (i + 1))
  refine lw_call (as := [.int (xs (i + 1))]) (rest := []) (q := 348) (ci := 7) C0 hU hl.1 tm_X7_table ml_L_30 ti_X7_table hcX rfl dL_law_345 rfl e1 rfl (fun _ => rfl) (fun _ => rfl) rfl (Nat.le_of_ble_eq_true rfl) q1 (by omega) (by omega) hw hS (fun aX' H1 locs1 w1 s1 t1 => ?_)
  refine lv_aload_n hx hb dL_law_348 rfl (lv_at hl 2 rfl) ?_
  refine lw_rd (k := 1) (q := 354) C0 s1 hl (by omega) hL rfl dL_law_349 dL_law_350 dL_law_351 dL_law_352 dL_law_353 rfl ?_
  refine lw_call (as := [.int (xs (i + 1))]) (rest := [.long z]) (q := 357) (ci := 8) C0 hU hl.1 tm_X8_table ml_L_34 ti_X8_table hcM rfl dL_law_354 rfl e2 rfl (fun _ => rfl) (fun _ => rfl) rfl (Nat.le_of_ble_eq_true rfl) q2 (by omega) (by omega) w1.swap s1 (fun aM' H2 locs2 w2 s2 t2 => ?_)
  refine W.lcmp hx hb dL_law_357 ?_
  refine lv_if_eq (tgt := 1618) hx hb dL_law_358 (by decide) (fun _ => ?_) (fun c9 => absurd ((lg_cmp_eq z z).mpr rfl) c9)
  refine hK hX' hM' aX' aM' H2 locs2 _ _ hJ w2.swap s2 (by omega) (by omega) ?_
  rw [t1, t2]; exact hl
set_option maxHeartbeats 4000000 in
theorem law_c4 {p : Program} {l : Launch} {e : Env} {s : State} {m : MethodId} {below : List Frame} {meth : Method} {c : Code} {b L : Nat} {xs : Nat → Int32} {E : tEn} {Q : State → Prop} {J : tHp → tHp → Prop} {H : Heap} {locs : List Loc} {cells slots i : Nat} {ls : Array Slot} {hX hM : tHp} {aX aM : List Nat} {fX fM : List Value} (C0 : lw_At p s m meth c b L xs) (hU : tU E (fun q => s.heap.size ≤ q) s) (hL : L ≤ 2560) (hi : i + 5 ≤ L) (hl : lv_has ls 4 [(0, .ref b), (1, .ref (tad E aX 0)), (2, .ref (tad E aM 0)), (3, .int (nI i))]) (hcs : cells + 3 ≤ 600000) (hss : slots + 873 ≤ 7302250) (hcX : hX[0]? = some (.inl (7, fX))) (hcM : hM[0]? = some (.inl (8, fM))) (hw : tW2 E (fun q => s.heap.size ≤ q) aX aM hX hM H) (hS : va_S (fun q => s.heap.size ≤ q) s.heap H locs) (hA : ∀ (x0 : Int32), tSameI l E J yX7_clear cX7_clear 3 yX8_clear cX8_clear 2 [.int x0] hX hM) (hK : ∀ (hX' hM' : tHp) (aX' aM' : List Nat) (H' : Heap) (locs' : List Loc) (cells' slots' : Nat), J hX' hM' → tW2 E (fun q => s.heap.size ≤ q) aX' aM' hX' hM' H' → va_S (fun q => s.heap.size ≤ q) s.heap H' locs' → cells' ≤ cells + 3 → slots' ≤ slots + 873 → lv_has ls 4 [(0, .ref b), (1, .ref (tad E aX' 0)), (2, .ref (tad E aM' 0)), (3, .int (nI i))] → W p l e room_1 s m #[Value.ref b] below meth c H' locs' cells' slots' Q (F0 m 1618 ls [])) : W p l e room_1 s m #[Value.ref b] below meth c H locs cells slots Q (F0 m 363 ls []) := by
  obtain ⟨hx, hb, hr, hmx, hown, -, hXs, hbl, hlocks, hgv⟩ := id C0
  have hts := hU.hts #[Value.ref b]
  refine lv_aload_n hx hb dL_law_363 rfl (lv_at hl 1 rfl) ?_
  refine lw_rd (k := 1) (q := 369) C0 hS hl (by omega) hL rfl dL_law_364 dL_law_365 dL_law_366 dL_law_367 dL_law_368 rfl ?_
  obtain ⟨z, hX', hM', dX, dM, kX, nX, q1, q2, q3, q4, e1, e2, hJ⟩ := hA (xs (i + 1))
  refine lw_call (as := [.int (xs (i + 1))]) (rest := []) (q := 372) (ci := 7) C0 hU hl.1 tm_X7_clear ml_L_35 ti_X7_clear hcX rfl dL_law_369 rfl e1 rfl (fun _ => rfl) (fun _ => rfl) rfl (Nat.le_of_ble_eq_true rfl) q1 (by omega) (by omega) hw hS (fun aX' H1 locs1 w1 s1 t1 => ?_)
  refine lv_aload_n hx hb dL_law_372 rfl (lv_at hl 2 rfl) ?_
  refine lw_rd (k := 1) (q := 378) C0 s1 hl (by omega) hL rfl dL_law_373 dL_law_374 dL_law_375 dL_law_376 dL_law_377 rfl ?_
  refine lw_call (as := [.int (xs (i + 1))]) (rest := [.int z]) (q := 381) (ci := 8) C0 hU hl.1 tm_X8_clear ml_L_38 ti_X8_clear hcM rfl dL_law_378 rfl e2 rfl (fun _ => rfl) (fun _ => rfl) rfl (Nat.le_of_ble_eq_true rfl) q2 (by omega) (by omega) w1.swap s1 (fun aM' H2 locs2 w2 s2 t2 => ?_)
  refine lv_icmp_eq (tgt := 1618) hx hb dL_law_381 (by decide) (fun _ => ?_) (fun c9 => absurd rfl c9)
  refine hK hX' hM' aX' aM' H2 locs2 _ _ hJ w2.swap s2 (by omega) (by omega) ?_
  rw [t1, t2]; exact hl
set_option maxHeartbeats 4000000 in
theorem law_c5 {p : Program} {l : Launch} {e : Env} {s : State} {m : MethodId} {below : List Frame} {meth : Method} {c : Code} {b L : Nat} {xs : Nat → Int32} {E : tEn} {Q : State → Prop} {J : tHp → tHp → Prop} {H : Heap} {locs : List Loc} {cells slots i : Nat} {ls : Array Slot} {hX hM : tHp} {aX aM : List Nat} {fX fM : List Value} (C0 : lw_At p s m meth c b L xs) (hU : tU E (fun q => s.heap.size ≤ q) s) (hL : L ≤ 2560) (hi : i + 5 ≤ L) (hl : lv_has ls 4 [(0, .ref b), (1, .ref (tad E aX 0)), (2, .ref (tad E aM 0)), (3, .int (nI i))]) (hcs : cells + 3 ≤ 600000) (hss : slots + 873 ≤ 7302250) (hcX : hX[0]? = some (.inl (7, fX))) (hcM : hM[0]? = some (.inl (8, fM))) (hw : tW2 E (fun q => s.heap.size ≤ q) aX aM hX hM H) (hS : va_S (fun q => s.heap.size ≤ q) s.heap H locs) (hA : ∀ (x0 : Int32) (x1 : Int32), tSameI l E J yX7_value cX7_value 4 yX8_value cX8_value 3 [.int x0, .int x1] hX hM) (hK : ∀ (hX' hM' : tHp) (aX' aM' : List Nat) (H' : Heap) (locs' : List Loc) (cells' slots' : Nat), J hX' hM' → tW2 E (fun q => s.heap.size ≤ q) aX' aM' hX' hM' H' → va_S (fun q => s.heap.size ≤ q) s.heap H' locs' → cells' ≤ cells + 3 → slots' ≤ slots + 873 → lv_has ls 4 [(0, .ref b), (1, .ref (tad E aX' 0)), (2, .ref (tad E aM' 0)), (3, .int (nI i))] → W p l e room_1 s m #[Value.ref b] below meth c H' locs' cells' slots' Q (F0 m 1618 ls [])) : W p l e room_1 s m #[Value.ref b] below meth c H locs cells slots Q (F0 m 386 ls []) := by
  obtain ⟨hx, hb, hr, hmx, hown, -, hXs, hbl, hlocks, hgv⟩ := id C0
  have hts := hU.hts #[Value.ref b]
  refine lv_aload_n hx hb dL_law_386 rfl (lv_at hl 1 rfl) ?_
  refine lw_rd (k := 1) (q := 392) C0 hS hl (by omega) hL rfl dL_law_387 dL_law_388 dL_law_389 dL_law_390 dL_law_391 rfl ?_
  refine lw_rd (k := 2) (q := 397) C0 hS hl (by omega) hL rfl dL_law_392 dL_law_393 dL_law_394 dL_law_395 dL_law_396 rfl ?_
  obtain ⟨z, hX', hM', dX, dM, kX, nX, q1, q2, q3, q4, e1, e2, hJ⟩ := hA (xs (i + 1)) (xs (i + 2))
  refine lw_call (as := [.int (xs (i + 1)), .int (xs (i + 2))]) (rest := []) (q := 400) (ci := 7) C0 hU hl.1 tm_X7_value ml_L_39 ti_X7_value hcX rfl dL_law_397 rfl e1 rfl (fun _ => rfl) (fun _ => rfl) rfl (Nat.le_of_ble_eq_true rfl) q1 (by omega) (by omega) hw hS (fun aX' H1 locs1 w1 s1 t1 => ?_)
  refine lv_aload_n hx hb dL_law_400 rfl (lv_at hl 2 rfl) ?_
  refine lw_rd (k := 1) (q := 406) C0 s1 hl (by omega) hL rfl dL_law_401 dL_law_402 dL_law_403 dL_law_404 dL_law_405 rfl ?_
  refine lw_rd (k := 2) (q := 411) C0 s1 hl (by omega) hL rfl dL_law_406 dL_law_407 dL_law_408 dL_law_409 dL_law_410 rfl ?_
  refine lw_call (as := [.int (xs (i + 1)), .int (xs (i + 2))]) (rest := [.int z]) (q := 414) (ci := 8) C0 hU hl.1 tm_X8_value ml_L_43 ti_X8_value hcM rfl dL_law_411 rfl e2 rfl (fun _ => rfl) (fun _ => rfl) rfl (Nat.le_of_ble_eq_true rfl) q2 (by omega) (by omega) w1.swap s1 (fun aM' H2 locs2 w2 s2 t2 => ?_)
  refine lv_icmp_eq (tgt := 1618) hx hb dL_law_414 (by decide) (fun _ => ?_) (fun c9 => absurd rfl c9)
  refine hK hX' hM' aX' aM' H2 locs2 _ _ hJ w2.swap s2 (by omega) (by omega) ?_
  rw [t1, t2]; exact hl
set_option maxHeartbeats 4000000 in
theorem law_c6 {p : Program} {l : Launch} {e : Env} {s : State} {m : MethodId} {below : List Frame} {meth : Method} {c : Code} {b L : Nat} {xs : Nat → Int32} {E : tEn} {Q : State → Prop} {J : tHp → tHp → Prop} {H : Heap} {locs : List Loc} {cells slots i : Nat} {ls : Array Slot} {hX hM : tHp} {aX aM : List Nat} {fX fM : List Value} (C0 : lw_At p s m meth c b L xs) (hU : tU E (fun q => s.heap.size ≤ q) s) (hL : L ≤ 2560) (hi : i + 5 ≤ L) (hl : lv_has ls 4 [(0, .ref b), (1, .ref (tad E aX 0)), (2, .ref (tad E aM 0)), (3, .int (nI i))]) (hcs : cells + 3 ≤ 600000) (hss : slots + 873 ≤ 7302250) (hcX : hX[0]? = some (.inl (7, fX))) (hcM : hM[0]? = some (.inl (8, fM))) (hw : tW2 E (fun q => s.heap.size ≤ q) aX aM hX hM H) (hS : va_S (fun q => s.heap.size ≤ q) s.heap H locs) (hA : ∀ (x0 : Int32), tSameI l E J yX7_essential cX7_essential 3 yX8_essential cX8_essential 2 [.int x0] hX hM) (hK : ∀ (hX' hM' : tHp) (aX' aM' : List Nat) (H' : Heap) (locs' : List Loc) (cells' slots' : Nat), J hX' hM' → tW2 E (fun q => s.heap.size ≤ q) aX' aM' hX' hM' H' → va_S (fun q => s.heap.size ≤ q) s.heap H' locs' → cells' ≤ cells + 3 → slots' ≤ slots + 873 → lv_has ls 4 [(0, .ref b), (1, .ref (tad E aX' 0)), (2, .ref (tad E aM' 0)), (3, .int (nI i))] → W p l e room_1 s m #[Value.ref b] below meth c H' locs' cells' slots' Q (F0 m 1618 ls [])) : W p l e room_1 s m #[Value.ref b] below meth c H locs cells slots Q (F0 m 419 ls []) := by
  obtain ⟨hx, hb, hr, hmx, hown, -, hXs, hbl, hlocks, hgv⟩ := id C0
  have hts := hU.hts #[Value.ref b]
  refine lv_aload_n hx hb dL_law_419 rfl (lv_at hl 1 rfl) ?_
  refine lw_rd (k := 1) (q := 425) C0 hS hl (by omega) hL rfl dL_law_420 dL_law_421 dL_law_422 dL_law_423 dL_law_424 rfl ?_
  obtain ⟨z, hX', hM', dX, dM, kX, nX, q1, q2, q3, q4, e1, e2, hJ⟩ := hA (xs (i + 1))
  refine lw_call (as := [.int (xs (i + 1))]) (rest := []) (q := 428) (ci := 7) C0 hU hl.1 tm_X7_essential ml_L_44 ti_X7_essential hcX rfl dL_law_425 rfl e1 rfl (fun _ => rfl) (fun _ => rfl) rfl (Nat.le_of_ble_eq_true rfl) q1 (by omega) (by omega) hw hS (fun aX' H1 locs1 w1 s1 t1 => ?_)
  refine lv_aload_n hx hb dL_law_428 rfl (lv_at hl 2 rfl) ?_
  refine lw_rd (k := 1) (q := 434) C0 s1 hl (by omega) hL rfl dL_law_429 dL_law_430 dL_law_431 dL_law_432 dL_law_433 rfl ?_
  refine lw_call (as := [.int (xs (i + 1))]) (rest := [.int z]) (q := 437) (ci := 8) C0 hU hl.1 tm_X8_essential ml_L_47 ti_X8_essential hcM rfl dL_law_434 rfl e2 rfl (fun _ => rfl) (fun _ => rfl) rfl (Nat.le_of_ble_eq_true rfl) q2 (by omega) (by omega) w1.swap s1 (fun aM' H2 locs2 w2 s2 t2 => ?_)
  refine lv_icmp_eq (tgt := 1618) hx hb dL_law_437 (by decide) (fun _ => ?_) (fun c9 => absurd rfl c9)
  refine hK hX' hM' aX' aM' H2 locs2 _ _ hJ w2.swap s2 (by omega) (by omega) ?_
  rw [t1, t2]; exact hl
set_option maxHeartbeats 4000000 in
theorem law_c7 {p : Program} {l : Launch} {e : Env} {s : State} {m : MethodId} {below : List Frame} {meth : Method} {c : Code} {b L : Nat} {xs : Nat → Int32} {E : tEn} {Q : State → Prop} {J : tHp → tHp → Prop} {H : Heap} {locs : List Loc} {cells slots i : Nat} {ls : Array Slot} {hX hM : tHp} {aX aM : List Nat} {fX fM : List Value} (C0 : lw_At p s m meth c b L xs) (hU : tU E (fun q => s.heap.size ≤ q) s) (hL : L ≤ 2560) (hi : i + 5 ≤ L) (hl : lv_has ls 4 [(0, .ref b), (1, .ref (tad E aX 0)), (2, .ref (tad E aM 0)), (3, .int (nI i))]) (hcs : cells + 3 ≤ 600000) (hss : slots + 873 ≤ 7302250) (hcX : hX[0]? = some (.inl (7, fX))) (hcM : hM[0]? = some (.inl (8, fM))) (hw : tW2 E (fun q => s.heap.size ≤ q) aX aM hX hM H) (hS : va_S (fun q => s.heap.size ≤ q) s.heap H locs) (hA : ∀ (x0 : Int32), tSameI l E J yX7_isMonotone cX7_isMonotone 3 yX8_isMonotone cX8_isMonotone 2 [.int x0] hX hM) (hK : ∀ (hX' hM' : tHp) (aX' aM' : List Nat) (H' : Heap) (locs' : List Loc) (cells' slots' : Nat), J hX' hM' → tW2 E (fun q => s.heap.size ≤ q) aX' aM' hX' hM' H' → va_S (fun q => s.heap.size ≤ q) s.heap H' locs' → cells' ≤ cells + 3 → slots' ≤ slots + 873 → lv_has ls 4 [(0, .ref b), (1, .ref (tad E aX' 0)), (2, .ref (tad E aM' 0)), (3, .int (nI i))] → W p l e room_1 s m #[Value.ref b] below meth c H' locs' cells' slots' Q (F0 m 1618 ls [])) : W p l e room_1 s m #[Value.ref b] below meth c H locs cells slots Q (F0 m 442 ls []) := by
  obtain ⟨hx, hb, hr, hmx, hown, -, hXs, hbl, hlocks, hgv⟩ := id C0
  have hts := hU.hts #[Value.ref b]
  refine lv_aload_n hx hb dL_law_442 rfl (lv_at hl 1 rfl) ?_
  refine lw_rd (k := 1) (q := 448) C0 hS hl (by omega) hL rfl dL_law_443 dL_law_444 dL_law_445 dL_law_446 dL_law_447 rfl ?_
  obtain ⟨z, hX', hM', dX, dM, kX, nX, q1, q2, q3, q4, e1, e2, hJ⟩ := hA (xs (i + 1))
  refine lw_call (as := [.int (xs (i + 1))]) (rest := []) (q := 451) (ci := 7) C0 hU hl.1 tm_X7_isMonotone ml_L_48 ti_X7_isMonotone hcX rfl dL_law_448 rfl e1 rfl (fun _ => rfl) (fun _ => rfl) rfl (Nat.le_of_ble_eq_true rfl) q1 (by omega) (by omega) hw hS (fun aX' H1 locs1 w1 s1 t1 => ?_)
  refine lv_aload_n hx hb dL_law_451 rfl (lv_at hl 2 rfl) ?_
  refine lw_rd (k := 1) (q := 457) C0 s1 hl (by omega) hL rfl dL_law_452 dL_law_453 dL_law_454 dL_law_455 dL_law_456 rfl ?_
  refine lw_call (as := [.int (xs (i + 1))]) (rest := [.int z]) (q := 460) (ci := 8) C0 hU hl.1 tm_X8_isMonotone ml_L_51 ti_X8_isMonotone hcM rfl dL_law_457 rfl e2 rfl (fun _ => rfl) (fun _ => rfl) rfl (Nat.le_of_ble_eq_true rfl) q2 (by omega) (by omega) w1.swap s1 (fun aM' H2 locs2 w2 s2 t2 => ?_)
  refine lv_icmp_eq (tgt := 1618) hx hb dL_law_460 (by decide) (fun _ => ?_) (fun c9 => absurd rfl c9)
  refine hK hX' hM' aX' aM' H2 locs2 _ _ hJ w2.swap s2 (by omega) (by omega) ?_
  rw [t1, t2]; exact hl
set_option maxHeartbeats 4000000 in
theorem law_c8 {p : Program} {l : Launch} {e : Env} {s : State} {m : MethodId} {below : List Frame} {meth : Method} {c : Code} {b L : Nat} {xs : Nat → Int32} {E : tEn} {Q : State → Prop} {J : tHp → tHp → Prop} {H : Heap} {locs : List Loc} {cells slots i : Nat} {ls : Array Slot} {hX hM : tHp} {aX aM : List Nat} {fX fM : List Value} (C0 : lw_At p s m meth c b L xs) (hU : tU E (fun q => s.heap.size ≤ q) s) (hL : L ≤ 2560) (hi : i + 5 ≤ L) (hl : lv_has ls 4 [(0, .ref b), (1, .ref (tad E aX 0)), (2, .ref (tad E aM 0)), (3, .int (nI i))]) (hcs : cells + 3 ≤ 600000) (hss : slots + 873 ≤ 7302250) (hcX : hX[0]? = some (.inl (7, fX))) (hcM : hM[0]? = some (.inl (8, fM))) (hw : tW2 E (fun q => s.heap.size ≤ q) aX aM hX hM H) (hS : va_S (fun q => s.heap.size ≤ q) s.heap H locs) (hA : ∀ (x0 : Int32), tSameI l E J yX7_violatingPoint cX7_violatingPoint 3 yX8_violatingPoint cX8_violatingPoint 2 [.int x0] hX hM) (hK : ∀ (hX' hM' : tHp) (aX' aM' : List Nat) (H' : Heap) (locs' : List Loc) (cells' slots' : Nat), J hX' hM' → tW2 E (fun q => s.heap.size ≤ q) aX' aM' hX' hM' H' → va_S (fun q => s.heap.size ≤ q) s.heap H' locs' → cells' ≤ cells + 3 → slots' ≤ slots + 873 → lv_has ls 4 [(0, .ref b), (1, .ref (tad E aX' 0)), (2, .ref (tad E aM' 0)), (3, .int (nI i))] → W p l e room_1 s m #[Value.ref b] below meth c H' locs' cells' slots' Q (F0 m 1618 ls [])) : W p l e room_1 s m #[Value.ref b] below meth c H locs cells slots Q (F0 m 465 ls []) := by
  obtain ⟨hx, hb, hr, hmx, hown, -, hXs, hbl, hlocks, hgv⟩ := id C0
  have hts := hU.hts #[Value.ref b]
  refine lv_aload_n hx hb dL_law_465 rfl (lv_at hl 1 rfl) ?_
  refine lw_rd (k := 1) (q := 471) C0 hS hl (by omega) hL rfl dL_law_466 dL_law_467 dL_law_468 dL_law_469 dL_law_470 rfl ?_
  obtain ⟨z, hX', hM', dX, dM, kX, nX, q1, q2, q3, q4, e1, e2, hJ⟩ := hA (xs (i + 1))
  refine lw_call (as := [.int (xs (i + 1))]) (rest := []) (q := 474) (ci := 7) C0 hU hl.1 tm_X7_violatingPoint ml_L_52 ti_X7_violatingPoint hcX rfl dL_law_471 rfl e1 rfl (fun _ => rfl) (fun _ => rfl) rfl (Nat.le_of_ble_eq_true rfl) q1 (by omega) (by omega) hw hS (fun aX' H1 locs1 w1 s1 t1 => ?_)
  refine lv_aload_n hx hb dL_law_474 rfl (lv_at hl 2 rfl) ?_
  refine lw_rd (k := 1) (q := 480) C0 s1 hl (by omega) hL rfl dL_law_475 dL_law_476 dL_law_477 dL_law_478 dL_law_479 rfl ?_
  refine lw_call (as := [.int (xs (i + 1))]) (rest := [.int z]) (q := 483) (ci := 8) C0 hU hl.1 tm_X8_violatingPoint ml_L_55 ti_X8_violatingPoint hcM rfl dL_law_480 rfl e2 rfl (fun _ => rfl) (fun _ => rfl) rfl (Nat.le_of_ble_eq_true rfl) q2 (by omega) (by omega) w1.swap s1 (fun aM' H2 locs2 w2 s2 t2 => ?_)
  refine lv_icmp_eq (tgt := 1618) hx hb dL_law_483 (by decide) (fun _ => ?_) (fun c9 => absurd rfl c9)
  refine hK hX' hM' aX' aM' H2 locs2 _ _ hJ w2.swap s2 (by omega) (by omega) ?_
  rw [t1, t2]; exact hl
set_option maxHeartbeats 4000000 in
theorem law_c9 {p : Program} {l : Launch} {e : Env} {s : State} {m : MethodId} {below : List Frame} {meth : Method} {c : Code} {b L : Nat} {xs : Nat → Int32} {E : tEn} {Q : State → Prop} {J : tHp → tHp → Prop} {H : Heap} {locs : List Loc} {cells slots i : Nat} {ls : Array Slot} {hX hM : tHp} {aX aM : List Nat} {fX fM : List Value} (C0 : lw_At p s m meth c b L xs) (hU : tU E (fun q => s.heap.size ≤ q) s) (hL : L ≤ 2560) (hi : i + 5 ≤ L) (hl : lv_has ls 4 [(0, .ref b), (1, .ref (tad E aX 0)), (2, .ref (tad E aM 0)), (3, .int (nI i))]) (hcs : cells + 3 ≤ 600000) (hss : slots + 873 ≤ 7302250) (hcX : hX[0]? = some (.inl (7, fX))) (hcM : hM[0]? = some (.inl (8, fM))) (hw : tW2 E (fun q => s.heap.size ≤ q) aX aM hX hM H) (hS : va_S (fun q => s.heap.size ≤ q) s.heap H locs) (hA : ∀ (x0 : Int32), tSameI l E J yX7_primeImplicants cX7_primeImplicants 3 yX8_primeImplicants cX8_primeImplicants 3 [.int x0] hX hM) (hK : ∀ (hX' hM' : tHp) (aX' aM' : List Nat) (H' : Heap) (locs' : List Loc) (cells' slots' : Nat), J hX' hM' → tW2 E (fun q => s.heap.size ≤ q) aX' aM' hX' hM' H' → va_S (fun q => s.heap.size ≤ q) s.heap H' locs' → cells' ≤ cells + 3 → slots' ≤ slots + 873 → lv_has ls 4 [(0, .ref b), (1, .ref (tad E aX' 0)), (2, .ref (tad E aM' 0)), (3, .int (nI i))] → W p l e room_1 s m #[Value.ref b] below meth c H' locs' cells' slots' Q (F0 m 1618 ls [])) : W p l e room_1 s m #[Value.ref b] below meth c H locs cells slots Q (F0 m 488 ls []) := by
  obtain ⟨hx, hb, hr, hmx, hown, -, hXs, hbl, hlocks, hgv⟩ := id C0
  have hts := hU.hts #[Value.ref b]
  refine lv_aload_n hx hb dL_law_488 rfl (lv_at hl 1 rfl) ?_
  refine lw_rd (k := 1) (q := 494) C0 hS hl (by omega) hL rfl dL_law_489 dL_law_490 dL_law_491 dL_law_492 dL_law_493 rfl ?_
  obtain ⟨z, hX', hM', dX, dM, kX, nX, q1, q2, q3, q4, e1, e2, hJ⟩ := hA (xs (i + 1))
  refine lw_call (as := [.int (xs (i + 1))]) (rest := []) (q := 497) (ci := 7) C0 hU hl.1 tm_X7_primeImplicants ml_L_56 ti_X7_primeImplicants hcX rfl dL_law_494 rfl e1 rfl (fun _ => rfl) (fun _ => rfl) rfl (Nat.le_of_ble_eq_true rfl) q1 (by omega) (by omega) hw hS (fun aX' H1 locs1 w1 s1 t1 => ?_)
  refine lv_aload_n hx hb dL_law_497 rfl (lv_at hl 2 rfl) ?_
  refine lw_rd (k := 1) (q := 503) C0 s1 hl (by omega) hL rfl dL_law_498 dL_law_499 dL_law_500 dL_law_501 dL_law_502 rfl ?_
  refine lw_call (as := [.int (xs (i + 1))]) (rest := [.int z]) (q := 506) (ci := 8) C0 hU hl.1 tm_X8_primeImplicants ml_L_59 ti_X8_primeImplicants hcM rfl dL_law_503 rfl e2 rfl (fun _ => rfl) (fun _ => rfl) rfl (Nat.le_of_ble_eq_true rfl) q2 (by omega) (by omega) w1.swap s1 (fun aM' H2 locs2 w2 s2 t2 => ?_)
  refine lv_icmp_eq (tgt := 1618) hx hb dL_law_506 (by decide) (fun _ => ?_) (fun c9 => absurd rfl c9)
  refine hK hX' hM' aX' aM' H2 locs2 _ _ hJ w2.swap s2 (by omega) (by omega) ?_
  rw [t1, t2]; exact hl
set_option maxHeartbeats 4000000 in
theorem law_c10 {p : Program} {l : Launch} {e : Env} {s : State} {m : MethodId} {below : List Frame} {meth : Method} {c : Code} {b L : Nat} {xs : Nat → Int32} {E : tEn} {Q : State → Prop} {J : tHp → tHp → Prop} {H : Heap} {locs : List Loc} {cells slots i : Nat} {ls : Array Slot} {hX hM : tHp} {aX aM : List Nat} {fX fM : List Value} (C0 : lw_At p s m meth c b L xs) (hU : tU E (fun q => s.heap.size ≤ q) s) (hL : L ≤ 2560) (hi : i + 5 ≤ L) (hl : lv_has ls 4 [(0, .ref b), (1, .ref (tad E aX 0)), (2, .ref (tad E aM 0)), (3, .int (nI i))]) (hcs : cells + 3 ≤ 600000) (hss : slots + 873 ≤ 7302250) (hcX : hX[0]? = some (.inl (7, fX))) (hcM : hM[0]? = some (.inl (8, fM))) (hw : tW2 E (fun q => s.heap.size ≤ q) aX aM hX hM H) (hS : va_S (fun q => s.heap.size ≤ q) s.heap H locs) (hA : ∀ (x0 : Int32) (x1 : Int32), tSameI l E J yX7_primeImplicant cX7_primeImplicant 4 yX8_primeImplicant cX8_primeImplicant 4 [.int x0, .int x1] hX hM) (hK : ∀ (hX' hM' : tHp) (aX' aM' : List Nat) (H' : Heap) (locs' : List Loc) (cells' slots' : Nat), J hX' hM' → tW2 E (fun q => s.heap.size ≤ q) aX' aM' hX' hM' H' → va_S (fun q => s.heap.size ≤ q) s.heap H' locs' → cells' ≤ cells + 3 → slots' ≤ slots + 873 → lv_has ls 4 [(0, .ref b), (1, .ref (tad E aX' 0)), (2, .ref (tad E aM' 0)), (3, .int (nI i))] → W p l e room_1 s m #[Value.ref b] below meth c H' locs' cells' slots' Q (F0 m 1618 ls [])) : W p l e room_1 s m #[Value.ref b] below meth c H locs cells slots Q (F0 m 511 ls []) := by
  obtain ⟨hx, hb, hr, hmx, hown, -, hXs, hbl, hlocks, hgv⟩ := id C0
  have hts := hU.hts #[Value.ref b]
  refine lv_aload_n hx hb dL_law_511 rfl (lv_at hl 1 rfl) ?_
  refine lw_rd (k := 1) (q := 517) C0 hS hl (by omega) hL rfl dL_law_512 dL_law_513 dL_law_514 dL_law_515 dL_law_516 rfl ?_
  refine lw_rd (k := 2) (q := 522) C0 hS hl (by omega) hL rfl dL_law_517 dL_law_518 dL_law_519 dL_law_520 dL_law_521 rfl ?_
  obtain ⟨z, hX', hM', dX, dM, kX, nX, q1, q2, q3, q4, e1, e2, hJ⟩ := hA (xs (i + 1)) (xs (i + 2))
  refine lw_call (as := [.int (xs (i + 1)), .int (xs (i + 2))]) (rest := []) (q := 525) (ci := 7) C0 hU hl.1 tm_X7_primeImplicant ml_L_60 ti_X7_primeImplicant hcX rfl dL_law_522 rfl e1 rfl (fun _ => rfl) (fun _ => rfl) rfl (Nat.le_of_ble_eq_true rfl) q1 (by omega) (by omega) hw hS (fun aX' H1 locs1 w1 s1 t1 => ?_)
  refine lv_aload_n hx hb dL_law_525 rfl (lv_at hl 2 rfl) ?_
  refine lw_rd (k := 1) (q := 531) C0 s1 hl (by omega) hL rfl dL_law_526 dL_law_527 dL_law_528 dL_law_529 dL_law_530 rfl ?_
  refine lw_rd (k := 2) (q := 536) C0 s1 hl (by omega) hL rfl dL_law_531 dL_law_532 dL_law_533 dL_law_534 dL_law_535 rfl ?_
  refine lw_call (as := [.int (xs (i + 1)), .int (xs (i + 2))]) (rest := [.int z]) (q := 539) (ci := 8) C0 hU hl.1 tm_X8_primeImplicant ml_L_63 ti_X8_primeImplicant hcM rfl dL_law_536 rfl e2 rfl (fun _ => rfl) (fun _ => rfl) rfl (Nat.le_of_ble_eq_true rfl) q2 (by omega) (by omega) w1.swap s1 (fun aM' H2 locs2 w2 s2 t2 => ?_)
  refine lv_icmp_eq (tgt := 1618) hx hb dL_law_539 (by decide) (fun _ => ?_) (fun c9 => absurd rfl c9)
  refine hK hX' hM' aX' aM' H2 locs2 _ _ hJ w2.swap s2 (by omega) (by omega) ?_
  rw [t1, t2]; exact hl
set_option maxHeartbeats 4000000 in
theorem law_c11 {p : Program} {l : Launch} {e : Env} {s : State} {m : MethodId} {below : List Frame} {meth : Method} {c : Code} {b L : Nat} {xs : Nat → Int32} {E : tEn} {Q : State → Prop} {J : tHp → tHp → Prop} {H : Heap} {locs : List Loc} {cells slots i : Nat} {ls : Array Slot} {hX hM : tHp} {aX aM : List Nat} {fX fM : List Value} (C0 : lw_At p s m meth c b L xs) (hU : tU E (fun q => s.heap.size ≤ q) s) (hL : L ≤ 2560) (hi : i + 5 ≤ L) (hl : lv_has ls 4 [(0, .ref b), (1, .ref (tad E aX 0)), (2, .ref (tad E aM 0)), (3, .int (nI i))]) (hcs : cells + 3 ≤ 600000) (hss : slots + 873 ≤ 7302250) (hcX : hX[0]? = some (.inl (7, fX))) (hcM : hM[0]? = some (.inl (8, fM))) (hw : tW2 E (fun q => s.heap.size ≤ q) aX aM hX hM H) (hS : va_S (fun q => s.heap.size ≤ q) s.heap H locs) (hA : ∀ (x0 : Int32) (x1 : Int32), tSameI l E J yX7_neighbors cX7_neighbors 4 yX8_neighbors cX8_neighbors 4 [.int x0, .int x1] hX hM) (hK : ∀ (hX' hM' : tHp) (aX' aM' : List Nat) (H' : Heap) (locs' : List Loc) (cells' slots' : Nat), J hX' hM' → tW2 E (fun q => s.heap.size ≤ q) aX' aM' hX' hM' H' → va_S (fun q => s.heap.size ≤ q) s.heap H' locs' → cells' ≤ cells + 3 → slots' ≤ slots + 873 → lv_has ls 4 [(0, .ref b), (1, .ref (tad E aX' 0)), (2, .ref (tad E aM' 0)), (3, .int (nI i))] → W p l e room_1 s m #[Value.ref b] below meth c H' locs' cells' slots' Q (F0 m 1618 ls [])) : W p l e room_1 s m #[Value.ref b] below meth c H locs cells slots Q (F0 m 544 ls []) := by
  obtain ⟨hx, hb, hr, hmx, hown, -, hXs, hbl, hlocks, hgv⟩ := id C0
  have hts := hU.hts #[Value.ref b]
  refine lv_aload_n hx hb dL_law_544 rfl (lv_at hl 1 rfl) ?_
  refine lw_rd (k := 1) (q := 550) C0 hS hl (by omega) hL rfl dL_law_545 dL_law_546 dL_law_547 dL_law_548 dL_law_549 rfl ?_
  refine lw_rd (k := 2) (q := 555) C0 hS hl (by omega) hL rfl dL_law_550 dL_law_551 dL_law_552 dL_law_553 dL_law_554 rfl ?_
  obtain ⟨z, hX', hM', dX, dM, kX, nX, q1, q2, q3, q4, e1, e2, hJ⟩ := hA (xs (i + 1)) (xs (i + 2))
  refine lw_call (as := [.int (xs (i + 1)), .int (xs (i + 2))]) (rest := []) (q := 558) (ci := 7) C0 hU hl.1 tm_X7_neighbors ml_L_64 ti_X7_neighbors hcX rfl dL_law_555 rfl e1 rfl (fun _ => rfl) (fun _ => rfl) rfl (Nat.le_of_ble_eq_true rfl) q1 (by omega) (by omega) hw hS (fun aX' H1 locs1 w1 s1 t1 => ?_)
  refine lv_aload_n hx hb dL_law_558 rfl (lv_at hl 2 rfl) ?_
  refine lw_rd (k := 1) (q := 564) C0 s1 hl (by omega) hL rfl dL_law_559 dL_law_560 dL_law_561 dL_law_562 dL_law_563 rfl ?_
  refine lw_rd (k := 2) (q := 569) C0 s1 hl (by omega) hL rfl dL_law_564 dL_law_565 dL_law_566 dL_law_567 dL_law_568 rfl ?_
  refine lw_call (as := [.int (xs (i + 1)), .int (xs (i + 2))]) (rest := [.int z]) (q := 572) (ci := 8) C0 hU hl.1 tm_X8_neighbors ml_L_67 ti_X8_neighbors hcM rfl dL_law_569 rfl e2 rfl (fun _ => rfl) (fun _ => rfl) rfl (Nat.le_of_ble_eq_true rfl) q2 (by omega) (by omega) w1.swap s1 (fun aM' H2 locs2 w2 s2 t2 => ?_)
  refine lv_icmp_eq (tgt := 1618) hx hb dL_law_572 (by decide) (fun _ => ?_) (fun c9 => absurd rfl c9)
  refine hK hX' hM' aX' aM' H2 locs2 _ _ hJ w2.swap s2 (by omega) (by omega) ?_
  rw [t1, t2]; exact hl
set_option maxHeartbeats 4000000 in
theorem law_c12 {p : Program} {l : Launch} {e : Env} {s : State} {m : MethodId} {below : List Frame} {meth : Method} {c : Code} {b L : Nat} {xs : Nat → Int32} {E : tEn} {Q : State → Prop} {J : tHp → tHp → Prop} {H : Heap} {locs : List Loc} {cells slots i : Nat} {ls : Array Slot} {hX hM : tHp} {aX aM : List Nat} {fX fM : List Value} (C0 : lw_At p s m meth c b L xs) (hU : tU E (fun q => s.heap.size ≤ q) s) (hL : L ≤ 2560) (hi : i + 5 ≤ L) (hl : lv_has ls 4 [(0, .ref b), (1, .ref (tad E aX 0)), (2, .ref (tad E aM 0)), (3, .int (nI i))]) (hcs : cells + 3 ≤ 600000) (hss : slots + 873 ≤ 7302250) (hcX : hX[0]? = some (.inl (7, fX))) (hcM : hM[0]? = some (.inl (8, fM))) (hw : tW2 E (fun q => s.heap.size ≤ q) aX aM hX hM H) (hS : va_S (fun q => s.heap.size ≤ q) s.heap H locs) (hA : ∀ (x0 : Int32) (x1 : Int32), tSameI l E J yX7_inducedPath cX7_inducedPath 4 yX8_inducedPath cX8_inducedPath 5 [.int x0, .int x1] hX hM) (hK : ∀ (hX' hM' : tHp) (aX' aM' : List Nat) (H' : Heap) (locs' : List Loc) (cells' slots' : Nat), J hX' hM' → tW2 E (fun q => s.heap.size ≤ q) aX' aM' hX' hM' H' → va_S (fun q => s.heap.size ≤ q) s.heap H' locs' → cells' ≤ cells + 3 → slots' ≤ slots + 873 → lv_has ls 4 [(0, .ref b), (1, .ref (tad E aX' 0)), (2, .ref (tad E aM' 0)), (3, .int (nI i))] → W p l e room_1 s m #[Value.ref b] below meth c H' locs' cells' slots' Q (F0 m 1618 ls [])) : W p l e room_1 s m #[Value.ref b] below meth c H locs cells slots Q (F0 m 577 ls []) := by
  obtain ⟨hx, hb, hr, hmx, hown, -, hXs, hbl, hlocks, hgv⟩ := id C0
  have hts := hU.hts #[Value.ref b]
  refine lv_aload_n hx hb dL_law_577 rfl (lv_at hl 1 rfl) ?_
  refine lw_rd (k := 1) (q := 583) C0 hS hl (by omega) hL rfl dL_law_578 dL_law_579 dL_law_580 dL_law_581 dL_law_582 rfl ?_
  refine lw_rd (k := 2) (q := 588) C0 hS hl (by omega) hL rfl dL_law_583 dL_law_584 dL_law_585 dL_law_586 dL_law_587 rfl ?_
  obtain ⟨z, hX', hM', dX, dM, kX, nX, q1, q2, q3, q4, e1, e2, hJ⟩ := hA (xs (i + 1)) (xs (i + 2))
  refine lw_call (as := [.int (xs (i + 1)), .int (xs (i + 2))]) (rest := []) (q := 591) (ci := 7) C0 hU hl.1 tm_X7_inducedPath ml_L_68 ti_X7_inducedPath hcX rfl dL_law_588 rfl e1 rfl (fun _ => rfl) (fun _ => rfl) rfl (Nat.le_of_ble_eq_true rfl) q1 (by omega) (by omega) hw hS (fun aX' H1 locs1 w1 s1 t1 => ?_)
  refine lv_aload_n hx hb dL_law_591 rfl (lv_at hl 2 rfl) ?_
  refine lw_rd (k := 1) (q := 597) C0 s1 hl (by omega) hL rfl dL_law_592 dL_law_593 dL_law_594 dL_law_595 dL_law_596 rfl ?_
  refine lw_rd (k := 2) (q := 602) C0 s1 hl (by omega) hL rfl dL_law_597 dL_law_598 dL_law_599 dL_law_600 dL_law_601 rfl ?_
  refine lw_call (as := [.int (xs (i + 1)), .int (xs (i + 2))]) (rest := [.int z]) (q := 605) (ci := 8) C0 hU hl.1 tm_X8_inducedPath ml_L_71 ti_X8_inducedPath hcM rfl dL_law_602 rfl e2 rfl (fun _ => rfl) (fun _ => rfl) rfl (Nat.le_of_ble_eq_true rfl) q2 (by omega) (by omega) w1.swap s1 (fun aM' H2 locs2 w2 s2 t2 => ?_)
  refine lv_icmp_eq (tgt := 1618) hx hb dL_law_605 (by decide) (fun _ => ?_) (fun c9 => absurd rfl c9)
  refine hK hX' hM' aX' aM' H2 locs2 _ _ hJ w2.swap s2 (by omega) (by omega) ?_
  rw [t1, t2]; exact hl
set_option maxHeartbeats 4000000 in
theorem law_c13 {p : Program} {l : Launch} {e : Env} {s : State} {m : MethodId} {below : List Frame} {meth : Method} {c : Code} {b L : Nat} {xs : Nat → Int32} {E : tEn} {Q : State → Prop} {J : tHp → tHp → Prop} {H : Heap} {locs : List Loc} {cells slots i : Nat} {ls : Array Slot} {hX hM : tHp} {aX aM : List Nat} {fX fM : List Value} (C0 : lw_At p s m meth c b L xs) (hU : tU E (fun q => s.heap.size ≤ q) s) (hL : L ≤ 2560) (hi : i + 5 ≤ L) (hl : lv_has ls 4 [(0, .ref b), (1, .ref (tad E aX 0)), (2, .ref (tad E aM 0)), (3, .int (nI i))]) (hcs : cells + 3 ≤ 600000) (hss : slots + 873 ≤ 7302250) (hcX : hX[0]? = some (.inl (7, fX))) (hcM : hM[0]? = some (.inl (8, fM))) (hw : tW2 E (fun q => s.heap.size ≤ q) aX aM hX hM H) (hS : va_S (fun q => s.heap.size ≤ q) s.heap H locs) (hA : ∀ (x0 : Int32), tSameI l E J yX7_badClique cX7_badClique 3 yX8_badClique cX8_badClique 3 [.int x0] hX hM) (hK : ∀ (hX' hM' : tHp) (aX' aM' : List Nat) (H' : Heap) (locs' : List Loc) (cells' slots' : Nat), J hX' hM' → tW2 E (fun q => s.heap.size ≤ q) aX' aM' hX' hM' H' → va_S (fun q => s.heap.size ≤ q) s.heap H' locs' → cells' ≤ cells + 3 → slots' ≤ slots + 873 → lv_has ls 4 [(0, .ref b), (1, .ref (tad E aX' 0)), (2, .ref (tad E aM' 0)), (3, .int (nI i))] → W p l e room_1 s m #[Value.ref b] below meth c H' locs' cells' slots' Q (F0 m 1618 ls [])) : W p l e room_1 s m #[Value.ref b] below meth c H locs cells slots Q (F0 m 610 ls []) := by
  obtain ⟨hx, hb, hr, hmx, hown, -, hXs, hbl, hlocks, hgv⟩ := id C0
  have hts := hU.hts #[Value.ref b]
  refine lv_aload_n hx hb dL_law_610 rfl (lv_at hl 1 rfl) ?_
  refine lw_rd (k := 1) (q := 616) C0 hS hl (by omega) hL rfl dL_law_611 dL_law_612 dL_law_613 dL_law_614 dL_law_615 rfl ?_
  obtain ⟨z, hX', hM', dX, dM, kX, nX, q1, q2, q3, q4, e1, e2, hJ⟩ := hA (xs (i + 1))
  refine lw_call (as := [.int (xs (i + 1))]) (rest := []) (q := 619) (ci := 7) C0 hU hl.1 tm_X7_badClique ml_L_72 ti_X7_badClique hcX rfl dL_law_616 rfl e1 rfl (fun _ => rfl) (fun _ => rfl) rfl (Nat.le_of_ble_eq_true rfl) q1 (by omega) (by omega) hw hS (fun aX' H1 locs1 w1 s1 t1 => ?_)
  refine lv_aload_n hx hb dL_law_619 rfl (lv_at hl 2 rfl) ?_
  refine lw_rd (k := 1) (q := 625) C0 s1 hl (by omega) hL rfl dL_law_620 dL_law_621 dL_law_622 dL_law_623 dL_law_624 rfl ?_
  refine lw_call (as := [.int (xs (i + 1))]) (rest := [.int z]) (q := 628) (ci := 8) C0 hU hl.1 tm_X8_badClique ml_L_75 ti_X8_badClique hcM rfl dL_law_625 rfl e2 rfl (fun _ => rfl) (fun _ => rfl) rfl (Nat.le_of_ble_eq_true rfl) q2 (by omega) (by omega) w1.swap s1 (fun aM' H2 locs2 w2 s2 t2 => ?_)
  refine lv_icmp_eq (tgt := 1618) hx hb dL_law_628 (by decide) (fun _ => ?_) (fun c9 => absurd rfl c9)
  refine hK hX' hM' aX' aM' H2 locs2 _ _ hJ w2.swap s2 (by omega) (by omega) ?_
  rw [t1, t2]; exact hl
set_option maxHeartbeats 4000000 in
theorem law_c14 {p : Program} {l : Launch} {e : Env} {s : State} {m : MethodId} {below : List Frame} {meth : Method} {c : Code} {b L : Nat} {xs : Nat → Int32} {E : tEn} {Q : State → Prop} {J : tHp → tHp → Prop} {H : Heap} {locs : List Loc} {cells slots i : Nat} {ls : Array Slot} {hX hM : tHp} {aX aM : List Nat} {fX fM : List Value} (C0 : lw_At p s m meth c b L xs) (hU : tU E (fun q => s.heap.size ≤ q) s) (hL : L ≤ 2560) (hi : i + 5 ≤ L) (hl : lv_has ls 4 [(0, .ref b), (1, .ref (tad E aX 0)), (2, .ref (tad E aM 0)), (3, .int (nI i))]) (hcs : cells + 3 ≤ 600000) (hss : slots + 873 ≤ 7302250) (hcX : hX[0]? = some (.inl (7, fX))) (hcM : hM[0]? = some (.inl (8, fM))) (hw : tW2 E (fun q => s.heap.size ≤ q) aX aM hX hM H) (hS : va_S (fun q => s.heap.size ≤ q) s.heap H locs) (hA : ∀ (x0 : Int32), tSameI l E J yX7_reason cX7_reason 3 yX8_reason cX8_reason 2 [.int x0] hX hM) (hK : ∀ (hX' hM' : tHp) (aX' aM' : List Nat) (H' : Heap) (locs' : List Loc) (cells' slots' : Nat), J hX' hM' → tW2 E (fun q => s.heap.size ≤ q) aX' aM' hX' hM' H' → va_S (fun q => s.heap.size ≤ q) s.heap H' locs' → cells' ≤ cells + 3 → slots' ≤ slots + 873 → lv_has ls 4 [(0, .ref b), (1, .ref (tad E aX' 0)), (2, .ref (tad E aM' 0)), (3, .int (nI i))] → W p l e room_1 s m #[Value.ref b] below meth c H' locs' cells' slots' Q (F0 m 1618 ls [])) : W p l e room_1 s m #[Value.ref b] below meth c H locs cells slots Q (F0 m 633 ls []) := by
  obtain ⟨hx, hb, hr, hmx, hown, -, hXs, hbl, hlocks, hgv⟩ := id C0
  have hts := hU.hts #[Value.ref b]
  refine lv_aload_n hx hb dL_law_633 rfl (lv_at hl 1 rfl) ?_
  refine lw_rd (k := 1) (q := 639) C0 hS hl (by omega) hL rfl dL_law_634 dL_law_635 dL_law_636 dL_law_637 dL_law_638 rfl ?_
  obtain ⟨z, hX', hM', dX, dM, kX, nX, q1, q2, q3, q4, e1, e2, hJ⟩ := hA (xs (i + 1))
  refine lw_call (as := [.int (xs (i + 1))]) (rest := []) (q := 642) (ci := 7) C0 hU hl.1 tm_X7_reason ml_L_76 ti_X7_reason hcX rfl dL_law_639 rfl e1 rfl (fun _ => rfl) (fun _ => rfl) rfl (Nat.le_of_ble_eq_true rfl) q1 (by omega) (by omega) hw hS (fun aX' H1 locs1 w1 s1 t1 => ?_)
  refine lv_aload_n hx hb dL_law_642 rfl (lv_at hl 2 rfl) ?_
  refine lw_rd (k := 1) (q := 648) C0 s1 hl (by omega) hL rfl dL_law_643 dL_law_644 dL_law_645 dL_law_646 dL_law_647 rfl ?_
  refine lw_call (as := [.int (xs (i + 1))]) (rest := [.int z]) (q := 651) (ci := 8) C0 hU hl.1 tm_X8_reason ml_L_79 ti_X8_reason hcM rfl dL_law_648 rfl e2 rfl (fun _ => rfl) (fun _ => rfl) rfl (Nat.le_of_ble_eq_true rfl) q2 (by omega) (by omega) w1.swap s1 (fun aM' H2 locs2 w2 s2 t2 => ?_)
  refine lv_icmp_eq (tgt := 1618) hx hb dL_law_651 (by decide) (fun _ => ?_) (fun c9 => absurd rfl c9)
  refine hK hX' hM' aX' aM' H2 locs2 _ _ hJ w2.swap s2 (by omega) (by omega) ?_
  rw [t1, t2]; exact hl
set_option maxHeartbeats 4000000 in
theorem law_c15 {p : Program} {l : Launch} {e : Env} {s : State} {m : MethodId} {below : List Frame} {meth : Method} {c : Code} {b L : Nat} {xs : Nat → Int32} {E : tEn} {Q : State → Prop} {J : tHp → tHp → Prop} {H : Heap} {locs : List Loc} {cells slots i : Nat} {ls : Array Slot} {hX hM : tHp} {aX aM : List Nat} {fX fM : List Value} (C0 : lw_At p s m meth c b L xs) (hU : tU E (fun q => s.heap.size ≤ q) s) (hL : L ≤ 2560) (hi : i + 5 ≤ L) (hl : lv_has ls 4 [(0, .ref b), (1, .ref (tad E aX 0)), (2, .ref (tad E aM 0)), (3, .int (nI i))]) (hcs : cells + 3 ≤ 600000) (hss : slots + 873 ≤ 7302250) (hcX : hX[0]? = some (.inl (7, fX))) (hcM : hM[0]? = some (.inl (8, fM))) (hw : tW2 E (fun q => s.heap.size ≤ q) aX aM hX hM H) (hS : va_S (fun q => s.heap.size ≤ q) s.heap H locs) (hA : ∀ (x0 : Int32), tSameI l E J yX7_nodes cX7_nodes 3 yX8_nodes cX8_nodes 3 [.int x0] hX hM) (hK : ∀ (hX' hM' : tHp) (aX' aM' : List Nat) (H' : Heap) (locs' : List Loc) (cells' slots' : Nat), J hX' hM' → tW2 E (fun q => s.heap.size ≤ q) aX' aM' hX' hM' H' → va_S (fun q => s.heap.size ≤ q) s.heap H' locs' → cells' ≤ cells + 3 → slots' ≤ slots + 873 → lv_has ls 4 [(0, .ref b), (1, .ref (tad E aX' 0)), (2, .ref (tad E aM' 0)), (3, .int (nI i))] → W p l e room_1 s m #[Value.ref b] below meth c H' locs' cells' slots' Q (F0 m 1618 ls [])) : W p l e room_1 s m #[Value.ref b] below meth c H locs cells slots Q (F0 m 656 ls []) := by
  obtain ⟨hx, hb, hr, hmx, hown, -, hXs, hbl, hlocks, hgv⟩ := id C0
  have hts := hU.hts #[Value.ref b]
  refine lv_aload_n hx hb dL_law_656 rfl (lv_at hl 1 rfl) ?_
  refine lw_rd (k := 1) (q := 662) C0 hS hl (by omega) hL rfl dL_law_657 dL_law_658 dL_law_659 dL_law_660 dL_law_661 rfl ?_
  obtain ⟨z, hX', hM', dX, dM, kX, nX, q1, q2, q3, q4, e1, e2, hJ⟩ := hA (xs (i + 1))
  refine lw_call (as := [.int (xs (i + 1))]) (rest := []) (q := 665) (ci := 7) C0 hU hl.1 tm_X7_nodes ml_L_80 ti_X7_nodes hcX rfl dL_law_662 rfl e1 rfl (fun _ => rfl) (fun _ => rfl) rfl (Nat.le_of_ble_eq_true rfl) q1 (by omega) (by omega) hw hS (fun aX' H1 locs1 w1 s1 t1 => ?_)
  refine lv_aload_n hx hb dL_law_665 rfl (lv_at hl 2 rfl) ?_
  refine lw_rd (k := 1) (q := 671) C0 s1 hl (by omega) hL rfl dL_law_666 dL_law_667 dL_law_668 dL_law_669 dL_law_670 rfl ?_
  refine lw_call (as := [.int (xs (i + 1))]) (rest := [.int z]) (q := 674) (ci := 8) C0 hU hl.1 tm_X8_nodes ml_L_83 ti_X8_nodes hcM rfl dL_law_671 rfl e2 rfl (fun _ => rfl) (fun _ => rfl) rfl (Nat.le_of_ble_eq_true rfl) q2 (by omega) (by omega) w1.swap s1 (fun aM' H2 locs2 w2 s2 t2 => ?_)
  refine lv_icmp_eq (tgt := 1618) hx hb dL_law_674 (by decide) (fun _ => ?_) (fun c9 => absurd rfl c9)
  refine hK hX' hM' aX' aM' H2 locs2 _ _ hJ w2.swap s2 (by omega) (by omega) ?_
  rw [t1, t2]; exact hl
set_option maxHeartbeats 4000000 in
theorem law_c16 {p : Program} {l : Launch} {e : Env} {s : State} {m : MethodId} {below : List Frame} {meth : Method} {c : Code} {b L : Nat} {xs : Nat → Int32} {E : tEn} {Q : State → Prop} {J : tHp → tHp → Prop} {H : Heap} {locs : List Loc} {cells slots i : Nat} {ls : Array Slot} {hX hM : tHp} {aX aM : List Nat} {fX fM : List Value} (C0 : lw_At p s m meth c b L xs) (hU : tU E (fun q => s.heap.size ≤ q) s) (hL : L ≤ 2560) (hi : i + 5 ≤ L) (hl : lv_has ls 4 [(0, .ref b), (1, .ref (tad E aX 0)), (2, .ref (tad E aM 0)), (3, .int (nI i))]) (hcs : cells + 3 ≤ 600000) (hss : slots + 873 ≤ 7302250) (hcX : hX[0]? = some (.inl (7, fX))) (hcM : hM[0]? = some (.inl (8, fM))) (hw : tW2 E (fun q => s.heap.size ≤ q) aX aM hX hM H) (hS : va_S (fun q => s.heap.size ≤ q) s.heap H locs) (hA : ∀ (x0 : Int32) (x1 : Int32), tSameI l E J yX7_nodeType cX7_nodeType 4 yX8_nodeType cX8_nodeType 4 [.int x0, .int x1] hX hM) (hK : ∀ (hX' hM' : tHp) (aX' aM' : List Nat) (H' : Heap) (locs' : List Loc) (cells' slots' : Nat), J hX' hM' → tW2 E (fun q => s.heap.size ≤ q) aX' aM' hX' hM' H' → va_S (fun q => s.heap.size ≤ q) s.heap H' locs' → cells' ≤ cells + 3 → slots' ≤ slots + 873 → lv_has ls 4 [(0, .ref b), (1, .ref (tad E aX' 0)), (2, .ref (tad E aM' 0)), (3, .int (nI i))] → W p l e room_1 s m #[Value.ref b] below meth c H' locs' cells' slots' Q (F0 m 1618 ls [])) : W p l e room_1 s m #[Value.ref b] below meth c H locs cells slots Q (F0 m 679 ls []) := by
  obtain ⟨hx, hb, hr, hmx, hown, -, hXs, hbl, hlocks, hgv⟩ := id C0
  have hts := hU.hts #[Value.ref b]
  refine lv_aload_n hx hb dL_law_679 rfl (lv_at hl 1 rfl) ?_
  refine lw_rd (k := 1) (q := 685) C0 hS hl (by omega) hL rfl dL_law_680 dL_law_681 dL_law_682 dL_law_683 dL_law_684 rfl ?_
  refine lw_rd (k := 2) (q := 690) C0 hS hl (by omega) hL rfl dL_law_685 dL_law_686 dL_law_687 dL_law_688 dL_law_689 rfl ?_
  obtain ⟨z, hX', hM', dX, dM, kX, nX, q1, q2, q3, q4, e1, e2, hJ⟩ := hA (xs (i + 1)) (xs (i + 2))
  refine lw_call (as := [.int (xs (i + 1)), .int (xs (i + 2))]) (rest := []) (q := 693) (ci := 7) C0 hU hl.1 tm_X7_nodeType ml_L_84 ti_X7_nodeType hcX rfl dL_law_690 rfl e1 rfl (fun _ => rfl) (fun _ => rfl) rfl (Nat.le_of_ble_eq_true rfl) q1 (by omega) (by omega) hw hS (fun aX' H1 locs1 w1 s1 t1 => ?_)
  refine lv_aload_n hx hb dL_law_693 rfl (lv_at hl 2 rfl) ?_
  refine lw_rd (k := 1) (q := 699) C0 s1 hl (by omega) hL rfl dL_law_694 dL_law_695 dL_law_696 dL_law_697 dL_law_698 rfl ?_
  refine lw_rd (k := 2) (q := 704) C0 s1 hl (by omega) hL rfl dL_law_699 dL_law_700 dL_law_701 dL_law_702 dL_law_703 rfl ?_
  refine lw_call (as := [.int (xs (i + 1)), .int (xs (i + 2))]) (rest := [.int z]) (q := 707) (ci := 8) C0 hU hl.1 tm_X8_nodeType ml_L_87 ti_X8_nodeType hcM rfl dL_law_704 rfl e2 rfl (fun _ => rfl) (fun _ => rfl) rfl (Nat.le_of_ble_eq_true rfl) q2 (by omega) (by omega) w1.swap s1 (fun aM' H2 locs2 w2 s2 t2 => ?_)
  refine lv_icmp_eq (tgt := 1618) hx hb dL_law_707 (by decide) (fun _ => ?_) (fun c9 => absurd rfl c9)
  refine hK hX' hM' aX' aM' H2 locs2 _ _ hJ w2.swap s2 (by omega) (by omega) ?_
  rw [t1, t2]; exact hl
set_option maxHeartbeats 4000000 in
theorem law_c17 {p : Program} {l : Launch} {e : Env} {s : State} {m : MethodId} {below : List Frame} {meth : Method} {c : Code} {b L : Nat} {xs : Nat → Int32} {E : tEn} {Q : State → Prop} {J : tHp → tHp → Prop} {H : Heap} {locs : List Loc} {cells slots i : Nat} {ls : Array Slot} {hX hM : tHp} {aX aM : List Nat} {fX fM : List Value} (C0 : lw_At p s m meth c b L xs) (hU : tU E (fun q => s.heap.size ≤ q) s) (hL : L ≤ 2560) (hi : i + 5 ≤ L) (hl : lv_has ls 4 [(0, .ref b), (1, .ref (tad E aX 0)), (2, .ref (tad E aM 0)), (3, .int (nI i))]) (hcs : cells + 3 ≤ 600000) (hss : slots + 873 ≤ 7302250) (hcX : hX[0]? = some (.inl (7, fX))) (hcM : hM[0]? = some (.inl (8, fM))) (hw : tW2 E (fun q => s.heap.size ≤ q) aX aM hX hM H) (hS : va_S (fun q => s.heap.size ≤ q) s.heap H locs) (hA : ∀ (x0 : Int32) (x1 : Int32), tSameI l E J yX7_parent cX7_parent 4 yX8_parent cX8_parent 4 [.int x0, .int x1] hX hM) (hK : ∀ (hX' hM' : tHp) (aX' aM' : List Nat) (H' : Heap) (locs' : List Loc) (cells' slots' : Nat), J hX' hM' → tW2 E (fun q => s.heap.size ≤ q) aX' aM' hX' hM' H' → va_S (fun q => s.heap.size ≤ q) s.heap H' locs' → cells' ≤ cells + 3 → slots' ≤ slots + 873 → lv_has ls 4 [(0, .ref b), (1, .ref (tad E aX' 0)), (2, .ref (tad E aM' 0)), (3, .int (nI i))] → W p l e room_1 s m #[Value.ref b] below meth c H' locs' cells' slots' Q (F0 m 1618 ls [])) : W p l e room_1 s m #[Value.ref b] below meth c H locs cells slots Q (F0 m 712 ls []) := by
  obtain ⟨hx, hb, hr, hmx, hown, -, hXs, hbl, hlocks, hgv⟩ := id C0
  have hts := hU.hts #[Value.ref b]
  refine lv_aload_n hx hb dL_law_712 rfl (lv_at hl 1 rfl) ?_
  refine lw_rd (k := 1) (q := 718) C0 hS hl (by omega) hL rfl dL_law_713 dL_law_714 dL_law_715 dL_law_716 dL_law_717 rfl ?_
  refine lw_rd (k := 2) (q := 723) C0 hS hl (by omega) hL rfl dL_law_718 dL_law_719 dL_law_720 dL_law_721 dL_law_722 rfl ?_
  obtain ⟨z, hX', hM', dX, dM, kX, nX, q1, q2, q3, q4, e1, e2, hJ⟩ := hA (xs (i + 1)) (xs (i + 2))
  refine lw_call (as := [.int (xs (i + 1)), .int (xs (i + 2))]) (rest := []) (q := 726) (ci := 7) C0 hU hl.1 tm_X7_parent ml_L_88 ti_X7_parent hcX rfl dL_law_723 rfl e1 rfl (fun _ => rfl) (fun _ => rfl) rfl (Nat.le_of_ble_eq_true rfl) q1 (by omega) (by omega) hw hS (fun aX' H1 locs1 w1 s1 t1 => ?_)
  refine lv_aload_n hx hb dL_law_726 rfl (lv_at hl 2 rfl) ?_
  refine lw_rd (k := 1) (q := 732) C0 s1 hl (by omega) hL rfl dL_law_727 dL_law_728 dL_law_729 dL_law_730 dL_law_731 rfl ?_
  refine lw_rd (k := 2) (q := 737) C0 s1 hl (by omega) hL rfl dL_law_732 dL_law_733 dL_law_734 dL_law_735 dL_law_736 rfl ?_
  refine lw_call (as := [.int (xs (i + 1)), .int (xs (i + 2))]) (rest := [.int z]) (q := 740) (ci := 8) C0 hU hl.1 tm_X8_parent ml_L_91 ti_X8_parent hcM rfl dL_law_737 rfl e2 rfl (fun _ => rfl) (fun _ => rfl) rfl (Nat.le_of_ble_eq_true rfl) q2 (by omega) (by omega) w1.swap s1 (fun aM' H2 locs2 w2 s2 t2 => ?_)
  refine lv_icmp_eq (tgt := 1618) hx hb dL_law_740 (by decide) (fun _ => ?_) (fun c9 => absurd rfl c9)
  refine hK hX' hM' aX' aM' H2 locs2 _ _ hJ w2.swap s2 (by omega) (by omega) ?_
  rw [t1, t2]; exact hl
set_option maxHeartbeats 4000000 in
theorem law_c18 {p : Program} {l : Launch} {e : Env} {s : State} {m : MethodId} {below : List Frame} {meth : Method} {c : Code} {b L : Nat} {xs : Nat → Int32} {E : tEn} {Q : State → Prop} {J : tHp → tHp → Prop} {H : Heap} {locs : List Loc} {cells slots i : Nat} {ls : Array Slot} {hX hM : tHp} {aX aM : List Nat} {fX fM : List Value} (C0 : lw_At p s m meth c b L xs) (hU : tU E (fun q => s.heap.size ≤ q) s) (hL : L ≤ 2560) (hi : i + 5 ≤ L) (hl : lv_has ls 4 [(0, .ref b), (1, .ref (tad E aX 0)), (2, .ref (tad E aM 0)), (3, .int (nI i))]) (hcs : cells + 3 ≤ 600000) (hss : slots + 873 ≤ 7302250) (hcX : hX[0]? = some (.inl (7, fX))) (hcM : hM[0]? = some (.inl (8, fM))) (hw : tW2 E (fun q => s.heap.size ≤ q) aX aM hX hM H) (hS : va_S (fun q => s.heap.size ≤ q) s.heap H locs) (hA : ∀ (x0 : Int32) (x1 : Int32), tSameI l E J yX7_depth cX7_depth 4 yX8_depth cX8_depth 7 [.int x0, .int x1] hX hM) (hK : ∀ (hX' hM' : tHp) (aX' aM' : List Nat) (H' : Heap) (locs' : List Loc) (cells' slots' : Nat), J hX' hM' → tW2 E (fun q => s.heap.size ≤ q) aX' aM' hX' hM' H' → va_S (fun q => s.heap.size ≤ q) s.heap H' locs' → cells' ≤ cells + 3 → slots' ≤ slots + 873 → lv_has ls 4 [(0, .ref b), (1, .ref (tad E aX' 0)), (2, .ref (tad E aM' 0)), (3, .int (nI i))] → W p l e room_1 s m #[Value.ref b] below meth c H' locs' cells' slots' Q (F0 m 1618 ls [])) : W p l e room_1 s m #[Value.ref b] below meth c H locs cells slots Q (F0 m 745 ls []) := by
  obtain ⟨hx, hb, hr, hmx, hown, -, hXs, hbl, hlocks, hgv⟩ := id C0
  have hts := hU.hts #[Value.ref b]
  refine lv_aload_n hx hb dL_law_745 rfl (lv_at hl 1 rfl) ?_
  refine lw_rd (k := 1) (q := 751) C0 hS hl (by omega) hL rfl dL_law_746 dL_law_747 dL_law_748 dL_law_749 dL_law_750 rfl ?_
  refine lw_rd (k := 2) (q := 756) C0 hS hl (by omega) hL rfl dL_law_751 dL_law_752 dL_law_753 dL_law_754 dL_law_755 rfl ?_
  obtain ⟨z, hX', hM', dX, dM, kX, nX, q1, q2, q3, q4, e1, e2, hJ⟩ := hA (xs (i + 1)) (xs (i + 2))
  refine lw_call (as := [.int (xs (i + 1)), .int (xs (i + 2))]) (rest := []) (q := 759) (ci := 7) C0 hU hl.1 tm_X7_depth ml_L_92 ti_X7_depth hcX rfl dL_law_756 rfl e1 rfl (fun _ => rfl) (fun _ => rfl) rfl (Nat.le_of_ble_eq_true rfl) q1 (by omega) (by omega) hw hS (fun aX' H1 locs1 w1 s1 t1 => ?_)
  refine lv_aload_n hx hb dL_law_759 rfl (lv_at hl 2 rfl) ?_
  refine lw_rd (k := 1) (q := 765) C0 s1 hl (by omega) hL rfl dL_law_760 dL_law_761 dL_law_762 dL_law_763 dL_law_764 rfl ?_
  refine lw_rd (k := 2) (q := 770) C0 s1 hl (by omega) hL rfl dL_law_765 dL_law_766 dL_law_767 dL_law_768 dL_law_769 rfl ?_
  refine lw_call (as := [.int (xs (i + 1)), .int (xs (i + 2))]) (rest := [.int z]) (q := 773) (ci := 8) C0 hU hl.1 tm_X8_depth ml_L_95 ti_X8_depth hcM rfl dL_law_770 rfl e2 rfl (fun _ => rfl) (fun _ => rfl) rfl (Nat.le_of_ble_eq_true rfl) q2 (by omega) (by omega) w1.swap s1 (fun aM' H2 locs2 w2 s2 t2 => ?_)
  refine lv_icmp_eq (tgt := 1618) hx hb dL_law_773 (by decide) (fun _ => ?_) (fun c9 => absurd rfl c9)
  refine hK hX' hM' aX' aM' H2 locs2 _ _ hJ w2.swap s2 (by omega) (by omega) ?_
  rw [t1, t2]; exact hl
set_option maxHeartbeats 4000000 in
theorem law_c19 {p : Program} {l : Launch} {e : Env} {s : State} {m : MethodId} {below : List Frame} {meth : Method} {c : Code} {b L : Nat} {xs : Nat → Int32} {E : tEn} {Q : State → Prop} {J : tHp → tHp → Prop} {H : Heap} {locs : List Loc} {cells slots i : Nat} {ls : Array Slot} {hX hM : tHp} {aX aM : List Nat} {fX fM : List Value} (C0 : lw_At p s m meth c b L xs) (hU : tU E (fun q => s.heap.size ≤ q) s) (hL : L ≤ 2560) (hi : i + 5 ≤ L) (hl : lv_has ls 4 [(0, .ref b), (1, .ref (tad E aX 0)), (2, .ref (tad E aM 0)), (3, .int (nI i))]) (hcs : cells + 3 ≤ 600000) (hss : slots + 873 ≤ 7302250) (hcX : hX[0]? = some (.inl (7, fX))) (hcM : hM[0]? = some (.inl (8, fM))) (hw : tW2 E (fun q => s.heap.size ≤ q) aX aM hX hM H) (hS : va_S (fun q => s.heap.size ≤ q) s.heap H locs) (hA : ∀ (x0 : Int32), tSameI l E J yX7_writeFormula cX7_writeFormula 3 yX8_writeFormula cX8_writeFormula 3 [.int x0] hX hM) (hK : ∀ (hX' hM' : tHp) (aX' aM' : List Nat) (H' : Heap) (locs' : List Loc) (cells' slots' : Nat), J hX' hM' → tW2 E (fun q => s.heap.size ≤ q) aX' aM' hX' hM' H' → va_S (fun q => s.heap.size ≤ q) s.heap H' locs' → cells' ≤ cells + 3 → slots' ≤ slots + 873 → lv_has ls 4 [(0, .ref b), (1, .ref (tad E aX' 0)), (2, .ref (tad E aM' 0)), (3, .int (nI i))] → W p l e room_1 s m #[Value.ref b] below meth c H' locs' cells' slots' Q (F0 m 1618 ls [])) : W p l e room_1 s m #[Value.ref b] below meth c H locs cells slots Q (F0 m 778 ls []) := by
  obtain ⟨hx, hb, hr, hmx, hown, -, hXs, hbl, hlocks, hgv⟩ := id C0
  have hts := hU.hts #[Value.ref b]
  refine lv_aload_n hx hb dL_law_778 rfl (lv_at hl 1 rfl) ?_
  refine lw_rd (k := 1) (q := 784) C0 hS hl (by omega) hL rfl dL_law_779 dL_law_780 dL_law_781 dL_law_782 dL_law_783 rfl ?_
  obtain ⟨z, hX', hM', dX, dM, kX, nX, q1, q2, q3, q4, e1, e2, hJ⟩ := hA (xs (i + 1))
  refine lw_call (as := [.int (xs (i + 1))]) (rest := []) (q := 787) (ci := 7) C0 hU hl.1 tm_X7_writeFormula ml_L_96 ti_X7_writeFormula hcX rfl dL_law_784 rfl e1 rfl (fun _ => rfl) (fun _ => rfl) rfl (Nat.le_of_ble_eq_true rfl) q1 (by omega) (by omega) hw hS (fun aX' H1 locs1 w1 s1 t1 => ?_)
  refine lv_aload_n hx hb dL_law_787 rfl (lv_at hl 2 rfl) ?_
  refine lw_rd (k := 1) (q := 793) C0 s1 hl (by omega) hL rfl dL_law_788 dL_law_789 dL_law_790 dL_law_791 dL_law_792 rfl ?_
  refine lw_call (as := [.int (xs (i + 1))]) (rest := [.int z]) (q := 796) (ci := 8) C0 hU hl.1 tm_X8_writeFormula ml_L_99 ti_X8_writeFormula hcM rfl dL_law_793 rfl e2 rfl (fun _ => rfl) (fun _ => rfl) rfl (Nat.le_of_ble_eq_true rfl) q2 (by omega) (by omega) w1.swap s1 (fun aM' H2 locs2 w2 s2 t2 => ?_)
  refine lv_icmp_eq (tgt := 1618) hx hb dL_law_796 (by decide) (fun _ => ?_) (fun c9 => absurd rfl c9)
  refine hK hX' hM' aX' aM' H2 locs2 _ _ hJ w2.swap s2 (by omega) (by omega) ?_
  rw [t1, t2]; exact hl
set_option maxHeartbeats 4000000 in
theorem law_c20 {p : Program} {l : Launch} {e : Env} {s : State} {m : MethodId} {below : List Frame} {meth : Method} {c : Code} {b L : Nat} {xs : Nat → Int32} {E : tEn} {Q : State → Prop} {J : tHp → tHp → Prop} {H : Heap} {locs : List Loc} {cells slots i : Nat} {ls : Array Slot} {hX hM : tHp} {aX aM : List Nat} {fX fM : List Value} (C0 : lw_At p s m meth c b L xs) (hU : tU E (fun q => s.heap.size ≤ q) s) (hL : L ≤ 2560) (hi : i + 5 ≤ L) (hl : lv_has ls 4 [(0, .ref b), (1, .ref (tad E aX 0)), (2, .ref (tad E aM 0)), (3, .int (nI i))]) (hcs : cells + 3 ≤ 600000) (hss : slots + 873 ≤ 7302250) (hcX : hX[0]? = some (.inl (7, fX))) (hcM : hM[0]? = some (.inl (8, fM))) (hw : tW2 E (fun q => s.heap.size ≤ q) aX aM hX hM H) (hS : va_S (fun q => s.heap.size ≤ q) s.heap H locs) (hA : ∀ (x0 : Int32), tSameI l E J yX7_output cX7_output 2 yX8_output cX8_output 2 [.int x0] hX hM) (hK : ∀ (hX' hM' : tHp) (aX' aM' : List Nat) (H' : Heap) (locs' : List Loc) (cells' slots' : Nat), J hX' hM' → tW2 E (fun q => s.heap.size ≤ q) aX' aM' hX' hM' H' → va_S (fun q => s.heap.size ≤ q) s.heap H' locs' → cells' ≤ cells + 3 → slots' ≤ slots + 873 → lv_has ls 4 [(0, .ref b), (1, .ref (tad E aX' 0)), (2, .ref (tad E aM' 0)), (3, .int (nI i))] → W p l e room_1 s m #[Value.ref b] below meth c H' locs' cells' slots' Q (F0 m 1618 ls [])) : W p l e room_1 s m #[Value.ref b] below meth c H locs cells slots Q (F0 m 801 ls []) := by
  obtain ⟨hx, hb, hr, hmx, hown, -, hXs, hbl, hlocks, hgv⟩ := id C0
  have hts := hU.hts #[Value.ref b]
  refine lv_aload_n hx hb dL_law_801 rfl (lv_at hl 1 rfl) ?_
  refine lw_rd (k := 1) (q := 807) C0 hS hl (by omega) hL rfl dL_law_802 dL_law_803 dL_law_804 dL_law_805 dL_law_806 rfl ?_
  obtain ⟨z, hX', hM', dX, dM, kX, nX, q1, q2, q3, q4, e1, e2, hJ⟩ := hA (xs (i + 1))
  refine lw_call (as := [.int (xs (i + 1))]) (rest := []) (q := 810) (ci := 7) C0 hU hl.1 tm_X7_output ml_L_100 ti_X7_output hcX rfl dL_law_807 rfl e1 rfl (fun _ => rfl) (fun _ => rfl) rfl (Nat.le_of_ble_eq_true rfl) q1 (by omega) (by omega) hw hS (fun aX' H1 locs1 w1 s1 t1 => ?_)
  refine lv_aload_n hx hb dL_law_810 rfl (lv_at hl 2 rfl) ?_
  refine lw_rd (k := 1) (q := 816) C0 s1 hl (by omega) hL rfl dL_law_811 dL_law_812 dL_law_813 dL_law_814 dL_law_815 rfl ?_
  refine lw_call (as := [.int (xs (i + 1))]) (rest := [.int z]) (q := 819) (ci := 8) C0 hU hl.1 tm_X8_output ml_L_103 ti_X8_output hcM rfl dL_law_816 rfl e2 rfl (fun _ => rfl) (fun _ => rfl) rfl (Nat.le_of_ble_eq_true rfl) q2 (by omega) (by omega) w1.swap s1 (fun aM' H2 locs2 w2 s2 t2 => ?_)
  refine lv_icmp_eq (tgt := 1618) hx hb dL_law_819 (by decide) (fun _ => ?_) (fun c9 => absurd rfl c9)
  refine hK hX' hM' aX' aM' H2 locs2 _ _ hJ w2.swap s2 (by omega) (by omega) ?_
  rw [t1, t2]; exact hl
set_option maxHeartbeats 4000000 in
theorem law_c21 {p : Program} {l : Launch} {e : Env} {s : State} {m : MethodId} {below : List Frame} {meth : Method} {c : Code} {b L : Nat} {xs : Nat → Int32} {E : tEn} {Q : State → Prop} {J : tHp → tHp → Prop} {H : Heap} {locs : List Loc} {cells slots i : Nat} {ls : Array Slot} {hX hM : tHp} {aX aM : List Nat} {fX fM : List Value} (C0 : lw_At p s m meth c b L xs) (hU : tU E (fun q => s.heap.size ≤ q) s) (hL : L ≤ 2560) (hi : i + 5 ≤ L) (hl : lv_has ls 4 [(0, .ref b), (1, .ref (tad E aX 0)), (2, .ref (tad E aM 0)), (3, .int (nI i))]) (hcs : cells + 3 ≤ 600000) (hss : slots + 873 ≤ 7302250) (hcX : hX[0]? = some (.inl (7, fX))) (hcM : hM[0]? = some (.inl (8, fM))) (hw : tW2 E (fun q => s.heap.size ≤ q) aX aM hX hM H) (hS : va_S (fun q => s.heap.size ≤ q) s.heap H locs) (hA : ∀ (x0 : Int32), tSameI l E J yX7_feed cX7_feed 2 yX8_feed cX8_feed 2 [.int x0] hX hM) (hK : ∀ (hX' hM' : tHp) (aX' aM' : List Nat) (H' : Heap) (locs' : List Loc) (cells' slots' : Nat), J hX' hM' → tW2 E (fun q => s.heap.size ≤ q) aX' aM' hX' hM' H' → va_S (fun q => s.heap.size ≤ q) s.heap H' locs' → cells' ≤ cells + 3 → slots' ≤ slots + 873 → lv_has ls 4 [(0, .ref b), (1, .ref (tad E aX' 0)), (2, .ref (tad E aM' 0)), (3, .int (nI i))] → W p l e room_1 s m #[Value.ref b] below meth c H' locs' cells' slots' Q (F0 m 1618 ls [])) : W p l e room_1 s m #[Value.ref b] below meth c H locs cells slots Q (F0 m 824 ls []) := by
  obtain ⟨hx, hb, hr, hmx, hown, -, hXs, hbl, hlocks, hgv⟩ := id C0
  have hts := hU.hts #[Value.ref b]
  refine lv_aload_n hx hb dL_law_824 rfl (lv_at hl 1 rfl) ?_
  refine lw_rd (k := 1) (q := 830) C0 hS hl (by omega) hL rfl dL_law_825 dL_law_826 dL_law_827 dL_law_828 dL_law_829 rfl ?_
  obtain ⟨z, hX', hM', dX, dM, kX, nX, q1, q2, q3, q4, e1, e2, hJ⟩ := hA (xs (i + 1))
  refine lw_call (as := [.int (xs (i + 1))]) (rest := []) (q := 833) (ci := 7) C0 hU hl.1 tm_X7_feed ml_L_104 ti_X7_feed hcX rfl dL_law_830 rfl e1 rfl (fun _ => rfl) (fun _ => rfl) rfl (Nat.le_of_ble_eq_true rfl) q1 (by omega) (by omega) hw hS (fun aX' H1 locs1 w1 s1 t1 => ?_)
  refine lv_aload_n hx hb dL_law_833 rfl (lv_at hl 2 rfl) ?_
  refine lw_rd (k := 1) (q := 839) C0 s1 hl (by omega) hL rfl dL_law_834 dL_law_835 dL_law_836 dL_law_837 dL_law_838 rfl ?_
  refine lw_call (as := [.int (xs (i + 1))]) (rest := [.int z]) (q := 842) (ci := 8) C0 hU hl.1 tm_X8_feed ml_L_107 ti_X8_feed hcM rfl dL_law_839 rfl e2 rfl (fun _ => rfl) (fun _ => rfl) rfl (Nat.le_of_ble_eq_true rfl) q2 (by omega) (by omega) w1.swap s1 (fun aM' H2 locs2 w2 s2 t2 => ?_)
  refine lv_icmp_eq (tgt := 1618) hx hb dL_law_842 (by decide) (fun _ => ?_) (fun c9 => absurd rfl c9)
  refine hK hX' hM' aX' aM' H2 locs2 _ _ hJ w2.swap s2 (by omega) (by omega) ?_
  rw [t1, t2]; exact hl
set_option maxHeartbeats 4000000 in
theorem law_c22 {p : Program} {l : Launch} {e : Env} {s : State} {m : MethodId} {below : List Frame} {meth : Method} {c : Code} {b L : Nat} {xs : Nat → Int32} {E : tEn} {Q : State → Prop} {J : tHp → tHp → Prop} {H : Heap} {locs : List Loc} {cells slots i : Nat} {ls : Array Slot} {hX hM : tHp} {aX aM : List Nat} {fX fM : List Value} (C0 : lw_At p s m meth c b L xs) (hU : tU E (fun q => s.heap.size ≤ q) s) (hL : L ≤ 2560) (hi : i + 5 ≤ L) (hl : lv_has ls 4 [(0, .ref b), (1, .ref (tad E aX 0)), (2, .ref (tad E aM 0)), (3, .int (nI i))]) (hcs : cells + 3 ≤ 600000) (hss : slots + 873 ≤ 7302250) (hcX : hX[0]? = some (.inl (7, fX))) (hcM : hM[0]? = some (.inl (8, fM))) (hw : tW2 E (fun q => s.heap.size ≤ q) aX aM hX hM H) (hS : va_S (fun q => s.heap.size ≤ q) s.heap H locs) (hA : ∀ (x0 : Int32), tSameI l E J yX7_parse cX7_parse 4 yX8_parse cX8_parse 4 [.int x0] hX hM) (hK : ∀ (hX' hM' : tHp) (aX' aM' : List Nat) (H' : Heap) (locs' : List Loc) (cells' slots' : Nat), J hX' hM' → tW2 E (fun q => s.heap.size ≤ q) aX' aM' hX' hM' H' → va_S (fun q => s.heap.size ≤ q) s.heap H' locs' → cells' ≤ cells + 3 → slots' ≤ slots + 873 → lv_has ls 4 [(0, .ref b), (1, .ref (tad E aX' 0)), (2, .ref (tad E aM' 0)), (3, .int (nI i))] → W p l e room_1 s m #[Value.ref b] below meth c H' locs' cells' slots' Q (F0 m 1618 ls [])) : W p l e room_1 s m #[Value.ref b] below meth c H locs cells slots Q (F0 m 847 ls []) := by
  obtain ⟨hx, hb, hr, hmx, hown, -, hXs, hbl, hlocks, hgv⟩ := id C0
  have hts := hU.hts #[Value.ref b]
  refine lv_aload_n hx hb dL_law_847 rfl (lv_at hl 1 rfl) ?_
  refine lw_rd (k := 1) (q := 853) C0 hS hl (by omega) hL rfl dL_law_848 dL_law_849 dL_law_850 dL_law_851 dL_law_852 rfl ?_
  obtain ⟨z, hX', hM', dX, dM, kX, nX, q1, q2, q3, q4, e1, e2, hJ⟩ := hA (xs (i + 1))
  refine lw_call (as := [.int (xs (i + 1))]) (rest := []) (q := 856) (ci := 7) C0 hU hl.1 tm_X7_parse ml_L_108 ti_X7_parse hcX rfl dL_law_853 rfl e1 rfl (fun _ => rfl) (fun _ => rfl) rfl (Nat.le_of_ble_eq_true rfl) q1 (by omega) (by omega) hw hS (fun aX' H1 locs1 w1 s1 t1 => ?_)
  refine lv_aload_n hx hb dL_law_856 rfl (lv_at hl 2 rfl) ?_
  refine lw_rd (k := 1) (q := 862) C0 s1 hl (by omega) hL rfl dL_law_857 dL_law_858 dL_law_859 dL_law_860 dL_law_861 rfl ?_
  refine lw_call (as := [.int (xs (i + 1))]) (rest := [.int z]) (q := 865) (ci := 8) C0 hU hl.1 tm_X8_parse ml_L_111 ti_X8_parse hcM rfl dL_law_862 rfl e2 rfl (fun _ => rfl) (fun _ => rfl) rfl (Nat.le_of_ble_eq_true rfl) q2 (by omega) (by omega) w1.swap s1 (fun aM' H2 locs2 w2 s2 t2 => ?_)
  refine lv_icmp_eq (tgt := 1618) hx hb dL_law_865 (by decide) (fun _ => ?_) (fun c9 => absurd rfl c9)
  refine hK hX' hM' aX' aM' H2 locs2 _ _ hJ w2.swap s2 (by omega) (by omega) ?_
  rw [t1, t2]; exact hl
set_option maxHeartbeats 4000000 in
theorem law_c23 {p : Program} {l : Launch} {e : Env} {s : State} {m : MethodId} {below : List Frame} {meth : Method} {c : Code} {b L : Nat} {xs : Nat → Int32} {E : tEn} {Q : State → Prop} {J : tHp → tHp → Prop} {H : Heap} {locs : List Loc} {cells slots i : Nat} {ls : Array Slot} {hX hM : tHp} {aX aM : List Nat} {fX fM : List Value} (C0 : lw_At p s m meth c b L xs) (hU : tU E (fun q => s.heap.size ≤ q) s) (hL : L ≤ 2560) (hi : i + 5 ≤ L) (hl : lv_has ls 4 [(0, .ref b), (1, .ref (tad E aX 0)), (2, .ref (tad E aM 0)), (3, .int (nI i))]) (hcs : cells + 3 ≤ 600000) (hss : slots + 873 ≤ 7302250) (hcX : hX[0]? = some (.inl (7, fX))) (hcM : hM[0]? = some (.inl (8, fM))) (hw : tW2 E (fun q => s.heap.size ≤ q) aX aM hX hM H) (hS : va_S (fun q => s.heap.size ≤ q) s.heap H locs) (hA : ∀ (x0 : Int32) (x1 : Int32) (x2 : Int32) (x3 : Int32), tSameI l E J yX7_combine cX7_combine 5 yX8_combine cX8_combine 9 [.int x0, .int x1, .int x2, .int x3] hX hM) (hK : ∀ (hX' hM' : tHp) (aX' aM' : List Nat) (H' : Heap) (locs' : List Loc) (cells' slots' : Nat), J hX' hM' → tW2 E (fun q => s.heap.size ≤ q) aX' aM' hX' hM' H' → va_S (fun q => s.heap.size ≤ q) s.heap H' locs' → cells' ≤ cells + 3 → slots' ≤ slots + 873 → lv_has ls 4 [(0, .ref b), (1, .ref (tad E aX' 0)), (2, .ref (tad E aM' 0)), (3, .int (nI i))] → W p l e room_1 s m #[Value.ref b] below meth c H' locs' cells' slots' Q (F0 m 1618 ls [])) : W p l e room_1 s m #[Value.ref b] below meth c H locs cells slots Q (F0 m 870 ls []) := by
  obtain ⟨hx, hb, hr, hmx, hown, -, hXs, hbl, hlocks, hgv⟩ := id C0
  have hts := hU.hts #[Value.ref b]
  refine lv_aload_n hx hb dL_law_870 rfl (lv_at hl 1 rfl) ?_
  refine lw_rd (k := 1) (q := 876) C0 hS hl (by omega) hL rfl dL_law_871 dL_law_872 dL_law_873 dL_law_874 dL_law_875 rfl ?_
  refine lw_rd (k := 2) (q := 881) C0 hS hl (by omega) hL rfl dL_law_876 dL_law_877 dL_law_878 dL_law_879 dL_law_880 rfl ?_
  refine lw_rd (k := 3) (q := 886) C0 hS hl (by omega) hL rfl dL_law_881 dL_law_882 dL_law_883 dL_law_884 dL_law_885 rfl ?_
  refine lw_rd (k := 4) (q := 891) C0 hS hl (by omega) hL rfl dL_law_886 dL_law_887 dL_law_888 dL_law_889 dL_law_890 rfl ?_
  obtain ⟨z, hX', hM', dX, dM, kX, nX, q1, q2, q3, q4, e1, e2, hJ⟩ := hA (xs (i + 1)) (xs (i + 2)) (xs (i + 3)) (xs (i + 4))
  refine lw_call (as := [.int (xs (i + 1)), .int (xs (i + 2)), .int (xs (i + 3)), .int (xs (i + 4))]) (rest := []) (q := 894) (ci := 7) C0 hU hl.1 tm_X7_combine ml_L_112 ti_X7_combine hcX rfl dL_law_891 rfl e1 rfl (fun _ => rfl) (fun _ => rfl) rfl (Nat.le_of_ble_eq_true rfl) q1 (by omega) (by omega) hw hS (fun aX' H1 locs1 w1 s1 t1 => ?_)
  refine lv_aload_n hx hb dL_law_894 rfl (lv_at hl 2 rfl) ?_
  refine lw_rd (k := 1) (q := 900) C0 s1 hl (by omega) hL rfl dL_law_895 dL_law_896 dL_law_897 dL_law_898 dL_law_899 rfl ?_
  refine lw_rd (k := 2) (q := 905) C0 s1 hl (by omega) hL rfl dL_law_900 dL_law_901 dL_law_902 dL_law_903 dL_law_904 rfl ?_
  refine lw_rd (k := 3) (q := 910) C0 s1 hl (by omega) hL rfl dL_law_905 dL_law_906 dL_law_907 dL_law_908 dL_law_909 rfl ?_
  refine lw_rd (k := 4) (q := 915) C0 s1 hl (by omega) hL rfl dL_law_910 dL_law_911 dL_law_912 dL_law_913 dL_law_914 rfl ?_
  refine lw_call (as := [.int (xs (i + 1)), .int (xs (i + 2)), .int (xs (i + 3)), .int (xs (i + 4))]) (rest := [.int z]) (q := 918) (ci := 8) C0 hU hl.1 tm_X8_combine ml_L_116 ti_X8_combine hcM rfl dL_law_915 rfl e2 rfl (fun _ => rfl) (fun _ => rfl) rfl (Nat.le_of_ble_eq_true rfl) q2 (by omega) (by omega) w1.swap s1 (fun aM' H2 locs2 w2 s2 t2 => ?_)
  refine lv_icmp_eq (tgt := 1618) hx hb dL_law_918 (by decide) (fun _ => ?_) (fun c9 => absurd rfl c9)
  refine hK hX' hM' aX' aM' H2 locs2 _ _ hJ w2.swap s2 (by omega) (by omega) ?_
  rw [t1, t2]; exact hl
set_option maxHeartbeats 4000000 in
theorem law_c24 {p : Program} {l : Launch} {e : Env} {s : State} {m : MethodId} {below : List Frame} {meth : Method} {c : Code} {b L : Nat} {xs : Nat → Int32} {E : tEn} {Q : State → Prop} {J : tHp → tHp → Prop} {H : Heap} {locs : List Loc} {cells slots i : Nat} {ls : Array Slot} {hX hM : tHp} {aX aM : List Nat} {fX fM : List Value} (C0 : lw_At p s m meth c b L xs) (hU : tU E (fun q => s.heap.size ≤ q) s) (hL : L ≤ 2560) (hi : i + 5 ≤ L) (hl : lv_has ls 4 [(0, .ref b), (1, .ref (tad E aX 0)), (2, .ref (tad E aM 0)), (3, .int (nI i))]) (hcs : cells + 3 ≤ 600000) (hss : slots + 873 ≤ 7302250) (hcX : hX[0]? = some (.inl (7, fX))) (hcM : hM[0]? = some (.inl (8, fM))) (hw : tW2 E (fun q => s.heap.size ≤ q) aX aM hX hM H) (hS : va_S (fun q => s.heap.size ≤ q) s.heap H locs) (hA : ∀ (x0 : Int32) (x1 : Int32), tSameI l E J yX7_dual cX7_dual 9 yX8_dual cX8_dual 6 [.int x0, .int x1] hX hM) (hK : ∀ (hX' hM' : tHp) (aX' aM' : List Nat) (H' : Heap) (locs' : List Loc) (cells' slots' : Nat), J hX' hM' → tW2 E (fun q => s.heap.size ≤ q) aX' aM' hX' hM' H' → va_S (fun q => s.heap.size ≤ q) s.heap H' locs' → cells' ≤ cells + 3 → slots' ≤ slots + 873 → lv_has ls 4 [(0, .ref b), (1, .ref (tad E aX' 0)), (2, .ref (tad E aM' 0)), (3, .int (nI i))] → W p l e room_1 s m #[Value.ref b] below meth c H' locs' cells' slots' Q (F0 m 1618 ls [])) : W p l e room_1 s m #[Value.ref b] below meth c H locs cells slots Q (F0 m 923 ls []) := by
  obtain ⟨hx, hb, hr, hmx, hown, -, hXs, hbl, hlocks, hgv⟩ := id C0
  have hts := hU.hts #[Value.ref b]
  refine lv_aload_n hx hb dL_law_923 rfl (lv_at hl 1 rfl) ?_
  refine lw_rd (k := 1) (q := 929) C0 hS hl (by omega) hL rfl dL_law_924 dL_law_925 dL_law_926 dL_law_927 dL_law_928 rfl ?_
  refine lw_rd (k := 2) (q := 934) C0 hS hl (by omega) hL rfl dL_law_929 dL_law_930 dL_law_931 dL_law_932 dL_law_933 rfl ?_
  obtain ⟨z, hX', hM', dX, dM, kX, nX, q1, q2, q3, q4, e1, e2, hJ⟩ := hA (xs (i + 1)) (xs (i + 2))
  refine lw_call (as := [.int (xs (i + 1)), .int (xs (i + 2))]) (rest := []) (q := 937) (ci := 7) C0 hU hl.1 tm_X7_dual ml_L_117 ti_X7_dual hcX rfl dL_law_934 rfl e1 rfl (fun _ => rfl) (fun _ => rfl) rfl (Nat.le_of_ble_eq_true rfl) q1 (by omega) (by omega) hw hS (fun aX' H1 locs1 w1 s1 t1 => ?_)
  refine lv_aload_n hx hb dL_law_937 rfl (lv_at hl 2 rfl) ?_
  refine lw_rd (k := 1) (q := 943) C0 s1 hl (by omega) hL rfl dL_law_938 dL_law_939 dL_law_940 dL_law_941 dL_law_942 rfl ?_
  refine lw_rd (k := 2) (q := 948) C0 s1 hl (by omega) hL rfl dL_law_943 dL_law_944 dL_law_945 dL_law_946 dL_law_947 rfl ?_
  refine lw_call (as := [.int (xs (i + 1)), .int (xs (i + 2))]) (rest := [.int z]) (q := 951) (ci := 8) C0 hU hl.1 tm_X8_dual ml_L_120 ti_X8_dual hcM rfl dL_law_948 rfl e2 rfl (fun _ => rfl) (fun _ => rfl) rfl (Nat.le_of_ble_eq_true rfl) q2 (by omega) (by omega) w1.swap s1 (fun aM' H2 locs2 w2 s2 t2 => ?_)
  refine lv_icmp_eq (tgt := 1618) hx hb dL_law_951 (by decide) (fun _ => ?_) (fun c9 => absurd rfl c9)
  refine hK hX' hM' aX' aM' H2 locs2 _ _ hJ w2.swap s2 (by omega) (by omega) ?_
  rw [t1, t2]; exact hl
set_option maxHeartbeats 4000000 in
theorem law_c25 {p : Program} {l : Launch} {e : Env} {s : State} {m : MethodId} {below : List Frame} {meth : Method} {c : Code} {b L : Nat} {xs : Nat → Int32} {E : tEn} {Q : State → Prop} {J : tHp → tHp → Prop} {H : Heap} {locs : List Loc} {cells slots i : Nat} {ls : Array Slot} {hX hM : tHp} {aX aM : List Nat} {fX fM : List Value} (C0 : lw_At p s m meth c b L xs) (hU : tU E (fun q => s.heap.size ≤ q) s) (hL : L ≤ 2560) (hi : i + 5 ≤ L) (hl : lv_has ls 4 [(0, .ref b), (1, .ref (tad E aX 0)), (2, .ref (tad E aM 0)), (3, .int (nI i))]) (hcs : cells + 3 ≤ 600000) (hss : slots + 873 ≤ 7302250) (hcX : hX[0]? = some (.inl (7, fX))) (hcM : hM[0]? = some (.inl (8, fM))) (hw : tW2 E (fun q => s.heap.size ≤ q) aX aM hX hM H) (hS : va_S (fun q => s.heap.size ≤ q) s.heap H locs) (hA : ∀ (x0 : Int32) (x1 : Int32) (x2 : Int32) (x3 : Int32), tSameI l E J yX7_cofactor cX7_cofactor 7 yX8_cofactor cX8_cofactor 8 [.int x0, .int x1, .int x2, .int x3] hX hM) (hK : ∀ (hX' hM' : tHp) (aX' aM' : List Nat) (H' : Heap) (locs' : List Loc) (cells' slots' : Nat), J hX' hM' → tW2 E (fun q => s.heap.size ≤ q) aX' aM' hX' hM' H' → va_S (fun q => s.heap.size ≤ q) s.heap H' locs' → cells' ≤ cells + 3 → slots' ≤ slots + 873 → lv_has ls 4 [(0, .ref b), (1, .ref (tad E aX' 0)), (2, .ref (tad E aM' 0)), (3, .int (nI i))] → W p l e room_1 s m #[Value.ref b] below meth c H' locs' cells' slots' Q (F0 m 1618 ls [])) : W p l e room_1 s m #[Value.ref b] below meth c H locs cells slots Q (F0 m 956 ls []) := by
  obtain ⟨hx, hb, hr, hmx, hown, -, hXs, hbl, hlocks, hgv⟩ := id C0
  have hts := hU.hts #[Value.ref b]
  refine lv_aload_n hx hb dL_law_956 rfl (lv_at hl 1 rfl) ?_
  refine lw_rd (k := 1) (q := 962) C0 hS hl (by omega) hL rfl dL_law_957 dL_law_958 dL_law_959 dL_law_960 dL_law_961 rfl ?_
  refine lw_rd (k := 2) (q := 967) C0 hS hl (by omega) hL rfl dL_law_962 dL_law_963 dL_law_964 dL_law_965 dL_law_966 rfl ?_
  refine lw_rd (k := 3) (q := 972) C0 hS hl (by omega) hL rfl dL_law_967 dL_law_968 dL_law_969 dL_law_970 dL_law_971 rfl ?_
  refine lw_rd (k := 4) (q := 977) C0 hS hl (by omega) hL rfl dL_law_972 dL_law_973 dL_law_974 dL_law_975 dL_law_976 rfl ?_
  obtain ⟨z, hX', hM', dX, dM, kX, nX, q1, q2, q3, q4, e1, e2, hJ⟩ := hA (xs (i + 1)) (xs (i + 2)) (xs (i + 3)) (xs (i + 4))
  refine lw_call (as := [.int (xs (i + 1)), .int (xs (i + 2)), .int (xs (i + 3)), .int (xs (i + 4))]) (rest := []) (q := 980) (ci := 7) C0 hU hl.1 tm_X7_cofactor ml_L_121 ti_X7_cofactor hcX rfl dL_law_977 rfl e1 rfl (fun _ => rfl) (fun _ => rfl) rfl (Nat.le_of_ble_eq_true rfl) q1 (by omega) (by omega) hw hS (fun aX' H1 locs1 w1 s1 t1 => ?_)
  refine lv_aload_n hx hb dL_law_980 rfl (lv_at hl 2 rfl) ?_
  refine lw_rd (k := 1) (q := 986) C0 s1 hl (by omega) hL rfl dL_law_981 dL_law_982 dL_law_983 dL_law_984 dL_law_985 rfl ?_
  refine lw_rd (k := 2) (q := 991) C0 s1 hl (by omega) hL rfl dL_law_986 dL_law_987 dL_law_988 dL_law_989 dL_law_990 rfl ?_
  refine lw_rd (k := 3) (q := 996) C0 s1 hl (by omega) hL rfl dL_law_991 dL_law_992 dL_law_993 dL_law_994 dL_law_995 rfl ?_
  refine lw_rd (k := 4) (q := 1001) C0 s1 hl (by omega) hL rfl dL_law_996 dL_law_997 dL_law_998 dL_law_999 dL_law_1000 rfl ?_
  refine lw_call (as := [.int (xs (i + 1)), .int (xs (i + 2)), .int (xs (i + 3)), .int (xs (i + 4))]) (rest := [.int z]) (q := 1004) (ci := 8) C0 hU hl.1 tm_X8_cofactor ml_L_124 ti_X8_cofactor hcM rfl dL_law_1001 rfl e2 rfl (fun _ => rfl) (fun _ => rfl) rfl (Nat.le_of_ble_eq_true rfl) q2 (by omega) (by omega) w1.swap s1 (fun aM' H2 locs2 w2 s2 t2 => ?_)
  refine lv_icmp_eq (tgt := 1618) hx hb dL_law_1004 (by decide) (fun _ => ?_) (fun c9 => absurd rfl c9)
  refine hK hX' hM' aX' aM' H2 locs2 _ _ hJ w2.swap s2 (by omega) (by omega) ?_
  rw [t1, t2]; exact hl
set_option maxHeartbeats 4000000 in
theorem law_c26 {p : Program} {l : Launch} {e : Env} {s : State} {m : MethodId} {below : List Frame} {meth : Method} {c : Code} {b L : Nat} {xs : Nat → Int32} {E : tEn} {Q : State → Prop} {J : tHp → tHp → Prop} {H : Heap} {locs : List Loc} {cells slots i : Nat} {ls : Array Slot} {hX hM : tHp} {aX aM : List Nat} {fX fM : List Value} (C0 : lw_At p s m meth c b L xs) (hU : tU E (fun q => s.heap.size ≤ q) s) (hL : L ≤ 2560) (hi : i + 5 ≤ L) (hl : lv_has ls 4 [(0, .ref b), (1, .ref (tad E aX 0)), (2, .ref (tad E aM 0)), (3, .int (nI i))]) (hcs : cells + 3 ≤ 600000) (hss : slots + 873 ≤ 7302250) (hcX : hX[0]? = some (.inl (7, fX))) (hcM : hM[0]? = some (.inl (8, fM))) (hw : tW2 E (fun q => s.heap.size ≤ q) aX aM hX hM H) (hS : va_S (fun q => s.heap.size ≤ q) s.heap H locs) (hA : ∀ (x0 : Int32) (x1 : Int32) (x2 : Int32) (x3 : Int32), tSameI l E J yX7_substitute cX7_substitute 5 yX8_substitute cX8_substitute 9 [.int x0, .int x1, .int x2, .int x3] hX hM) (hK : ∀ (hX' hM' : tHp) (aX' aM' : List Nat) (H' : Heap) (locs' : List Loc) (cells' slots' : Nat), J hX' hM' → tW2 E (fun q => s.heap.size ≤ q) aX' aM' hX' hM' H' → va_S (fun q => s.heap.size ≤ q) s.heap H' locs' → cells' ≤ cells + 3 → slots' ≤ slots + 873 → lv_has ls 4 [(0, .ref b), (1, .ref (tad E aX' 0)), (2, .ref (tad E aM' 0)), (3, .int (nI i))] → W p l e room_1 s m #[Value.ref b] below meth c H' locs' cells' slots' Q (F0 m 1618 ls [])) : W p l e room_1 s m #[Value.ref b] below meth c H locs cells slots Q (F0 m 1009 ls []) := by
  obtain ⟨hx, hb, hr, hmx, hown, -, hXs, hbl, hlocks, hgv⟩ := id C0
  have hts := hU.hts #[Value.ref b]
  refine lv_aload_n hx hb dL_law_1009 rfl (lv_at hl 1 rfl) ?_
  refine lw_rd (k := 1) (q := 1015) C0 hS hl (by omega) hL rfl dL_law_1010 dL_law_1011 dL_law_1012 dL_law_1013 dL_law_1014 rfl ?_
  refine lw_rd (k := 2) (q := 1020) C0 hS hl (by omega) hL rfl dL_law_1015 dL_law_1016 dL_law_1017 dL_law_1018 dL_law_1019 rfl ?_
  refine lw_rd (k := 3) (q := 1025) C0 hS hl (by omega) hL rfl dL_law_1020 dL_law_1021 dL_law_1022 dL_law_1023 dL_law_1024 rfl ?_
  refine lw_rd (k := 4) (q := 1030) C0 hS hl (by omega) hL rfl dL_law_1025 dL_law_1026 dL_law_1027 dL_law_1028 dL_law_1029 rfl ?_
  obtain ⟨z, hX', hM', dX, dM, kX, nX, q1, q2, q3, q4, e1, e2, hJ⟩ := hA (xs (i + 1)) (xs (i + 2)) (xs (i + 3)) (xs (i + 4))
  refine lw_call (as := [.int (xs (i + 1)), .int (xs (i + 2)), .int (xs (i + 3)), .int (xs (i + 4))]) (rest := []) (q := 1033) (ci := 7) C0 hU hl.1 tm_X7_substitute ml_L_125 ti_X7_substitute hcX rfl dL_law_1030 rfl e1 rfl (fun _ => rfl) (fun _ => rfl) rfl (Nat.le_of_ble_eq_true rfl) q1 (by omega) (by omega) hw hS (fun aX' H1 locs1 w1 s1 t1 => ?_)
  refine lv_aload_n hx hb dL_law_1033 rfl (lv_at hl 2 rfl) ?_
  refine lw_rd (k := 1) (q := 1039) C0 s1 hl (by omega) hL rfl dL_law_1034 dL_law_1035 dL_law_1036 dL_law_1037 dL_law_1038 rfl ?_
  refine lw_rd (k := 2) (q := 1044) C0 s1 hl (by omega) hL rfl dL_law_1039 dL_law_1040 dL_law_1041 dL_law_1042 dL_law_1043 rfl ?_
  refine lw_rd (k := 3) (q := 1049) C0 s1 hl (by omega) hL rfl dL_law_1044 dL_law_1045 dL_law_1046 dL_law_1047 dL_law_1048 rfl ?_
  refine lw_rd (k := 4) (q := 1054) C0 s1 hl (by omega) hL rfl dL_law_1049 dL_law_1050 dL_law_1051 dL_law_1052 dL_law_1053 rfl ?_
  refine lw_call (as := [.int (xs (i + 1)), .int (xs (i + 2)), .int (xs (i + 3)), .int (xs (i + 4))]) (rest := [.int z]) (q := 1057) (ci := 8) C0 hU hl.1 tm_X8_substitute ml_L_128 ti_X8_substitute hcM rfl dL_law_1054 rfl e2 rfl (fun _ => rfl) (fun _ => rfl) rfl (Nat.le_of_ble_eq_true rfl) q2 (by omega) (by omega) w1.swap s1 (fun aM' H2 locs2 w2 s2 t2 => ?_)
  refine lv_icmp_eq (tgt := 1618) hx hb dL_law_1057 (by decide) (fun _ => ?_) (fun c9 => absurd rfl c9)
  refine hK hX' hM' aX' aM' H2 locs2 _ _ hJ w2.swap s2 (by omega) (by omega) ?_
  rw [t1, t2]; exact hl
set_option maxHeartbeats 4000000 in
theorem law_c27 {p : Program} {l : Launch} {e : Env} {s : State} {m : MethodId} {below : List Frame} {meth : Method} {c : Code} {b L : Nat} {xs : Nat → Int32} {E : tEn} {Q : State → Prop} {J : tHp → tHp → Prop} {H : Heap} {locs : List Loc} {cells slots i : Nat} {ls : Array Slot} {hX hM : tHp} {aX aM : List Nat} {fX fM : List Value} (C0 : lw_At p s m meth c b L xs) (hU : tU E (fun q => s.heap.size ≤ q) s) (hL : L ≤ 2560) (hi : i + 5 ≤ L) (hl : lv_has ls 4 [(0, .ref b), (1, .ref (tad E aX 0)), (2, .ref (tad E aM 0)), (3, .int (nI i))]) (hcs : cells + 3 ≤ 600000) (hss : slots + 873 ≤ 7302250) (hcX : hX[0]? = some (.inl (7, fX))) (hcM : hM[0]? = some (.inl (8, fM))) (hw : tW2 E (fun q => s.heap.size ≤ q) aX aM hX hM H) (hS : va_S (fun q => s.heap.size ≤ q) s.heap H locs) (hA : ∀ (x0 : Int32) (x1 : Int32) (x2 : Int32) (x3 : Int32), tSameI l E J yX7_exchange cX7_exchange 11 yX8_exchange cX8_exchange 9 [.int x0, .int x1, .int x2, .int x3] hX hM) (hK : ∀ (hX' hM' : tHp) (aX' aM' : List Nat) (H' : Heap) (locs' : List Loc) (cells' slots' : Nat), J hX' hM' → tW2 E (fun q => s.heap.size ≤ q) aX' aM' hX' hM' H' → va_S (fun q => s.heap.size ≤ q) s.heap H' locs' → cells' ≤ cells + 3 → slots' ≤ slots + 873 → lv_has ls 4 [(0, .ref b), (1, .ref (tad E aX' 0)), (2, .ref (tad E aM' 0)), (3, .int (nI i))] → W p l e room_1 s m #[Value.ref b] below meth c H' locs' cells' slots' Q (F0 m 1618 ls [])) : W p l e room_1 s m #[Value.ref b] below meth c H locs cells slots Q (F0 m 1062 ls []) := by
  obtain ⟨hx, hb, hr, hmx, hown, -, hXs, hbl, hlocks, hgv⟩ := id C0
  have hts := hU.hts #[Value.ref b]
  refine lv_aload_n hx hb dL_law_1062 rfl (lv_at hl 1 rfl) ?_
  refine lw_rd (k := 1) (q := 1068) C0 hS hl (by omega) hL rfl dL_law_1063 dL_law_1064 dL_law_1065 dL_law_1066 dL_law_1067 rfl ?_
  refine lw_rd (k := 2) (q := 1073) C0 hS hl (by omega) hL rfl dL_law_1068 dL_law_1069 dL_law_1070 dL_law_1071 dL_law_1072 rfl ?_
  refine lw_rd (k := 3) (q := 1078) C0 hS hl (by omega) hL rfl dL_law_1073 dL_law_1074 dL_law_1075 dL_law_1076 dL_law_1077 rfl ?_
  refine lw_rd (k := 4) (q := 1083) C0 hS hl (by omega) hL rfl dL_law_1078 dL_law_1079 dL_law_1080 dL_law_1081 dL_law_1082 rfl ?_
  obtain ⟨z, hX', hM', dX, dM, kX, nX, q1, q2, q3, q4, e1, e2, hJ⟩ := hA (xs (i + 1)) (xs (i + 2)) (xs (i + 3)) (xs (i + 4))
  refine lw_call (as := [.int (xs (i + 1)), .int (xs (i + 2)), .int (xs (i + 3)), .int (xs (i + 4))]) (rest := []) (q := 1086) (ci := 7) C0 hU hl.1 tm_X7_exchange ml_L_129 ti_X7_exchange hcX rfl dL_law_1083 rfl e1 rfl (fun _ => rfl) (fun _ => rfl) rfl (Nat.le_of_ble_eq_true rfl) q1 (by omega) (by omega) hw hS (fun aX' H1 locs1 w1 s1 t1 => ?_)
  refine lv_aload_n hx hb dL_law_1086 rfl (lv_at hl 2 rfl) ?_
  refine lw_rd (k := 1) (q := 1092) C0 s1 hl (by omega) hL rfl dL_law_1087 dL_law_1088 dL_law_1089 dL_law_1090 dL_law_1091 rfl ?_
  refine lw_rd (k := 2) (q := 1097) C0 s1 hl (by omega) hL rfl dL_law_1092 dL_law_1093 dL_law_1094 dL_law_1095 dL_law_1096 rfl ?_
  refine lw_rd (k := 3) (q := 1102) C0 s1 hl (by omega) hL rfl dL_law_1097 dL_law_1098 dL_law_1099 dL_law_1100 dL_law_1101 rfl ?_
  refine lw_rd (k := 4) (q := 1107) C0 s1 hl (by omega) hL rfl dL_law_1102 dL_law_1103 dL_law_1104 dL_law_1105 dL_law_1106 rfl ?_
  refine lw_call (as := [.int (xs (i + 1)), .int (xs (i + 2)), .int (xs (i + 3)), .int (xs (i + 4))]) (rest := [.int z]) (q := 1110) (ci := 8) C0 hU hl.1 tm_X8_exchange ml_L_132 ti_X8_exchange hcM rfl dL_law_1107 rfl e2 rfl (fun _ => rfl) (fun _ => rfl) rfl (Nat.le_of_ble_eq_true rfl) q2 (by omega) (by omega) w1.swap s1 (fun aM' H2 locs2 w2 s2 t2 => ?_)
  refine lv_icmp_eq (tgt := 1618) hx hb dL_law_1110 (by decide) (fun _ => ?_) (fun c9 => absurd rfl c9)
  refine hK hX' hM' aX' aM' H2 locs2 _ _ hJ w2.swap s2 (by omega) (by omega) ?_
  rw [t1, t2]; exact hl
set_option maxHeartbeats 4000000 in
theorem law_c28 {p : Program} {l : Launch} {e : Env} {s : State} {m : MethodId} {below : List Frame} {meth : Method} {c : Code} {b L : Nat} {xs : Nat → Int32} {E : tEn} {Q : State → Prop} {J : tHp → tHp → Prop} {H : Heap} {locs : List Loc} {cells slots i : Nat} {ls : Array Slot} {hX hM : tHp} {aX aM : List Nat} {fX fM : List Value} (C0 : lw_At p s m meth c b L xs) (hU : tU E (fun q => s.heap.size ≤ q) s) (hL : L ≤ 2560) (hi : i + 5 ≤ L) (hl : lv_has ls 4 [(0, .ref b), (1, .ref (tad E aX 0)), (2, .ref (tad E aM 0)), (3, .int (nI i))]) (hcs : cells + 3 ≤ 600000) (hss : slots + 873 ≤ 7302250) (hcX : hX[0]? = some (.inl (7, fX))) (hcM : hM[0]? = some (.inl (8, fM))) (hw : tW2 E (fun q => s.heap.size ≤ q) aX aM hX hM H) (hS : va_S (fun q => s.heap.size ≤ q) s.heap H locs) (hA : ∀ (x0 : Int32) (x1 : Int32) (x2 : Int32), tSameI l E J yX7_random cX7_random 4 yX8_random cX8_random 4 [.int x0, .int x1, .int x2] hX hM) (hK : ∀ (hX' hM' : tHp) (aX' aM' : List Nat) (H' : Heap) (locs' : List Loc) (cells' slots' : Nat), J hX' hM' → tW2 E (fun q => s.heap.size ≤ q) aX' aM' hX' hM' H' → va_S (fun q => s.heap.size ≤ q) s.heap H' locs' → cells' ≤ cells + 3 → slots' ≤ slots + 873 → lv_has ls 4 [(0, .ref b), (1, .ref (tad E aX' 0)), (2, .ref (tad E aM' 0)), (3, .int (nI i))] → W p l e room_1 s m #[Value.ref b] below meth c H' locs' cells' slots' Q (F0 m 1618 ls [])) : W p l e room_1 s m #[Value.ref b] below meth c H locs cells slots Q (F0 m 1115 ls []) := by
  obtain ⟨hx, hb, hr, hmx, hown, -, hXs, hbl, hlocks, hgv⟩ := id C0
  have hts := hU.hts #[Value.ref b]
  refine lv_aload_n hx hb dL_law_1115 rfl (lv_at hl 1 rfl) ?_
  refine lw_rd (k := 1) (q := 1121) C0 hS hl (by omega) hL rfl dL_law_1116 dL_law_1117 dL_law_1118 dL_law_1119 dL_law_1120 rfl ?_
  refine lw_rd (k := 2) (q := 1126) C0 hS hl (by omega) hL rfl dL_law_1121 dL_law_1122 dL_law_1123 dL_law_1124 dL_law_1125 rfl ?_
  refine lw_rd (k := 3) (q := 1131) C0 hS hl (by omega) hL rfl dL_law_1126 dL_law_1127 dL_law_1128 dL_law_1129 dL_law_1130 rfl ?_
  obtain ⟨z, hX', hM', dX, dM, kX, nX, q1, q2, q3, q4, e1, e2, hJ⟩ := hA (xs (i + 1)) (xs (i + 2)) (xs (i + 3))
  refine lw_call (as := [.int (xs (i + 1)), .int (xs (i + 2)), .int (xs (i + 3))]) (rest := []) (q := 1134) (ci := 7) C0 hU hl.1 tm_X7_random ml_L_133 ti_X7_random hcX rfl dL_law_1131 rfl e1 rfl (fun _ => rfl) (fun _ => rfl) rfl (Nat.le_of_ble_eq_true rfl) q1 (by omega) (by omega) hw hS (fun aX' H1 locs1 w1 s1 t1 => ?_)
  refine lv_aload_n hx hb dL_law_1134 rfl (lv_at hl 2 rfl) ?_
  refine lw_rd (k := 1) (q := 1140) C0 s1 hl (by omega) hL rfl dL_law_1135 dL_law_1136 dL_law_1137 dL_law_1138 dL_law_1139 rfl ?_
  refine lw_rd (k := 2) (q := 1145) C0 s1 hl (by omega) hL rfl dL_law_1140 dL_law_1141 dL_law_1142 dL_law_1143 dL_law_1144 rfl ?_
  refine lw_rd (k := 3) (q := 1150) C0 s1 hl (by omega) hL rfl dL_law_1145 dL_law_1146 dL_law_1147 dL_law_1148 dL_law_1149 rfl ?_
  refine lw_call (as := [.int (xs (i + 1)), .int (xs (i + 2)), .int (xs (i + 3))]) (rest := [.int z]) (q := 1153) (ci := 8) C0 hU hl.1 tm_X8_random ml_L_137 ti_X8_random hcM rfl dL_law_1150 rfl e2 rfl (fun _ => rfl) (fun _ => rfl) rfl (Nat.le_of_ble_eq_true rfl) q2 (by omega) (by omega) w1.swap s1 (fun aM' H2 locs2 w2 s2 t2 => ?_)
  refine lv_icmp_eq (tgt := 1618) hx hb dL_law_1153 (by decide) (fun _ => ?_) (fun c9 => absurd rfl c9)
  refine hK hX' hM' aX' aM' H2 locs2 _ _ hJ w2.swap s2 (by omega) (by omega) ?_
  rw [t1, t2]; exact hl
set_option maxHeartbeats 4000000 in
theorem law_c29 {p : Program} {l : Launch} {e : Env} {s : State} {m : MethodId} {below : List Frame} {meth : Method} {c : Code} {b L : Nat} {xs : Nat → Int32} {E : tEn} {Q : State → Prop} {J : tHp → tHp → Prop} {H : Heap} {locs : List Loc} {cells slots i : Nat} {ls : Array Slot} {hX hM : tHp} {aX aM : List Nat} {fX fM : List Value} (C0 : lw_At p s m meth c b L xs) (hU : tU E (fun q => s.heap.size ≤ q) s) (hL : L ≤ 2560) (hi : i + 5 ≤ L) (hl : lv_has ls 4 [(0, .ref b), (1, .ref (tad E aX 0)), (2, .ref (tad E aM 0)), (3, .int (nI i))]) (hcs : cells + 3 ≤ 600000) (hss : slots + 873 ≤ 7302250) (hcX : hX[0]? = some (.inl (7, fX))) (hcM : hM[0]? = some (.inl (8, fM))) (hw : tW2 E (fun q => s.heap.size ≤ q) aX aM hX hM H) (hS : va_S (fun q => s.heap.size ≤ q) s.heap H locs) (hA : ∀ (x0 : Int32) (x1 : Int32) (x2 : Int32), tSameI l E J yX7_readOnceTrials cX7_readOnceTrials 6 yX8_readOnceTrials cX8_readOnceTrials 6 [.int x0, .int x1, .int x2] hX hM) (hK : ∀ (hX' hM' : tHp) (aX' aM' : List Nat) (H' : Heap) (locs' : List Loc) (cells' slots' : Nat), J hX' hM' → tW2 E (fun q => s.heap.size ≤ q) aX' aM' hX' hM' H' → va_S (fun q => s.heap.size ≤ q) s.heap H' locs' → cells' ≤ cells + 3 → slots' ≤ slots + 873 → lv_has ls 4 [(0, .ref b), (1, .ref (tad E aX' 0)), (2, .ref (tad E aM' 0)), (3, .int (nI i))] → W p l e room_1 s m #[Value.ref b] below meth c H' locs' cells' slots' Q (F0 m 1618 ls [])) : W p l e room_1 s m #[Value.ref b] below meth c H locs cells slots Q (F0 m 1158 ls []) := by
  obtain ⟨hx, hb, hr, hmx, hown, -, hXs, hbl, hlocks, hgv⟩ := id C0
  have hts := hU.hts #[Value.ref b]
  refine lv_aload_n hx hb dL_law_1158 rfl (lv_at hl 1 rfl) ?_
  refine lw_rd (k := 1) (q := 1164) C0 hS hl (by omega) hL rfl dL_law_1159 dL_law_1160 dL_law_1161 dL_law_1162 dL_law_1163 rfl ?_
  refine lw_rd (k := 2) (q := 1169) C0 hS hl (by omega) hL rfl dL_law_1164 dL_law_1165 dL_law_1166 dL_law_1167 dL_law_1168 rfl ?_
  refine lw_rd (k := 3) (q := 1174) C0 hS hl (by omega) hL rfl dL_law_1169 dL_law_1170 dL_law_1171 dL_law_1172 dL_law_1173 rfl ?_
  obtain ⟨z, hX', hM', dX, dM, kX, nX, q1, q2, q3, q4, e1, e2, hJ⟩ := hA (xs (i + 1)) (xs (i + 2)) (xs (i + 3))
  refine lw_call (as := [.int (xs (i + 1)), .int (xs (i + 2)), .int (xs (i + 3))]) (rest := []) (q := 1177) (ci := 7) C0 hU hl.1 tm_X7_readOnceTrials ml_L_138 ti_X7_readOnceTrials hcX rfl dL_law_1174 rfl e1 rfl (fun _ => rfl) (fun _ => rfl) rfl (Nat.le_of_ble_eq_true rfl) q1 (by omega) (by omega) hw hS (fun aX' H1 locs1 w1 s1 t1 => ?_)
  refine lv_aload_n hx hb dL_law_1177 rfl (lv_at hl 2 rfl) ?_
  refine lw_rd (k := 1) (q := 1183) C0 s1 hl (by omega) hL rfl dL_law_1178 dL_law_1179 dL_law_1180 dL_law_1181 dL_law_1182 rfl ?_
  refine lw_rd (k := 2) (q := 1188) C0 s1 hl (by omega) hL rfl dL_law_1183 dL_law_1184 dL_law_1185 dL_law_1186 dL_law_1187 rfl ?_
  refine lw_rd (k := 3) (q := 1193) C0 s1 hl (by omega) hL rfl dL_law_1188 dL_law_1189 dL_law_1190 dL_law_1191 dL_law_1192 rfl ?_
  refine lw_call (as := [.int (xs (i + 1)), .int (xs (i + 2)), .int (xs (i + 3))]) (rest := [.int z]) (q := 1196) (ci := 8) C0 hU hl.1 tm_X8_readOnceTrials ml_L_141 ti_X8_readOnceTrials hcM rfl dL_law_1193 rfl e2 rfl (fun _ => rfl) (fun _ => rfl) rfl (Nat.le_of_ble_eq_true rfl) q2 (by omega) (by omega) w1.swap s1 (fun aM' H2 locs2 w2 s2 t2 => ?_)
  refine lv_icmp_eq (tgt := 1618) hx hb dL_law_1196 (by decide) (fun _ => ?_) (fun c9 => absurd rfl c9)
  refine hK hX' hM' aX' aM' H2 locs2 _ _ hJ w2.swap s2 (by omega) (by omega) ?_
  rw [t1, t2]; exact hl
set_option maxHeartbeats 4000000 in
theorem law_c30 {p : Program} {l : Launch} {e : Env} {s : State} {m : MethodId} {below : List Frame} {meth : Method} {c : Code} {b L : Nat} {xs : Nat → Int32} {E : tEn} {Q : State → Prop} {J : tHp → tHp → Prop} {H : Heap} {locs : List Loc} {cells slots i : Nat} {ls : Array Slot} {hX hM : tHp} {aX aM : List Nat} {fX fM : List Value} (C0 : lw_At p s m meth c b L xs) (hU : tU E (fun q => s.heap.size ≤ q) s) (hL : L ≤ 2560) (hi : i + 5 ≤ L) (hl : lv_has ls 4 [(0, .ref b), (1, .ref (tad E aX 0)), (2, .ref (tad E aM 0)), (3, .int (nI i))]) (hcs : cells + 3 ≤ 600000) (hss : slots + 873 ≤ 7302250) (hcX : hX[0]? = some (.inl (7, fX))) (hcM : hM[0]? = some (.inl (8, fM))) (hw : tW2 E (fun q => s.heap.size ≤ q) aX aM hX hM H) (hS : va_S (fun q => s.heap.size ≤ q) s.heap H locs) (hA : ∀ (x0 : Int32) (x1 : Int32), tSameI l E J yX7_addSample cX7_addSample 3 yX8_addSample cX8_addSample 3 [.int x0, .int x1] hX hM) (hK : ∀ (hX' hM' : tHp) (aX' aM' : List Nat) (H' : Heap) (locs' : List Loc) (cells' slots' : Nat), J hX' hM' → tW2 E (fun q => s.heap.size ≤ q) aX' aM' hX' hM' H' → va_S (fun q => s.heap.size ≤ q) s.heap H' locs' → cells' ≤ cells + 3 → slots' ≤ slots + 873 → lv_has ls 4 [(0, .ref b), (1, .ref (tad E aX' 0)), (2, .ref (tad E aM' 0)), (3, .int (nI i))] → W p l e room_1 s m #[Value.ref b] below meth c H' locs' cells' slots' Q (F0 m 1618 ls [])) : W p l e room_1 s m #[Value.ref b] below meth c H locs cells slots Q (F0 m 1201 ls []) := by
  obtain ⟨hx, hb, hr, hmx, hown, -, hXs, hbl, hlocks, hgv⟩ := id C0
  have hts := hU.hts #[Value.ref b]
  refine lv_aload_n hx hb dL_law_1201 rfl (lv_at hl 1 rfl) ?_
  refine lw_rd (k := 1) (q := 1207) C0 hS hl (by omega) hL rfl dL_law_1202 dL_law_1203 dL_law_1204 dL_law_1205 dL_law_1206 rfl ?_
  refine lw_rd (k := 2) (q := 1212) C0 hS hl (by omega) hL rfl dL_law_1207 dL_law_1208 dL_law_1209 dL_law_1210 dL_law_1211 rfl ?_
  obtain ⟨z, hX', hM', dX, dM, kX, nX, q1, q2, q3, q4, e1, e2, hJ⟩ := hA (xs (i + 1)) (xs (i + 2))
  refine lw_call (as := [.int (xs (i + 1)), .int (xs (i + 2))]) (rest := []) (q := 1215) (ci := 7) C0 hU hl.1 tm_X7_addSample ml_L_142 ti_X7_addSample hcX rfl dL_law_1212 rfl e1 rfl (fun _ => rfl) (fun _ => rfl) rfl (Nat.le_of_ble_eq_true rfl) q1 (by omega) (by omega) hw hS (fun aX' H1 locs1 w1 s1 t1 => ?_)
  refine lv_aload_n hx hb dL_law_1215 rfl (lv_at hl 2 rfl) ?_
  refine lw_rd (k := 1) (q := 1221) C0 s1 hl (by omega) hL rfl dL_law_1216 dL_law_1217 dL_law_1218 dL_law_1219 dL_law_1220 rfl ?_
  refine lw_rd (k := 2) (q := 1226) C0 s1 hl (by omega) hL rfl dL_law_1221 dL_law_1222 dL_law_1223 dL_law_1224 dL_law_1225 rfl ?_
  refine lw_call (as := [.int (xs (i + 1)), .int (xs (i + 2))]) (rest := [.int z]) (q := 1229) (ci := 8) C0 hU hl.1 tm_X8_addSample ml_L_145 ti_X8_addSample hcM rfl dL_law_1226 rfl e2 rfl (fun _ => rfl) (fun _ => rfl) rfl (Nat.le_of_ble_eq_true rfl) q2 (by omega) (by omega) w1.swap s1 (fun aM' H2 locs2 w2 s2 t2 => ?_)
  refine lv_icmp_eq (tgt := 1618) hx hb dL_law_1229 (by decide) (fun _ => ?_) (fun c9 => absurd rfl c9)
  refine hK hX' hM' aX' aM' H2 locs2 _ _ hJ w2.swap s2 (by omega) (by omega) ?_
  rw [t1, t2]; exact hl
set_option maxHeartbeats 4000000 in
theorem law_c31 {p : Program} {l : Launch} {e : Env} {s : State} {m : MethodId} {below : List Frame} {meth : Method} {c : Code} {b L : Nat} {xs : Nat → Int32} {E : tEn} {Q : State → Prop} {J : tHp → tHp → Prop} {H : Heap} {locs : List Loc} {cells slots i : Nat} {ls : Array Slot} {hX hM : tHp} {aX aM : List Nat} {fX fM : List Value} (C0 : lw_At p s m meth c b L xs) (hU : tU E (fun q => s.heap.size ≤ q) s) (hL : L ≤ 2560) (hi : i + 5 ≤ L) (hl : lv_has ls 4 [(0, .ref b), (1, .ref (tad E aX 0)), (2, .ref (tad E aM 0)), (3, .int (nI i))]) (hcs : cells + 3 ≤ 600000) (hss : slots + 873 ≤ 7302250) (hcX : hX[0]? = some (.inl (7, fX))) (hcM : hM[0]? = some (.inl (8, fM))) (hw : tW2 E (fun q => s.heap.size ≤ q) aX aM hX hM H) (hS : va_S (fun q => s.heap.size ≤ q) s.heap H locs) (hA : ∀ (x0 : Int32), tSameI l E J yX7_removeSample cX7_removeSample 2 yX8_removeSample cX8_removeSample 2 [.int x0] hX hM) (hK : ∀ (hX' hM' : tHp) (aX' aM' : List Nat) (H' : Heap) (locs' : List Loc) (cells' slots' : Nat), J hX' hM' → tW2 E (fun q => s.heap.size ≤ q) aX' aM' hX' hM' H' → va_S (fun q => s.heap.size ≤ q) s.heap H' locs' → cells' ≤ cells + 3 → slots' ≤ slots + 873 → lv_has ls 4 [(0, .ref b), (1, .ref (tad E aX' 0)), (2, .ref (tad E aM' 0)), (3, .int (nI i))] → W p l e room_1 s m #[Value.ref b] below meth c H' locs' cells' slots' Q (F0 m 1618 ls [])) : W p l e room_1 s m #[Value.ref b] below meth c H locs cells slots Q (F0 m 1234 ls []) := by
  obtain ⟨hx, hb, hr, hmx, hown, -, hXs, hbl, hlocks, hgv⟩ := id C0
  have hts := hU.hts #[Value.ref b]
  refine lv_aload_n hx hb dL_law_1234 rfl (lv_at hl 1 rfl) ?_
  refine lw_rd (k := 1) (q := 1240) C0 hS hl (by omega) hL rfl dL_law_1235 dL_law_1236 dL_law_1237 dL_law_1238 dL_law_1239 rfl ?_
  obtain ⟨z, hX', hM', dX, dM, kX, nX, q1, q2, q3, q4, e1, e2, hJ⟩ := hA (xs (i + 1))
  refine lw_call (as := [.int (xs (i + 1))]) (rest := []) (q := 1243) (ci := 7) C0 hU hl.1 tm_X7_removeSample ml_L_146 ti_X7_removeSample hcX rfl dL_law_1240 rfl e1 rfl (fun _ => rfl) (fun _ => rfl) rfl (Nat.le_of_ble_eq_true rfl) q1 (by omega) (by omega) hw hS (fun aX' H1 locs1 w1 s1 t1 => ?_)
  refine lv_aload_n hx hb dL_law_1243 rfl (lv_at hl 2 rfl) ?_
  refine lw_rd (k := 1) (q := 1249) C0 s1 hl (by omega) hL rfl dL_law_1244 dL_law_1245 dL_law_1246 dL_law_1247 dL_law_1248 rfl ?_
  refine lw_call (as := [.int (xs (i + 1))]) (rest := [.int z]) (q := 1252) (ci := 8) C0 hU hl.1 tm_X8_removeSample ml_L_149 ti_X8_removeSample hcM rfl dL_law_1249 rfl e2 rfl (fun _ => rfl) (fun _ => rfl) rfl (Nat.le_of_ble_eq_true rfl) q2 (by omega) (by omega) w1.swap s1 (fun aM' H2 locs2 w2 s2 t2 => ?_)
  refine lv_icmp_eq (tgt := 1618) hx hb dL_law_1252 (by decide) (fun _ => ?_) (fun c9 => absurd rfl c9)
  refine hK hX' hM' aX' aM' H2 locs2 _ _ hJ w2.swap s2 (by omega) (by omega) ?_
  rw [t1, t2]; exact hl
set_option maxHeartbeats 4000000 in
theorem law_c32 {p : Program} {l : Launch} {e : Env} {s : State} {m : MethodId} {below : List Frame} {meth : Method} {c : Code} {b L : Nat} {xs : Nat → Int32} {E : tEn} {Q : State → Prop} {J : tHp → tHp → Prop} {H : Heap} {locs : List Loc} {cells slots i : Nat} {ls : Array Slot} {hX hM : tHp} {aX aM : List Nat} {fX fM : List Value} (C0 : lw_At p s m meth c b L xs) (hU : tU E (fun q => s.heap.size ≤ q) s) (hL : L ≤ 2560) (hi : i + 5 ≤ L) (hl : lv_has ls 4 [(0, .ref b), (1, .ref (tad E aX 0)), (2, .ref (tad E aM 0)), (3, .int (nI i))]) (hcs : cells + 3 ≤ 600000) (hss : slots + 873 ≤ 7302250) (hcX : hX[0]? = some (.inl (7, fX))) (hcM : hM[0]? = some (.inl (8, fM))) (hw : tW2 E (fun q => s.heap.size ≤ q) aX aM hX hM H) (hS : va_S (fun q => s.heap.size ≤ q) s.heap H locs) (hA : tSameI l E J yX7_extensions cX7_extensions 4 yX8_extensions cX8_extensions 3 [] hX hM) (hK : ∀ (hX' hM' : tHp) (aX' aM' : List Nat) (H' : Heap) (locs' : List Loc) (cells' slots' : Nat), J hX' hM' → tW2 E (fun q => s.heap.size ≤ q) aX' aM' hX' hM' H' → va_S (fun q => s.heap.size ≤ q) s.heap H' locs' → cells' ≤ cells + 3 → slots' ≤ slots + 873 → lv_has ls 4 [(0, .ref b), (1, .ref (tad E aX' 0)), (2, .ref (tad E aM' 0)), (3, .int (nI i))] → W p l e room_1 s m #[Value.ref b] below meth c H' locs' cells' slots' Q (F0 m 1618 ls [])) : W p l e room_1 s m #[Value.ref b] below meth c H locs cells slots Q (F0 m 1257 ls []) := by
  obtain ⟨hx, hb, hr, hmx, hown, -, hXs, hbl, hlocks, hgv⟩ := id C0
  have hts := hU.hts #[Value.ref b]
  refine lv_aload_n hx hb dL_law_1257 rfl (lv_at hl 1 rfl) ?_
  obtain ⟨z, hX', hM', dX, dM, kX, nX, q1, q2, q3, q4, e1, e2, hJ⟩ := hA 
  refine lw_call (as := []) (rest := []) (q := 1261) (ci := 7) C0 hU hl.1 tm_X7_extensions ml_L_150 ti_X7_extensions hcX rfl dL_law_1258 rfl e1 rfl (fun _ => rfl) (fun _ => rfl) rfl (Nat.le_of_ble_eq_true rfl) q1 (by omega) (by omega) hw hS (fun aX' H1 locs1 w1 s1 t1 => ?_)
  refine lv_aload_n hx hb dL_law_1261 rfl (lv_at hl 2 rfl) ?_
  refine lw_call (as := []) (rest := [.int z]) (q := 1265) (ci := 8) C0 hU hl.1 tm_X8_extensions ml_L_153 ti_X8_extensions hcM rfl dL_law_1262 rfl e2 rfl (fun _ => rfl) (fun _ => rfl) rfl (Nat.le_of_ble_eq_true rfl) q2 (by omega) (by omega) w1.swap s1 (fun aM' H2 locs2 w2 s2 t2 => ?_)
  refine lv_icmp_eq (tgt := 1618) hx hb dL_law_1265 (by decide) (fun _ => ?_) (fun c9 => absurd rfl c9)
  refine hK hX' hM' aX' aM' H2 locs2 _ _ hJ w2.swap s2 (by omega) (by omega) ?_
  rw [t1, t2]; exact hl
set_option maxHeartbeats 4000000 in
theorem law_c33 {p : Program} {l : Launch} {e : Env} {s : State} {m : MethodId} {below : List Frame} {meth : Method} {c : Code} {b L : Nat} {xs : Nat → Int32} {E : tEn} {Q : State → Prop} {J : tHp → tHp → Prop} {H : Heap} {locs : List Loc} {cells slots i : Nat} {ls : Array Slot} {hX hM : tHp} {aX aM : List Nat} {fX fM : List Value} (C0 : lw_At p s m meth c b L xs) (hU : tU E (fun q => s.heap.size ≤ q) s) (hL : L ≤ 2560) (hi : i + 5 ≤ L) (hl : lv_has ls 4 [(0, .ref b), (1, .ref (tad E aX 0)), (2, .ref (tad E aM 0)), (3, .int (nI i))]) (hcs : cells + 3 ≤ 600000) (hss : slots + 873 ≤ 7302250) (hcX : hX[0]? = some (.inl (7, fX))) (hcM : hM[0]? = some (.inl (8, fM))) (hw : tW2 E (fun q => s.heap.size ≤ q) aX aM hX hM H) (hS : va_S (fun q => s.heap.size ≤ q) s.heap H locs) (hA : ∀ (x0 : Int32), tSameJ l E J yX7_extension cX7_extension 5 yX8_extension cX8_extension 4 [.int x0] hX hM) (hK : ∀ (hX' hM' : tHp) (aX' aM' : List Nat) (H' : Heap) (locs' : List Loc) (cells' slots' : Nat), J hX' hM' → tW2 E (fun q => s.heap.size ≤ q) aX' aM' hX' hM' H' → va_S (fun q => s.heap.size ≤ q) s.heap H' locs' → cells' ≤ cells + 3 → slots' ≤ slots + 873 → lv_has ls 4 [(0, .ref b), (1, .ref (tad E aX' 0)), (2, .ref (tad E aM' 0)), (3, .int (nI i))] → W p l e room_1 s m #[Value.ref b] below meth c H' locs' cells' slots' Q (F0 m 1618 ls [])) : W p l e room_1 s m #[Value.ref b] below meth c H locs cells slots Q (F0 m 1270 ls []) := by
  obtain ⟨hx, hb, hr, hmx, hown, -, hXs, hbl, hlocks, hgv⟩ := id C0
  have hts := hU.hts #[Value.ref b]
  refine lv_aload_n hx hb dL_law_1270 rfl (lv_at hl 1 rfl) ?_
  refine lw_rd (k := 1) (q := 1276) C0 hS hl (by omega) hL rfl dL_law_1271 dL_law_1272 dL_law_1273 dL_law_1274 dL_law_1275 rfl ?_
  obtain ⟨z, hX', hM', dX, dM, kX, nX, q1, q2, q3, q4, e1, e2, hJ⟩ := hA (xs (i + 1))
  refine lw_call (as := [.int (xs (i + 1))]) (rest := []) (q := 1279) (ci := 7) C0 hU hl.1 tm_X7_extension ml_L_154 ti_X7_extension hcX rfl dL_law_1276 rfl e1 rfl (fun _ => rfl) (fun _ => rfl) rfl (Nat.le_of_ble_eq_true rfl) q1 (by omega) (by omega) hw hS (fun aX' H1 locs1 w1 s1 t1 => ?_)
  refine lv_aload_n hx hb dL_law_1279 rfl (lv_at hl 2 rfl) ?_
  refine lw_rd (k := 1) (q := 1285) C0 s1 hl (by omega) hL rfl dL_law_1280 dL_law_1281 dL_law_1282 dL_law_1283 dL_law_1284 rfl ?_
  refine lw_call (as := [.int (xs (i + 1))]) (rest := [.long z]) (q := 1288) (ci := 8) C0 hU hl.1 tm_X8_extension ml_L_157 ti_X8_extension hcM rfl dL_law_1285 rfl e2 rfl (fun _ => rfl) (fun _ => rfl) rfl (Nat.le_of_ble_eq_true rfl) q2 (by omega) (by omega) w1.swap s1 (fun aM' H2 locs2 w2 s2 t2 => ?_)
  refine W.lcmp hx hb dL_law_1288 ?_
  refine lv_if_eq (tgt := 1618) hx hb dL_law_1289 (by decide) (fun _ => ?_) (fun c9 => absurd ((lg_cmp_eq z z).mpr rfl) c9)
  refine hK hX' hM' aX' aM' H2 locs2 _ _ hJ w2.swap s2 (by omega) (by omega) ?_
  rw [t1, t2]; exact hl
set_option maxHeartbeats 4000000 in
theorem law_c34 {p : Program} {l : Launch} {e : Env} {s : State} {m : MethodId} {below : List Frame} {meth : Method} {c : Code} {b L : Nat} {xs : Nat → Int32} {E : tEn} {Q : State → Prop} {J : tHp → tHp → Prop} {H : Heap} {locs : List Loc} {cells slots i : Nat} {ls : Array Slot} {hX hM : tHp} {aX aM : List Nat} {fX fM : List Value} (C0 : lw_At p s m meth c b L xs) (hU : tU E (fun q => s.heap.size ≤ q) s) (hL : L ≤ 2560) (hi : i + 5 ≤ L) (hl : lv_has ls 4 [(0, .ref b), (1, .ref (tad E aX 0)), (2, .ref (tad E aM 0)), (3, .int (nI i))]) (hcs : cells + 3 ≤ 600000) (hss : slots + 873 ≤ 7302250) (hcX : hX[0]? = some (.inl (7, fX))) (hcM : hM[0]? = some (.inl (8, fM))) (hw : tW2 E (fun q => s.heap.size ≤ q) aX aM hX hM H) (hS : va_S (fun q => s.heap.size ≤ q) s.heap H locs) (hA : tSameJ l E J yX7_simplestExtension cX7_simplestExtension 7 yX8_simplestExtension cX8_simplestExtension 3 [] hX hM) (hK : ∀ (hX' hM' : tHp) (aX' aM' : List Nat) (H' : Heap) (locs' : List Loc) (cells' slots' : Nat), J hX' hM' → tW2 E (fun q => s.heap.size ≤ q) aX' aM' hX' hM' H' → va_S (fun q => s.heap.size ≤ q) s.heap H' locs' → cells' ≤ cells + 3 → slots' ≤ slots + 873 → lv_has ls 4 [(0, .ref b), (1, .ref (tad E aX' 0)), (2, .ref (tad E aM' 0)), (3, .int (nI i))] → W p l e room_1 s m #[Value.ref b] below meth c H' locs' cells' slots' Q (F0 m 1618 ls [])) : W p l e room_1 s m #[Value.ref b] below meth c H locs cells slots Q (F0 m 1294 ls []) := by
  obtain ⟨hx, hb, hr, hmx, hown, -, hXs, hbl, hlocks, hgv⟩ := id C0
  have hts := hU.hts #[Value.ref b]
  refine lv_aload_n hx hb dL_law_1294 rfl (lv_at hl 1 rfl) ?_
  obtain ⟨z, hX', hM', dX, dM, kX, nX, q1, q2, q3, q4, e1, e2, hJ⟩ := hA 
  refine lw_call (as := []) (rest := []) (q := 1298) (ci := 7) C0 hU hl.1 tm_X7_simplestExtension ml_L_158 ti_X7_simplestExtension hcX rfl dL_law_1295 rfl e1 rfl (fun _ => rfl) (fun _ => rfl) rfl (Nat.le_of_ble_eq_true rfl) q1 (by omega) (by omega) hw hS (fun aX' H1 locs1 w1 s1 t1 => ?_)
  refine lv_aload_n hx hb dL_law_1298 rfl (lv_at hl 2 rfl) ?_
  refine lw_call (as := []) (rest := [.long z]) (q := 1302) (ci := 8) C0 hU hl.1 tm_X8_simplestExtension ml_L_162 ti_X8_simplestExtension hcM rfl dL_law_1299 rfl e2 rfl (fun _ => rfl) (fun _ => rfl) rfl (Nat.le_of_ble_eq_true rfl) q2 (by omega) (by omega) w1.swap s1 (fun aM' H2 locs2 w2 s2 t2 => ?_)
  refine W.lcmp hx hb dL_law_1302 ?_
  refine lv_if_eq (tgt := 1618) hx hb dL_law_1303 (by decide) (fun _ => ?_) (fun c9 => absurd ((lg_cmp_eq z z).mpr rfl) c9)
  refine hK hX' hM' aX' aM' H2 locs2 _ _ hJ w2.swap s2 (by omega) (by omega) ?_
  rw [t1, t2]; exact hl
set_option maxHeartbeats 4000000 in
theorem law_c35 {p : Program} {l : Launch} {e : Env} {s : State} {m : MethodId} {below : List Frame} {meth : Method} {c : Code} {b L : Nat} {xs : Nat → Int32} {E : tEn} {Q : State → Prop} {J : tHp → tHp → Prop} {H : Heap} {locs : List Loc} {cells slots i : Nat} {ls : Array Slot} {hX hM : tHp} {aX aM : List Nat} {fX fM : List Value} (C0 : lw_At p s m meth c b L xs) (hU : tU E (fun q => s.heap.size ≤ q) s) (hL : L ≤ 2560) (hi : i + 5 ≤ L) (hl : lv_has ls 4 [(0, .ref b), (1, .ref (tad E aX 0)), (2, .ref (tad E aM 0)), (3, .int (nI i))]) (hcs : cells + 3 ≤ 600000) (hss : slots + 873 ≤ 7302250) (hcX : hX[0]? = some (.inl (7, fX))) (hcM : hM[0]? = some (.inl (8, fM))) (hw : tW2 E (fun q => s.heap.size ≤ q) aX aM hX hM H) (hS : va_S (fun q => s.heap.size ≤ q) s.heap H locs) (hA : ∀ (x0 : Int32), tSameI l E J yX7_readOnceCount cX7_readOnceCount 6 yX8_readOnceCount cX8_readOnceCount 4 [.int x0] hX hM) (hK : ∀ (hX' hM' : tHp) (aX' aM' : List Nat) (H' : Heap) (locs' : List Loc) (cells' slots' : Nat), J hX' hM' → tW2 E (fun q => s.heap.size ≤ q) aX' aM' hX' hM' H' → va_S (fun q => s.heap.size ≤ q) s.heap H' locs' → cells' ≤ cells + 3 → slots' ≤ slots + 873 → lv_has ls 4 [(0, .ref b), (1, .ref (tad E aX' 0)), (2, .ref (tad E aM' 0)), (3, .int (nI i))] → W p l e room_1 s m #[Value.ref b] below meth c H' locs' cells' slots' Q (F0 m 1618 ls [])) : W p l e room_1 s m #[Value.ref b] below meth c H locs cells slots Q (F0 m 1308 ls []) := by
  obtain ⟨hx, hb, hr, hmx, hown, -, hXs, hbl, hlocks, hgv⟩ := id C0
  have hts := hU.hts #[Value.ref b]
  refine lv_aload_n hx hb dL_law_1308 rfl (lv_at hl 1 rfl) ?_
  refine lw_rd (k := 1) (q := 1314) C0 hS hl (by omega) hL rfl dL_law_1309 dL_law_1310 dL_law_1311 dL_law_1312 dL_law_1313 rfl ?_
  obtain ⟨z, hX', hM', dX, dM, kX, nX, q1, q2, q3, q4, e1, e2, hJ⟩ := hA (xs (i + 1))
  refine lw_call (as := [.int (xs (i + 1))]) (rest := []) (q := 1317) (ci := 7) C0 hU hl.1 tm_X7_readOnceCount ml_L_163 ti_X7_readOnceCount hcX rfl dL_law_1314 rfl e1 rfl (fun _ => rfl) (fun _ => rfl) rfl (Nat.le_of_ble_eq_true rfl) q1 (by omega) (by omega) hw hS (fun aX' H1 locs1 w1 s1 t1 => ?_)
  refine lv_aload_n hx hb dL_law_1317 rfl (lv_at hl 2 rfl) ?_
  refine lw_rd (k := 1) (q := 1323) C0 s1 hl (by omega) hL rfl dL_law_1318 dL_law_1319 dL_law_1320 dL_law_1321 dL_law_1322 rfl ?_
  refine lw_call (as := [.int (xs (i + 1))]) (rest := [.int z]) (q := 1326) (ci := 8) C0 hU hl.1 tm_X8_readOnceCount ml_L_166 ti_X8_readOnceCount hcM rfl dL_law_1323 rfl e2 rfl (fun _ => rfl) (fun _ => rfl) rfl (Nat.le_of_ble_eq_true rfl) q2 (by omega) (by omega) w1.swap s1 (fun aM' H2 locs2 w2 s2 t2 => ?_)
  refine lv_icmp_eq (tgt := 1618) hx hb dL_law_1326 (by decide) (fun _ => ?_) (fun c9 => absurd rfl c9)
  refine hK hX' hM' aX' aM' H2 locs2 _ _ hJ w2.swap s2 (by omega) (by omega) ?_
  rw [t1, t2]; exact hl
set_option maxHeartbeats 4000000 in
theorem law_c36 {p : Program} {l : Launch} {e : Env} {s : State} {m : MethodId} {below : List Frame} {meth : Method} {c : Code} {b L : Nat} {xs : Nat → Int32} {E : tEn} {Q : State → Prop} {J : tHp → tHp → Prop} {H : Heap} {locs : List Loc} {cells slots i : Nat} {ls : Array Slot} {hX hM : tHp} {aX aM : List Nat} {fX fM : List Value} (C0 : lw_At p s m meth c b L xs) (hU : tU E (fun q => s.heap.size ≤ q) s) (hL : L ≤ 2560) (hi : i + 5 ≤ L) (hl : lv_has ls 4 [(0, .ref b), (1, .ref (tad E aX 0)), (2, .ref (tad E aM 0)), (3, .int (nI i))]) (hcs : cells + 3 ≤ 600000) (hss : slots + 873 ≤ 7302250) (hcX : hX[0]? = some (.inl (7, fX))) (hcM : hM[0]? = some (.inl (8, fM))) (hw : tW2 E (fun q => s.heap.size ≤ q) aX aM hX hM H) (hS : va_S (fun q => s.heap.size ≤ q) s.heap H locs) (hA : ∀ (x0 : Int32) (x1 : Int32) (x2 : Int32) (x3 : Int32), tSameI l E J yX7_addStep cX7_addStep 5 yX8_addStep cX8_addStep 5 [.int x0, .int x1, .int x2, .int x3] hX hM) (hK : ∀ (hX' hM' : tHp) (aX' aM' : List Nat) (H' : Heap) (locs' : List Loc) (cells' slots' : Nat), J hX' hM' → tW2 E (fun q => s.heap.size ≤ q) aX' aM' hX' hM' H' → va_S (fun q => s.heap.size ≤ q) s.heap H' locs' → cells' ≤ cells + 3 → slots' ≤ slots + 873 → lv_has ls 4 [(0, .ref b), (1, .ref (tad E aX' 0)), (2, .ref (tad E aM' 0)), (3, .int (nI i))] → W p l e room_1 s m #[Value.ref b] below meth c H' locs' cells' slots' Q (F0 m 1618 ls [])) : W p l e room_1 s m #[Value.ref b] below meth c H locs cells slots Q (F0 m 1331 ls []) := by
  obtain ⟨hx, hb, hr, hmx, hown, -, hXs, hbl, hlocks, hgv⟩ := id C0
  have hts := hU.hts #[Value.ref b]
  refine lv_aload_n hx hb dL_law_1331 rfl (lv_at hl 1 rfl) ?_
  refine lw_rd (k := 1) (q := 1337) C0 hS hl (by omega) hL rfl dL_law_1332 dL_law_1333 dL_law_1334 dL_law_1335 dL_law_1336 rfl ?_
  refine lw_rd (k := 2) (q := 1342) C0 hS hl (by omega) hL rfl dL_law_1337 dL_law_1338 dL_law_1339 dL_law_1340 dL_law_1341 rfl ?_
  refine lw_rd (k := 3) (q := 1347) C0 hS hl (by omega) hL rfl dL_law_1342 dL_law_1343 dL_law_1344 dL_law_1345 dL_law_1346 rfl ?_
  refine lw_rd (k := 4) (q := 1352) C0 hS hl (by omega) hL rfl dL_law_1347 dL_law_1348 dL_law_1349 dL_law_1350 dL_law_1351 rfl ?_
  obtain ⟨z, hX', hM', dX, dM, kX, nX, q1, q2, q3, q4, e1, e2, hJ⟩ := hA (xs (i + 1)) (xs (i + 2)) (xs (i + 3)) (xs (i + 4))
  refine lw_call (as := [.int (xs (i + 1)), .int (xs (i + 2)), .int (xs (i + 3)), .int (xs (i + 4))]) (rest := []) (q := 1355) (ci := 7) C0 hU hl.1 tm_X7_addStep ml_L_167 ti_X7_addStep hcX rfl dL_law_1352 rfl e1 rfl (fun _ => rfl) (fun _ => rfl) rfl (Nat.le_of_ble_eq_true rfl) q1 (by omega) (by omega) hw hS (fun aX' H1 locs1 w1 s1 t1 => ?_)
  refine lv_aload_n hx hb dL_law_1355 rfl (lv_at hl 2 rfl) ?_
  refine lw_rd (k := 1) (q := 1361) C0 s1 hl (by omega) hL rfl dL_law_1356 dL_law_1357 dL_law_1358 dL_law_1359 dL_law_1360 rfl ?_
  refine lw_rd (k := 2) (q := 1366) C0 s1 hl (by omega) hL rfl dL_law_1361 dL_law_1362 dL_law_1363 dL_law_1364 dL_law_1365 rfl ?_
  refine lw_rd (k := 3) (q := 1371) C0 s1 hl (by omega) hL rfl dL_law_1366 dL_law_1367 dL_law_1368 dL_law_1369 dL_law_1370 rfl ?_
  refine lw_rd (k := 4) (q := 1376) C0 s1 hl (by omega) hL rfl dL_law_1371 dL_law_1372 dL_law_1373 dL_law_1374 dL_law_1375 rfl ?_
  refine lw_call (as := [.int (xs (i + 1)), .int (xs (i + 2)), .int (xs (i + 3)), .int (xs (i + 4))]) (rest := [.int z]) (q := 1379) (ci := 8) C0 hU hl.1 tm_X8_addStep ml_L_170 ti_X8_addStep hcM rfl dL_law_1376 rfl e2 rfl (fun _ => rfl) (fun _ => rfl) rfl (Nat.le_of_ble_eq_true rfl) q2 (by omega) (by omega) w1.swap s1 (fun aM' H2 locs2 w2 s2 t2 => ?_)
  refine lv_icmp_eq (tgt := 1618) hx hb dL_law_1379 (by decide) (fun _ => ?_) (fun c9 => absurd rfl c9)
  refine hK hX' hM' aX' aM' H2 locs2 _ _ hJ w2.swap s2 (by omega) (by omega) ?_
  rw [t1, t2]; exact hl
set_option maxHeartbeats 4000000 in
theorem law_c37 {p : Program} {l : Launch} {e : Env} {s : State} {m : MethodId} {below : List Frame} {meth : Method} {c : Code} {b L : Nat} {xs : Nat → Int32} {E : tEn} {Q : State → Prop} {J : tHp → tHp → Prop} {H : Heap} {locs : List Loc} {cells slots i : Nat} {ls : Array Slot} {hX hM : tHp} {aX aM : List Nat} {fX fM : List Value} (C0 : lw_At p s m meth c b L xs) (hU : tU E (fun q => s.heap.size ≤ q) s) (hL : L ≤ 2560) (hi : i + 5 ≤ L) (hl : lv_has ls 4 [(0, .ref b), (1, .ref (tad E aX 0)), (2, .ref (tad E aM 0)), (3, .int (nI i))]) (hcs : cells + 3 ≤ 600000) (hss : slots + 873 ≤ 7302250) (hcX : hX[0]? = some (.inl (7, fX))) (hcM : hM[0]? = some (.inl (8, fM))) (hw : tW2 E (fun q => s.heap.size ≤ q) aX aM hX hM H) (hS : va_S (fun q => s.heap.size ≤ q) s.heap H locs) (hA : tSameI l E J yX7_clearSteps cX7_clearSteps 2 yX8_clearSteps cX8_clearSteps 2 [] hX hM) (hK : ∀ (hX' hM' : tHp) (aX' aM' : List Nat) (H' : Heap) (locs' : List Loc) (cells' slots' : Nat), J hX' hM' → tW2 E (fun q => s.heap.size ≤ q) aX' aM' hX' hM' H' → va_S (fun q => s.heap.size ≤ q) s.heap H' locs' → cells' ≤ cells + 3 → slots' ≤ slots + 873 → lv_has ls 4 [(0, .ref b), (1, .ref (tad E aX' 0)), (2, .ref (tad E aM' 0)), (3, .int (nI i))] → W p l e room_1 s m #[Value.ref b] below meth c H' locs' cells' slots' Q (F0 m 1618 ls [])) : W p l e room_1 s m #[Value.ref b] below meth c H locs cells slots Q (F0 m 1384 ls []) := by
  obtain ⟨hx, hb, hr, hmx, hown, -, hXs, hbl, hlocks, hgv⟩ := id C0
  have hts := hU.hts #[Value.ref b]
  refine lv_aload_n hx hb dL_law_1384 rfl (lv_at hl 1 rfl) ?_
  obtain ⟨z, hX', hM', dX, dM, kX, nX, q1, q2, q3, q4, e1, e2, hJ⟩ := hA 
  refine lw_call (as := []) (rest := []) (q := 1388) (ci := 7) C0 hU hl.1 tm_X7_clearSteps ml_L_171 ti_X7_clearSteps hcX rfl dL_law_1385 rfl e1 rfl (fun _ => rfl) (fun _ => rfl) rfl (Nat.le_of_ble_eq_true rfl) q1 (by omega) (by omega) hw hS (fun aX' H1 locs1 w1 s1 t1 => ?_)
  refine lv_aload_n hx hb dL_law_1388 rfl (lv_at hl 2 rfl) ?_
  refine lw_call (as := []) (rest := [.int z]) (q := 1392) (ci := 8) C0 hU hl.1 tm_X8_clearSteps ml_L_174 ti_X8_clearSteps hcM rfl dL_law_1389 rfl e2 rfl (fun _ => rfl) (fun _ => rfl) rfl (Nat.le_of_ble_eq_true rfl) q2 (by omega) (by omega) w1.swap s1 (fun aM' H2 locs2 w2 s2 t2 => ?_)
  refine lv_icmp_eq (tgt := 1618) hx hb dL_law_1392 (by decide) (fun _ => ?_) (fun c9 => absurd rfl c9)
  refine hK hX' hM' aX' aM' H2 locs2 _ _ hJ w2.swap s2 (by omega) (by omega) ?_
  rw [t1, t2]; exact hl
set_option maxHeartbeats 4000000 in
theorem law_c38 {p : Program} {l : Launch} {e : Env} {s : State} {m : MethodId} {below : List Frame} {meth : Method} {c : Code} {b L : Nat} {xs : Nat → Int32} {E : tEn} {Q : State → Prop} {J : tHp → tHp → Prop} {H : Heap} {locs : List Loc} {cells slots i : Nat} {ls : Array Slot} {hX hM : tHp} {aX aM : List Nat} {fX fM : List Value} (C0 : lw_At p s m meth c b L xs) (hU : tU E (fun q => s.heap.size ≤ q) s) (hL : L ≤ 2560) (hi : i + 5 ≤ L) (hl : lv_has ls 4 [(0, .ref b), (1, .ref (tad E aX 0)), (2, .ref (tad E aM 0)), (3, .int (nI i))]) (hcs : cells + 3 ≤ 600000) (hss : slots + 873 ≤ 7302250) (hcX : hX[0]? = some (.inl (7, fX))) (hcM : hM[0]? = some (.inl (8, fM))) (hw : tW2 E (fun q => s.heap.size ≤ q) aX aM hX hM H) (hS : va_S (fun q => s.heap.size ≤ q) s.heap H locs) (hA : tSameI l E J yX7_runSteps cX7_runSteps 3 yX8_runSteps cX8_runSteps 3 [] hX hM) (hK : ∀ (hX' hM' : tHp) (aX' aM' : List Nat) (H' : Heap) (locs' : List Loc) (cells' slots' : Nat), J hX' hM' → tW2 E (fun q => s.heap.size ≤ q) aX' aM' hX' hM' H' → va_S (fun q => s.heap.size ≤ q) s.heap H' locs' → cells' ≤ cells + 3 → slots' ≤ slots + 873 → lv_has ls 4 [(0, .ref b), (1, .ref (tad E aX' 0)), (2, .ref (tad E aM' 0)), (3, .int (nI i))] → W p l e room_1 s m #[Value.ref b] below meth c H' locs' cells' slots' Q (F0 m 1618 ls [])) : W p l e room_1 s m #[Value.ref b] below meth c H locs cells slots Q (F0 m 1397 ls []) := by
  obtain ⟨hx, hb, hr, hmx, hown, -, hXs, hbl, hlocks, hgv⟩ := id C0
  have hts := hU.hts #[Value.ref b]
  refine lv_aload_n hx hb dL_law_1397 rfl (lv_at hl 1 rfl) ?_
  obtain ⟨z, hX', hM', dX, dM, kX, nX, q1, q2, q3, q4, e1, e2, hJ⟩ := hA 
  refine lw_call (as := []) (rest := []) (q := 1401) (ci := 7) C0 hU hl.1 tm_X7_runSteps ml_L_175 ti_X7_runSteps hcX rfl dL_law_1398 rfl e1 rfl (fun _ => rfl) (fun _ => rfl) rfl (Nat.le_of_ble_eq_true rfl) q1 (by omega) (by omega) hw hS (fun aX' H1 locs1 w1 s1 t1 => ?_)
  refine lv_aload_n hx hb dL_law_1401 rfl (lv_at hl 2 rfl) ?_
  refine lw_call (as := []) (rest := [.int z]) (q := 1405) (ci := 8) C0 hU hl.1 tm_X8_runSteps ml_L_178 ti_X8_runSteps hcM rfl dL_law_1402 rfl e2 rfl (fun _ => rfl) (fun _ => rfl) rfl (Nat.le_of_ble_eq_true rfl) q2 (by omega) (by omega) w1.swap s1 (fun aM' H2 locs2 w2 s2 t2 => ?_)
  refine lv_icmp_eq (tgt := 1618) hx hb dL_law_1405 (by decide) (fun _ => ?_) (fun c9 => absurd rfl c9)
  refine hK hX' hM' aX' aM' H2 locs2 _ _ hJ w2.swap s2 (by omega) (by omega) ?_
  rw [t1, t2]; exact hl
set_option maxHeartbeats 4000000 in
theorem law_c39 {p : Program} {l : Launch} {e : Env} {s : State} {m : MethodId} {below : List Frame} {meth : Method} {c : Code} {b L : Nat} {xs : Nat → Int32} {E : tEn} {Q : State → Prop} {J : tHp → tHp → Prop} {H : Heap} {locs : List Loc} {cells slots i : Nat} {ls : Array Slot} {hX hM : tHp} {aX aM : List Nat} {fX fM : List Value} (C0 : lw_At p s m meth c b L xs) (hU : tU E (fun q => s.heap.size ≤ q) s) (hL : L ≤ 2560) (hi : i + 5 ≤ L) (hl : lv_has ls 4 [(0, .ref b), (1, .ref (tad E aX 0)), (2, .ref (tad E aM 0)), (3, .int (nI i))]) (hcs : cells + 3 ≤ 600000) (hss : slots + 873 ≤ 7302250) (hcX : hX[0]? = some (.inl (7, fX))) (hcM : hM[0]? = some (.inl (8, fM))) (hw : tW2 E (fun q => s.heap.size ≤ q) aX aM hX hM H) (hS : va_S (fun q => s.heap.size ≤ q) s.heap H locs) (hA : tSameI l E J yX7_undo cX7_undo 3 yX8_undo cX8_undo 2 [] hX hM) (hK : ∀ (hX' hM' : tHp) (aX' aM' : List Nat) (H' : Heap) (locs' : List Loc) (cells' slots' : Nat), J hX' hM' → tW2 E (fun q => s.heap.size ≤ q) aX' aM' hX' hM' H' → va_S (fun q => s.heap.size ≤ q) s.heap H' locs' → cells' ≤ cells + 3 → slots' ≤ slots + 873 → lv_has ls 4 [(0, .ref b), (1, .ref (tad E aX' 0)), (2, .ref (tad E aM' 0)), (3, .int (nI i))] → W p l e room_1 s m #[Value.ref b] below meth c H' locs' cells' slots' Q (F0 m 1618 ls [])) : W p l e room_1 s m #[Value.ref b] below meth c H locs cells slots Q (F0 m 1410 ls []) := by
  obtain ⟨hx, hb, hr, hmx, hown, -, hXs, hbl, hlocks, hgv⟩ := id C0
  have hts := hU.hts #[Value.ref b]
  refine lv_aload_n hx hb dL_law_1410 rfl (lv_at hl 1 rfl) ?_
  obtain ⟨z, hX', hM', dX, dM, kX, nX, q1, q2, q3, q4, e1, e2, hJ⟩ := hA 
  refine lw_call (as := []) (rest := []) (q := 1414) (ci := 7) C0 hU hl.1 tm_X7_undo ml_L_179 ti_X7_undo hcX rfl dL_law_1411 rfl e1 rfl (fun _ => rfl) (fun _ => rfl) rfl (Nat.le_of_ble_eq_true rfl) q1 (by omega) (by omega) hw hS (fun aX' H1 locs1 w1 s1 t1 => ?_)
  refine lv_aload_n hx hb dL_law_1414 rfl (lv_at hl 2 rfl) ?_
  refine lw_call (as := []) (rest := [.int z]) (q := 1418) (ci := 8) C0 hU hl.1 tm_X8_undo ml_L_182 ti_X8_undo hcM rfl dL_law_1415 rfl e2 rfl (fun _ => rfl) (fun _ => rfl) rfl (Nat.le_of_ble_eq_true rfl) q2 (by omega) (by omega) w1.swap s1 (fun aM' H2 locs2 w2 s2 t2 => ?_)
  refine lv_icmp_eq (tgt := 1618) hx hb dL_law_1418 (by decide) (fun _ => ?_) (fun c9 => absurd rfl c9)
  refine hK hX' hM' aX' aM' H2 locs2 _ _ hJ w2.swap s2 (by omega) (by omega) ?_
  rw [t1, t2]; exact hl
set_option maxHeartbeats 4000000 in
theorem law_c40 {p : Program} {l : Launch} {e : Env} {s : State} {m : MethodId} {below : List Frame} {meth : Method} {c : Code} {b L : Nat} {xs : Nat → Int32} {E : tEn} {Q : State → Prop} {J : tHp → tHp → Prop} {H : Heap} {locs : List Loc} {cells slots i : Nat} {ls : Array Slot} {hX hM : tHp} {aX aM : List Nat} {fX fM : List Value} (C0 : lw_At p s m meth c b L xs) (hU : tU E (fun q => s.heap.size ≤ q) s) (hL : L ≤ 2560) (hi : i + 5 ≤ L) (hl : lv_has ls 4 [(0, .ref b), (1, .ref (tad E aX 0)), (2, .ref (tad E aM 0)), (3, .int (nI i))]) (hcs : cells + 3 ≤ 600000) (hss : slots + 873 ≤ 7302250) (hcX : hX[0]? = some (.inl (7, fX))) (hcM : hM[0]? = some (.inl (8, fM))) (hw : tW2 E (fun q => s.heap.size ≤ q) aX aM hX hM H) (hS : va_S (fun q => s.heap.size ≤ q) s.heap H locs) (hA : tSameI l E J yX7_save cX7_save 1 yX8_save cX8_save 2 [] hX hM) (hK : ∀ (hX' hM' : tHp) (aX' aM' : List Nat) (H' : Heap) (locs' : List Loc) (cells' slots' : Nat), J hX' hM' → tW2 E (fun q => s.heap.size ≤ q) aX' aM' hX' hM' H' → va_S (fun q => s.heap.size ≤ q) s.heap H' locs' → cells' ≤ cells + 3 → slots' ≤ slots + 873 → lv_has ls 4 [(0, .ref b), (1, .ref (tad E aX' 0)), (2, .ref (tad E aM' 0)), (3, .int (nI i))] → W p l e room_1 s m #[Value.ref b] below meth c H' locs' cells' slots' Q (F0 m 1618 ls [])) : W p l e room_1 s m #[Value.ref b] below meth c H locs cells slots Q (F0 m 1423 ls []) := by
  obtain ⟨hx, hb, hr, hmx, hown, -, hXs, hbl, hlocks, hgv⟩ := id C0
  have hts := hU.hts #[Value.ref b]
  refine lv_aload_n hx hb dL_law_1423 rfl (lv_at hl 1 rfl) ?_
  obtain ⟨z, hX', hM', dX, dM, kX, nX, q1, q2, q3, q4, e1, e2, hJ⟩ := hA 
  refine lw_call (as := []) (rest := []) (q := 1427) (ci := 7) C0 hU hl.1 tm_X7_save ml_L_183 ti_X7_save hcX rfl dL_law_1424 rfl e1 rfl (fun _ => rfl) (fun _ => rfl) rfl (Nat.le_of_ble_eq_true rfl) q1 (by omega) (by omega) hw hS (fun aX' H1 locs1 w1 s1 t1 => ?_)
  refine lv_aload_n hx hb dL_law_1427 rfl (lv_at hl 2 rfl) ?_
  refine lw_call (as := []) (rest := [.int z]) (q := 1431) (ci := 8) C0 hU hl.1 tm_X8_save ml_L_186 ti_X8_save hcM rfl dL_law_1428 rfl e2 rfl (fun _ => rfl) (fun _ => rfl) rfl (Nat.le_of_ble_eq_true rfl) q2 (by omega) (by omega) w1.swap s1 (fun aM' H2 locs2 w2 s2 t2 => ?_)
  refine lv_icmp_eq (tgt := 1618) hx hb dL_law_1431 (by decide) (fun _ => ?_) (fun c9 => absurd rfl c9)
  refine hK hX' hM' aX' aM' H2 locs2 _ _ hJ w2.swap s2 (by omega) (by omega) ?_
  rw [t1, t2]; exact hl
set_option maxHeartbeats 4000000 in
theorem law_c41 {p : Program} {l : Launch} {e : Env} {s : State} {m : MethodId} {below : List Frame} {meth : Method} {c : Code} {b L : Nat} {xs : Nat → Int32} {E : tEn} {Q : State → Prop} {J : tHp → tHp → Prop} {H : Heap} {locs : List Loc} {cells slots i : Nat} {ls : Array Slot} {hX hM : tHp} {aX aM : List Nat} {fX fM : List Value} (C0 : lw_At p s m meth c b L xs) (hU : tU E (fun q => s.heap.size ≤ q) s) (hL : L ≤ 2560) (hi : i + 5 ≤ L) (hl : lv_has ls 4 [(0, .ref b), (1, .ref (tad E aX 0)), (2, .ref (tad E aM 0)), (3, .int (nI i))]) (hcs : cells + 3 ≤ 600000) (hss : slots + 873 ≤ 7302250) (hcX : hX[0]? = some (.inl (7, fX))) (hcM : hM[0]? = some (.inl (8, fM))) (hw : tW2 E (fun q => s.heap.size ≤ q) aX aM hX hM H) (hS : va_S (fun q => s.heap.size ≤ q) s.heap H locs) (hA : tSameI l E J yX7_restore cX7_restore 1 yX8_restore cX8_restore 2 [] hX hM) (hK : ∀ (hX' hM' : tHp) (aX' aM' : List Nat) (H' : Heap) (locs' : List Loc) (cells' slots' : Nat), J hX' hM' → tW2 E (fun q => s.heap.size ≤ q) aX' aM' hX' hM' H' → va_S (fun q => s.heap.size ≤ q) s.heap H' locs' → cells' ≤ cells + 3 → slots' ≤ slots + 873 → lv_has ls 4 [(0, .ref b), (1, .ref (tad E aX' 0)), (2, .ref (tad E aM' 0)), (3, .int (nI i))] → W p l e room_1 s m #[Value.ref b] below meth c H' locs' cells' slots' Q (F0 m 1618 ls [])) : W p l e room_1 s m #[Value.ref b] below meth c H locs cells slots Q (F0 m 1436 ls []) := by
  obtain ⟨hx, hb, hr, hmx, hown, -, hXs, hbl, hlocks, hgv⟩ := id C0
  have hts := hU.hts #[Value.ref b]
  refine lv_aload_n hx hb dL_law_1436 rfl (lv_at hl 1 rfl) ?_
  obtain ⟨z, hX', hM', dX, dM, kX, nX, q1, q2, q3, q4, e1, e2, hJ⟩ := hA 
  refine lw_call (as := []) (rest := []) (q := 1440) (ci := 7) C0 hU hl.1 tm_X7_restore ml_L_187 ti_X7_restore hcX rfl dL_law_1437 rfl e1 rfl (fun _ => rfl) (fun _ => rfl) rfl (Nat.le_of_ble_eq_true rfl) q1 (by omega) (by omega) hw hS (fun aX' H1 locs1 w1 s1 t1 => ?_)
  refine lv_aload_n hx hb dL_law_1440 rfl (lv_at hl 2 rfl) ?_
  refine lw_call (as := []) (rest := [.int z]) (q := 1444) (ci := 8) C0 hU hl.1 tm_X8_restore ml_L_190 ti_X8_restore hcM rfl dL_law_1441 rfl e2 rfl (fun _ => rfl) (fun _ => rfl) rfl (Nat.le_of_ble_eq_true rfl) q2 (by omega) (by omega) w1.swap s1 (fun aM' H2 locs2 w2 s2 t2 => ?_)
  refine lv_icmp_eq (tgt := 1618) hx hb dL_law_1444 (by decide) (fun _ => ?_) (fun c9 => absurd rfl c9)
  refine hK hX' hM' aX' aM' H2 locs2 _ _ hJ w2.swap s2 (by omega) (by omega) ?_
  rw [t1, t2]; exact hl
set_option maxHeartbeats 4000000 in
theorem law_c42 {p : Program} {l : Launch} {e : Env} {s : State} {m : MethodId} {below : List Frame} {meth : Method} {c : Code} {b L : Nat} {xs : Nat → Int32} {E : tEn} {Q : State → Prop} {J : tHp → tHp → Prop} {H : Heap} {locs : List Loc} {cells slots i : Nat} {ls : Array Slot} {hX hM : tHp} {aX aM : List Nat} {fX fM : List Value} (C0 : lw_At p s m meth c b L xs) (hU : tU E (fun q => s.heap.size ≤ q) s) (hL : L ≤ 2560) (hi : i + 5 ≤ L) (hl : lv_has ls 4 [(0, .ref b), (1, .ref (tad E aX 0)), (2, .ref (tad E aM 0)), (3, .int (nI i))]) (hcs : cells + 3 ≤ 600000) (hss : slots + 873 ≤ 7302250) (hcX : hX[0]? = some (.inl (7, fX))) (hcM : hM[0]? = some (.inl (8, fM))) (hw : tW2 E (fun q => s.heap.size ≤ q) aX aM hX hM H) (hS : va_S (fun q => s.heap.size ≤ q) s.heap H locs) (hA : ∀ (x0 : Int32) (x1 : Int32), tSameI l E J yX7_createArray cX7_createArray 4 yX8_createArray cX8_createArray 4 [.int x0, .int x1] hX hM) (hK : ∀ (hX' hM' : tHp) (aX' aM' : List Nat) (H' : Heap) (locs' : List Loc) (cells' slots' : Nat), J hX' hM' → tW2 E (fun q => s.heap.size ≤ q) aX' aM' hX' hM' H' → va_S (fun q => s.heap.size ≤ q) s.heap H' locs' → cells' ≤ cells + 3 → slots' ≤ slots + 873 → lv_has ls 4 [(0, .ref b), (1, .ref (tad E aX' 0)), (2, .ref (tad E aM' 0)), (3, .int (nI i))] → W p l e room_1 s m #[Value.ref b] below meth c H' locs' cells' slots' Q (F0 m 1618 ls [])) : W p l e room_1 s m #[Value.ref b] below meth c H locs cells slots Q (F0 m 1449 ls []) := by
  obtain ⟨hx, hb, hr, hmx, hown, -, hXs, hbl, hlocks, hgv⟩ := id C0
  have hts := hU.hts #[Value.ref b]
  refine lv_aload_n hx hb dL_law_1449 rfl (lv_at hl 1 rfl) ?_
  refine lw_rd (k := 1) (q := 1455) C0 hS hl (by omega) hL rfl dL_law_1450 dL_law_1451 dL_law_1452 dL_law_1453 dL_law_1454 rfl ?_
  refine lw_rd (k := 2) (q := 1460) C0 hS hl (by omega) hL rfl dL_law_1455 dL_law_1456 dL_law_1457 dL_law_1458 dL_law_1459 rfl ?_
  obtain ⟨z, hX', hM', dX, dM, kX, nX, q1, q2, q3, q4, e1, e2, hJ⟩ := hA (xs (i + 1)) (xs (i + 2))
  refine lw_call (as := [.int (xs (i + 1)), .int (xs (i + 2))]) (rest := []) (q := 1463) (ci := 7) C0 hU hl.1 tm_X7_createArray ml_L_191 ti_X7_createArray hcX rfl dL_law_1460 rfl e1 rfl (fun _ => rfl) (fun _ => rfl) rfl (Nat.le_of_ble_eq_true rfl) q1 (by omega) (by omega) hw hS (fun aX' H1 locs1 w1 s1 t1 => ?_)
  refine lv_aload_n hx hb dL_law_1463 rfl (lv_at hl 2 rfl) ?_
  refine lw_rd (k := 1) (q := 1469) C0 s1 hl (by omega) hL rfl dL_law_1464 dL_law_1465 dL_law_1466 dL_law_1467 dL_law_1468 rfl ?_
  refine lw_rd (k := 2) (q := 1474) C0 s1 hl (by omega) hL rfl dL_law_1469 dL_law_1470 dL_law_1471 dL_law_1472 dL_law_1473 rfl ?_
  refine lw_call (as := [.int (xs (i + 1)), .int (xs (i + 2))]) (rest := [.int z]) (q := 1477) (ci := 8) C0 hU hl.1 tm_X8_createArray ml_L_194 ti_X8_createArray hcM rfl dL_law_1474 rfl e2 rfl (fun _ => rfl) (fun _ => rfl) rfl (Nat.le_of_ble_eq_true rfl) q2 (by omega) (by omega) w1.swap s1 (fun aM' H2 locs2 w2 s2 t2 => ?_)
  refine lv_icmp_eq (tgt := 1618) hx hb dL_law_1477 (by decide) (fun _ => ?_) (fun c9 => absurd rfl c9)
  refine hK hX' hM' aX' aM' H2 locs2 _ _ hJ w2.swap s2 (by omega) (by omega) ?_
  rw [t1, t2]; exact hl
set_option maxHeartbeats 4000000 in
theorem law_c43 {p : Program} {l : Launch} {e : Env} {s : State} {m : MethodId} {below : List Frame} {meth : Method} {c : Code} {b L : Nat} {xs : Nat → Int32} {E : tEn} {Q : State → Prop} {J : tHp → tHp → Prop} {H : Heap} {locs : List Loc} {cells slots i : Nat} {ls : Array Slot} {hX hM : tHp} {aX aM : List Nat} {fX fM : List Value} (C0 : lw_At p s m meth c b L xs) (hU : tU E (fun q => s.heap.size ≤ q) s) (hL : L ≤ 2560) (hi : i + 5 ≤ L) (hl : lv_has ls 4 [(0, .ref b), (1, .ref (tad E aX 0)), (2, .ref (tad E aM 0)), (3, .int (nI i))]) (hcs : cells + 3 ≤ 600000) (hss : slots + 873 ≤ 7302250) (hcX : hX[0]? = some (.inl (7, fX))) (hcM : hM[0]? = some (.inl (8, fM))) (hw : tW2 E (fun q => s.heap.size ≤ q) aX aM hX hM H) (hS : va_S (fun q => s.heap.size ≤ q) s.heap H locs) (hA : ∀ (x0 : Int32) (x1 : Int32) (x2 : Int32), tSameI l E J yX7_setElement cX7_setElement 4 yX8_setElement cX8_setElement 4 [.int x0, .int x1, .int x2] hX hM) (hK : ∀ (hX' hM' : tHp) (aX' aM' : List Nat) (H' : Heap) (locs' : List Loc) (cells' slots' : Nat), J hX' hM' → tW2 E (fun q => s.heap.size ≤ q) aX' aM' hX' hM' H' → va_S (fun q => s.heap.size ≤ q) s.heap H' locs' → cells' ≤ cells + 3 → slots' ≤ slots + 873 → lv_has ls 4 [(0, .ref b), (1, .ref (tad E aX' 0)), (2, .ref (tad E aM' 0)), (3, .int (nI i))] → W p l e room_1 s m #[Value.ref b] below meth c H' locs' cells' slots' Q (F0 m 1618 ls [])) : W p l e room_1 s m #[Value.ref b] below meth c H locs cells slots Q (F0 m 1482 ls []) := by
  obtain ⟨hx, hb, hr, hmx, hown, -, hXs, hbl, hlocks, hgv⟩ := id C0
  have hts := hU.hts #[Value.ref b]
  refine lv_aload_n hx hb dL_law_1482 rfl (lv_at hl 1 rfl) ?_
  refine lw_rd (k := 1) (q := 1488) C0 hS hl (by omega) hL rfl dL_law_1483 dL_law_1484 dL_law_1485 dL_law_1486 dL_law_1487 rfl ?_
  refine lw_rd (k := 2) (q := 1493) C0 hS hl (by omega) hL rfl dL_law_1488 dL_law_1489 dL_law_1490 dL_law_1491 dL_law_1492 rfl ?_
  refine lw_rd (k := 3) (q := 1498) C0 hS hl (by omega) hL rfl dL_law_1493 dL_law_1494 dL_law_1495 dL_law_1496 dL_law_1497 rfl ?_
  obtain ⟨z, hX', hM', dX, dM, kX, nX, q1, q2, q3, q4, e1, e2, hJ⟩ := hA (xs (i + 1)) (xs (i + 2)) (xs (i + 3))
  refine lw_call (as := [.int (xs (i + 1)), .int (xs (i + 2)), .int (xs (i + 3))]) (rest := []) (q := 1501) (ci := 7) C0 hU hl.1 tm_X7_setElement ml_L_195 ti_X7_setElement hcX rfl dL_law_1498 rfl e1 rfl (fun _ => rfl) (fun _ => rfl) rfl (Nat.le_of_ble_eq_true rfl) q1 (by omega) (by omega) hw hS (fun aX' H1 locs1 w1 s1 t1 => ?_)
  refine lv_aload_n hx hb dL_law_1501 rfl (lv_at hl 2 rfl) ?_
  refine lw_rd (k := 1) (q := 1507) C0 s1 hl (by omega) hL rfl dL_law_1502 dL_law_1503 dL_law_1504 dL_law_1505 dL_law_1506 rfl ?_
  refine lw_rd (k := 2) (q := 1512) C0 s1 hl (by omega) hL rfl dL_law_1507 dL_law_1508 dL_law_1509 dL_law_1510 dL_law_1511 rfl ?_
  refine lw_rd (k := 3) (q := 1517) C0 s1 hl (by omega) hL rfl dL_law_1512 dL_law_1513 dL_law_1514 dL_law_1515 dL_law_1516 rfl ?_
  refine lw_call (as := [.int (xs (i + 1)), .int (xs (i + 2)), .int (xs (i + 3))]) (rest := [.int z]) (q := 1520) (ci := 8) C0 hU hl.1 tm_X8_setElement ml_L_198 ti_X8_setElement hcM rfl dL_law_1517 rfl e2 rfl (fun _ => rfl) (fun _ => rfl) rfl (Nat.le_of_ble_eq_true rfl) q2 (by omega) (by omega) w1.swap s1 (fun aM' H2 locs2 w2 s2 t2 => ?_)
  refine lv_icmp_eq (tgt := 1618) hx hb dL_law_1520 (by decide) (fun _ => ?_) (fun c9 => absurd rfl c9)
  refine hK hX' hM' aX' aM' H2 locs2 _ _ hJ w2.swap s2 (by omega) (by omega) ?_
  rw [t1, t2]; exact hl
set_option maxHeartbeats 4000000 in
theorem law_c44 {p : Program} {l : Launch} {e : Env} {s : State} {m : MethodId} {below : List Frame} {meth : Method} {c : Code} {b L : Nat} {xs : Nat → Int32} {E : tEn} {Q : State → Prop} {J : tHp → tHp → Prop} {H : Heap} {locs : List Loc} {cells slots i : Nat} {ls : Array Slot} {hX hM : tHp} {aX aM : List Nat} {fX fM : List Value} (C0 : lw_At p s m meth c b L xs) (hU : tU E (fun q => s.heap.size ≤ q) s) (hL : L ≤ 2560) (hi : i + 5 ≤ L) (hl : lv_has ls 4 [(0, .ref b), (1, .ref (tad E aX 0)), (2, .ref (tad E aM 0)), (3, .int (nI i))]) (hcs : cells + 3 ≤ 600000) (hss : slots + 873 ≤ 7302250) (hcX : hX[0]? = some (.inl (7, fX))) (hcM : hM[0]? = some (.inl (8, fM))) (hw : tW2 E (fun q => s.heap.size ≤ q) aX aM hX hM H) (hS : va_S (fun q => s.heap.size ≤ q) s.heap H locs) (hA : ∀ (x0 : Int32) (x1 : Int32), tSameJ l E J yX7_element cX7_element 3 yX8_element cX8_element 3 [.int x0, .int x1] hX hM) (hK : ∀ (hX' hM' : tHp) (aX' aM' : List Nat) (H' : Heap) (locs' : List Loc) (cells' slots' : Nat), J hX' hM' → tW2 E (fun q => s.heap.size ≤ q) aX' aM' hX' hM' H' → va_S (fun q => s.heap.size ≤ q) s.heap H' locs' → cells' ≤ cells + 3 → slots' ≤ slots + 873 → lv_has ls 4 [(0, .ref b), (1, .ref (tad E aX' 0)), (2, .ref (tad E aM' 0)), (3, .int (nI i))] → W p l e room_1 s m #[Value.ref b] below meth c H' locs' cells' slots' Q (F0 m 1618 ls [])) : W p l e room_1 s m #[Value.ref b] below meth c H locs cells slots Q (F0 m 1525 ls []) := by
  obtain ⟨hx, hb, hr, hmx, hown, -, hXs, hbl, hlocks, hgv⟩ := id C0
  have hts := hU.hts #[Value.ref b]
  refine lv_aload_n hx hb dL_law_1525 rfl (lv_at hl 1 rfl) ?_
  refine lw_rd (k := 1) (q := 1531) C0 hS hl (by omega) hL rfl dL_law_1526 dL_law_1527 dL_law_1528 dL_law_1529 dL_law_1530 rfl ?_
  refine lw_rd (k := 2) (q := 1536) C0 hS hl (by omega) hL rfl dL_law_1531 dL_law_1532 dL_law_1533 dL_law_1534 dL_law_1535 rfl ?_
  obtain ⟨z, hX', hM', dX, dM, kX, nX, q1, q2, q3, q4, e1, e2, hJ⟩ := hA (xs (i + 1)) (xs (i + 2))
  refine lw_call (as := [.int (xs (i + 1)), .int (xs (i + 2))]) (rest := []) (q := 1539) (ci := 7) C0 hU hl.1 tm_X7_element ml_L_199 ti_X7_element hcX rfl dL_law_1536 rfl e1 rfl (fun _ => rfl) (fun _ => rfl) rfl (Nat.le_of_ble_eq_true rfl) q1 (by omega) (by omega) hw hS (fun aX' H1 locs1 w1 s1 t1 => ?_)
  refine lv_aload_n hx hb dL_law_1539 rfl (lv_at hl 2 rfl) ?_
  refine lw_rd (k := 1) (q := 1545) C0 s1 hl (by omega) hL rfl dL_law_1540 dL_law_1541 dL_law_1542 dL_law_1543 dL_law_1544 rfl ?_
  refine lw_rd (k := 2) (q := 1550) C0 s1 hl (by omega) hL rfl dL_law_1545 dL_law_1546 dL_law_1547 dL_law_1548 dL_law_1549 rfl ?_
  refine lw_call (as := [.int (xs (i + 1)), .int (xs (i + 2))]) (rest := [.long z]) (q := 1553) (ci := 8) C0 hU hl.1 tm_X8_element ml_L_203 ti_X8_element hcM rfl dL_law_1550 rfl e2 rfl (fun _ => rfl) (fun _ => rfl) rfl (Nat.le_of_ble_eq_true rfl) q2 (by omega) (by omega) w1.swap s1 (fun aM' H2 locs2 w2 s2 t2 => ?_)
  refine W.lcmp hx hb dL_law_1553 ?_
  refine lv_if_eq (tgt := 1618) hx hb dL_law_1554 (by decide) (fun _ => ?_) (fun c9 => absurd ((lg_cmp_eq z z).mpr rfl) c9)
  refine hK hX' hM' aX' aM' H2 locs2 _ _ hJ w2.swap s2 (by omega) (by omega) ?_
  rw [t1, t2]; exact hl
set_option maxHeartbeats 4000000 in
theorem law_c45 {p : Program} {l : Launch} {e : Env} {s : State} {m : MethodId} {below : List Frame} {meth : Method} {c : Code} {b L : Nat} {xs : Nat → Int32} {E : tEn} {Q : State → Prop} {J : tHp → tHp → Prop} {H : Heap} {locs : List Loc} {cells slots i : Nat} {ls : Array Slot} {hX hM : tHp} {aX aM : List Nat} {fX fM : List Value} (C0 : lw_At p s m meth c b L xs) (hU : tU E (fun q => s.heap.size ≤ q) s) (hL : L ≤ 2560) (hi : i + 5 ≤ L) (hl : lv_has ls 4 [(0, .ref b), (1, .ref (tad E aX 0)), (2, .ref (tad E aM 0)), (3, .int (nI i))]) (hcs : cells + 3 ≤ 600000) (hss : slots + 873 ≤ 7302250) (hcX : hX[0]? = some (.inl (7, fX))) (hcM : hM[0]? = some (.inl (8, fM))) (hw : tW2 E (fun q => s.heap.size ≤ q) aX aM hX hM H) (hS : va_S (fun q => s.heap.size ≤ q) s.heap H locs) (hA : ∀ (x0 : Int32) (x1 : Int32), tSameI l E J yX7_compare cX7_compare 5 yX8_compare cX8_compare 5 [.int x0, .int x1] hX hM) (hK : ∀ (hX' hM' : tHp) (aX' aM' : List Nat) (H' : Heap) (locs' : List Loc) (cells' slots' : Nat), J hX' hM' → tW2 E (fun q => s.heap.size ≤ q) aX' aM' hX' hM' H' → va_S (fun q => s.heap.size ≤ q) s.heap H' locs' → cells' ≤ cells + 3 → slots' ≤ slots + 873 → lv_has ls 4 [(0, .ref b), (1, .ref (tad E aX' 0)), (2, .ref (tad E aM' 0)), (3, .int (nI i))] → W p l e room_1 s m #[Value.ref b] below meth c H' locs' cells' slots' Q (F0 m 1618 ls [])) : W p l e room_1 s m #[Value.ref b] below meth c H locs cells slots Q (F0 m 1559 ls []) := by
  obtain ⟨hx, hb, hr, hmx, hown, -, hXs, hbl, hlocks, hgv⟩ := id C0
  have hts := hU.hts #[Value.ref b]
  refine lv_aload_n hx hb dL_law_1559 rfl (lv_at hl 1 rfl) ?_
  refine lw_rd (k := 1) (q := 1565) C0 hS hl (by omega) hL rfl dL_law_1560 dL_law_1561 dL_law_1562 dL_law_1563 dL_law_1564 rfl ?_
  refine lw_rd (k := 2) (q := 1570) C0 hS hl (by omega) hL rfl dL_law_1565 dL_law_1566 dL_law_1567 dL_law_1568 dL_law_1569 rfl ?_
  obtain ⟨z, hX', hM', dX, dM, kX, nX, q1, q2, q3, q4, e1, e2, hJ⟩ := hA (xs (i + 1)) (xs (i + 2))
  refine lw_call (as := [.int (xs (i + 1)), .int (xs (i + 2))]) (rest := []) (q := 1573) (ci := 7) C0 hU hl.1 tm_X7_compare ml_L_204 ti_X7_compare hcX rfl dL_law_1570 rfl e1 rfl (fun _ => rfl) (fun _ => rfl) rfl (Nat.le_of_ble_eq_true rfl) q1 (by omega) (by omega) hw hS (fun aX' H1 locs1 w1 s1 t1 => ?_)
  refine lv_aload_n hx hb dL_law_1573 rfl (lv_at hl 2 rfl) ?_
  refine lw_rd (k := 1) (q := 1579) C0 s1 hl (by omega) hL rfl dL_law_1574 dL_law_1575 dL_law_1576 dL_law_1577 dL_law_1578 rfl ?_
  refine lw_rd (k := 2) (q := 1584) C0 s1 hl (by omega) hL rfl dL_law_1579 dL_law_1580 dL_law_1581 dL_law_1582 dL_law_1583 rfl ?_
  refine lw_call (as := [.int (xs (i + 1)), .int (xs (i + 2))]) (rest := [.int z]) (q := 1587) (ci := 8) C0 hU hl.1 tm_X8_compare ml_L_207 ti_X8_compare hcM rfl dL_law_1584 rfl e2 rfl (fun _ => rfl) (fun _ => rfl) rfl (Nat.le_of_ble_eq_true rfl) q2 (by omega) (by omega) w1.swap s1 (fun aM' H2 locs2 w2 s2 t2 => ?_)
  refine lv_icmp_eq (tgt := 1618) hx hb dL_law_1587 (by decide) (fun _ => ?_) (fun c9 => absurd rfl c9)
  refine hK hX' hM' aX' aM' H2 locs2 _ _ hJ w2.swap s2 (by omega) (by omega) ?_
  rw [t1, t2]; exact hl
set_option maxHeartbeats 4000000 in
theorem law_c46 {p : Program} {l : Launch} {e : Env} {s : State} {m : MethodId} {below : List Frame} {meth : Method} {c : Code} {b L : Nat} {xs : Nat → Int32} {E : tEn} {Q : State → Prop} {J : tHp → tHp → Prop} {H : Heap} {locs : List Loc} {cells slots i : Nat} {ls : Array Slot} {hX hM : tHp} {aX aM : List Nat} {fX fM : List Value} (C0 : lw_At p s m meth c b L xs) (hU : tU E (fun q => s.heap.size ≤ q) s) (hL : L ≤ 2560) (hi : i + 5 ≤ L) (hl : lv_has ls 4 [(0, .ref b), (1, .ref (tad E aX 0)), (2, .ref (tad E aM 0)), (3, .int (nI i))]) (hcs : cells + 3 ≤ 600000) (hss : slots + 873 ≤ 7302250) (hcX : hX[0]? = some (.inl (7, fX))) (hcM : hM[0]? = some (.inl (8, fM))) (hw : tW2 E (fun q => s.heap.size ≤ q) aX aM hX hM H) (hS : va_S (fun q => s.heap.size ≤ q) s.heap H locs) (hA : tSameI l E J yX7_usedSlots cX7_usedSlots 1 yX8_usedSlots cX8_usedSlots 3 [] hX hM) (hK : ∀ (hX' hM' : tHp) (aX' aM' : List Nat) (H' : Heap) (locs' : List Loc) (cells' slots' : Nat), J hX' hM' → tW2 E (fun q => s.heap.size ≤ q) aX' aM' hX' hM' H' → va_S (fun q => s.heap.size ≤ q) s.heap H' locs' → cells' ≤ cells + 3 → slots' ≤ slots + 873 → lv_has ls 4 [(0, .ref b), (1, .ref (tad E aX' 0)), (2, .ref (tad E aM' 0)), (3, .int (nI i))] → W p l e room_1 s m #[Value.ref b] below meth c H' locs' cells' slots' Q (F0 m 1618 ls [])) : W p l e room_1 s m #[Value.ref b] below meth c H locs cells slots Q (F0 m 1592 ls []) := by
  obtain ⟨hx, hb, hr, hmx, hown, -, hXs, hbl, hlocks, hgv⟩ := id C0
  have hts := hU.hts #[Value.ref b]
  refine lv_aload_n hx hb dL_law_1592 rfl (lv_at hl 1 rfl) ?_
  obtain ⟨z, hX', hM', dX, dM, kX, nX, q1, q2, q3, q4, e1, e2, hJ⟩ := hA 
  refine lw_call (as := []) (rest := []) (q := 1596) (ci := 7) C0 hU hl.1 tm_X7_usedSlots ml_L_208 ti_X7_usedSlots hcX rfl dL_law_1593 rfl e1 rfl (fun _ => rfl) (fun _ => rfl) rfl (Nat.le_of_ble_eq_true rfl) q1 (by omega) (by omega) hw hS (fun aX' H1 locs1 w1 s1 t1 => ?_)
  refine lv_aload_n hx hb dL_law_1596 rfl (lv_at hl 2 rfl) ?_
  refine lw_call (as := []) (rest := [.int z]) (q := 1600) (ci := 8) C0 hU hl.1 tm_X8_usedSlots ml_L_211 ti_X8_usedSlots hcM rfl dL_law_1597 rfl e2 rfl (fun _ => rfl) (fun _ => rfl) rfl (Nat.le_of_ble_eq_true rfl) q2 (by omega) (by omega) w1.swap s1 (fun aM' H2 locs2 w2 s2 t2 => ?_)
  refine lv_icmp_eq (tgt := 1618) hx hb dL_law_1600 (by decide) (fun _ => ?_) (fun c9 => absurd rfl c9)
  refine hK hX' hM' aX' aM' H2 locs2 _ _ hJ w2.swap s2 (by omega) (by omega) ?_
  rw [t1, t2]; exact hl
set_option maxHeartbeats 4000000 in
theorem law_c47 {p : Program} {l : Launch} {e : Env} {s : State} {m : MethodId} {below : List Frame} {meth : Method} {c : Code} {b L : Nat} {xs : Nat → Int32} {E : tEn} {Q : State → Prop} {J : tHp → tHp → Prop} {H : Heap} {locs : List Loc} {cells slots i : Nat} {ls : Array Slot} {hX hM : tHp} {aX aM : List Nat} {fX fM : List Value} (C0 : lw_At p s m meth c b L xs) (hU : tU E (fun q => s.heap.size ≤ q) s) (hL : L ≤ 2560) (hi : i + 5 ≤ L) (hl : lv_has ls 4 [(0, .ref b), (1, .ref (tad E aX 0)), (2, .ref (tad E aM 0)), (3, .int (nI i))]) (hcs : cells + 3 ≤ 600000) (hss : slots + 873 ≤ 7302250) (hcX : hX[0]? = some (.inl (7, fX))) (hcM : hM[0]? = some (.inl (8, fM))) (hw : tW2 E (fun q => s.heap.size ≤ q) aX aM hX hM H) (hS : va_S (fun q => s.heap.size ≤ q) s.heap H locs) (hA : tSameI l E J yX7_undoable cX7_undoable 1 yX8_undoable cX8_undoable 1 [] hX hM) (hK : ∀ (hX' hM' : tHp) (aX' aM' : List Nat) (H' : Heap) (locs' : List Loc) (cells' slots' : Nat), J hX' hM' → tW2 E (fun q => s.heap.size ≤ q) aX' aM' hX' hM' H' → va_S (fun q => s.heap.size ≤ q) s.heap H' locs' → cells' ≤ cells + 3 → slots' ≤ slots + 873 → lv_has ls 4 [(0, .ref b), (1, .ref (tad E aX' 0)), (2, .ref (tad E aM' 0)), (3, .int (nI i))] → W p l e room_1 s m #[Value.ref b] below meth c H' locs' cells' slots' Q (F0 m 1618 ls [])) : W p l e room_1 s m #[Value.ref b] below meth c H locs cells slots Q (F0 m 1605 ls []) := by
  obtain ⟨hx, hb, hr, hmx, hown, -, hXs, hbl, hlocks, hgv⟩ := id C0
  have hts := hU.hts #[Value.ref b]
  refine lv_aload_n hx hb dL_law_1605 rfl (lv_at hl 1 rfl) ?_
  obtain ⟨z, hX', hM', dX, dM, kX, nX, q1, q2, q3, q4, e1, e2, hJ⟩ := hA 
  refine lw_call (as := []) (rest := []) (q := 1609) (ci := 7) C0 hU hl.1 tm_X7_undoable ml_L_212 ti_X7_undoable hcX rfl dL_law_1606 rfl e1 rfl (fun _ => rfl) (fun _ => rfl) rfl (Nat.le_of_ble_eq_true rfl) q1 (by omega) (by omega) hw hS (fun aX' H1 locs1 w1 s1 t1 => ?_)
  refine lv_aload_n hx hb dL_law_1609 rfl (lv_at hl 2 rfl) ?_
  refine lw_call (as := []) (rest := [.int z]) (q := 1613) (ci := 8) C0 hU hl.1 tm_X8_undoable ml_L_215 ti_X8_undoable hcM rfl dL_law_1610 rfl e2 rfl (fun _ => rfl) (fun _ => rfl) rfl (Nat.le_of_ble_eq_true rfl) q2 (by omega) (by omega) w1.swap s1 (fun aM' H2 locs2 w2 s2 t2 => ?_)
  refine lv_icmp_eq (tgt := 1618) hx hb dL_law_1613 (by decide) (fun _ => ?_) (fun c9 => absurd rfl c9)
  refine hK hX' hM' aX' aM' H2 locs2 _ _ hJ w2.swap s2 (by omega) (by omega) ?_
  rw [t1, t2]; exact hl
/-- what the pure part owes: each call, from every state that J allows -/
def tApi (l : Launch) (E : tEn) (J : tHp → tHp → Prop) : Prop := ∀ (hX hM : tHp), J hX hM → (∃ fX, hX[0]? = some (.inl (7, fX))) ∧ (∃ fM, hM[0]? = some (.inl (8, fM))) ∧
  (∀ (x0 : Int32), tSameI l E J yX7_setVariables cX7_setVariables 3 yX8_setVariables cX8_setVariables 4 [.int x0] hX hM) ∧
  (tSameI l E J yX7_variables cX7_variables 1 yX8_variables cX8_variables 1 [] hX hM) ∧
  (∀ (x0 : Int32) (x1 : Int64), tSameI l E J yX7_setTable cX7_setTable 4 yX8_setTable cX8_setTable 4 [.int x0, .long x1] hX hM) ∧
  (∀ (x0 : Int32), tSameJ l E J yX7_table cX7_table 3 yX8_table cX8_table 2 [.int x0] hX hM) ∧
  (∀ (x0 : Int32), tSameI l E J yX7_clear cX7_clear 3 yX8_clear cX8_clear 2 [.int x0] hX hM) ∧
  (∀ (x0 : Int32) (x1 : Int32), tSameI l E J yX7_value cX7_value 4 yX8_value cX8_value 3 [.int x0, .int x1] hX hM) ∧
  (∀ (x0 : Int32), tSameI l E J yX7_essential cX7_essential 3 yX8_essential cX8_essential 2 [.int x0] hX hM) ∧
  (∀ (x0 : Int32), tSameI l E J yX7_isMonotone cX7_isMonotone 3 yX8_isMonotone cX8_isMonotone 2 [.int x0] hX hM) ∧
  (∀ (x0 : Int32), tSameI l E J yX7_violatingPoint cX7_violatingPoint 3 yX8_violatingPoint cX8_violatingPoint 2 [.int x0] hX hM) ∧
  (∀ (x0 : Int32), tSameI l E J yX7_primeImplicants cX7_primeImplicants 3 yX8_primeImplicants cX8_primeImplicants 3 [.int x0] hX hM) ∧
  (∀ (x0 : Int32) (x1 : Int32), tSameI l E J yX7_primeImplicant cX7_primeImplicant 4 yX8_primeImplicant cX8_primeImplicant 4 [.int x0, .int x1] hX hM) ∧
  (∀ (x0 : Int32) (x1 : Int32), tSameI l E J yX7_neighbors cX7_neighbors 4 yX8_neighbors cX8_neighbors 4 [.int x0, .int x1] hX hM) ∧
  (∀ (x0 : Int32) (x1 : Int32), tSameI l E J yX7_inducedPath cX7_inducedPath 4 yX8_inducedPath cX8_inducedPath 5 [.int x0, .int x1] hX hM) ∧
  (∀ (x0 : Int32), tSameI l E J yX7_badClique cX7_badClique 3 yX8_badClique cX8_badClique 3 [.int x0] hX hM) ∧
  (∀ (x0 : Int32), tSameI l E J yX7_reason cX7_reason 3 yX8_reason cX8_reason 2 [.int x0] hX hM) ∧
  (∀ (x0 : Int32), tSameI l E J yX7_nodes cX7_nodes 3 yX8_nodes cX8_nodes 3 [.int x0] hX hM) ∧
  (∀ (x0 : Int32) (x1 : Int32), tSameI l E J yX7_nodeType cX7_nodeType 4 yX8_nodeType cX8_nodeType 4 [.int x0, .int x1] hX hM) ∧
  (∀ (x0 : Int32) (x1 : Int32), tSameI l E J yX7_parent cX7_parent 4 yX8_parent cX8_parent 4 [.int x0, .int x1] hX hM) ∧
  (∀ (x0 : Int32) (x1 : Int32), tSameI l E J yX7_depth cX7_depth 4 yX8_depth cX8_depth 7 [.int x0, .int x1] hX hM) ∧
  (∀ (x0 : Int32), tSameI l E J yX7_writeFormula cX7_writeFormula 3 yX8_writeFormula cX8_writeFormula 3 [.int x0] hX hM) ∧
  (∀ (x0 : Int32), tSameI l E J yX7_output cX7_output 2 yX8_output cX8_output 2 [.int x0] hX hM) ∧
  (∀ (x0 : Int32), tSameI l E J yX7_feed cX7_feed 2 yX8_feed cX8_feed 2 [.int x0] hX hM) ∧
  (∀ (x0 : Int32), tSameI l E J yX7_parse cX7_parse 4 yX8_parse cX8_parse 4 [.int x0] hX hM) ∧
  (∀ (x0 : Int32) (x1 : Int32) (x2 : Int32) (x3 : Int32), tSameI l E J yX7_combine cX7_combine 5 yX8_combine cX8_combine 9 [.int x0, .int x1, .int x2, .int x3] hX hM) ∧
  (∀ (x0 : Int32) (x1 : Int32), tSameI l E J yX7_dual cX7_dual 9 yX8_dual cX8_dual 6 [.int x0, .int x1] hX hM) ∧
  (∀ (x0 : Int32) (x1 : Int32) (x2 : Int32) (x3 : Int32), tSameI l E J yX7_cofactor cX7_cofactor 7 yX8_cofactor cX8_cofactor 8 [.int x0, .int x1, .int x2, .int x3] hX hM) ∧
  (∀ (x0 : Int32) (x1 : Int32) (x2 : Int32) (x3 : Int32), tSameI l E J yX7_substitute cX7_substitute 5 yX8_substitute cX8_substitute 9 [.int x0, .int x1, .int x2, .int x3] hX hM) ∧
  (∀ (x0 : Int32) (x1 : Int32) (x2 : Int32) (x3 : Int32), tSameI l E J yX7_exchange cX7_exchange 11 yX8_exchange cX8_exchange 9 [.int x0, .int x1, .int x2, .int x3] hX hM) ∧
  (∀ (x0 : Int32) (x1 : Int32) (x2 : Int32), tSameI l E J yX7_random cX7_random 4 yX8_random cX8_random 4 [.int x0, .int x1, .int x2] hX hM) ∧
  (∀ (x0 : Int32) (x1 : Int32) (x2 : Int32), tSameI l E J yX7_readOnceTrials cX7_readOnceTrials 6 yX8_readOnceTrials cX8_readOnceTrials 6 [.int x0, .int x1, .int x2] hX hM) ∧
  (∀ (x0 : Int32) (x1 : Int32), tSameI l E J yX7_addSample cX7_addSample 3 yX8_addSample cX8_addSample 3 [.int x0, .int x1] hX hM) ∧
  (∀ (x0 : Int32), tSameI l E J yX7_removeSample cX7_removeSample 2 yX8_removeSample cX8_removeSample 2 [.int x0] hX hM) ∧
  (tSameI l E J yX7_extensions cX7_extensions 4 yX8_extensions cX8_extensions 3 [] hX hM) ∧
  (∀ (x0 : Int32), tSameJ l E J yX7_extension cX7_extension 5 yX8_extension cX8_extension 4 [.int x0] hX hM) ∧
  (tSameJ l E J yX7_simplestExtension cX7_simplestExtension 7 yX8_simplestExtension cX8_simplestExtension 3 [] hX hM) ∧
  (∀ (x0 : Int32), tSameI l E J yX7_readOnceCount cX7_readOnceCount 6 yX8_readOnceCount cX8_readOnceCount 4 [.int x0] hX hM) ∧
  (∀ (x0 : Int32) (x1 : Int32) (x2 : Int32) (x3 : Int32), tSameI l E J yX7_addStep cX7_addStep 5 yX8_addStep cX8_addStep 5 [.int x0, .int x1, .int x2, .int x3] hX hM) ∧
  (tSameI l E J yX7_clearSteps cX7_clearSteps 2 yX8_clearSteps cX8_clearSteps 2 [] hX hM) ∧
  (tSameI l E J yX7_runSteps cX7_runSteps 3 yX8_runSteps cX8_runSteps 3 [] hX hM) ∧
  (tSameI l E J yX7_undo cX7_undo 3 yX8_undo cX8_undo 2 [] hX hM) ∧
  (tSameI l E J yX7_save cX7_save 1 yX8_save cX8_save 2 [] hX hM) ∧
  (tSameI l E J yX7_restore cX7_restore 1 yX8_restore cX8_restore 2 [] hX hM) ∧
  (∀ (x0 : Int32) (x1 : Int32), tSameI l E J yX7_createArray cX7_createArray 4 yX8_createArray cX8_createArray 4 [.int x0, .int x1] hX hM) ∧
  (∀ (x0 : Int32) (x1 : Int32) (x2 : Int32), tSameI l E J yX7_setElement cX7_setElement 4 yX8_setElement cX8_setElement 4 [.int x0, .int x1, .int x2] hX hM) ∧
  (∀ (x0 : Int32) (x1 : Int32), tSameJ l E J yX7_element cX7_element 3 yX8_element cX8_element 3 [.int x0, .int x1] hX hM) ∧
  (∀ (x0 : Int32) (x1 : Int32), tSameI l E J yX7_compare cX7_compare 5 yX8_compare cX8_compare 5 [.int x0, .int x1] hX hM) ∧
  (tSameI l E J yX7_usedSlots cX7_usedSlots 1 yX8_usedSlots cX8_usedSlots 3 [] hX hM) ∧
  (tSameI l E J yX7_undoable cX7_undoable 1 yX8_undoable cX8_undoable 1 [] hX hM)
