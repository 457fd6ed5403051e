set_option maxHeartbeats 4000000 in
set_option maxRecDepth 100000 in
theorem zl_light {p : Program} {l : Launch} {e : Env} {s : State} {m : MethodId} {below : List Frame} {meth : Method} {c : Code} {b L i ta : Nat} {xs : Nat → Int32} {D : va_G} {cI cZ : ClassId} {q r : Nat → Nat} {H : Heap} {locs : List Loc} {ls : Array Slot} {Q : State → Prop} (C0 : zLC p s m c b L xs D cI cZ ta) (hi : i + 3 ≤ L) (hL : L ≤ 1536) (hI0 : zLI D cI cZ q r s H locs) (hl : lv_has ls 4 [(0, .ref b), (1, .ref (q 0)), (2, .ref (r 0)), (3, .int (nI i))]) (kk : ∀ (H : Heap) (locs : List Loc), zLI D cI cZ q r s H locs → W p l e room_1 s m #[Value.ref b] below meth c H locs 24 300 Q (F0 m 770 ls [])) : W p l e room_1 s m #[Value.ref b] below meth c H locs 24 300 Q (F0 m 355 ls []) := by
  obtain ⟨hx, hb, hml, hown, hts, hX, hbl, hG⟩ := C0
  obtain ⟨a, b0, b1, ik, ha, t, g, im, kp, lf, rw, fn, kn, hI, hC, hP, hD, hS⟩ := hI0
  have hK := hG.1
  have hA : ∀ y, s.heap.size ≤ y → zA s.heap.size y := fun _ h => h
  have hAz : ∀ y, zA s.heap.size y → s.heap.size ≤ y := fun _ h => h
  have hbA : ¬ zA s.heap.size b := Nat.not_le.mpr hbl
  refine lv_aload_n hx hb dL_law_355 rfl (lv_at hl 1 rfl) ?_
  refine lv_aload_n hx hb dL_law_356 rfl (lv_at hl 0 rfl) ?_
  refine lv_iload_n hx hb dL_law_357 rfl (lv_at hl 3 rfl) ?_
  refine lv_iconst (v := 1) hx hb dL_law_358 (by decide) ?_
  refine lv_iadd hx hb dL_law_359 ?_
  refine zz_sld (j := i + 1) hx hb hX hbl hbA hS (nI_add i 1) (by omega) (by omega) dL_law_360 ?_
  refine zz_cVi (cs := zcX cI q a b0 b1 ik ha t g) (As := [.int (xs (i + 1))]) (rest := []) ⟨hx, hb, hml, hown, hts⟩ (c_X2_light l D cI cZ s.heap.size ta q a b0 b1 ik ha t g (xs (i + 1)) hI) (cwV 1 hts gL_law_X2_light rfl rfl rfl (by decide +kernel) ⟨Nat.le_of_ble_eq_true rfl, Nat.le_of_ble_eq_true rfl⟩) (va_recv hK hP (ci := 2) (q0 := 0) rfl rfl) (hP.sub (ws' := zcX cI q a b0 b1 ik ha t g) [0, 1, 2, 3, 4, 5, 6, 7, 8, 9, 10, 11, 12, 13, 14, 15, 16] rfl) (hD.sub (ws' := zcX cI q a b0 b1 ik ha t g) [0, 1, 2, 3, 4, 5, 6, 7, 8, 9, 10, 11, 12, 13, 14, 15, 16] (by decide) rfl) hG hS hAz rfl hl.1 rfl (Nat.le_of_ble_eq_true rfl) ⟨Nat.le_of_ble_eq_true rfl, Nat.le_of_ble_eq_true rfl⟩ dL_law_361 (fun r1 e1 => ?_)
  refine lv_aload_n hx hb dL_law_364 rfl (lv_at hl 2 rfl) ?_
  refine lv_aload_n hx hb dL_law_365 rfl (lv_at hl 0 rfl) ?_
  refine lv_iload_n hx hb dL_law_366 rfl (lv_at hl 3 rfl) ?_
  refine lv_iconst (v := 1) hx hb dL_law_367 (by decide) ?_
  refine lv_iadd hx hb dL_law_368 ?_
  refine zz_sld (j := i + 1) hx hb hX hbl hbA hS (nI_add i 1) (by omega) (by omega) dL_law_369 ?_
  refine zz_cVi (cs := zcM cI cZ r (zst a) im kp lf rw fn kn) (As := [.int (xs (i + 1))]) (rest := [.int r1]) ⟨hx, hb, hml, hown, hts⟩ (c_X3_light l D cI cZ s.heap.size ta r a im kp lf rw fn kn (xs (i + 1)) hI) (cwV 1 hts gL_law_X3_light rfl rfl rfl (by decide +kernel) ⟨Nat.le_of_ble_eq_true rfl, Nat.le_of_ble_eq_true rfl⟩) (va_recv hK hP (ci := 3) (q0 := 17) rfl rfl) (hP.sub (ws' := zcM cI cZ r (zst a) im kp lf rw fn kn) [17, 18, 19, 20, 21, 22, 23] rfl) (hD.sub (ws' := zcM cI cZ r (zst a) im kp lf rw fn kn) [17, 18, 19, 20, 21, 22, 23] (by decide) rfl) hG hS hAz rfl hl.1 rfl (Nat.le_of_ble_eq_true rfl) ⟨Nat.le_of_ble_eq_true rfl, Nat.le_of_ble_eq_true rfl⟩ dL_law_370 (fun r2 e2 => ?_)
  refine lv_icmp_eq (tgt := 770) hx hb dL_law_373 (by decide) (fun _ => kk _ _ ⟨a, b0, b1, ik, ha, t, g, im, kp, lf, rw, fn, kn, hI, hC, hP, hD, hS⟩) (fun c9 => absurd (e1.trans e2.symm) c9)
set_option maxHeartbeats 4000000 in
set_option maxRecDepth 100000 in
theorem zl_put {p : Program} {l : Launch} {e : Env} {s : State} {m : MethodId} {below : List Frame} {meth : Method} {c : Code} {b L i ta : Nat} {xs : Nat → Int32} {D : va_G} {cI cZ : ClassId} {q r : Nat → Nat} {H : Heap} {locs : List Loc} {ls : Array Slot} {Q : State → Prop} (C0 : zLC p s m c b L xs D cI cZ ta) (hi : i + 3 ≤ L) (hL : L ≤ 1536) (hI0 : zLI D cI cZ q r s H locs) (hl : lv_has ls 4 [(0, .ref b), (1, .ref (q 0)), (2, .ref (r 0)), (3, .int (nI i))]) (kk : ∀ (H : Heap) (locs : List Loc), zLI D cI cZ q r s H locs → W p l e room_1 s m #[Value.ref b] below meth c H locs 24 300 Q (F0 m 770 ls [])) : W p l e room_1 s m #[Value.ref b] below meth c H locs 24 300 Q (F0 m 378 ls []) := by
  obtain ⟨hx, hb, hml, hown, hts, hX, hbl, hG⟩ := C0
  obtain ⟨a, b0, b1, ik, ha, t, g, im, kp, lf, rw, fn, kn, hI, hC, hP, hD, hS⟩ := hI0
  have hK := hG.1
  have hA : ∀ y, s.heap.size ≤ y → zA s.heap.size y := fun _ h => h
  have hAz : ∀ y, zA s.heap.size y → s.heap.size ≤ y := fun _ h => h
  have hbA : ¬ zA s.heap.size b := Nat.not_le.mpr hbl
  refine lv_aload_n hx hb dL_law_378 rfl (lv_at hl 1 rfl) ?_
  refine lv_aload_n hx hb dL_law_379 rfl (lv_at hl 0 rfl) ?_
  refine lv_iload_n hx hb dL_law_380 rfl (lv_at hl 3 rfl) ?_
  refine lv_iconst (v := 1) hx hb dL_law_381 (by decide) ?_
  refine lv_iadd hx hb dL_law_382 ?_
  refine zz_sld (j := i + 1) hx hb hX hbl hbA hS (nI_add i 1) (by omega) (by omega) dL_law_383 ?_
  refine lv_aload_n hx hb dL_law_384 rfl (lv_at hl 0 rfl) ?_
  refine lv_iload_n hx hb dL_law_385 rfl (lv_at hl 3 rfl) ?_
  refine lv_iconst (v := 2) hx hb dL_law_386 (by decide) ?_
  refine lv_iadd hx hb dL_law_387 ?_
  refine zz_sld (j := i + 2) hx hb hX hbl hbA hS (nI_add i 2) (by omega) (by omega) dL_law_388 ?_
  refine zz_nVi (ct := fun (u : ZA) => zcX cI q u b0 b1 ik ha t g) (cn := fun (u : ZA) => zcX cI q u b0 b1 ik ha t g ++ zcM cI cZ r (zst a) im kp lf rw fn kn) (cs := zcX cI q a b0 b1 ik ha t g) (As := [.int (xs (i + 1)), .int (xs (i + 2))]) (rest := []) ⟨hx, hb, hml, hown, hts⟩ (c_X2_put l D cI cZ s.heap.size ta H.size q a b0 b1 ik ha t g (xs (i + 1)) (xs (i + 2)) hI) (fun _ => rfl) (cwV 2 hts gL_law_X2_put rfl rfl rfl (by decide +kernel) ⟨Nat.le_of_ble_eq_true rfl, Nat.le_of_ble_eq_true rfl⟩) (va_recv hK hP (ci := 2) (q0 := 0) rfl rfl) hP hD [0, 1, 2, 3, 4, 5, 6, 7, 8, 9, 10, 11, 12, 13, 14, 15, 16] [17, 18, 19, 20, 21, 22, 23] [7, 8, 9, 10, 11, 12, 13, 14, 15, 16, 17, 18, 19, 20, 21, 22, 23, 0, 1, 2, 3, 4, 5, 6] rfl (by decide) (by decide) (by decide) (nW := 24) rfl (by decide) (fun _ => rfl) (fun _ => rfl) (fun _ => rfl) hG hS hA hAz rfl hl.1 rfl (Nat.le_of_ble_eq_true rfl) ⟨Nat.le_of_ble_eq_true rfl, Nat.le_of_ble_eq_true rfl⟩ dL_law_389 (fun r1 u1 H locs e1 hP hD hS => ?_)
  refine lv_aload_n hx hb dL_law_392 rfl (lv_at hl 2 rfl) ?_
  refine lv_aload_n hx hb dL_law_393 rfl (lv_at hl 0 rfl) ?_
  refine lv_iload_n hx hb dL_law_394 rfl (lv_at hl 3 rfl) ?_
  refine lv_iconst (v := 1) hx hb dL_law_395 (by decide) ?_
  refine lv_iadd hx hb dL_law_396 ?_
  refine zz_sld (j := i + 1) hx hb hX hbl hbA hS (nI_add i 1) (by omega) (by omega) dL_law_397 ?_
  refine lv_aload_n hx hb dL_law_398 rfl (lv_at hl 0 rfl) ?_
  refine lv_iload_n hx hb dL_law_399 rfl (lv_at hl 3 rfl) ?_
  refine lv_iconst (v := 2) hx hb dL_law_400 (by decide) ?_
  refine lv_iadd hx hb dL_law_401 ?_
  refine zz_sld (j := i + 2) hx hb hX hbl hbA hS (nI_add i 2) (by omega) (by omega) dL_law_402 ?_
  refine zz_nVi (ct := fun (u : ZA) => zcM cI cZ r (zst u) im kp lf rw fn kn) (cn := fun (u : ZA) => zcX cI q u1 b0 b1 ik ha t g ++ zcM cI cZ r (zst u) im kp lf rw fn kn) (cs := zcM cI cZ r (zst a) im kp lf rw fn kn) (As := [.int (xs (i + 1)), .int (xs (i + 2))]) (rest := [.int r1]) ⟨hx, hb, hml, hown, hts⟩ (c_X3_put l D cI cZ s.heap.size ta H.size r a im kp lf rw fn kn (xs (i + 1)) (xs (i + 2)) hI) (fun _ => rfl) (cwV 2 hts gL_law_X3_put rfl rfl rfl (by decide +kernel) ⟨Nat.le_of_ble_eq_true rfl, Nat.le_of_ble_eq_true rfl⟩) (va_recv hK hP (ci := 3) (q0 := 17) rfl rfl) hP hD [17, 18, 19, 20, 21, 22, 23] [0, 1, 2, 3, 4, 5, 6, 7, 8, 9, 10, 11, 12, 13, 14, 15, 16] [0, 1, 2, 3, 4, 5, 6, 7, 8, 9, 10, 11, 12, 13, 14, 15, 16, 17, 18, 19, 20, 21, 22, 23] rfl (by decide) (by decide) (by decide) (nW := 24) rfl (by decide) (fun _ => rfl) (fun _ => rfl) (fun _ => rfl) hG hS hA hAz rfl hl.1 rfl (Nat.le_of_ble_eq_true rfl) ⟨Nat.le_of_ble_eq_true rfl, Nat.le_of_ble_eq_true rfl⟩ dL_law_403 (fun r2 u2 H locs e2 hP hD hS => ?_)
  obtain ⟨rfl, rfl⟩ := Prod.mk.inj (e1.trans e2.symm)
  have hI1 : zInv u1 := by have h9 := congrArg Prod.snd e1; rw [show u1 = _ from h9]; exact zI_put hI _ _
  refine lv_icmp_eq (tgt := 770) hx hb dL_law_406 (by decide) (fun _ => kk _ _ ⟨u1, b0, b1, ik, ha, t, g, im, kp, lf, rw, fn, kn, hI1, hC, hP, hD, hS⟩) (fun c9 => absurd rfl c9)
set_option maxHeartbeats 4000000 in
set_option maxRecDepth 100000 in
theorem zl_hear {p : Program} {l : Launch} {e : Env} {s : State} {m : MethodId} {below : List Frame} {meth : Method} {c : Code} {b L i ta : Nat} {xs : Nat → Int32} {D : va_G} {cI cZ : ClassId} {q r : Nat → Nat} {H : Heap} {locs : List Loc} {ls : Array Slot} {Q : State → Prop} (C0 : zLC p s m c b L xs D cI cZ ta) (hi : i + 3 ≤ L) (hL : L ≤ 1536) (hI0 : zLI D cI cZ q r s H locs) (hl : lv_has ls 4 [(0, .ref b), (1, .ref (q 0)), (2, .ref (r 0)), (3, .int (nI i))]) (kk : ∀ (H : Heap) (locs : List Loc), zLI D cI cZ q r s H locs → W p l e room_1 s m #[Value.ref b] below meth c H locs 24 300 Q (F0 m 770 ls [])) : W p l e room_1 s m #[Value.ref b] below meth c H locs 24 300 Q (F0 m 411 ls []) := by
  obtain ⟨hx, hb, hml, hown, hts, hX, hbl, hG⟩ := C0
  obtain ⟨a, b0, b1, ik, ha, t, g, im, kp, lf, rw, fn, kn, hI, hC, hP, hD, hS⟩ := hI0
  have hK := hG.1
  have hA : ∀ y, s.heap.size ≤ y → zA s.heap.size y := fun _ h => h
  have hAz : ∀ y, zA s.heap.size y → s.heap.size ≤ y := fun _ h => h
  have hbA : ¬ zA s.heap.size b := Nat.not_le.mpr hbl
  refine lv_aload_n hx hb dL_law_411 rfl (lv_at hl 1 rfl) ?_
  refine lv_aload_n hx hb dL_law_412 rfl (lv_at hl 0 rfl) ?_
  refine lv_iload_n hx hb dL_law_413 rfl (lv_at hl 3 rfl) ?_
  refine lv_iconst (v := 1) hx hb dL_law_414 (by decide) ?_
  refine lv_iadd hx hb dL_law_415 ?_
  refine zz_sld (j := i + 1) hx hb hX hbl hbA hS (nI_add i 1) (by omega) (by omega) dL_law_416 ?_
  refine lv_aload_n hx hb dL_law_417 rfl (lv_at hl 0 rfl) ?_
  refine lv_iload_n hx hb dL_law_418 rfl (lv_at hl 3 rfl) ?_
  refine lv_iconst (v := 2) hx hb dL_law_419 (by decide) ?_
  refine lv_iadd hx hb dL_law_420 ?_
  refine zz_sld (j := i + 2) hx hb hX hbl hbA hS (nI_add i 2) (by omega) (by omega) dL_law_421 ?_
  refine zz_nVi (ct := fun (u : ZA) => zcX cI q u b0 b1 ik ha t g) (cn := fun (u : ZA) => zcX cI q u b0 b1 ik ha t g ++ zcM cI cZ r (zst a) im kp lf rw fn kn) (cs := zcX cI q a b0 b1 ik ha t g) (As := [.int (xs (i + 1)), .int (xs (i + 2))]) (rest := []) ⟨hx, hb, hml, hown, hts⟩ (c_X2_hear l D cI cZ s.heap.size ta H.size q a b0 b1 ik ha t g (xs (i + 1)) (xs (i + 2)) hI) (fun _ => rfl) (cwV 2 hts gL_law_X2_hear rfl rfl rfl (by decide +kernel) ⟨Nat.le_of_ble_eq_true rfl, Nat.le_of_ble_eq_true rfl⟩) (va_recv hK hP (ci := 2) (q0 := 0) rfl rfl) hP hD [0, 1, 2, 3, 4, 5, 6, 7, 8, 9, 10, 11, 12, 13, 14, 15, 16] [17, 18, 19, 20, 21, 22, 23] [7, 8, 9, 10, 11, 12, 13, 14, 15, 16, 17, 18, 19, 20, 21, 22, 23, 0, 1, 2, 3, 4, 5, 6] rfl (by decide) (by decide) (by decide) (nW := 24) rfl (by decide) (fun _ => rfl) (fun _ => rfl) (fun _ => rfl) hG hS hA hAz rfl hl.1 rfl (Nat.le_of_ble_eq_true rfl) ⟨Nat.le_of_ble_eq_true rfl, Nat.le_of_ble_eq_true rfl⟩ dL_law_422 (fun r1 u1 H locs e1 hP hD hS => ?_)
  refine lv_aload_n hx hb dL_law_425 rfl (lv_at hl 2 rfl) ?_
  refine lv_aload_n hx hb dL_law_426 rfl (lv_at hl 0 rfl) ?_
  refine lv_iload_n hx hb dL_law_427 rfl (lv_at hl 3 rfl) ?_
  refine lv_iconst (v := 1) hx hb dL_law_428 (by decide) ?_
  refine lv_iadd hx hb dL_law_429 ?_
  refine zz_sld (j := i + 1) hx hb hX hbl hbA hS (nI_add i 1) (by omega) (by omega) dL_law_430 ?_
  refine lv_aload_n hx hb dL_law_431 rfl (lv_at hl 0 rfl) ?_
  refine lv_iload_n hx hb dL_law_432 rfl (lv_at hl 3 rfl) ?_
  refine lv_iconst (v := 2) hx hb dL_law_433 (by decide) ?_
  refine lv_iadd hx hb dL_law_434 ?_
  refine zz_sld (j := i + 2) hx hb hX hbl hbA hS (nI_add i 2) (by omega) (by omega) dL_law_435 ?_
  refine zz_nVi (ct := fun (u : ZA) => zcM cI cZ r (zst u) im kp lf rw fn kn) (cn := fun (u : ZA) => zcX cI q u1 b0 b1 ik ha t g ++ zcM cI cZ r (zst u) im kp lf rw fn kn) (cs := zcM cI cZ r (zst a) im kp lf rw fn kn) (As := [.int (xs (i + 1)), .int (xs (i + 2))]) (rest := [.int r1]) ⟨hx, hb, hml, hown, hts⟩ (c_X3_hear l D cI cZ s.heap.size ta H.size r a im kp lf rw fn kn (xs (i + 1)) (xs (i + 2)) hI) (fun _ => rfl) (cwV 2 hts gL_law_X3_hear rfl rfl rfl (by decide +kernel) ⟨Nat.le_of_ble_eq_true rfl, Nat.le_of_ble_eq_true rfl⟩) (va_recv hK hP (ci := 3) (q0 := 17) rfl rfl) hP hD [17, 18, 19, 20, 21, 22, 23] [0, 1, 2, 3, 4, 5, 6, 7, 8, 9, 10, 11, 12, 13, 14, 15, 16] [0, 1, 2, 3, 4, 5, 6, 7, 8, 9, 10, 11, 12, 13, 14, 15, 16, 17, 18, 19, 20, 21, 22, 23] rfl (by decide) (by decide) (by decide) (nW := 24) rfl (by decide) (fun _ => rfl) (fun _ => rfl) (fun _ => rfl) hG hS hA hAz rfl hl.1 rfl (Nat.le_of_ble_eq_true rfl) ⟨Nat.le_of_ble_eq_true rfl, Nat.le_of_ble_eq_true rfl⟩ dL_law_436 (fun r2 u2 H locs e2 hP hD hS => ?_)
  obtain ⟨rfl, rfl⟩ := Prod.mk.inj (e1.trans e2.symm)
  have hI1 : zInv u1 := by have h9 := congrArg Prod.snd e1; rw [show u1 = _ from h9]; exact zI_hear hI _ _
  refine lv_icmp_eq (tgt := 770) hx hb dL_law_439 (by decide) (fun _ => kk _ _ ⟨u1, b0, b1, ik, ha, t, g, im, kp, lf, rw, fn, kn, hI1, hC, hP, hD, hS⟩) (fun c9 => absurd rfl c9)
set_option maxHeartbeats 4000000 in
set_option maxRecDepth 100000 in
theorem zl_spoil {p : Program} {l : Launch} {e : Env} {s : State} {m : MethodId} {below : List Frame} {meth : Method} {c : Code} {b L i ta : Nat} {xs : Nat → Int32} {D : va_G} {cI cZ : ClassId} {q r : Nat → Nat} {H : Heap} {locs : List Loc} {ls : Array Slot} {Q : State → Prop} (C0 : zLC p s m c b L xs D cI cZ ta) (hi : i + 3 ≤ L) (hL : L ≤ 1536) (hI0 : zLI D cI cZ q r s H locs) (hl : lv_has ls 4 [(0, .ref b), (1, .ref (q 0)), (2, .ref (r 0)), (3, .int (nI i))]) (kk : ∀ (H : Heap) (locs : List Loc), zLI D cI cZ q r s H locs → W p l e room_1 s m #[Value.ref b] below meth c H locs 24 300 Q (F0 m 770 ls [])) : W p l e room_1 s m #[Value.ref b] below meth c H locs 24 300 Q (F0 m 444 ls []) := by
  obtain ⟨hx, hb, hml, hown, hts, hX, hbl, hG⟩ := C0
  obtain ⟨a, b0, b1, ik, ha, t, g, im, kp, lf, rw, fn, kn, hI, hC, hP, hD, hS⟩ := hI0
  have hK := hG.1
  have hA : ∀ y, s.heap.size ≤ y → zA s.heap.size y := fun _ h => h
  have hAz : ∀ y, zA s.heap.size y → s.heap.size ≤ y := fun _ h => h
  have hbA : ¬ zA s.heap.size b := Nat.not_le.mpr hbl
  refine lv_aload_n hx hb dL_law_444 rfl (lv_at hl 1 rfl) ?_
  refine lv_aload_n hx hb dL_law_445 rfl (lv_at hl 0 rfl) ?_
  refine lv_iload_n hx hb dL_law_446 rfl (lv_at hl 3 rfl) ?_
  refine lv_iconst (v := 1) hx hb dL_law_447 (by decide) ?_
  refine lv_iadd hx hb dL_law_448 ?_
  refine zz_sld (j := i + 1) hx hb hX hbl hbA hS (nI_add i 1) (by omega) (by omega) dL_law_449 ?_
  refine lv_aload_n hx hb dL_law_450 rfl (lv_at hl 0 rfl) ?_
  refine lv_iload_n hx hb dL_law_451 rfl (lv_at hl 3 rfl) ?_
  refine lv_iconst (v := 2) hx hb dL_law_452 (by decide) ?_
  refine lv_iadd hx hb dL_law_453 ?_
  refine zz_sld (j := i + 2) hx hb hX hbl hbA hS (nI_add i 2) (by omega) (by omega) dL_law_454 ?_
  refine zz_nVi (ct := fun (u : ZA) => zcX cI q u b0 b1 ik ha t g) (cn := fun (u : ZA) => zcX cI q u b0 b1 ik ha t g ++ zcM cI cZ r (zst a) im kp lf rw fn kn) (cs := zcX cI q a b0 b1 ik ha t g) (As := [.int (xs (i + 1)), .int (xs (i + 2))]) (rest := []) ⟨hx, hb, hml, hown, hts⟩ (c_X2_spoil l D cI cZ s.heap.size ta H.size q a b0 b1 ik ha t g (xs (i + 1)) (xs (i + 2)) hI) (fun _ => rfl) (cwV 2 hts gL_law_X2_spoil rfl rfl rfl (by decide +kernel) ⟨Nat.le_of_ble_eq_true rfl, Nat.le_of_ble_eq_true rfl⟩) (va_recv hK hP (ci := 2) (q0 := 0) rfl rfl) hP hD [0, 1, 2, 3, 4, 5, 6, 7, 8, 9, 10, 11, 12, 13, 14, 15, 16] [17, 18, 19, 20, 21, 22, 23] [7, 8, 9, 10, 11, 12, 13, 14, 15, 16, 17, 18, 19, 20, 21, 22, 23, 0, 1, 2, 3, 4, 5, 6] rfl (by decide) (by decide) (by decide) (nW := 24) rfl (by decide) (fun _ => rfl) (fun _ => rfl) (fun _ => rfl) hG hS hA hAz rfl hl.1 rfl (Nat.le_of_ble_eq_true rfl) ⟨Nat.le_of_ble_eq_true rfl, Nat.le_of_ble_eq_true rfl⟩ dL_law_455 (fun r1 u1 H locs e1 hP hD hS => ?_)
  refine lv_aload_n hx hb dL_law_458 rfl (lv_at hl 2 rfl) ?_
  refine lv_aload_n hx hb dL_law_459 rfl (lv_at hl 0 rfl) ?_
  refine lv_iload_n hx hb dL_law_460 rfl (lv_at hl 3 rfl) ?_
  refine lv_iconst (v := 1) hx hb dL_law_461 (by decide) ?_
  refine lv_iadd hx hb dL_law_462 ?_
  refine zz_sld (j := i + 1) hx hb hX hbl hbA hS (nI_add i 1) (by omega) (by omega) dL_law_463 ?_
  refine lv_aload_n hx hb dL_law_464 rfl (lv_at hl 0 rfl) ?_
  refine lv_iload_n hx hb dL_law_465 rfl (lv_at hl 3 rfl) ?_
  refine lv_iconst (v := 2) hx hb dL_law_466 (by decide) ?_
  refine lv_iadd hx hb dL_law_467 ?_
  refine zz_sld (j := i + 2) hx hb hX hbl hbA hS (nI_add i 2) (by omega) (by omega) dL_law_468 ?_
  refine zz_nVi (ct := fun (u : ZA) => zcM cI cZ r (zst u) im kp lf rw fn kn) (cn := fun (u : ZA) => zcX cI q u1 b0 b1 ik ha t g ++ zcM cI cZ r (zst u) im kp lf rw fn kn) (cs := zcM cI cZ r (zst a) im kp lf rw fn kn) (As := [.int (xs (i + 1)), .int (xs (i + 2))]) (rest := [.int r1]) ⟨hx, hb, hml, hown, hts⟩ (c_X3_spoil l D cI cZ s.heap.size ta H.size r a im kp lf rw fn kn (xs (i + 1)) (xs (i + 2)) hI) (fun _ => rfl) (cwV 2 hts gL_law_X3_spoil rfl rfl rfl (by decide +kernel) ⟨Nat.le_of_ble_eq_true rfl, Nat.le_of_ble_eq_true rfl⟩) (va_recv hK hP (ci := 3) (q0 := 17) rfl rfl) hP hD [17, 18, 19, 20, 21, 22, 23] [0, 1, 2, 3, 4, 5, 6, 7, 8, 9, 10, 11, 12, 13, 14, 15, 16] [0, 1, 2, 3, 4, 5, 6, 7, 8, 9, 10, 11, 12, 13, 14, 15, 16, 17, 18, 19, 20, 21, 22, 23] rfl (by decide) (by decide) (by decide) (nW := 24) rfl (by decide) (fun _ => rfl) (fun _ => rfl) (fun _ => rfl) hG hS hA hAz rfl hl.1 rfl (Nat.le_of_ble_eq_true rfl) ⟨Nat.le_of_ble_eq_true rfl, Nat.le_of_ble_eq_true rfl⟩ dL_law_469 (fun r2 u2 H locs e2 hP hD hS => ?_)
  obtain ⟨rfl, rfl⟩ := Prod.mk.inj (e1.trans e2.symm)
  have hI1 : zInv u1 := by have h9 := congrArg Prod.snd e1; rw [show u1 = _ from h9]; exact zI_spoil hI _ _
  refine lv_icmp_eq (tgt := 770) hx hb dL_law_472 (by decide) (fun _ => kk _ _ ⟨u1, b0, b1, ik, ha, t, g, im, kp, lf, rw, fn, kn, hI1, hC, hP, hD, hS⟩) (fun c9 => absurd rfl c9)
set_option maxHeartbeats 4000000 in
set_option maxRecDepth 100000 in
theorem zl_measure {p : Program} {l : Launch} {e : Env} {s : State} {m : MethodId} {below : List Frame} {meth : Method} {c : Code} {b L i ta : Nat} {xs : Nat → Int32} {D : va_G} {cI cZ : ClassId} {q r : Nat → Nat} {H : Heap} {locs : List Loc} {ls : Array Slot} {Q : State → Prop} (C0 : zLC p s m c b L xs D cI cZ ta) (hi : i + 3 ≤ L) (hL : L ≤ 1536) (hI0 : zLI D cI cZ q r s H locs) (hl : lv_has ls 4 [(0, .ref b), (1, .ref (q 0)), (2, .ref (r 0)), (3, .int (nI i))]) (kk : ∀ (H : Heap) (locs : List Loc), zLI D cI cZ q r s H locs → W p l e room_1 s m #[Value.ref b] below meth c H locs 24 300 Q (F0 m 770 ls [])) : W p l e room_1 s m #[Value.ref b] below meth c H locs 24 300 Q (F0 m 477 ls []) := by
  obtain ⟨hx, hb, hml, hown, hts, hX, hbl, hG⟩ := C0
  obtain ⟨a, b0, b1, ik, ha, t, g, im, kp, lf, rw, fn, kn, hI, hC, hP, hD, hS⟩ := hI0
  have hK := hG.1
  have hA : ∀ y, s.heap.size ≤ y → zA s.heap.size y := fun _ h => h
  have hAz : ∀ y, zA s.heap.size y → s.heap.size ≤ y := fun _ h => h
  have hbA : ¬ zA s.heap.size b := Nat.not_le.mpr hbl
  refine lv_aload_n hx hb dL_law_477 rfl (lv_at hl 1 rfl) ?_
  refine lv_aload_n hx hb dL_law_478 rfl (lv_at hl 0 rfl) ?_
  refine lv_iload_n hx hb dL_law_479 rfl (lv_at hl 3 rfl) ?_
  refine lv_iconst (v := 1) hx hb dL_law_480 (by decide) ?_
  refine lv_iadd hx hb dL_law_481 ?_
  refine zz_sld (j := i + 1) hx hb hX hbl hbA hS (nI_add i 1) (by omega) (by omega) dL_law_482 ?_
  refine lv_aload_n hx hb dL_law_483 rfl (lv_at hl 0 rfl) ?_
  refine lv_iload_n hx hb dL_law_484 rfl (lv_at hl 3 rfl) ?_
  refine lv_iconst (v := 2) hx hb dL_law_485 (by decide) ?_
  refine lv_iadd hx hb dL_law_486 ?_
  refine zz_sld (j := i + 2) hx hb hX hbl hbA hS (nI_add i 2) (by omega) (by omega) dL_law_487 ?_
  refine zz_nVi (ct := fun (u : (Nat → Int32)) => zcX cI q a b0 b1 ik u t g) (cn := fun (u : (Nat → Int32)) => zcX cI q a b0 b1 ik u t g ++ zcM cI cZ r (zst a) im kp lf rw fn kn) (cs := zcX cI q a b0 b1 ik ha t g) (As := [.int (xs (i + 1)), .int (xs (i + 2))]) (rest := []) ⟨hx, hb, hml, hown, hts⟩ (c_X2_measure l D cI cZ s.heap.size ta H.size q a b0 b1 ik ha t g (xs (i + 1)) (xs (i + 2)) hI) (fun _ => rfl) (cwV 2 hts gL_law_X2_measure rfl rfl rfl (by decide +kernel) ⟨Nat.le_of_ble_eq_true rfl, Nat.le_of_ble_eq_true rfl⟩) (va_recv hK hP (ci := 2) (q0 := 0) rfl rfl) hP hD [0, 1, 2, 3, 4, 5, 6, 7, 8, 9, 10, 11, 12, 13, 14, 15, 16] [17, 18, 19, 20, 21, 22, 23] [7, 8, 9, 10, 11, 12, 13, 14, 15, 16, 17, 18, 19, 20, 21, 22, 23, 0, 1, 2, 3, 4, 5, 6] rfl (by decide) (by decide) (by decide) (nW := 24) rfl (by decide) (fun _ => rfl) (fun _ => rfl) (fun _ => rfl) hG hS hA hAz rfl hl.1 rfl (Nat.le_of_ble_eq_true rfl) ⟨Nat.le_of_ble_eq_true rfl, Nat.le_of_ble_eq_true rfl⟩ dL_law_488 (fun r1 u1 H locs e1 hP hD hS => ?_)
  refine lv_aload_n hx hb dL_law_491 rfl (lv_at hl 2 rfl) ?_
  refine lv_aload_n hx hb dL_law_492 rfl (lv_at hl 0 rfl) ?_
  refine lv_iload_n hx hb dL_law_493 rfl (lv_at hl 3 rfl) ?_
  refine lv_iconst (v := 1) hx hb dL_law_494 (by decide) ?_
  refine lv_iadd hx hb dL_law_495 ?_
  refine zz_sld (j := i + 1) hx hb hX hbl hbA hS (nI_add i 1) (by omega) (by omega) dL_law_496 ?_
  refine lv_aload_n hx hb dL_law_497 rfl (lv_at hl 0 rfl) ?_
  refine lv_iload_n hx hb dL_law_498 rfl (lv_at hl 3 rfl) ?_
  refine lv_iconst (v := 2) hx hb dL_law_499 (by decide) ?_
  refine lv_iadd hx hb dL_law_500 ?_
  refine zz_sld (j := i + 2) hx hb hX hbl hbA hS (nI_add i 2) (by omega) (by omega) dL_law_501 ?_
  refine zz_nVi (ct := fun (u : (Nat → Int32)) => zcM cI cZ r (zst a) im kp u rw fn kn) (cn := fun (u : (Nat → Int32)) => zcX cI q a b0 b1 ik u1 t g ++ zcM cI cZ r (zst a) im kp u rw fn kn) (cs := zcM cI cZ r (zst a) im kp lf rw fn kn) (As := [.int (xs (i + 1)), .int (xs (i + 2))]) (rest := [.int r1]) ⟨hx, hb, hml, hown, hts⟩ (c_X3_measure l D cI cZ s.heap.size ta H.size r a im kp lf rw fn kn (xs (i + 1)) (xs (i + 2)) hI) (fun _ => rfl) (cwV 2 hts gL_law_X3_measure rfl rfl rfl (by decide +kernel) ⟨Nat.le_of_ble_eq_true rfl, Nat.le_of_ble_eq_true rfl⟩) (va_recv hK hP (ci := 3) (q0 := 17) rfl rfl) hP hD [17, 18, 19, 20, 21, 22, 23] [0, 1, 2, 3, 4, 5, 6, 7, 8, 9, 10, 11, 12, 13, 14, 15, 16] [0, 1, 2, 3, 4, 5, 6, 7, 8, 9, 10, 11, 12, 13, 14, 15, 16, 17, 18, 19, 20, 21, 22, 23] rfl (by decide) (by decide) (by decide) (nW := 24) rfl (by decide) (fun _ => rfl) (fun _ => rfl) (fun _ => rfl) hG hS hA hAz rfl hl.1 rfl (Nat.le_of_ble_eq_true rfl) ⟨Nat.le_of_ble_eq_true rfl, Nat.le_of_ble_eq_true rfl⟩ dL_law_502 (fun r2 u2 H locs e2 hP hD hS => ?_)
  refine lv_icmp_eq (tgt := 770) hx hb dL_law_505 (by decide) (fun _ => kk _ _ ⟨a, b0, b1, ik, u1, t, g, im, kp, u2, rw, fn, kn, hI, hC, hP, hD, hS⟩) (fun c9 => absurd (e1.trans e2.symm) c9)
set_option maxHeartbeats 4000000 in
set_option maxRecDepth 100000 in
theorem zl_read {p : Program} {l : Launch} {e : Env} {s : State} {m : MethodId} {below : List Frame} {meth : Method} {c : Code} {b L i ta : Nat} {xs : Nat → Int32} {D : va_G} {cI cZ : ClassId} {q r : Nat → Nat} {H : Heap} {locs : List Loc} {ls : Array Slot} {Q : State → Prop} (C0 : zLC p s m c b L xs D cI cZ ta) (hi : i + 3 ≤ L) (hL : L ≤ 1536) (hI0 : zLI D cI cZ q r s H locs) (hl : lv_has ls 4 [(0, .ref b), (1, .ref (q 0)), (2, .ref (r 0)), (3, .int (nI i))]) (kk : ∀ (H : Heap) (locs : List Loc), zLI D cI cZ q r s H locs → W p l e room_1 s m #[Value.ref b] below meth c H locs 24 300 Q (F0 m 770 ls [])) : W p l e room_1 s m #[Value.ref b] below meth c H locs 24 300 Q (F0 m 510 ls []) := by
  obtain ⟨hx, hb, hml, hown, hts, hX, hbl, hG⟩ := C0
  obtain ⟨a, b0, b1, ik, ha, t, g, im, kp, lf, rw, fn, kn, hI, hC, hP, hD, hS⟩ := hI0
  have hK := hG.1
  have hA : ∀ y, s.heap.size ≤ y → zA s.heap.size y := fun _ h => h
  have hAz : ∀ y, zA s.heap.size y → s.heap.size ≤ y := fun _ h => h
  have hbA : ¬ zA s.heap.size b := Nat.not_le.mpr hbl
  refine lv_aload_n hx hb dL_law_510 rfl (lv_at hl 1 rfl) ?_
  refine lv_aload_n hx hb dL_law_511 rfl (lv_at hl 0 rfl) ?_
  refine lv_iload_n hx hb dL_law_512 rfl (lv_at hl 3 rfl) ?_
  refine lv_iconst (v := 1) hx hb dL_law_513 (by decide) ?_
  refine lv_iadd hx hb dL_law_514 ?_
  refine zz_sld (j := i + 1) hx hb hX hbl hbA hS (nI_add i 1) (by omega) (by omega) dL_law_515 ?_
  refine zz_nVi (ct := fun (u : (Nat → Int32)) => zcX cI q a b0 b1 ik u t g) (cn := fun (u : (Nat → Int32)) => zcX cI q a b0 b1 ik u t g ++ zcM cI cZ r (zst a) im kp lf rw fn kn) (cs := zcX cI q a b0 b1 ik ha t g) (As := [.int (xs (i + 1))]) (rest := []) ⟨hx, hb, hml, hown, hts⟩ (c_X2_read l D cI cZ s.heap.size ta H.size q a b0 b1 ik ha t g (xs (i + 1)) hI) (fun _ => rfl) (cwV 1 hts gL_law_X2_read rfl rfl rfl (by decide +kernel) ⟨Nat.le_of_ble_eq_true rfl, Nat.le_of_ble_eq_true rfl⟩) (va_recv hK hP (ci := 2) (q0 := 0) rfl rfl) hP hD [0, 1, 2, 3, 4, 5, 6, 7, 8, 9, 10, 11, 12, 13, 14, 15, 16] [17, 18, 19, 20, 21, 22, 23] [7, 8, 9, 10, 11, 12, 13, 14, 15, 16, 17, 18, 19, 20, 21, 22, 23, 0, 1, 2, 3, 4, 5, 6] rfl (by decide) (by decide) (by decide) (nW := 24) rfl (by decide) (fun _ => rfl) (fun _ => rfl) (fun _ => rfl) hG hS hA hAz rfl hl.1 rfl (Nat.le_of_ble_eq_true rfl) ⟨Nat.le_of_ble_eq_true rfl, Nat.le_of_ble_eq_true rfl⟩ dL_law_516 (fun r1 u1 H locs e1 hP hD hS => ?_)
  refine lv_aload_n hx hb dL_law_519 rfl (lv_at hl 2 rfl) ?_
  refine lv_aload_n hx hb dL_law_520 rfl (lv_at hl 0 rfl) ?_
  refine lv_iload_n hx hb dL_law_521 rfl (lv_at hl 3 rfl) ?_
  refine lv_iconst (v := 1) hx hb dL_law_522 (by decide) ?_
  refine lv_iadd hx hb dL_law_523 ?_
  refine zz_sld (j := i + 1) hx hb hX hbl hbA hS (nI_add i 1) (by omega) (by omega) dL_law_524 ?_
  refine zz_nVi (ct := fun (u : (Nat → Int32)) => zcM cI cZ r (zst a) im kp u rw fn kn) (cn := fun (u : (Nat → Int32)) => zcX cI q a b0 b1 ik u1 t g ++ zcM cI cZ r (zst a) im kp u rw fn kn) (cs := zcM cI cZ r (zst a) im kp lf rw fn kn) (As := [.int (xs (i + 1))]) (rest := [.int r1]) ⟨hx, hb, hml, hown, hts⟩ (c_X3_read l D cI cZ s.heap.size ta H.size r a im kp lf rw fn kn (xs (i + 1)) hI) (fun _ => rfl) (cwV 1 hts gL_law_X3_read rfl rfl rfl (by decide +kernel) ⟨Nat.le_of_ble_eq_true rfl, Nat.le_of_ble_eq_true rfl⟩) (va_recv hK hP (ci := 3) (q0 := 17) rfl rfl) hP hD [17, 18, 19, 20, 21, 22, 23] [0, 1, 2, 3, 4, 5, 6, 7, 8, 9, 10, 11, 12, 13, 14, 15, 16] [0, 1, 2, 3, 4, 5, 6, 7, 8, 9, 10, 11, 12, 13, 14, 15, 16, 17, 18, 19, 20, 21, 22, 23] rfl (by decide) (by decide) (by decide) (nW := 24) rfl (by decide) (fun _ => rfl) (fun _ => rfl) (fun _ => rfl) hG hS hA hAz rfl hl.1 rfl (Nat.le_of_ble_eq_true rfl) ⟨Nat.le_of_ble_eq_true rfl, Nat.le_of_ble_eq_true rfl⟩ dL_law_525 (fun r2 u2 H locs e2 hP hD hS => ?_)
  refine lv_icmp_eq (tgt := 770) hx hb dL_law_528 (by decide) (fun _ => kk _ _ ⟨a, b0, b1, ik, u1, t, g, im, kp, u2, rw, fn, kn, hI, hC, hP, hD, hS⟩) (fun c9 => absurd (e1.trans e2.symm) c9)
set_option maxHeartbeats 4000000 in
set_option maxRecDepth 100000 in
theorem zl_most {p : Program} {l : Launch} {e : Env} {s : State} {m : MethodId} {below : List Frame} {meth : Method} {c : Code} {b L i ta : Nat} {xs : Nat → Int32} {D : va_G} {cI cZ : ClassId} {q r : Nat → Nat} {H : Heap} {locs : List Loc} {ls : Array Slot} {Q : State → Prop} (C0 : zLC p s m c b L xs D cI cZ ta) (hi : i + 3 ≤ L) (hL : L ≤ 1536) (hI0 : zLI D cI cZ q r s H locs) (hl : lv_has ls 4 [(0, .ref b), (1, .ref (q 0)), (2, .ref (r 0)), (3, .int (nI i))]) (kk : ∀ (H : Heap) (locs : List Loc), zLI D cI cZ q r s H locs → W p l e room_1 s m #[Value.ref b] below meth c H locs 24 300 Q (F0 m 770 ls [])) : W p l e room_1 s m #[Value.ref b] below meth c H locs 24 300 Q (F0 m 533 ls []) := by
  obtain ⟨hx, hb, hml, hown, hts, hX, hbl, hG⟩ := C0
  obtain ⟨a, b0, b1, ik, ha, t, g, im, kp, lf, rw, fn, kn, hI, hC, hP, hD, hS⟩ := hI0
  have hK := hG.1
  have hA : ∀ y, s.heap.size ≤ y → zA s.heap.size y := fun _ h => h
  have hAz : ∀ y, zA s.heap.size y → s.heap.size ≤ y := fun _ h => h
  have hbA : ¬ zA s.heap.size b := Nat.not_le.mpr hbl
  refine lv_aload_n hx hb dL_law_533 rfl (lv_at hl 1 rfl) ?_
  refine lv_aload_n hx hb dL_law_534 rfl (lv_at hl 0 rfl) ?_
  refine lv_iload_n hx hb dL_law_535 rfl (lv_at hl 3 rfl) ?_
  refine lv_iconst (v := 1) hx hb dL_law_536 (by decide) ?_
  refine lv_iadd hx hb dL_law_537 ?_
  refine zz_sld (j := i + 1) hx hb hX hbl hbA hS (nI_add i 1) (by omega) (by omega) dL_law_538 ?_
  refine zz_nVi (ct := fun (u : ZA) => zcX cI q u b0 b1 ik ha t g) (cn := fun (u : ZA) => zcX cI q u b0 b1 ik ha t g ++ zcM cI cZ r (zst a) im kp lf rw fn kn) (cs := zcX cI q a b0 b1 ik ha t g) (As := [.int (xs (i + 1))]) (rest := []) ⟨hx, hb, hml, hown, hts⟩ (c_X2_most l D cI cZ s.heap.size ta H.size q a b0 b1 ik ha t g (xs (i + 1)) hI) (fun _ => rfl) (cwV 1 hts gL_law_X2_most rfl rfl rfl (by decide +kernel) ⟨Nat.le_of_ble_eq_true rfl, Nat.le_of_ble_eq_true rfl⟩) (va_recv hK hP (ci := 2) (q0 := 0) rfl rfl) hP hD [0, 1, 2, 3, 4, 5, 6, 7, 8, 9, 10, 11, 12, 13, 14, 15, 16] [17, 18, 19, 20, 21, 22, 23] [7, 8, 9, 10, 11, 12, 13, 14, 15, 16, 17, 18, 19, 20, 21, 22, 23, 0, 1, 2, 3, 4, 5, 6] rfl (by decide) (by decide) (by decide) (nW := 24) rfl (by decide) (fun _ => rfl) (fun _ => rfl) (fun _ => rfl) hG hS hA hAz rfl hl.1 rfl (Nat.le_of_ble_eq_true rfl) ⟨Nat.le_of_ble_eq_true rfl, Nat.le_of_ble_eq_true rfl⟩ dL_law_539 (fun r1 u1 H locs e1 hP hD hS => ?_)
  refine lv_aload_n hx hb dL_law_542 rfl (lv_at hl 2 rfl) ?_
  refine lv_aload_n hx hb dL_law_543 rfl (lv_at hl 0 rfl) ?_
  refine lv_iload_n hx hb dL_law_544 rfl (lv_at hl 3 rfl) ?_
  refine lv_iconst (v := 1) hx hb dL_law_545 (by decide) ?_
  refine lv_iadd hx hb dL_law_546 ?_
  refine zz_sld (j := i + 1) hx hb hX hbl hbA hS (nI_add i 1) (by omega) (by omega) dL_law_547 ?_
  refine zz_nVi (ct := fun (u : ZA) => zcM cI cZ r (zst u) im kp lf rw fn kn) (cn := fun (u : ZA) => zcX cI q u1 b0 b1 ik ha t g ++ zcM cI cZ r (zst u) im kp lf rw fn kn) (cs := zcM cI cZ r (zst a) im kp lf rw fn kn) (As := [.int (xs (i + 1))]) (rest := [.int r1]) ⟨hx, hb, hml, hown, hts⟩ (c_X3_most l D cI cZ s.heap.size ta H.size r a im kp lf rw fn kn (xs (i + 1)) hI) (fun _ => rfl) (cwV 1 hts gL_law_X3_most rfl rfl rfl (by decide +kernel) ⟨Nat.le_of_ble_eq_true rfl, Nat.le_of_ble_eq_true rfl⟩) (va_recv hK hP (ci := 3) (q0 := 17) rfl rfl) hP hD [17, 18, 19, 20, 21, 22, 23] [0, 1, 2, 3, 4, 5, 6, 7, 8, 9, 10, 11, 12, 13, 14, 15, 16] [0, 1, 2, 3, 4, 5, 6, 7, 8, 9, 10, 11, 12, 13, 14, 15, 16, 17, 18, 19, 20, 21, 22, 23] rfl (by decide) (by decide) (by decide) (nW := 24) rfl (by decide) (fun _ => rfl) (fun _ => rfl) (fun _ => rfl) hG hS hA hAz rfl hl.1 rfl (Nat.le_of_ble_eq_true rfl) ⟨Nat.le_of_ble_eq_true rfl, Nat.le_of_ble_eq_true rfl⟩ dL_law_548 (fun r2 u2 H locs e2 hP hD hS => ?_)
  obtain ⟨rfl, rfl⟩ := Prod.mk.inj (e1.trans e2.symm)
  have hI1 : zInv u1 := by have h9 := congrArg Prod.snd e1; rw [show u1 = _ from h9]; exact zI_most hI _
  refine lv_icmp_eq (tgt := 770) hx hb dL_law_551 (by decide) (fun _ => kk _ _ ⟨u1, b0, b1, ik, ha, t, g, im, kp, lf, rw, fn, kn, hI1, hC, hP, hD, hS⟩) (fun c9 => absurd rfl c9)
set_option maxHeartbeats 4000000 in
set_option maxRecDepth 100000 in
theorem zl_kept {p : Program} {l : Launch} {e : Env} {s : State} {m : MethodId} {below : List Frame} {meth : Method} {c : Code} {b L i ta : Nat} {xs : Nat → Int32} {D : va_G} {cI cZ : ClassId} {q r : Nat → Nat} {H : Heap} {locs : List Loc} {ls : Array Slot} {Q : State → Prop} (C0 : zLC p s m c b L xs D cI cZ ta) (hi : i + 3 ≤ L) (hL : L ≤ 1536) (hI0 : zLI D cI cZ q r s H locs) (hl : lv_has ls 4 [(0, .ref b), (1, .ref (q 0)), (2, .ref (r 0)), (3, .int (nI i))]) (kk : ∀ (H : Heap) (locs : List Loc), zLI D cI cZ q r s H locs → W p l e room_1 s m #[Value.ref b] below meth c H locs 24 300 Q (F0 m 770 ls [])) : W p l e room_1 s m #[Value.ref b] below meth c H locs 24 300 Q (F0 m 556 ls []) := by
  obtain ⟨hx, hb, hml, hown, hts, hX, hbl, hG⟩ := C0
  obtain ⟨a, b0, b1, ik, ha, t, g, im, kp, lf, rw, fn, kn, hI, hC, hP, hD, hS⟩ := hI0
  have hK := hG.1
  have hA : ∀ y, s.heap.size ≤ y → zA s.heap.size y := fun _ h => h
  have hAz : ∀ y, zA s.heap.size y → s.heap.size ≤ y := fun _ h => h
  have hbA : ¬ zA s.heap.size b := Nat.not_le.mpr hbl
  refine lv_aload_n hx hb dL_law_556 rfl (lv_at hl 1 rfl) ?_
  refine lv_aload_n hx hb dL_law_557 rfl (lv_at hl 0 rfl) ?_
  refine lv_iload_n hx hb dL_law_558 rfl (lv_at hl 3 rfl) ?_
  refine lv_iconst (v := 1) hx hb dL_law_559 (by decide) ?_
  refine lv_iadd hx hb dL_law_560 ?_
  refine zz_sld (j := i + 1) hx hb hX hbl hbA hS (nI_add i 1) (by omega) (by omega) dL_law_561 ?_
  refine lv_aload_n hx hb dL_law_562 rfl (lv_at hl 0 rfl) ?_
  refine lv_iload_n hx hb dL_law_563 rfl (lv_at hl 3 rfl) ?_
  refine lv_iconst (v := 2) hx hb dL_law_564 (by decide) ?_
  refine lv_iadd hx hb dL_law_565 ?_
  refine zz_sld (j := i + 2) hx hb hX hbl hbA hS (nI_add i 2) (by omega) (by omega) dL_law_566 ?_
  refine zz_nVi (ct := fun (u : ((Nat → Int32) × ZR × ZR)) => zcX cI q a b0 b1 ik u.1 u.2.1 u.2.2) (cn := fun (u : ((Nat → Int32) × ZR × ZR)) => zcX cI q a b0 b1 ik u.1 u.2.1 u.2.2 ++ zcM cI cZ r (zst a) im kp lf rw fn kn) (cs := zcX cI q a b0 b1 ik ha t g) (As := [.int (xs (i + 1)), .int (xs (i + 2))]) (rest := []) ⟨hx, hb, hml, hown, hts⟩ (c_X2_kept l D cI cZ s.heap.size ta H.size q a b0 b1 ik ha t g (xs (i + 1)) (xs (i + 2)) hI) (fun _ => rfl) (cwV 2 hts gL_law_X2_kept rfl rfl rfl (by decide +kernel) ⟨Nat.le_of_ble_eq_true rfl, Nat.le_of_ble_eq_true rfl⟩) (va_recv hK hP (ci := 2) (q0 := 0) rfl rfl) hP hD [0, 1, 2, 3, 4, 5, 6, 7, 8, 9, 10, 11, 12, 13, 14, 15, 16] [17, 18, 19, 20, 21, 22, 23] [7, 8, 9, 10, 11, 12, 13, 14, 15, 16, 17, 18, 19, 20, 21, 22, 23, 0, 1, 2, 3, 4, 5, 6] rfl (by decide) (by decide) (by decide) (nW := 24) rfl (by decide) (fun _ => rfl) (fun _ => rfl) (fun _ => rfl) hG hS hA hAz rfl hl.1 rfl (Nat.le_of_ble_eq_true rfl) ⟨Nat.le_of_ble_eq_true rfl, Nat.le_of_ble_eq_true rfl⟩ dL_law_567 (fun r1 u1 H locs e1 hP hD hS => ?_)
  refine lv_aload_n hx hb dL_law_570 rfl (lv_at hl 2 rfl) ?_
  refine lv_aload_n hx hb dL_law_571 rfl (lv_at hl 0 rfl) ?_
  refine lv_iload_n hx hb dL_law_572 rfl (lv_at hl 3 rfl) ?_
  refine lv_iconst (v := 1) hx hb dL_law_573 (by decide) ?_
  refine lv_iadd hx hb dL_law_574 ?_
  refine zz_sld (j := i + 1) hx hb hX hbl hbA hS (nI_add i 1) (by omega) (by omega) dL_law_575 ?_
  refine lv_aload_n hx hb dL_law_576 rfl (lv_at hl 0 rfl) ?_
  refine lv_iload_n hx hb dL_law_577 rfl (lv_at hl 3 rfl) ?_
  refine lv_iconst (v := 2) hx hb dL_law_578 (by decide) ?_
  refine lv_iadd hx hb dL_law_579 ?_
  refine zz_sld (j := i + 2) hx hb hX hbl hbA hS (nI_add i 2) (by omega) (by omega) dL_law_580 ?_
  refine zz_nVi (ct := fun (u : ((Nat → Int32) × (Nat → Int32) × (Nat → Int32) × Nat)) => zcM cI cZ r (zst a) im kp u.1 u.2.1 u.2.2.1 u.2.2.2) (cn := fun (u : ((Nat → Int32) × (Nat → Int32) × (Nat → Int32) × Nat)) => zcX cI q a b0 b1 ik u1.1 u1.2.1 u1.2.2 ++ zcM cI cZ r (zst a) im kp u.1 u.2.1 u.2.2.1 u.2.2.2) (cs := zcM cI cZ r (zst a) im kp lf rw fn kn) (As := [.int (xs (i + 1)), .int (xs (i + 2))]) (rest := [.int r1]) ⟨hx, hb, hml, hown, hts⟩ (c_X3_kept l D cI cZ s.heap.size ta H.size r a im kp lf rw fn kn (xs (i + 1)) (xs (i + 2)) hI) (fun _ => rfl) (cwV 2 hts gL_law_X3_kept rfl rfl rfl (by decide +kernel) ⟨Nat.le_of_ble_eq_true rfl, Nat.le_of_ble_eq_true rfl⟩) (va_recv hK hP (ci := 3) (q0 := 17) rfl rfl) hP hD [17, 18, 19, 20, 21, 22, 23] [0, 1, 2, 3, 4, 5, 6, 7, 8, 9, 10, 11, 12, 13, 14, 15, 16] [0, 1, 2, 3, 4, 5, 6, 7, 8, 9, 10, 11, 12, 13, 14, 15, 16, 17, 18, 19, 20, 21, 22, 23] rfl (by decide) (by decide) (by decide) (nW := 24) rfl (by decide) (fun _ => rfl) (fun _ => rfl) (fun _ => rfl) hG hS hA hAz rfl hl.1 rfl (Nat.le_of_ble_eq_true rfl) ⟨Nat.le_of_ble_eq_true rfl, Nat.le_of_ble_eq_true rfl⟩ dL_law_581 (fun r2 u2 H locs e2 hP hD hS => ?_)
  refine lv_icmp_eq (tgt := 770) hx hb dL_law_584 (by decide) (fun _ => kk _ _ ⟨a, b0, b1, ik, u1.1, u1.2.1, u1.2.2, im, kp, u2.1, u2.2.1, u2.2.2.1, u2.2.2.2, hI, hC, hP, hD, hS⟩) (fun c9 => absurd (e1.trans e2.symm) c9)
