set_option maxHeartbeats 4000000 in
set_option maxRecDepth 100000 in
theorem zl_chosen {p : Program} {l : Launch} {e : Env} {s : State} {m : MethodId} {below : List Frame} {meth : Method} {c : Code} {b L i ta : Nat} {xs : Nat → Int32} {D : va_G} {cI cZ : ClassId} {q r : Nat → Nat} {H : Heap} {locs : List Loc} {ls : Array Slot} {Q : State → Prop} (C0 : zLC p s m c b L xs D cI cZ ta) (hi : i + 3 ≤ L) (hL : L ≤ 1536) (hI0 : zLI D cI cZ q r s H locs) (hl : lv_has ls 4 [(0, .ref b), (1, .ref (q 0)), (2, .ref (r 0)), (3, .int (nI i))]) (kk : ∀ (H : Heap) (locs : List Loc), zLI D cI cZ q r s H locs → W p l e room_1 s m #[Value.ref b] below meth c H locs 24 300 Q (F0 m 770 ls [])) : W p l e room_1 s m #[Value.ref b] below meth c H locs 24 300 Q (F0 m 589 ls []) := by
  obtain ⟨hx, hb, hml, hown, hts, hX, hbl, hG⟩ := C0
  obtain ⟨a, b0, b1, ik, ha, t, g, im, kp, lf, rw, fn, kn, hI, hC, hP, hD, hS⟩ := hI0
  have hK := hG.1
  have hA : ∀ y, s.heap.size ≤ y → zA s.heap.size y := fun _ h => h
  have hAz : ∀ y, zA s.heap.size y → s.heap.size ≤ y := fun _ h => h
  have hbA : ¬ zA s.heap.size b := Nat.not_le.mpr hbl
  refine lv_aload_n hx hb dL_law_589 rfl (lv_at hl 1 rfl) ?_
  refine lv_aload_n hx hb dL_law_590 rfl (lv_at hl 0 rfl) ?_
  refine lv_iload_n hx hb dL_law_591 rfl (lv_at hl 3 rfl) ?_
  refine lv_iconst (v := 1) hx hb dL_law_592 (by decide) ?_
  refine lv_iadd hx hb dL_law_593 ?_
  refine zz_sld (j := i + 1) hx hb hX hbl hbA hS (nI_add i 1) (by omega) (by omega) dL_law_594 ?_
  refine zz_nVi (ct := fun (u : ((Nat → Int32) × ZR × ZR)) => zcX cI q a b0 b1 ik u.1 u.2.1 u.2.2) (cn := fun (u : ((Nat → Int32) × ZR × ZR)) => zcX cI q a b0 b1 ik u.1 u.2.1 u.2.2 ++ zcM cI cZ r (zst a) im kp lf rw fn kn) (cs := zcX cI q a b0 b1 ik ha t g) (As := [.int (xs (i + 1))]) (rest := []) ⟨hx, hb, hml, hown, hts⟩ (c_X2_chosen l D cI cZ s.heap.size ta H.size q a b0 b1 ik ha t g (xs (i + 1)) hI) (fun _ => rfl) (cwV 1 hts gL_law_X2_chosen rfl rfl rfl (by decide +kernel) ⟨Nat.le_of_ble_eq_true rfl, Nat.le_of_ble_eq_true rfl⟩) (va_recv hK hP (ci := 2) (q0 := 0) rfl rfl) hP hD [0, 1, 2, 3, 4, 5, 6, 7, 8, 9, 10, 11, 12, 13, 14, 15, 16] [17, 18, 19, 20, 21, 22, 23] [7, 8, 9, 10, 11, 12, 13, 14, 15, 16, 17, 18, 19, 20, 21, 22, 23, 0, 1, 2, 3, 4, 5, 6] rfl (by decide) (by decide) (by decide) (nW := 24) rfl (by decide) (fun _ => rfl) (fun _ => rfl) (fun _ => rfl) hG hS hA hAz rfl hl.1 rfl (Nat.le_of_ble_eq_true rfl) ⟨Nat.le_of_ble_eq_true rfl, Nat.le_of_ble_eq_true rfl⟩ dL_law_595 (fun r1 u1 H locs e1 hP hD hS => ?_)
  refine lv_aload_n hx hb dL_law_598 rfl (lv_at hl 2 rfl) ?_
  refine lv_aload_n hx hb dL_law_599 rfl (lv_at hl 0 rfl) ?_
  refine lv_iload_n hx hb dL_law_600 rfl (lv_at hl 3 rfl) ?_
  refine lv_iconst (v := 1) hx hb dL_law_601 (by decide) ?_
  refine lv_iadd hx hb dL_law_602 ?_
  refine zz_sld (j := i + 1) hx hb hX hbl hbA hS (nI_add i 1) (by omega) (by omega) dL_law_603 ?_
  refine zz_nVi (ct := fun (u : ((Nat → Int32) × (Nat → Int32) × (Nat → Int32) × Nat)) => zcM cI cZ r (zst a) im kp u.1 u.2.1 u.2.2.1 u.2.2.2) (cn := fun (u : ((Nat → Int32) × (Nat → Int32) × (Nat → Int32) × Nat)) => zcX cI q a b0 b1 ik u1.1 u1.2.1 u1.2.2 ++ zcM cI cZ r (zst a) im kp u.1 u.2.1 u.2.2.1 u.2.2.2) (cs := zcM cI cZ r (zst a) im kp lf rw fn kn) (As := [.int (xs (i + 1))]) (rest := [.int r1]) ⟨hx, hb, hml, hown, hts⟩ (c_X3_chosen l D cI cZ s.heap.size ta H.size r a im kp lf rw fn kn (xs (i + 1)) hI) (fun _ => rfl) (cwV 1 hts gL_law_X3_chosen rfl rfl rfl (by decide +kernel) ⟨Nat.le_of_ble_eq_true rfl, Nat.le_of_ble_eq_true rfl⟩) (va_recv hK hP (ci := 3) (q0 := 17) rfl rfl) hP hD [17, 18, 19, 20, 21, 22, 23] [0, 1, 2, 3, 4, 5, 6, 7, 8, 9, 10, 11, 12, 13, 14, 15, 16] [0, 1, 2, 3, 4, 5, 6, 7, 8, 9, 10, 11, 12, 13, 14, 15, 16, 17, 18, 19, 20, 21, 22, 23] rfl (by decide) (by decide) (by decide) (nW := 24) rfl (by decide) (fun _ => rfl) (fun _ => rfl) (fun _ => rfl) hG hS hA hAz rfl hl.1 rfl (Nat.le_of_ble_eq_true rfl) ⟨Nat.le_of_ble_eq_true rfl, Nat.le_of_ble_eq_true rfl⟩ dL_law_604 (fun r2 u2 H locs e2 hP hD hS => ?_)
  refine lv_icmp_eq (tgt := 770) hx hb dL_law_607 (by decide) (fun _ => kk _ _ ⟨a, b0, b1, ik, u1.1, u1.2.1, u1.2.2, im, kp, u2.1, u2.2.1, u2.2.2.1, u2.2.2.2, hI, hC, hP, hD, hS⟩) (fun c9 => absurd (e1.trans e2.symm) c9)
set_option maxHeartbeats 4000000 in
set_option maxRecDepth 100000 in
theorem zl_check {p : Program} {l : Launch} {e : Env} {s : State} {m : MethodId} {below : List Frame} {meth : Method} {c : Code} {b L i ta : Nat} {xs : Nat → Int32} {D : va_G} {cI cZ : ClassId} {q r : Nat → Nat} {H : Heap} {locs : List Loc} {ls : Array Slot} {Q : State → Prop} (C0 : zLC p s m c b L xs D cI cZ ta) (hi : i + 3 ≤ L) (hL : L ≤ 1536) (hI0 : zLI D cI cZ q r s H locs) (hl : lv_has ls 4 [(0, .ref b), (1, .ref (q 0)), (2, .ref (r 0)), (3, .int (nI i))]) (kk : ∀ (H : Heap) (locs : List Loc), zLI D cI cZ q r s H locs → W p l e room_1 s m #[Value.ref b] below meth c H locs 24 300 Q (F0 m 770 ls [])) : W p l e room_1 s m #[Value.ref b] below meth c H locs 24 300 Q (F0 m 612 ls []) := by
  obtain ⟨hx, hb, hml, hown, hts, hX, hbl, hG⟩ := C0
  obtain ⟨a, b0, b1, ik, ha, t, g, im, kp, lf, rw, fn, kn, hI, hC, hP, hD, hS⟩ := hI0
  have hK := hG.1
  have hA : ∀ y, s.heap.size ≤ y → zA s.heap.size y := fun _ h => h
  have hAz : ∀ y, zA s.heap.size y → s.heap.size ≤ y := fun _ h => h
  have hbA : ¬ zA s.heap.size b := Nat.not_le.mpr hbl
  refine lv_aload_n hx hb dL_law_612 rfl (lv_at hl 1 rfl) ?_
  refine lv_aload_n hx hb dL_law_613 rfl (lv_at hl 0 rfl) ?_
  refine lv_iload_n hx hb dL_law_614 rfl (lv_at hl 3 rfl) ?_
  refine lv_iconst (v := 1) hx hb dL_law_615 (by decide) ?_
  refine lv_iadd hx hb dL_law_616 ?_
  refine zz_sld (j := i + 1) hx hb hX hbl hbA hS (nI_add i 1) (by omega) (by omega) dL_law_617 ?_
  refine lv_aload_n hx hb dL_law_618 rfl (lv_at hl 0 rfl) ?_
  refine lv_iload_n hx hb dL_law_619 rfl (lv_at hl 3 rfl) ?_
  refine lv_iconst (v := 2) hx hb dL_law_620 (by decide) ?_
  refine lv_iadd hx hb dL_law_621 ?_
  refine zz_sld (j := i + 2) hx hb hX hbl hbA hS (nI_add i 2) (by omega) (by omega) dL_law_622 ?_
  refine zz_nVi (ct := fun (u : ZA) => zcX cI q u b0 b1 ik ha t g) (cn := fun (u : ZA) => zcX cI q u b0 b1 ik ha t g ++ zcM cI cZ r (zst a) im kp lf rw fn kn) (cs := zcX cI q a b0 b1 ik ha t g) (As := [.int (xs (i + 1)), .int (xs (i + 2))]) (rest := []) ⟨hx, hb, hml, hown, hts⟩ (c_X2_check l D cI cZ s.heap.size ta H.size q a b0 b1 ik ha t g (xs (i + 1)) (xs (i + 2)) hI) (fun _ => rfl) (cwV 2 hts gL_law_X2_check rfl rfl rfl (by decide +kernel) ⟨Nat.le_of_ble_eq_true rfl, Nat.le_of_ble_eq_true rfl⟩) (va_recv hK hP (ci := 2) (q0 := 0) rfl rfl) hP hD [0, 1, 2, 3, 4, 5, 6, 7, 8, 9, 10, 11, 12, 13, 14, 15, 16] [17, 18, 19, 20, 21, 22, 23] [7, 8, 9, 10, 11, 12, 13, 14, 15, 16, 17, 18, 19, 20, 21, 22, 23, 0, 1, 2, 3, 4, 5, 6] rfl (by decide) (by decide) (by decide) (nW := 24) rfl (by decide) (fun _ => rfl) (fun _ => rfl) (fun _ => rfl) hG hS hA hAz rfl hl.1 rfl (Nat.le_of_ble_eq_true rfl) ⟨Nat.le_of_ble_eq_true rfl, Nat.le_of_ble_eq_true rfl⟩ dL_law_623 (fun r1 u1 H locs e1 hP hD hS => ?_)
  refine lv_aload_n hx hb dL_law_626 rfl (lv_at hl 2 rfl) ?_
  refine lv_aload_n hx hb dL_law_627 rfl (lv_at hl 0 rfl) ?_
  refine lv_iload_n hx hb dL_law_628 rfl (lv_at hl 3 rfl) ?_
  refine lv_iconst (v := 1) hx hb dL_law_629 (by decide) ?_
  refine lv_iadd hx hb dL_law_630 ?_
  refine zz_sld (j := i + 1) hx hb hX hbl hbA hS (nI_add i 1) (by omega) (by omega) dL_law_631 ?_
  refine lv_aload_n hx hb dL_law_632 rfl (lv_at hl 0 rfl) ?_
  refine lv_iload_n hx hb dL_law_633 rfl (lv_at hl 3 rfl) ?_
  refine lv_iconst (v := 2) hx hb dL_law_634 (by decide) ?_
  refine lv_iadd hx hb dL_law_635 ?_
  refine zz_sld (j := i + 2) hx hb hX hbl hbA hS (nI_add i 2) (by omega) (by omega) dL_law_636 ?_
  refine zz_nVi (ct := fun (u : ZA) => zcM cI cZ r (zst u) im kp lf rw fn kn) (cn := fun (u : ZA) => zcX cI q u1 b0 b1 ik ha t g ++ zcM cI cZ r (zst u) im kp lf rw fn kn) (cs := zcM cI cZ r (zst a) im kp lf rw fn kn) (As := [.int (xs (i + 1)), .int (xs (i + 2))]) (rest := [.int r1]) ⟨hx, hb, hml, hown, hts⟩ (c_X3_check l D cI cZ s.heap.size ta H.size r a im kp lf rw fn kn (xs (i + 1)) (xs (i + 2)) hI) (fun _ => rfl) (cwV 2 hts gL_law_X3_check rfl rfl rfl (by decide +kernel) ⟨Nat.le_of_ble_eq_true rfl, Nat.le_of_ble_eq_true rfl⟩) (va_recv hK hP (ci := 3) (q0 := 17) rfl rfl) hP hD [17, 18, 19, 20, 21, 22, 23] [0, 1, 2, 3, 4, 5, 6, 7, 8, 9, 10, 11, 12, 13, 14, 15, 16] [0, 1, 2, 3, 4, 5, 6, 7, 8, 9, 10, 11, 12, 13, 14, 15, 16, 17, 18, 19, 20, 21, 22, 23] rfl (by decide) (by decide) (by decide) (nW := 24) rfl (by decide) (fun _ => rfl) (fun _ => rfl) (fun _ => rfl) hG hS hA hAz rfl hl.1 rfl (Nat.le_of_ble_eq_true rfl) ⟨Nat.le_of_ble_eq_true rfl, Nat.le_of_ble_eq_true rfl⟩ dL_law_637 (fun r2 u2 H locs e2 hP hD hS => ?_)
  obtain ⟨rfl, rfl⟩ := Prod.mk.inj (e1.trans e2.symm)
  have hI1 : zInv u1 := by have h9 := congrArg Prod.snd e1; rw [show u1 = _ from h9]; exact zI_check hI _ _
  refine lv_icmp_eq (tgt := 770) hx hb dL_law_640 (by decide) (fun _ => kk _ _ ⟨u1, b0, b1, ik, ha, t, g, im, kp, lf, rw, fn, kn, hI1, hC, hP, hD, hS⟩) (fun c9 => absurd rfl c9)
set_option maxHeartbeats 4000000 in
set_option maxRecDepth 100000 in
theorem zl_open {p : Program} {l : Launch} {e : Env} {s : State} {m : MethodId} {below : List Frame} {meth : Method} {c : Code} {b L i ta : Nat} {xs : Nat → Int32} {D : va_G} {cI cZ : ClassId} {q r : Nat → Nat} {H : Heap} {locs : List Loc} {ls : Array Slot} {Q : State → Prop} (C0 : zLC p s m c b L xs D cI cZ ta) (hi : i + 3 ≤ L) (hL : L ≤ 1536) (hI0 : zLI D cI cZ q r s H locs) (hl : lv_has ls 4 [(0, .ref b), (1, .ref (q 0)), (2, .ref (r 0)), (3, .int (nI i))]) (kk : ∀ (H : Heap) (locs : List Loc), zLI D cI cZ q r s H locs → W p l e room_1 s m #[Value.ref b] below meth c H locs 24 300 Q (F0 m 770 ls [])) : W p l e room_1 s m #[Value.ref b] below meth c H locs 24 300 Q (F0 m 645 ls []) := by
  obtain ⟨hx, hb, hml, hown, hts, hX, hbl, hG⟩ := C0
  obtain ⟨a, b0, b1, ik, ha, t, g, im, kp, lf, rw, fn, kn, hI, hC, hP, hD, hS⟩ := hI0
  have hK := hG.1
  have hA : ∀ y, s.heap.size ≤ y → zA s.heap.size y := fun _ h => h
  have hAz : ∀ y, zA s.heap.size y → s.heap.size ≤ y := fun _ h => h
  have hbA : ¬ zA s.heap.size b := Nat.not_le.mpr hbl
  refine lv_aload_n hx hb dL_law_645 rfl (lv_at hl 1 rfl) ?_
  refine lv_aload_n hx hb dL_law_646 rfl (lv_at hl 0 rfl) ?_
  refine lv_iload_n hx hb dL_law_647 rfl (lv_at hl 3 rfl) ?_
  refine lv_iconst (v := 1) hx hb dL_law_648 (by decide) ?_
  refine lv_iadd hx hb dL_law_649 ?_
  refine zz_sld (j := i + 1) hx hb hX hbl hbA hS (nI_add i 1) (by omega) (by omega) dL_law_650 ?_
  refine lv_aload_n hx hb dL_law_651 rfl (lv_at hl 0 rfl) ?_
  refine lv_iload_n hx hb dL_law_652 rfl (lv_at hl 3 rfl) ?_
  refine lv_iconst (v := 2) hx hb dL_law_653 (by decide) ?_
  refine lv_iadd hx hb dL_law_654 ?_
  refine zz_sld (j := i + 2) hx hb hX hbl hbA hS (nI_add i 2) (by omega) (by omega) dL_law_655 ?_
  refine zz_cVi (cs := zcX cI q a b0 b1 ik ha t g) (As := [.int (xs (i + 1)), .int (xs (i + 2))]) (rest := []) ⟨hx, hb, hml, hown, hts⟩ (c_X2_open l D cI cZ s.heap.size ta q a b0 b1 ik ha t g (xs (i + 1)) (xs (i + 2)) hI) (cwV 2 hts gL_law_X2_open rfl rfl rfl (by decide +kernel) ⟨Nat.le_of_ble_eq_true rfl, Nat.le_of_ble_eq_true rfl⟩) (va_recv hK hP (ci := 2) (q0 := 0) rfl rfl) (hP.sub (ws' := zcX cI q a b0 b1 ik ha t g) [0, 1, 2, 3, 4, 5, 6, 7, 8, 9, 10, 11, 12, 13, 14, 15, 16] rfl) (hD.sub (ws' := zcX cI q a b0 b1 ik ha t g) [0, 1, 2, 3, 4, 5, 6, 7, 8, 9, 10, 11, 12, 13, 14, 15, 16] (by decide) rfl) hG hS hAz rfl hl.1 rfl (Nat.le_of_ble_eq_true rfl) ⟨Nat.le_of_ble_eq_true rfl, Nat.le_of_ble_eq_true rfl⟩ dL_law_656 (fun r1 e1 => ?_)
  refine lv_aload_n hx hb dL_law_659 rfl (lv_at hl 2 rfl) ?_
  refine lv_aload_n hx hb dL_law_660 rfl (lv_at hl 0 rfl) ?_
  refine lv_iload_n hx hb dL_law_661 rfl (lv_at hl 3 rfl) ?_
  refine lv_iconst (v := 1) hx hb dL_law_662 (by decide) ?_
  refine lv_iadd hx hb dL_law_663 ?_
  refine zz_sld (j := i + 1) hx hb hX hbl hbA hS (nI_add i 1) (by omega) (by omega) dL_law_664 ?_
  refine lv_aload_n hx hb dL_law_665 rfl (lv_at hl 0 rfl) ?_
  refine lv_iload_n hx hb dL_law_666 rfl (lv_at hl 3 rfl) ?_
  refine lv_iconst (v := 2) hx hb dL_law_667 (by decide) ?_
  refine lv_iadd hx hb dL_law_668 ?_
  refine zz_sld (j := i + 2) hx hb hX hbl hbA hS (nI_add i 2) (by omega) (by omega) dL_law_669 ?_
  refine zz_cVi (cs := zcM cI cZ r (zst a) im kp lf rw fn kn) (As := [.int (xs (i + 1)), .int (xs (i + 2))]) (rest := [.int r1]) ⟨hx, hb, hml, hown, hts⟩ (c_X3_open l D cI cZ s.heap.size ta r a im kp lf rw fn kn (xs (i + 1)) (xs (i + 2)) hI) (cwV 2 hts gL_law_X3_open rfl rfl rfl (by decide +kernel) ⟨Nat.le_of_ble_eq_true rfl, Nat.le_of_ble_eq_true rfl⟩) (va_recv hK hP (ci := 3) (q0 := 17) rfl rfl) (hP.sub (ws' := zcM cI cZ r (zst a) im kp lf rw fn kn) [17, 18, 19, 20, 21, 22, 23] rfl) (hD.sub (ws' := zcM cI cZ r (zst a) im kp lf rw fn kn) [17, 18, 19, 20, 21, 22, 23] (by decide) rfl) hG hS hAz rfl hl.1 rfl (Nat.le_of_ble_eq_true rfl) ⟨Nat.le_of_ble_eq_true rfl, Nat.le_of_ble_eq_true rfl⟩ dL_law_670 (fun r2 e2 => ?_)
  refine lv_icmp_eq (tgt := 770) hx hb dL_law_673 (by decide) (fun _ => kk _ _ ⟨a, b0, b1, ik, ha, t, g, im, kp, lf, rw, fn, kn, hI, hC, hP, hD, hS⟩) (fun c9 => absurd (e1.trans e2.symm) c9)
set_option maxHeartbeats 4000000 in
set_option maxRecDepth 100000 in
theorem zl_fragile {p : Program} {l : Launch} {e : Env} {s : State} {m : MethodId} {below : List Frame} {meth : Method} {c : Code} {b L i ta : Nat} {xs : Nat → Int32} {D : va_G} {cI cZ : ClassId} {q r : Nat → Nat} {H : Heap} {locs : List Loc} {ls : Array Slot} {Q : State → Prop} (C0 : zLC p s m c b L xs D cI cZ ta) (hi : i + 3 ≤ L) (hL : L ≤ 1536) (hI0 : zLI D cI cZ q r s H locs) (hl : lv_has ls 4 [(0, .ref b), (1, .ref (q 0)), (2, .ref (r 0)), (3, .int (nI i))]) (kk : ∀ (H : Heap) (locs : List Loc), zLI D cI cZ q r s H locs → W p l e room_1 s m #[Value.ref b] below meth c H locs 24 300 Q (F0 m 770 ls [])) : W p l e room_1 s m #[Value.ref b] below meth c H locs 24 300 Q (F0 m 678 ls []) := by
  obtain ⟨hx, hb, hml, hown, hts, hX, hbl, hG⟩ := C0
  obtain ⟨a, b0, b1, ik, ha, t, g, im, kp, lf, rw, fn, kn, hI, hC, hP, hD, hS⟩ := hI0
  have hK := hG.1
  have hA : ∀ y, s.heap.size ≤ y → zA s.heap.size y := fun _ h => h
  have hAz : ∀ y, zA s.heap.size y → s.heap.size ≤ y := fun _ h => h
  have hbA : ¬ zA s.heap.size b := Nat.not_le.mpr hbl
  refine lv_aload_n hx hb dL_law_678 rfl (lv_at hl 1 rfl) ?_
  refine lv_aload_n hx hb dL_law_679 rfl (lv_at hl 0 rfl) ?_
  refine lv_iload_n hx hb dL_law_680 rfl (lv_at hl 3 rfl) ?_
  refine lv_iconst (v := 1) hx hb dL_law_681 (by decide) ?_
  refine lv_iadd hx hb dL_law_682 ?_
  refine zz_sld (j := i + 1) hx hb hX hbl hbA hS (nI_add i 1) (by omega) (by omega) dL_law_683 ?_
  refine zz_cVi (cs := zcX cI q a b0 b1 ik ha t g) (As := [.int (xs (i + 1))]) (rest := []) ⟨hx, hb, hml, hown, hts⟩ (c_X2_fragile l D cI cZ s.heap.size ta q a b0 b1 ik ha t g (xs (i + 1)) hI) (cwV 1 hts gL_law_X2_fragile rfl rfl rfl (by decide +kernel) ⟨Nat.le_of_ble_eq_true rfl, Nat.le_of_ble_eq_true rfl⟩) (va_recv hK hP (ci := 2) (q0 := 0) rfl rfl) (hP.sub (ws' := zcX cI q a b0 b1 ik ha t g) [0, 1, 2, 3, 4, 5, 6, 7, 8, 9, 10, 11, 12, 13, 14, 15, 16] rfl) (hD.sub (ws' := zcX cI q a b0 b1 ik ha t g) [0, 1, 2, 3, 4, 5, 6, 7, 8, 9, 10, 11, 12, 13, 14, 15, 16] (by decide) rfl) hG hS hAz rfl hl.1 rfl (Nat.le_of_ble_eq_true rfl) ⟨Nat.le_of_ble_eq_true rfl, Nat.le_of_ble_eq_true rfl⟩ dL_law_684 (fun r1 e1 => ?_)
  refine lv_aload_n hx hb dL_law_687 rfl (lv_at hl 2 rfl) ?_
  refine lv_aload_n hx hb dL_law_688 rfl (lv_at hl 0 rfl) ?_
  refine lv_iload_n hx hb dL_law_689 rfl (lv_at hl 3 rfl) ?_
  refine lv_iconst (v := 1) hx hb dL_law_690 (by decide) ?_
  refine lv_iadd hx hb dL_law_691 ?_
  refine zz_sld (j := i + 1) hx hb hX hbl hbA hS (nI_add i 1) (by omega) (by omega) dL_law_692 ?_
  refine zz_cVi (cs := zcM cI cZ r (zst a) im kp lf rw fn kn) (As := [.int (xs (i + 1))]) (rest := [.int r1]) ⟨hx, hb, hml, hown, hts⟩ (c_X3_fragile l D cI cZ s.heap.size ta r a im kp lf rw fn kn (xs (i + 1)) hI) (cwV 1 hts gL_law_X3_fragile rfl rfl rfl (by decide +kernel) ⟨Nat.le_of_ble_eq_true rfl, Nat.le_of_ble_eq_true rfl⟩) (va_recv hK hP (ci := 3) (q0 := 17) rfl rfl) (hP.sub (ws' := zcM cI cZ r (zst a) im kp lf rw fn kn) [17, 18, 19, 20, 21, 22, 23] rfl) (hD.sub (ws' := zcM cI cZ r (zst a) im kp lf rw fn kn) [17, 18, 19, 20, 21, 22, 23] (by decide) rfl) hG hS hAz rfl hl.1 rfl (Nat.le_of_ble_eq_true rfl) ⟨Nat.le_of_ble_eq_true rfl, Nat.le_of_ble_eq_true rfl⟩ dL_law_693 (fun r2 e2 => ?_)
  refine lv_icmp_eq (tgt := 770) hx hb dL_law_696 (by decide) (fun _ => kk _ _ ⟨a, b0, b1, ik, ha, t, g, im, kp, lf, rw, fn, kn, hI, hC, hP, hD, hS⟩) (fun c9 => absurd (e1.trans e2.symm) c9)
set_option maxHeartbeats 4000000 in
set_option maxRecDepth 100000 in
theorem zl_image {p : Program} {l : Launch} {e : Env} {s : State} {m : MethodId} {below : List Frame} {meth : Method} {c : Code} {b L i ta : Nat} {xs : Nat → Int32} {D : va_G} {cI cZ : ClassId} {q r : Nat → Nat} {H : Heap} {locs : List Loc} {ls : Array Slot} {Q : State → Prop} (C0 : zLC p s m c b L xs D cI cZ ta) (hi : i + 3 ≤ L) (hL : L ≤ 1536) (hI0 : zLI D cI cZ q r s H locs) (hl : lv_has ls 4 [(0, .ref b), (1, .ref (q 0)), (2, .ref (r 0)), (3, .int (nI i))]) (kk : ∀ (H : Heap) (locs : List Loc), zLI D cI cZ q r s H locs → W p l e room_1 s m #[Value.ref b] below meth c H locs 24 300 Q (F0 m 770 ls [])) : W p l e room_1 s m #[Value.ref b] below meth c H locs 24 300 Q (F0 m 701 ls []) := by
  obtain ⟨hx, hb, hml, hown, hts, hX, hbl, hG⟩ := C0
  obtain ⟨a, b0, b1, ik, ha, t, g, im, kp, lf, rw, fn, kn, hI, hC, hP, hD, hS⟩ := hI0
  have hK := hG.1
  have hA : ∀ y, s.heap.size ≤ y → zA s.heap.size y := fun _ h => h
  have hAz : ∀ y, zA s.heap.size y → s.heap.size ≤ y := fun _ h => h
  have hbA : ¬ zA s.heap.size b := Nat.not_le.mpr hbl
  refine lv_aload_n hx hb dL_law_701 rfl (lv_at hl 1 rfl) ?_
  refine lv_aload_n hx hb dL_law_702 rfl (lv_at hl 0 rfl) ?_
  refine lv_iload_n hx hb dL_law_703 rfl (lv_at hl 3 rfl) ?_
  refine lv_iconst (v := 1) hx hb dL_law_704 (by decide) ?_
  refine lv_iadd hx hb dL_law_705 ?_
  refine zz_sld (j := i + 1) hx hb hX hbl hbA hS (nI_add i 1) (by omega) (by omega) dL_law_706 ?_
  refine zz_nVi (ct := fun (u : (ZA × ZA × Nat)) => zcX cI q a u.1 u.2.1 u.2.2 ha t g) (cn := fun (u : (ZA × ZA × Nat)) => zcX cI q a u.1 u.2.1 u.2.2 ha t g ++ zcM cI cZ r (zst a) im kp lf rw fn kn) (cs := zcX cI q a b0 b1 ik ha t g) (As := [.int (xs (i + 1))]) (rest := []) ⟨hx, hb, hml, hown, hts⟩ (c_X2_image l D cI cZ s.heap.size ta H.size q a b0 b1 ik ha t g (xs (i + 1)) ) (fun _ => rfl) (cwV 1 hts gL_law_X2_image rfl rfl rfl (by decide +kernel) ⟨Nat.le_of_ble_eq_true rfl, Nat.le_of_ble_eq_true rfl⟩) (va_recv hK hP (ci := 2) (q0 := 0) rfl rfl) hP hD [0, 1, 2, 3, 4, 5, 6, 7, 8, 9, 10, 11, 12, 13, 14, 15, 16] [17, 18, 19, 20, 21, 22, 23] [7, 8, 9, 10, 11, 12, 13, 14, 15, 16, 17, 18, 19, 20, 21, 22, 23, 0, 1, 2, 3, 4, 5, 6] rfl (by decide) (by decide) (by decide) (nW := 24) rfl (by decide) (fun _ => rfl) (fun _ => rfl) (fun _ => rfl) hG hS hA hAz rfl hl.1 rfl (Nat.le_of_ble_eq_true rfl) ⟨Nat.le_of_ble_eq_true rfl, Nat.le_of_ble_eq_true rfl⟩ dL_law_707 (fun r1 u1 H locs e1 hP hD hS => ?_)
  refine lv_aload_n hx hb dL_law_710 rfl (lv_at hl 2 rfl) ?_
  refine lv_aload_n hx hb dL_law_711 rfl (lv_at hl 0 rfl) ?_
  refine lv_iload_n hx hb dL_law_712 rfl (lv_at hl 3 rfl) ?_
  refine lv_iconst (v := 1) hx hb dL_law_713 (by decide) ?_
  refine lv_iadd hx hb dL_law_714 ?_
  refine zz_sld (j := i + 1) hx hb hX hbl hbA hS (nI_add i 1) (by omega) (by omega) dL_law_715 ?_
  refine zz_nVi (ct := fun (u : ((Nat → Int32) × (Nat → Int32))) => zcM cI cZ r (zst a) u.1 u.2 lf rw fn kn) (cn := fun (u : ((Nat → Int32) × (Nat → Int32))) => zcX cI q a u1.1 u1.2.1 u1.2.2 ha t g ++ zcM cI cZ r (zst a) u.1 u.2 lf rw fn kn) (cs := zcM cI cZ r (zst a) im kp lf rw fn kn) (As := [.int (xs (i + 1))]) (rest := [.int r1]) ⟨hx, hb, hml, hown, hts⟩ (c_X3_image l D cI cZ s.heap.size ta H.size r a im kp lf rw fn kn (xs (i + 1)) ) (fun _ => rfl) (cwV 1 hts gL_law_X3_image rfl rfl rfl (by decide +kernel) ⟨Nat.le_of_ble_eq_true rfl, Nat.le_of_ble_eq_true rfl⟩) (va_recv hK hP (ci := 3) (q0 := 17) rfl rfl) hP hD [17, 18, 19, 20, 21, 22, 23] [0, 1, 2, 3, 4, 5, 6, 7, 8, 9, 10, 11, 12, 13, 14, 15, 16] [0, 1, 2, 3, 4, 5, 6, 7, 8, 9, 10, 11, 12, 13, 14, 15, 16, 17, 18, 19, 20, 21, 22, 23] rfl (by decide) (by decide) (by decide) (nW := 24) rfl (by decide) (fun _ => rfl) (fun _ => rfl) (fun _ => rfl) hG hS hA hAz rfl hl.1 rfl (Nat.le_of_ble_eq_true rfl) ⟨Nat.le_of_ble_eq_true rfl, Nat.le_of_ble_eq_true rfl⟩ dL_law_716 (fun r2 u2 H locs e2 hP hD hS => ?_)
  obtain ⟨e3, hC1⟩ := zimg_cp hI hC e1 e2
  refine lv_icmp_eq (tgt := 770) hx hb dL_law_719 (by decide) (fun _ => kk _ _ ⟨a, u1.1, u1.2.1, u1.2.2, ha, t, g, u2.1, u2.2, lf, rw, fn, kn, hI, hC1, hP, hD, hS⟩) (fun c9 => absurd e3 c9)
set_option maxHeartbeats 4000000 in
set_option maxRecDepth 100000 in
theorem zl_restore {p : Program} {l : Launch} {e : Env} {s : State} {m : MethodId} {below : List Frame} {meth : Method} {c : Code} {b L i ta : Nat} {xs : Nat → Int32} {D : va_G} {cI cZ : ClassId} {q r : Nat → Nat} {H : Heap} {locs : List Loc} {ls : Array Slot} {Q : State → Prop} (C0 : zLC p s m c b L xs D cI cZ ta) (hi : i + 3 ≤ L) (hL : L ≤ 1536) (hI0 : zLI D cI cZ q r s H locs) (hl : lv_has ls 4 [(0, .ref b), (1, .ref (q 0)), (2, .ref (r 0)), (3, .int (nI i))]) (kk : ∀ (H : Heap) (locs : List Loc), zLI D cI cZ q r s H locs → W p l e room_1 s m #[Value.ref b] below meth c H locs 24 300 Q (F0 m 770 ls [])) : W p l e room_1 s m #[Value.ref b] below meth c H locs 24 300 Q (F0 m 724 ls []) := by
  obtain ⟨hx, hb, hml, hown, hts, hX, hbl, hG⟩ := C0
  obtain ⟨a, b0, b1, ik, ha, t, g, im, kp, lf, rw, fn, kn, hI, hC, hP, hD, hS⟩ := hI0
  have hK := hG.1
  have hA : ∀ y, s.heap.size ≤ y → zA s.heap.size y := fun _ h => h
  have hAz : ∀ y, zA s.heap.size y → s.heap.size ≤ y := fun _ h => h
  have hbA : ¬ zA s.heap.size b := Nat.not_le.mpr hbl
  refine lv_aload_n hx hb dL_law_724 rfl (lv_at hl 1 rfl) ?_
  refine lv_aload_n hx hb dL_law_725 rfl (lv_at hl 0 rfl) ?_
  refine lv_iload_n hx hb dL_law_726 rfl (lv_at hl 3 rfl) ?_
  refine lv_iconst (v := 1) hx hb dL_law_727 (by decide) ?_
  refine lv_iadd hx hb dL_law_728 ?_
  refine zz_sld (j := i + 1) hx hb hX hbl hbA hS (nI_add i 1) (by omega) (by omega) dL_law_729 ?_
  refine zz_nVi (ct := fun (u : ZA) => zcX cI q u b0 b1 ik ha t g) (cn := fun (u : ZA) => zcX cI q u b0 b1 ik ha t g ++ zcM cI cZ r (zst a) im kp lf rw fn kn) (cs := zcX cI q a b0 b1 ik ha t g) (As := [.int (xs (i + 1))]) (rest := []) ⟨hx, hb, hml, hown, hts⟩ (c_X2_restore l D cI cZ s.heap.size ta H.size q a b0 b1 ik ha t g (xs (i + 1)) hC.2.2.1) (fun _ => rfl) (cwV 1 hts gL_law_X2_restore rfl rfl rfl (by decide +kernel) ⟨Nat.le_of_ble_eq_true rfl, Nat.le_of_ble_eq_true rfl⟩) (va_recv hK hP (ci := 2) (q0 := 0) rfl rfl) hP hD [0, 1, 2, 3, 4, 5, 6, 7, 8, 9, 10, 11, 12, 13, 14, 15, 16] [17, 18, 19, 20, 21, 22, 23] [7, 8, 9, 10, 11, 12, 13, 14, 15, 16, 17, 18, 19, 20, 21, 22, 23, 0, 1, 2, 3, 4, 5, 6] rfl (by decide) (by decide) (by decide) (nW := 24) rfl (by decide) (fun _ => rfl) (fun _ => rfl) (fun _ => rfl) hG hS hA hAz rfl hl.1 rfl (Nat.le_of_ble_eq_true rfl) ⟨Nat.le_of_ble_eq_true rfl, Nat.le_of_ble_eq_true rfl⟩ dL_law_730 (fun r1 u1 H locs e1 hP hD hS => ?_)
  refine lv_aload_n hx hb dL_law_733 rfl (lv_at hl 2 rfl) ?_
  refine lv_aload_n hx hb dL_law_734 rfl (lv_at hl 0 rfl) ?_
  refine lv_iload_n hx hb dL_law_735 rfl (lv_at hl 3 rfl) ?_
  refine lv_iconst (v := 1) hx hb dL_law_736 (by decide) ?_
  refine lv_iadd hx hb dL_law_737 ?_
  refine zz_sld (j := i + 1) hx hb hX hbl hbA hS (nI_add i 1) (by omega) (by omega) dL_law_738 ?_
  refine zz_nVi (ct := fun (u : ZA) => zcM cI cZ r (zst u) im kp lf rw fn kn) (cn := fun (u : ZA) => zcX cI q u1 b0 b1 ik ha t g ++ zcM cI cZ r (zst u) im kp lf rw fn kn) (cs := zcM cI cZ r (zst a) im kp lf rw fn kn) (As := [.int (xs (i + 1))]) (rest := [.int r1]) ⟨hx, hb, hml, hown, hts⟩ (c_X3_restore l D cI cZ s.heap.size ta H.size r a im kp lf rw fn kn (xs (i + 1)) b0 b1 hC.2.2.2.2.2.1 hC.2.2.2.2.2.2) (fun _ => rfl) (cwV 1 hts gL_law_X3_restore rfl rfl rfl (by decide +kernel) ⟨Nat.le_of_ble_eq_true rfl, Nat.le_of_ble_eq_true rfl⟩) (va_recv hK hP (ci := 3) (q0 := 17) rfl rfl) hP hD [17, 18, 19, 20, 21, 22, 23] [0, 1, 2, 3, 4, 5, 6, 7, 8, 9, 10, 11, 12, 13, 14, 15, 16] [0, 1, 2, 3, 4, 5, 6, 7, 8, 9, 10, 11, 12, 13, 14, 15, 16, 17, 18, 19, 20, 21, 22, 23] rfl (by decide) (by decide) (by decide) (nW := 24) rfl (by decide) (fun _ => rfl) (fun _ => rfl) (fun _ => rfl) hG hS hA hAz rfl hl.1 rfl (Nat.le_of_ble_eq_true rfl) ⟨Nat.le_of_ble_eq_true rfl, Nat.le_of_ble_eq_true rfl⟩ dL_law_739 (fun r2 u2 H locs e2 hP hD hS => ?_)
  rw [zrest_eq hC.2.2.2.1 hC.2.2.2.2.1] at e2
  obtain ⟨rfl, rfl⟩ := Prod.mk.inj (e1.trans e2.symm)
  have hI1 : zInv u1 := by have h9 := congrArg Prod.snd e1; rw [show u1 = _ from h9]; exact zI_restore hI hC.1 hC.2.1 _ _
  refine lv_icmp_eq (tgt := 770) hx hb dL_law_742 (by decide) (fun _ => kk _ _ ⟨u1, b0, b1, ik, ha, t, g, im, kp, lf, rw, fn, kn, hI1, hC, hP, hD, hS⟩) (fun c9 => absurd rfl c9)
set_option maxHeartbeats 4000000 in
set_option maxRecDepth 100000 in
theorem zl_count {p : Program} {l : Launch} {e : Env} {s : State} {m : MethodId} {below : List Frame} {meth : Method} {c : Code} {b L i ta : Nat} {xs : Nat → Int32} {D : va_G} {cI cZ : ClassId} {q r : Nat → Nat} {H : Heap} {locs : List Loc} {ls : Array Slot} {Q : State → Prop} (C0 : zLC p s m c b L xs D cI cZ ta) (hi : i + 3 ≤ L) (hL : L ≤ 1536) (hI0 : zLI D cI cZ q r s H locs) (hl : lv_has ls 4 [(0, .ref b), (1, .ref (q 0)), (2, .ref (r 0)), (3, .int (nI i))]) (kk : ∀ (H : Heap) (locs : List Loc), zLI D cI cZ q r s H locs → W p l e room_1 s m #[Value.ref b] below meth c H locs 24 300 Q (F0 m 770 ls [])) : W p l e room_1 s m #[Value.ref b] below meth c H locs 24 300 Q (F0 m 747 ls []) := by
  obtain ⟨hx, hb, hml, hown, hts, hX, hbl, hG⟩ := C0
  obtain ⟨a, b0, b1, ik, ha, t, g, im, kp, lf, rw, fn, kn, hI, hC, hP, hD, hS⟩ := hI0
  have hK := hG.1
  have hA : ∀ y, s.heap.size ≤ y → zA s.heap.size y := fun _ h => h
  have hAz : ∀ y, zA s.heap.size y → s.heap.size ≤ y := fun _ h => h
  have hbA : ¬ zA s.heap.size b := Nat.not_le.mpr hbl
  refine lv_aload_n hx hb dL_law_747 rfl (lv_at hl 1 rfl) ?_
  refine lv_aload_n hx hb dL_law_748 rfl (lv_at hl 0 rfl) ?_
  refine lv_iload_n hx hb dL_law_749 rfl (lv_at hl 3 rfl) ?_
  refine lv_iconst (v := 1) hx hb dL_law_750 (by decide) ?_
  refine lv_iadd hx hb dL_law_751 ?_
  refine zz_sld (j := i + 1) hx hb hX hbl hbA hS (nI_add i 1) (by omega) (by omega) dL_law_752 ?_
  refine zz_cVi (cs := zcX cI q a b0 b1 ik ha t g) (As := [.int (xs (i + 1))]) (rest := []) ⟨hx, hb, hml, hown, hts⟩ (c_X2_count l D cI cZ s.heap.size ta q a b0 b1 ik ha t g (xs (i + 1)) hI) (cwV 1 hts gL_law_X2_count rfl rfl rfl (by decide +kernel) ⟨Nat.le_of_ble_eq_true rfl, Nat.le_of_ble_eq_true rfl⟩) (va_recv hK hP (ci := 2) (q0 := 0) rfl rfl) (hP.sub (ws' := zcX cI q a b0 b1 ik ha t g) [0, 1, 2, 3, 4, 5, 6, 7, 8, 9, 10, 11, 12, 13, 14, 15, 16] rfl) (hD.sub (ws' := zcX cI q a b0 b1 ik ha t g) [0, 1, 2, 3, 4, 5, 6, 7, 8, 9, 10, 11, 12, 13, 14, 15, 16] (by decide) rfl) hG hS hAz rfl hl.1 rfl (Nat.le_of_ble_eq_true rfl) ⟨Nat.le_of_ble_eq_true rfl, Nat.le_of_ble_eq_true rfl⟩ dL_law_753 (fun r1 e1 => ?_)
  refine lv_aload_n hx hb dL_law_756 rfl (lv_at hl 2 rfl) ?_
  refine lv_aload_n hx hb dL_law_757 rfl (lv_at hl 0 rfl) ?_
  refine lv_iload_n hx hb dL_law_758 rfl (lv_at hl 3 rfl) ?_
  refine lv_iconst (v := 1) hx hb dL_law_759 (by decide) ?_
  refine lv_iadd hx hb dL_law_760 ?_
  refine zz_sld (j := i + 1) hx hb hX hbl hbA hS (nI_add i 1) (by omega) (by omega) dL_law_761 ?_
  refine zz_cVi (cs := zcM cI cZ r (zst a) im kp lf rw fn kn) (As := [.int (xs (i + 1))]) (rest := [.int r1]) ⟨hx, hb, hml, hown, hts⟩ (c_X3_count l D cI cZ s.heap.size ta r a im kp lf rw fn kn (xs (i + 1)) ik hI hC.2.2.1 hC.2.2.2.1 hC.2.2.2.2.1) (cwV 1 hts gL_law_X3_count rfl rfl rfl (by decide +kernel) ⟨Nat.le_of_ble_eq_true rfl, Nat.le_of_ble_eq_true rfl⟩) (va_recv hK hP (ci := 3) (q0 := 17) rfl rfl) (hP.sub (ws' := zcM cI cZ r (zst a) im kp lf rw fn kn) [17, 18, 19, 20, 21, 22, 23] rfl) (hD.sub (ws' := zcM cI cZ r (zst a) im kp lf rw fn kn) [17, 18, 19, 20, 21, 22, 23] (by decide) rfl) hG hS hAz rfl hl.1 rfl (Nat.le_of_ble_eq_true rfl) ⟨Nat.le_of_ble_eq_true rfl, Nat.le_of_ble_eq_true rfl⟩ dL_law_762 (fun r2 e2 => ?_)
  refine lv_icmp_eq (tgt := 770) hx hb dL_law_765 (by decide) (fun _ => kk _ _ ⟨a, b0, b1, ik, ha, t, g, im, kp, lf, rw, fn, kn, hI, hC, hP, hD, hS⟩) (fun c9 => absurd (e1.trans e2.symm) c9)
