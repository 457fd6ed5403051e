/-! The loop of the law; its start. -/
set_option maxHeartbeats 4000000 in
set_option maxRecDepth 100000 in
theorem zl_turn {p : Program} {l : Launch} {e : Env} {s : State} {m : MethodId} {below : List Frame} {meth : Method} {c : Code} {b L i ta : Nat} {xs : Nat → Int32} {D : va_G} {cI cZ : ClassId} {q r : Nat → Nat} {H : Heap} {locs : List Loc} {ls : Array Slot} {Q : State → Prop} (C0 : zLC p s m c b L xs D cI cZ ta) (hi : i + 3 ≤ L) (hL : L ≤ 1536) (hI0 : zLI D cI cZ q r s H locs) (hl : lv_has ls 4 [(0, .ref b), (1, .ref (q 0)), (2, .ref (r 0)), (3, .int (nI i))]) (kk : ∀ (H : Heap) (locs : List Loc), zLI D cI cZ q r s H locs → W p l e room_1 s m #[Value.ref b] below meth c H locs 24 300 Q (F0 m 770 ls [])) : W p l e room_1 s m #[Value.ref b] below meth c H locs 24 300 Q (F0 m 26 ls []) := by
  obtain ⟨hx, hb, hml, hown, hts, hX, hbl, hG⟩ := id C0
  obtain ⟨a, b0, b1, ik, ha, t, g, im, kp, lf, rw, fn, kn, hI, hC, hP, hD, hS⟩ := id hI0
  have hbA : ¬ zA s.heap.size b := Nat.not_le.mpr hbl
  refine lv_aload_n hx hb dL_law_26 rfl (lv_at hl 0 rfl) ?_
  refine lv_iload_n hx hb dL_law_27 rfl (lv_at hl 3 rfl) ?_
  refine zz_sld (j := i) hx hb hX hbl hbA hS rfl (by omega) (by omega) dL_law_28 ?_
  refine lv_bipush (v := 31) hx hb dL_law_29 (by decide) ?_
  refine lv_iand hx hb dL_law_31 ?_
  obtain ⟨k, hk, ek⟩ := pk_andE (xs i) (m := 31) 5 (by decide)
  refine zz_topi (nI k) ek ?_
  rcases (show k = 0 ∨ k = 1 ∨ k = 2 ∨ k = 3 ∨ k = 4 ∨ k = 5 ∨ k = 6 ∨ k = 7 ∨ k = 8 ∨ k = 9 ∨ k = 10 ∨ k = 11 ∨ k = 12 ∨ k = 13 ∨ k = 14 ∨ k = 15 ∨ k = 16 ∨ k = 17 ∨ k = 18 ∨ k = 19 ∨ k = 20 ∨ k = 21 ∨ k = 22 ∨ 23 ≤ k by omega) with rfl | rfl | rfl | rfl | rfl | rfl | rfl | rfl | rfl | rfl | rfl | rfl | rfl | rfl | rfl | rfl | rfl | rfl | rfl | rfl | rfl | rfl | rfl | h23
  · refine lv_tableIn (off := 108) (tgt := 140) hx hb dL_law_32 (by decide) (by decide) rfl (by decide) (zl_deep C0 hi hL hI0 hl kk)
  · refine lv_tableIn (off := 131) (tgt := 163) hx hb dL_law_32 (by decide) (by decide) rfl (by decide) (zl_loss C0 hi hL hI0 hl kk)
  · refine lv_tableIn (off := 164) (tgt := 196) hx hb dL_law_32 (by decide) (by decide) rfl (by decide) (zl_split C0 hi hL hI0 hl kk)
  · refine lv_tableIn (off := 198) (tgt := 230) hx hb dL_law_32 (by decide) (by decide) rfl (by decide) (zl_rank C0 hi hL hI0 hl kk)
  · refine lv_tableIn (off := 231) (tgt := 263) hx hb dL_law_32 (by decide) (by decide) rfl (by decide) (zl_freeze C0 hi hL hI0 hl kk)
  · refine lv_tableIn (off := 254) (tgt := 286) hx hb dL_law_32 (by decide) (by decide) rfl (by decide) (zl_best C0 hi hL hI0 hl kk)
  · refine lv_tableIn (off := 277) (tgt := 309) hx hb dL_law_32 (by decide) (by decide) rfl (by decide) (zl_coded C0 hi hL hI0 hl kk)
  · refine lv_tableIn (off := 300) (tgt := 332) hx hb dL_law_32 (by decide) (by decide) rfl (by decide) (zl_word C0 hi hL hI0 hl kk)
  · refine lv_tableIn (off := 323) (tgt := 355) hx hb dL_law_32 (by decide) (by decide) rfl (by decide) (zl_light C0 hi hL hI0 hl kk)
  · refine lv_tableIn (off := 346) (tgt := 378) hx hb dL_law_32 (by decide) (by decide) rfl (by decide) (zl_put C0 hi hL hI0 hl kk)
  · refine lv_tableIn (off := 379) (tgt := 411) hx hb dL_law_32 (by decide) (by decide) rfl (by decide) (zl_hear C0 hi hL hI0 hl kk)
  · refine lv_tableIn (off := 412) (tgt := 444) hx hb dL_law_32 (by decide) (by decide) rfl (by decide) (zl_spoil C0 hi hL hI0 hl kk)
  · refine lv_tableIn (off := 445) (tgt := 477) hx hb dL_law_32 (by decide) (by decide) rfl (by decide) (zl_measure C0 hi hL hI0 hl kk)
  · refine lv_tableIn (off := 478) (tgt := 510) hx hb dL_law_32 (by decide) (by decide) rfl (by decide) (zl_read C0 hi hL hI0 hl kk)
  · refine lv_tableIn (off := 501) (tgt := 533) hx hb dL_law_32 (by decide) (by decide) rfl (by decide) (zl_most C0 hi hL hI0 hl kk)
  · refine lv_tableIn (off := 524) (tgt := 556) hx hb dL_law_32 (by decide) (by decide) rfl (by decide) (zl_kept C0 hi hL hI0 hl kk)
  · refine lv_tableIn (off := 557) (tgt := 589) hx hb dL_law_32 (by decide) (by decide) rfl (by decide) (zl_chosen C0 hi hL hI0 hl kk)
  · refine lv_tableIn (off := 580) (tgt := 612) hx hb dL_law_32 (by decide) (by decide) rfl (by decide) (zl_check C0 hi hL hI0 hl kk)
  · refine lv_tableIn (off := 613) (tgt := 645) hx hb dL_law_32 (by decide) (by decide) rfl (by decide) (zl_open C0 hi hL hI0 hl kk)
  · refine lv_tableIn (off := 646) (tgt := 678) hx hb dL_law_32 (by decide) (by decide) rfl (by decide) (zl_fragile C0 hi hL hI0 hl kk)
  · refine lv_tableIn (off := 669) (tgt := 701) hx hb dL_law_32 (by decide) (by decide) rfl (by decide) (zl_image C0 hi hL hI0 hl kk)
  · refine lv_tableIn (off := 692) (tgt := 724) hx hb dL_law_32 (by decide) (by decide) rfl (by decide) (zl_restore C0 hi hL hI0 hl kk)
  · refine lv_tableIn (off := 715) (tgt := 747) hx hb dL_law_32 (by decide) (by decide) rfl (by decide) (zl_count C0 hi hL hI0 hl kk)
  · refine lv_tableOut (tgt := 770) hx hb dL_law_32 (Or.inr ?_) (by decide) (kk _ _ hI0)
    rw [nI_toInt (by omega)]
    omega
