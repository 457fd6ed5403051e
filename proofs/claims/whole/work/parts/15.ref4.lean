set_option maxHeartbeats 4000000 in
set_option maxRecDepth 100000 in
theorem c_X3_isAhead (l : Launch) (D : va_G) (cI cZ : ClassId) (hs ta : Nat) (q : Nat → Nat) (a : ZA) (im : Nat → Int32) (kp : Nat → Int32) (lf : Nat → Int32) (rw : Nat → Int32) (fn : Nat → Int32) (kn : Nat) (x1 : Nat) (y1 : Nat) (hx1 : x1 < 16) (hy1 : y1 < 16) : Met l yX3_isAhead wsX3_isAhead ({ frames := 0, cells := 0, slots := 0, locals := 0 }) (va_Pc [.ref (q 0), .int (nI x1), .int (nI y1)] (zPre D (zTy cI cZ) hs ta (zcM cI cZ q (zst a) im kp lf rw fn kn))) (vp_Si (fun r : Int32 => r = zB (fn x1 < fn y1 ∨ (fn x1 = fn y1 ∧ rw x1 < rw y1)))) 0 0 (fun _ => False) := by
  refine Met.ofW (cc := cX3_isAhead) (maxL := 3) (ret := (some .boolean)) (by decide) rfl ?_
  intro p e s m args below meth c s₁ B hml hv0
  obtain ⟨rfl, hP, hD, hG⟩ := hv0
  have hx := B.exec
  have hb := B.bytes
  have hr := B.returns
  have hts := atoms_spec (ws := wsX3_isAhead) B.pre
  have hown : s.vm.findClass RX3 = some m.cls := findClass_of_methodNamed B.named
  have hlocks := B.notSynchronized
  have hK := hG.1
  have hS : va_S (zA hs) s.heap s.heap [] := va_S.rf
  have hAz : ∀ q, zA hs q → hs ≤ q := fun _ h => h
  have hl := lv_entry ([.ref (q 0), .int (nI x1), .int (nI y1)]) (n := 3) (Nat.le_of_ble_eq_true rfl)
  rw [lg_entry_eq]
  generalize (lg_sl ([.ref (q 0), .int (nI x1), .int (nI y1)]) ++ List.replicate (3 - (lg_sl ([.ref (q 0), .int (nI x1), .int (nI y1)])).length) Slot.unset).toArray = ls at hl ⊢
  have hl : lv_has ls 3 [(0, .ref (q 0)), (1, .int (nI x1)), (2, .int (nI y1))] := hl
  have hf26 := hts (.fieldLink RX3 26 "FrozenBitsModel" "fines" "[I") (List.mem_of_getElem? (i := 1) rfl)
  have hiX3 : ∀ w ∈ u_ws RX3 TX3 7, w ∈ wsX3_isAhead := fun w h => List.mem_cons_of_mem _ (List.mem_append_right _ h)
  have hf23 := hts (.fieldLink RX3 23 "FrozenBitsModel" "rows" "[I") (List.mem_of_getElem? (i := 2) rfl)
  refine lv_aload_n hx hb dX3_isAhead_0 rfl (lv_at hl 0 rfl) ?_
  refine va_get (ci := 3) (C := RX3) (T := TX3) (N := 7) hx hb hts hiX3 hown hK hP 0 rfl rfl 5 (by decide) hf26 (fun _ h9 => h9) rfl dX3_isAhead_1 ?_
  refine lv_iload_n hx hb dX3_isAhead_4 rfl (lv_at hl 1 rfl) ?_
  refine zz_iald hx hb hK hP 6 0 rfl rfl (i := x1) rfl (by omega) (by decide) dX3_isAhead_5 ?_
  refine lv_aload_n hx hb dX3_isAhead_6 rfl (lv_at hl 0 rfl) ?_
  refine va_get (ci := 3) (C := RX3) (T := TX3) (N := 7) hx hb hts hiX3 hown hK hP 0 rfl rfl 5 (by decide) hf26 (fun _ h9 => h9) rfl dX3_isAhead_7 ?_
  refine lv_iload_n hx hb dX3_isAhead_10 rfl (lv_at hl 2 rfl) ?_
  refine zz_iald hx hb hK hP 6 0 rfl rfl (i := y1) rfl (by omega) (by decide) dX3_isAhead_11 ?_
  refine lv_icmp_eq (tgt := 38) hx hb dX3_isAhead_12 (by decide) (fun c_1 => ?_) (fun c_1 => ?_)
  · refine lv_aload_n hx hb dX3_isAhead_38 rfl (lv_at hl 0 rfl) ?_
    refine va_get (ci := 3) (C := RX3) (T := TX3) (N := 7) hx hb hts hiX3 hown hK hP 0 rfl rfl 4 (by decide) hf23 (fun _ h9 => h9) rfl dX3_isAhead_39 ?_
    refine lv_iload_n hx hb dX3_isAhead_42 rfl (lv_at hl 1 rfl) ?_
    refine zz_iald hx hb hK hP 5 0 rfl rfl (i := x1) rfl (by omega) (by decide) dX3_isAhead_43 ?_
    refine lv_aload_n hx hb dX3_isAhead_44 rfl (lv_at hl 0 rfl) ?_
    refine va_get (ci := 3) (C := RX3) (T := TX3) (N := 7) hx hb hts hiX3 hown hK hP 0 rfl rfl 4 (by decide) hf23 (fun _ h9 => h9) rfl dX3_isAhead_45 ?_
    refine lv_iload_n hx hb dX3_isAhead_48 rfl (lv_at hl 2 rfl) ?_
    refine zz_iald hx hb hK hP 5 0 rfl rfl (i := y1) rfl (by omega) (by decide) dX3_isAhead_49 ?_
    refine lv_icmp_ge (tgt := 57) hx hb dX3_isAhead_50 (by decide) (fun c_2 => ?_) (fun c_2 => ?_)
    · replace c_2 := Int32.not_lt.mpr c_2
      refine lv_iconst (v := 0) hx hb dX3_isAhead_57 (by decide) ?_
      exact W.zret (v := 0) (ty := .boolean) hx hb hr (rfl) (fun t9 ht hW => ⟨_, rfl, (zia_d c_1 c_2), ht⟩) (fun _ h => absurd h List.not_mem_nil) dX3_isAhead_58
    · replace c_2 := Int32.not_le.mp c_2
      refine lv_iconst (v := 1) hx hb dX3_isAhead_53 (by decide) ?_
      refine lv_goto (tgt := 58) hx hb dX3_isAhead_54 (by decide) ?_
      exact W.zret (v := 1) (ty := .boolean) hx hb hr (rfl) (fun t9 ht hW => ⟨_, rfl, (zia_c c_1 c_2), ht⟩) (fun _ h => absurd h List.not_mem_nil) dX3_isAhead_58
  · refine lv_aload_n hx hb dX3_isAhead_15 rfl (lv_at hl 0 rfl) ?_
    refine va_get (ci := 3) (C := RX3) (T := TX3) (N := 7) hx hb hts hiX3 hown hK hP 0 rfl rfl 5 (by decide) hf26 (fun _ h9 => h9) rfl dX3_isAhead_16 ?_
    refine lv_iload_n hx hb dX3_isAhead_19 rfl (lv_at hl 1 rfl) ?_
    refine zz_iald hx hb hK hP 6 0 rfl rfl (i := x1) rfl (by omega) (by decide) dX3_isAhead_20 ?_
    refine lv_aload_n hx hb dX3_isAhead_21 rfl (lv_at hl 0 rfl) ?_
    refine va_get (ci := 3) (C := RX3) (T := TX3) (N := 7) hx hb hts hiX3 hown hK hP 0 rfl rfl 5 (by decide) hf26 (fun _ h9 => h9) rfl dX3_isAhead_22 ?_
    refine lv_iload_n hx hb dX3_isAhead_25 rfl (lv_at hl 2 rfl) ?_
    refine zz_iald hx hb hK hP 6 0 rfl rfl (i := y1) rfl (by omega) (by decide) dX3_isAhead_26 ?_
    refine lv_icmp_ge (tgt := 34) hx hb dX3_isAhead_27 (by decide) (fun c_3 => ?_) (fun c_3 => ?_)
    · replace c_3 := Int32.not_lt.mpr c_3
      refine lv_iconst (v := 0) hx hb dX3_isAhead_34 (by decide) ?_
      refine lv_goto (tgt := 58) hx hb dX3_isAhead_35 (by decide) ?_
      exact W.zret (v := 0) (ty := .boolean) hx hb hr (rfl) (fun t9 ht hW => ⟨_, rfl, (zia_b c_1 c_3), ht⟩) (fun _ h => absurd h List.not_mem_nil) dX3_isAhead_58
    · replace c_3 := Int32.not_le.mp c_3
      refine lv_iconst (v := 1) hx hb dX3_isAhead_30 (by decide) ?_
      refine lv_goto (tgt := 58) hx hb dX3_isAhead_31 (by decide) ?_
      exact W.zret (v := 1) (ty := .boolean) hx hb hr (rfl) (fun t9 ht hW => ⟨_, rfl, (zia_a c_3), ht⟩) (fun _ h => absurd h List.not_mem_nil) dX3_isAhead_58
set_option maxHeartbeats 4000000 in
set_option maxRecDepth 100000 in
theorem c_X3_swap (l : Launch) (D : va_G) (cI cZ : ClassId) (hs ta : Nat) (sz : Nat) (q : Nat → Nat) (a : ZA) (im : Nat → Int32) (kp : Nat → Int32) (lf : Nat → Int32) (rw : Nat → Int32) (fn : Nat → Int32) (kn : Nat) (x1 : Nat) (y1 : Nat) (hx1 : x1 < 16) (hy1 : y1 < 16) : Met l yX3_swap wsX3_swap ({ frames := 0, cells := 0, slots := 0, locals := 0 }) (va_Pc [.ref (q 0), .int (nI x1), .int (nI y1)] (fun U => U.heap.size = sz ∧ zPre D (zTy cI cZ) hs ta (zcM cI cZ q (zst a) im kp lf rw fn kn) U)) (va_Qv (fun (u : (Nat → Int32) × (Nat → Int32)) => u = (zsw2 rw x1 y1, zsw2 fn x1 y1)) (fun (u : (Nat → Int32) × (Nat → Int32)) t9 => va_P D vwCl (zcM cI cZ q (zst a) im kp lf u.1 u.2 kn) t9.heap) (va_A (zcM cI cZ q (zst a) im kp lf rw fn kn) sz)) 0 0 (va_A (zcM cI cZ q (zst a) im kp lf rw fn kn) sz) := by
  refine Met.ofW (cc := cX3_swap) (maxL := 5) (ret := none) (by decide) rfl ?_
  intro p e s m args below meth c s₁ B hml hv0
  obtain ⟨rfl, hsz, hP, hD0, hG⟩ := hv0
  have hx := B.exec
  have hb := B.bytes
  have hr := B.returns
  have hts := atoms_spec (ws := wsX3_swap) B.pre
  have hown : s.vm.findClass RX3 = some m.cls := findClass_of_methodNamed B.named
  have hlocks := B.notSynchronized
  subst hsz
  have hD := hD0.self (sz := s.heap.size)
  have hAz0 : ∀ y9, va_A (zcM cI cZ q (zst a) im kp lf rw fn kn) s.heap.size y9 → hs ≤ y9 := zA_of hD0 (fun y9 h => Nat.le_trans hG.2.2.2.2 h) (va_S.rf (A := zA hs) (H0 := s.heap))
  generalize hAe : va_A (zcM cI cZ q (zst a) im kp lf rw fn kn) s.heap.size = A at hD hAz0 ⊢
  have hA : ∀ y9 : Nat, s.heap.size ≤ y9 → A y9 := fun y9 h => by rw [← hAe]; exact Or.inr h
  have hS : va_S A s.heap s.heap [] := va_S.rf
  have hAz : ∀ y9, A y9 → hs ≤ y9 := hAz0
  have hK := hG.1
  have hl := lv_entry ([.ref (q 0), .int (nI x1), .int (nI y1)]) (n := 5) (Nat.le_of_ble_eq_true rfl)
  rw [lg_entry_eq]
  generalize (lg_sl ([.ref (q 0), .int (nI x1), .int (nI y1)]) ++ List.replicate (5 - (lg_sl ([.ref (q 0), .int (nI x1), .int (nI y1)])).length) Slot.unset).toArray = ls at hl ⊢
  have hl : lv_has ls 5 [(0, .ref (q 0)), (1, .int (nI x1)), (2, .int (nI y1))] := hl
  have hf23 := hts (.fieldLink RX3 23 "FrozenBitsModel" "rows" "[I") (List.mem_of_getElem? (i := 1) rfl)
  have hiX3 : ∀ w ∈ u_ws RX3 TX3 7, w ∈ wsX3_swap := fun w h => List.mem_cons_of_mem _ (List.mem_append_right _ h)
  have hf26 := hts (.fieldLink RX3 26 "FrozenBitsModel" "fines" "[I") (List.mem_of_getElem? (i := 2) rfl)
  refine lv_aload_n hx hb dX3_swap_0 rfl (lv_at hl 0 rfl) ?_
  refine va_get (ci := 3) (C := RX3) (T := TX3) (N := 7) hx hb hts hiX3 hown hK hP 0 rfl rfl 4 (by decide) hf23 (fun _ h9 => h9) rfl dX3_swap_1 ?_
  refine lv_iload_n hx hb dX3_swap_4 rfl (lv_at hl 1 rfl) ?_
  refine zz_iald hx hb hK hP 5 0 rfl rfl (i := x1) rfl (by omega) (by decide) dX3_swap_5 ?_
  refine zz_topi (rw x1) (rfl) ?_
  refine lv_istore_n (lv' := [(3, .int (rw x1)), (0, .ref (q 0)), (1, .int (nI x1)), (2, .int (nI y1))]) hx hb dX3_swap_6 rfl hl (by decide) rfl (fun ls hl => ?_)
  refine lv_aload_n hx hb dX3_swap_7 rfl (lv_at hl 1 rfl) ?_
  refine va_get (ci := 3) (C := RX3) (T := TX3) (N := 7) hx hb hts hiX3 hown hK hP 0 rfl rfl 5 (by decide) hf26 (fun _ h9 => h9) rfl dX3_swap_8 ?_
  refine lv_iload_n hx hb dX3_swap_11 rfl (lv_at hl 2 rfl) ?_
  refine zz_iald hx hb hK hP 6 0 rfl rfl (i := x1) rfl (by omega) (by decide) dX3_swap_12 ?_
  refine zz_topi (fn x1) (rfl) ?_
  refine lv_istore (lv' := [(4, .int (fn x1)), (3, .int (rw x1)), (0, .ref (q 0)), (1, .int (nI x1)), (2, .int (nI y1))]) hx hb dX3_swap_13 hl (by decide) rfl (fun ls hl => ?_)
  refine lv_aload_n hx hb dX3_swap_15 rfl (lv_at hl 2 rfl) ?_
  refine va_get (ci := 3) (C := RX3) (T := TX3) (N := 7) hx hb hts hiX3 hown hK hP 0 rfl rfl 4 (by decide) hf23 (fun _ h9 => h9) rfl dX3_swap_16 ?_
  refine lv_iload_n hx hb dX3_swap_19 rfl (lv_at hl 3 rfl) ?_
  refine lv_aload_n hx hb dX3_swap_20 rfl (lv_at hl 2 rfl) ?_
  refine va_get (ci := 3) (C := RX3) (T := TX3) (N := 7) hx hb hts hiX3 hown hK hP 0 rfl rfl 4 (by decide) hf23 (fun _ h9 => h9) rfl dX3_swap_21 ?_
  refine lv_iload_n hx hb dX3_swap_24 rfl (lv_at hl 4 rfl) ?_
  refine zz_iald hx hb hK hP 5 0 rfl rfl (i := y1) rfl (by omega) (by decide) dX3_swap_25 ?_
  refine zz_iast hx hb hK hP hD hS 5 0 rfl rfl (i := x1) rfl (by omega) (by decide) dX3_swap_26 (fun H locs hP hD hS => ?_)
  have hP : va_P D vwCl (zcM cI cZ q (zst a) im kp lf (upd rw x1 (rw y1)) fn kn) H := hP
  have hD : va_D A (zcM cI cZ q (zst a) im kp lf (upd rw x1 (rw y1)) fn kn) := hD
  refine lv_aload_n hx hb dX3_swap_27 rfl (lv_at hl 2 rfl) ?_
  refine va_get (ci := 3) (C := RX3) (T := TX3) (N := 7) hx hb hts hiX3 hown hK hP 0 rfl rfl 5 (by decide) hf26 (fun _ h9 => h9) rfl dX3_swap_28 ?_
  refine lv_iload_n hx hb dX3_swap_31 rfl (lv_at hl 3 rfl) ?_
  refine lv_aload_n hx hb dX3_swap_32 rfl (lv_at hl 2 rfl) ?_
  refine va_get (ci := 3) (C := RX3) (T := TX3) (N := 7) hx hb hts hiX3 hown hK hP 0 rfl rfl 5 (by decide) hf26 (fun _ h9 => h9) rfl dX3_swap_33 ?_
  refine lv_iload_n hx hb dX3_swap_36 rfl (lv_at hl 4 rfl) ?_
  refine zz_iald hx hb hK hP 6 0 rfl rfl (i := y1) rfl (by omega) (by decide) dX3_swap_37 ?_
  refine zz_iast hx hb hK hP hD hS 6 0 rfl rfl (i := x1) rfl (by omega) (by decide) dX3_swap_38 (fun H locs hP hD hS => ?_)
  have hP : va_P D vwCl (zcM cI cZ q (zst a) im kp lf (upd rw x1 (rw y1)) (upd fn x1 (fn y1)) kn) H := hP
  have hD : va_D A (zcM cI cZ q (zst a) im kp lf (upd rw x1 (rw y1)) (upd fn x1 (fn y1)) kn) := hD
  refine lv_aload_n hx hb dX3_swap_39 rfl (lv_at hl 2 rfl) ?_
  refine va_get (ci := 3) (C := RX3) (T := TX3) (N := 7) hx hb hts hiX3 hown hK hP 0 rfl rfl 4 (by decide) hf23 (fun _ h9 => h9) rfl dX3_swap_40 ?_
  refine lv_iload_n hx hb dX3_swap_43 rfl (lv_at hl 4 rfl) ?_
  refine lv_iload_n hx hb dX3_swap_44 rfl (lv_at hl 1 rfl) ?_
  refine zz_iast hx hb hK hP hD hS 5 0 rfl rfl (i := y1) rfl (by omega) (by decide) dX3_swap_45 (fun H locs hP hD hS => ?_)
  have hP : va_P D vwCl (zcM cI cZ q (zst a) im kp lf (upd (upd rw x1 (rw y1)) y1 (rw x1)) (upd fn x1 (fn y1)) kn) H := hP
  have hD : va_D A (zcM cI cZ q (zst a) im kp lf (upd (upd rw x1 (rw y1)) y1 (rw x1)) (upd fn x1 (fn y1)) kn) := hD
  refine lv_aload_n hx hb dX3_swap_46 rfl (lv_at hl 2 rfl) ?_
  refine va_get (ci := 3) (C := RX3) (T := TX3) (N := 7) hx hb hts hiX3 hown hK hP 0 rfl rfl 5 (by decide) hf26 (fun _ h9 => h9) rfl dX3_swap_47 ?_
  refine lv_iload_n hx hb dX3_swap_50 rfl (lv_at hl 4 rfl) ?_
  refine lv_iload hx hb dX3_swap_51 (lv_at hl 0 rfl) ?_
  refine zz_iast hx hb hK hP hD hS 6 0 rfl rfl (i := y1) rfl (by omega) (by decide) dX3_swap_53 (fun H locs hP hD hS => ?_)
  have hP : va_P D vwCl (zcM cI cZ q (zst a) im kp lf (upd (upd rw x1 (rw y1)) y1 (rw x1)) (upd (upd fn x1 (fn y1)) y1 (fn x1)) kn) H := hP
  have hD : va_D A (zcM cI cZ q (zst a) im kp lf (upd (upd rw x1 (rw y1)) y1 (rw x1)) (upd (upd fn x1 (fn y1)) y1 (fn x1)) kn) := hD
  exact W.vret hx hb hr (fun t9 ht hW => ⟨⟨(upd (upd rw x1 (rw y1)) y1 (rw x1), upd (upd fn x1 (fn y1)) y1 (fn x1)), rfl, (rfl), zP_ht ht hP⟩, hS.F ht⟩) hS.2.2 dX3_swap_54
set_option maxHeartbeats 4000000 in
set_option maxRecDepth 100000 in
theorem c_X3_sort (l : Launch) (D : va_G) (cI cZ : ClassId) (hs ta : Nat) (sz : Nat) (q : Nat → Nat) (a : ZA) (im : Nat → Int32) (kp : Nat → Int32) (lf : Nat → Int32) (rw : Nat → Int32) (fn : Nat → Int32) (kn : Nat) (L : ZL) (hL : zRL (rw, fn, kn) L) (hL16 : L.length ≤ 16) : Met l yX3_sort wsX3_sort ({ frames := 1, cells := 0, slots := 0, locals := 24 }) (va_Pc [.ref (q 0)] (fun U => U.heap.size = sz ∧ zPre D (zTy cI cZ) hs ta (zcM cI cZ q (zst a) im kp lf rw fn kn) U)) (va_Qv (fun (u : (Nat → Int32) × (Nat → Int32)) => zRL (u.1, u.2, kn) (zso L L.length)) (fun (u : (Nat → Int32) × (Nat → Int32)) t9 => va_P D vwCl (zcM cI cZ q (zst a) im kp lf u.1 u.2 kn) t9.heap) (va_A (zcM cI cZ q (zst a) im kp lf rw fn kn) sz)) 0 0 (va_A (zcM cI cZ q (zst a) im kp lf rw fn kn) sz) := by
  refine Met.ofW (cc := cX3_sort) (maxL := 3) (ret := none) (by decide) rfl ?_
  intro p e s m args below meth c s₁ B hml hv0
  obtain ⟨rfl, hsz, hP, hD0, hG⟩ := hv0
  have hx := B.exec
  have hb := B.bytes
  have hr := B.returns
  have hts := atoms_spec (ws := wsX3_sort) B.pre
  have hown : s.vm.findClass RX3 = some m.cls := findClass_of_methodNamed B.named
  have hlocks := B.notSynchronized
  subst hsz
  have hD := hD0.self (sz := s.heap.size)
  have hAz0 : ∀ y9, va_A (zcM cI cZ q (zst a) im kp lf rw fn kn) s.heap.size y9 → hs ≤ y9 := zA_of hD0 (fun y9 h => Nat.le_trans hG.2.2.2.2 h) (va_S.rf (A := zA hs) (H0 := s.heap))
  generalize hAe : va_A (zcM cI cZ q (zst a) im kp lf rw fn kn) s.heap.size = A at hD hAz0 ⊢
  have hA : ∀ y9 : Nat, s.heap.size ≤ y9 → A y9 := fun y9 h => by rw [← hAe]; exact Or.inr h
  have hS : va_S A s.heap s.heap [] := va_S.rf
  have hAz : ∀ y9, A y9 → hs ≤ y9 := hAz0
  have hK := hG.1
  have hl := lv_entry ([.ref (q 0)]) (n := 3) (Nat.le_of_ble_eq_true rfl)
  rw [lg_entry_eq]
  generalize (lg_sl ([.ref (q 0)]) ++ List.replicate (3 - (lg_sl ([.ref (q 0)])).length) Slot.unset).toArray = ls at hl ⊢
  have hl : lv_has ls 3 [(0, .ref (q 0))] := hl
  have hf112 := hts (.fieldLink RX3 112 "FrozenBitsModel" "kept" "I") (List.mem_of_getElem? (i := 1) rfl)
  have hiX3 : ∀ w ∈ u_ws RX3 TX3 7, w ∈ wsX3_sort := fun w h => List.mem_cons_of_mem _ (List.mem_append_right _ h)
  have hkn : kn = L.length := hL.1
  refine lv_iconst (v := 1) hx hb dX3_sort_0 (by decide) ?_
  refine lv_istore_n (lv' := [(1, .int 1), (0, .ref (q 0))]) hx hb dX3_sort_1 rfl hl (by decide) rfl (fun ls hl => ?_)
  have hl : lv_has ls 3 [(1, .int (nI (1 + 0))), (0, .ref (q 0))] := hl
  refine zz_forHJ (P := fun H locs g => W p l e _ s m _ below meth c H locs _ _ _ g) (nL := 3) (kn - 1) (fun i => [(1, .int (nI (1 + i))), (0, .ref (q 0))]) (fun i H locs => ∃ r1 : Nat → Int32, ∃ f1 : Nat → Int32, zRL (r1, f1, kn) (zso L (1 + i) ++ L.drop (1 + i)) ∧ va_P D vwCl (zcM cI cZ q (zst a) im kp lf r1 f1 kn) H ∧ va_D A (zcM cI cZ q (zst a) im kp lf r1 f1 kn) ∧ va_S A s.heap H locs) (J := fun _ => True) ?_ ?_ (⟨_, _, by rw [Nat.add_zero, zso_1]; exact hL, hP, hD, hS⟩) (trivial) ((lv_sub hl [0, 1] rfl))
  · intro H locs ls hJ hI0 hl
    obtain ⟨r1, f1, hEx, hP, hD, hS⟩ := hI0
    refine lv_iload_n hx hb dX3_sort_2 rfl (lv_at hl 0 rfl) ?_
    refine lv_aload_n hx hb dX3_sort_3 rfl (lv_at hl 1 rfl) ?_
    refine va_get (ci := 3) (C := RX3) (T := TX3) (N := 7) hx hb hts hiX3 hown hK hP 0 rfl rfl 6 (by decide) hf112 (fun _ h9 => h9) rfl dX3_sort_4 ?_
    refine lv_icmp_ge (tgt := 47) hx hb dX3_sort_7 (by decide) (fun c_1 => ?_) (fun c_1 => ?_)
    · replace c_1 := Int32.not_lt.mpr c_1
      exact W.vret hx hb hr (fun t9 ht hW => ⟨⟨(r1, f1), rfl, (by rw [← zso_end hkn]; exact hEx), zP_ht ht hP⟩, hS.F ht⟩) hS.2.2 dX3_sort_47
    · replace c_1 := Int32.not_le.mp c_1
      exact absurd c_1 (nI_nlt (by omega) (by omega))
  · intro i hi hJ ihi H locs ls hI0 hl
    obtain ⟨r1, f1, hEx, hP, hD, hS⟩ := hI0
    have hgl : (zso L (1 + i)).length = 1 + i := zso_len (by omega)
    have hpz := zpos_le (zso L (1 + i)) (L.getD (1 + i) (0, 0)) (zso L (1 + i)).length
    refine lv_iload_n hx hb dX3_sort_2 rfl (lv_at hl 0 rfl) ?_
    refine lv_aload_n hx hb dX3_sort_3 rfl (lv_at hl 1 rfl) ?_
    refine va_get (ci := 3) (C := RX3) (T := TX3) (N := 7) hx hb hts hiX3 hown hK hP 0 rfl rfl 6 (by decide) hf112 (fun _ h9 => h9) rfl dX3_sort_4 ?_
    refine lv_icmp_ge (tgt := 47) hx hb dX3_sort_7 (by decide) (fun c_2 => ?_) (fun c_2 => ?_)
    · replace c_2 := Int32.not_lt.mpr c_2
      exact absurd (nI_lt (show 1 + i < kn by omega) (by omega)) c_2
    · replace c_2 := Int32.not_le.mp c_2
      refine lv_iload_n hx hb dX3_sort_10 rfl (lv_at hl 0 rfl) ?_
      refine lv_istore_n (lv' := [(2, .int (nI (1 + i))), (1, .int (nI (1 + i))), (0, .ref (q 0))]) hx hb dX3_sort_11 rfl hl (by decide) rfl (fun ls hl => ?_)
      rw [show ((nI (1 + i)) : Int32) = (nI (1 + i - 0)) from by rw [Nat.sub_zero]] at hl
      refine zz_forHJ (P := fun H locs g => W p l e _ s m _ below meth c H locs _ _ _ g) (nL := 3) (1 + i - zpos (zso L (1 + i)) (L.getD (1 + i) (0, 0)) (zso L (1 + i)).length) (fun j => [(2, .int (nI (1 + i - j))), (1, .int (nI (1 + i))), (0, .ref (q 0))]) (fun j H locs => ∃ r2 : Nat → Int32, ∃ f2 : Nat → Int32, zRL (r2, f2, kn) (zmid (zso L (1 + i)) (L.getD (1 + i) (0, 0)) (L.drop (1 + i + 1)) (1 + i - j)) ∧ va_P D vwCl (zcM cI cZ q (zst a) im kp lf r2 f2 kn) H ∧ va_D A (zcM cI cZ q (zst a) im kp lf r2 f2 kn) ∧ va_S A s.heap H locs) (J := fun _ => True) ?_ ?_ (⟨_, _, by rw [Nat.sub_zero, zmid_start (by omega)]; exact hEx, hP, hD, hS⟩) (trivial) ((lv_sub hl [0, 1, 2] rfl))
      · intro H locs ls hJ hI0 hl
        obtain ⟨r2, f2, hEx, hP, hD, hS⟩ := hI0
        have hpe : 1 + i - (1 + i - zpos (zso L (1 + i)) (L.getD (1 + i) (0, 0)) (zso L (1 + i)).length) = zpos (zso L (1 + i)) (L.getD (1 + i) (0, 0)) (zso L (1 + i)).length := by omega
        rw [hpe] at hl hEx
        refine lv_iload_n hx hb dX3_sort_12 rfl (lv_at hl 0 rfl) ?_
        refine lv_if_le (tgt := 41) hx hb dX3_sort_13 (by decide) (fun c_3 => ?_) (fun c_3 => ?_)
        · replace c_3 := Int32.not_lt.mpr c_3
          rw [zmid_end (by omega)] at hEx
          refine lv_iinc (v := (nI ((1 + i) + 1))) (lv' := [(1, .int (nI ((1 + i) + 1))), (2, .int (nI (zpos (zso L (1 + i)) (L.getD (1 + i) (0, 0)) (zso L (1 + i)).length))), (0, .ref (q 0))]) hx hb dX3_sort_41 hl (k := 1) rfl (zz_inc _) (by decide) rfl (fun ls hl => ?_)
          refine lv_goto (tgt := 2) hx hb dX3_sort_44 (by decide) ?_
          have hl : lv_has ls 3 [(1, .int (nI (1 + (i + 1)))), (2, .int (nI (zpos (zso L (1 + i)) (L.getD (1 + i) (0, 0)) (zso L (1 + i)).length))), (0, .ref (q 0))] := hl
          exact ihi (trivial) _ _ ls (⟨_, _, hEx, hP, hD, hS⟩) (lv_sub hl [0, 2] rfl)
        · replace c_3 := Int32.not_le.mp c_3
          have hq1 : 0 < zpos (zso L (1 + i)) (L.getD (1 + i) (0, 0)) (zso L (1 + i)).length := (nI_ltI (by decide) (by omega)).mp c_3
          refine lv_aload_n hx hb dX3_sort_16 rfl (lv_at hl 2 rfl) ?_
          refine lv_iload_n hx hb dX3_sort_17 rfl (lv_at hl 0 rfl) ?_
          refine lv_iload_n hx hb dX3_sort_18 rfl (lv_at hl 0 rfl) ?_
          refine lv_iconst (v := 1) hx hb dX3_sort_19 (by decide) ?_
          refine lv_isub hx hb dX3_sort_20 ?_
          refine zz_topi (nI ((zpos (zso L (1 + i)) (L.getD (1 + i) (0, 0)) (zso L (1 + i)).length) - 1)) (zz_subn rfl (show (1 : Int32) = nI 1 from rfl) (by omega)) ?_
          refine zz_cVi (cs := zcM cI cZ q (zst a) im kp lf r2 f2 kn) (As := [.int (nI (zpos (zso L (1 + i)) (L.getD (1 + i) (0, 0)) (zso L (1 + i)).length)), .int (nI ((zpos (zso L (1 + i)) (L.getD (1 + i) (0, 0)) (zso L (1 + i)).length) - 1))]) (rest := []) ⟨hx, hb, hml, hown, hts⟩ (c_X3_isAhead l D cI cZ hs ta q a im kp lf r2 f2 kn (zpos (zso L (1 + i)) (L.getD (1 + i) (0, 0)) (zso L (1 + i)).length) ((zpos (zso L (1 + i)) (L.getD (1 + i) (0, 0)) (zso L (1 + i)).length) - 1) (by omega) (by omega)) (cwV 2 hts gX3_sort_X3_isAhead rfl rfl rfl (by decide +kernel) ⟨Nat.le_of_ble_eq_true rfl, Nat.le_of_ble_eq_true rfl⟩) (va_recv hK hP (ci := 3) (q0 := 0) rfl rfl) hP hD hG hS hAz rfl hl.1 rfl (Nat.le_of_ble_eq_true rfl) ⟨Nat.zero_le _, Nat.zero_le _⟩ dX3_sort_21 (fun r_4 er_4 => ?_)
          refine lv_if_eq (tgt := 41) hx hb dX3_sort_24 (by decide) (fun c_5 => ?_) (fun c_5 => ?_)
          · replace c_5 := zB_f er_4 c_5
            rw [zmid_end (by omega)] at hEx
            refine lv_iinc (v := (nI ((1 + i) + 1))) (lv' := [(1, .int (nI ((1 + i) + 1))), (2, .int (nI (zpos (zso L (1 + i)) (L.getD (1 + i) (0, 0)) (zso L (1 + i)).length))), (0, .ref (q 0))]) hx hb dX3_sort_41 hl (k := 1) rfl (zz_inc _) (by decide) rfl (fun ls hl => ?_)
            refine lv_goto (tgt := 2) hx hb dX3_sort_44 (by decide) ?_
            have hl : lv_has ls 3 [(1, .int (nI (1 + (i + 1)))), (2, .int (nI (zpos (zso L (1 + i)) (L.getD (1 + i) (0, 0)) (zso L (1 + i)).length))), (0, .ref (q 0))] := hl
            exact ihi (trivial) _ _ ls (⟨_, _, hEx, hP, hD, hS⟩) (lv_sub hl [0, 2] rfl)
          · replace c_5 := zB_t er_4 c_5
            (exact absurd ((zmid_ah hEx hq1 (by omega)).mp c_5) ((zpos_2 (zso L (1 + i)) (L.getD (1 + i) (0, 0)) (zso L (1 + i)).length).resolve_left (by omega)))
      · intro j hj hJ ihj H locs ls hI0 hl
        obtain ⟨r2, f2, hEx, hP, hD, hS⟩ := hI0
        refine lv_iload_n hx hb dX3_sort_12 rfl (lv_at hl 0 rfl) ?_
        refine lv_if_le (tgt := 41) hx hb dX3_sort_13 (by decide) (fun c_6 => ?_) (fun c_6 => ?_)
        · replace c_6 := Int32.not_lt.mpr c_6
          exact absurd (nI_lt (show 0 < 1 + i - j by omega) (by omega)) c_6
        · replace c_6 := Int32.not_le.mp c_6
          have hq1 : 0 < 1 + i - j := (nI_ltI (by decide) (by omega)).mp c_6
          refine lv_aload_n hx hb dX3_sort_16 rfl (lv_at hl 2 rfl) ?_
          refine lv_iload_n hx hb dX3_sort_17 rfl (lv_at hl 0 rfl) ?_
          refine lv_iload_n hx hb dX3_sort_18 rfl (lv_at hl 0 rfl) ?_
          refine lv_iconst (v := 1) hx hb dX3_sort_19 (by decide) ?_
          refine lv_isub hx hb dX3_sort_20 ?_
          refine zz_topi (nI ((1 + i - j) - 1)) (zz_subn rfl (show (1 : Int32) = nI 1 from rfl) (by omega)) ?_
          refine zz_cVi (cs := zcM cI cZ q (zst a) im kp lf r2 f2 kn) (As := [.int (nI (1 + i - j)), .int (nI ((1 + i - j) - 1))]) (rest := []) ⟨hx, hb, hml, hown, hts⟩ (c_X3_isAhead l D cI cZ hs ta q a im kp lf r2 f2 kn (1 + i - j) ((1 + i - j) - 1) (by omega) (by omega)) (cwV 2 hts gX3_sort_X3_isAhead rfl rfl rfl (by decide +kernel) ⟨Nat.le_of_ble_eq_true rfl, Nat.le_of_ble_eq_true rfl⟩) (va_recv hK hP (ci := 3) (q0 := 0) rfl rfl) hP hD hG hS hAz rfl hl.1 rfl (Nat.le_of_ble_eq_true rfl) ⟨Nat.zero_le _, Nat.zero_le _⟩ dX3_sort_21 (fun r_7 er_7 => ?_)
          refine lv_if_eq (tgt := 41) hx hb dX3_sort_24 (by decide) (fun c_8 => ?_) (fun c_8 => ?_)
          · replace c_8 := zB_f er_7 c_8
            (exact absurd ((zmid_ah hEx (by omega) (by omega)).mpr (zpos_1 (zso L (1 + i)) (L.getD (1 + i) (0, 0)) (zso L (1 + i)).length (1 + i - j - 1) (by omega) (by omega))) c_8)
          · replace c_8 := zB_t er_7 c_8
            refine lv_aload_n hx hb dX3_sort_27 rfl (lv_at hl 2 rfl) ?_
            refine lv_iload_n hx hb dX3_sort_28 rfl (lv_at hl 0 rfl) ?_
            refine lv_iload_n hx hb dX3_sort_29 rfl (lv_at hl 0 rfl) ?_
            refine lv_iconst (v := 1) hx hb dX3_sort_30 (by decide) ?_
            refine lv_isub hx hb dX3_sort_31 ?_
            refine zz_topi (nI ((1 + i - j) - 1)) (zz_subn rfl (show (1 : Int32) = nI 1 from rfl) (by omega)) ?_
            refine zz_mVv (ct := (fun (u : (Nat → Int32) × (Nat → Int32)) => zcM cI cZ q (zst a) im kp lf u.1 u.2 kn)) (cs := zcM cI cZ q (zst a) im kp lf r2 f2 kn) (As := [.int (nI (1 + i - j)), .int (nI ((1 + i - j) - 1))]) (rest := []) ⟨hx, hb, hml, hown, hts⟩ (c_X3_swap l D cI cZ hs ta H.size q a im kp lf r2 f2 kn (1 + i - j) ((1 + i - j) - 1) (by omega) (by omega)) (fun _ => rfl) (cwV 2 hts gX3_sort_X3_swap rfl rfl rfl (by decide +kernel) ⟨Nat.le_of_ble_eq_true rfl, Nat.le_of_ble_eq_true rfl⟩) (va_recv hK hP (ci := 3) (q0 := 0) rfl rfl) hP hD hG hS hA hAz rfl hl.1 rfl (Nat.le_of_ble_eq_true rfl) ⟨Nat.zero_le _, Nat.zero_le _⟩ dX3_sort_32 (fun u_10 H locs eu_10 hP hD hS => ?_)
            have hEx : zRL (u_10.1, u_10.2, kn) (zmid (zso L (1 + i)) (L.getD (1 + i) (0, 0)) (L.drop (1 + i + 1)) (1 + i - (j + 1))) := by rw [eu_10, show 1 + i - (j + 1) = 1 + i - j - 1 by omega]; exact zmid_swap hEx (by omega) (by omega)
            have hP : va_P D vwCl (zcM cI cZ q (zst a) im kp lf u_10.1 u_10.2 kn) H := hP
            have hD : va_D A (zcM cI cZ q (zst a) im kp lf u_10.1 u_10.2 kn) := hD
            obtain ⟨v_11, ev_11⟩ : ∃ y : Int32, y = (nI (1 + i - j)) + (-1) := ⟨_, rfl⟩
            refine lv_iinc (v := v_11) (lv' := [(2, .int v_11), (1, .int (nI (1 + i))), (0, .ref (q 0))]) hx hb dX3_sort_35 hl (k := 0) rfl (by rw [ev_11]; rfl) (by decide) rfl (fun ls hl => ?_)
            refine lv_goto (tgt := 12) hx hb dX3_sort_38 (by decide) ?_
            obtain rfl : v_11 = (nI (1 + i - (j + 1))) := by rw [ev_11, show 1 + i - j = (1 + i - (j + 1)) + 1 by omega]; exact pk_m1 _
            exact ihj (trivial) _ _ ls (⟨_, _, hEx, hP, hD, hS⟩) (lv_sub hl [0, 1, 2] rfl)
set_option maxHeartbeats 4000000 in
set_option maxRecDepth 100000 in
theorem c_X3_layKept (l : Launch) (D : va_G) (cI cZ : ClassId) (hs ta : Nat) (sz : Nat) (q : Nat → Nat) (a : ZA) (im : Nat → Int32) (kp : Nat → Int32) (lf : Nat → Int32) (rw : Nat → Int32) (fn : Nat → Int32) (kn : Nat) (hI : zInv a) : Met l yX3_layKept wsX3_layKept ({ frames := 4, cells := 0, slots := 0, locals := 97 }) (va_Pc [.ref (q 0)] (fun U => U.heap.size = sz ∧ zPre D (zTy cI cZ) hs ta (zcM cI cZ q (zst a) im kp lf rw fn kn) U)) (va_Qv (fun (u : (Nat → Int32) × (Nat → Int32) × (Nat → Int32) × Nat) => zRL (u.2.1, u.2.2.1, u.2.2.2) (zkp a (2 ^ a.1))) (fun (u : (Nat → Int32) × (Nat → Int32) × (Nat → Int32) × Nat) t9 => va_P D vwCl (zcM cI cZ q (zst a) im kp u.1 u.2.1 u.2.2.1 u.2.2.2) t9.heap) (va_A (zcM cI cZ q (zst a) im kp lf rw fn kn) sz)) 0 0 (va_A (zcM cI cZ q (zst a) im kp lf rw fn kn) sz) := by
  refine Met.ofW (cc := cX3_layKept) (maxL := 4) (ret := none) (by decide) rfl ?_
  intro p e s m args below meth c s₁ B hml hv0
  obtain ⟨rfl, hsz, hP, hD0, hG⟩ := hv0
  have hx := B.exec
  have hb := B.bytes
  have hr := B.returns
  have hts := atoms_spec (ws := wsX3_layKept) B.pre
  have hown : s.vm.findClass RX3 = some m.cls := findClass_of_methodNamed B.named
  have hlocks := B.notSynchronized
  subst hsz
  have hD := hD0.self (sz := s.heap.size)
  have hAz0 : ∀ y9, va_A (zcM cI cZ q (zst a) im kp lf rw fn kn) s.heap.size y9 → hs ≤ y9 := zA_of hD0 (fun y9 h => Nat.le_trans hG.2.2.2.2 h) (va_S.rf (A := zA hs) (H0 := s.heap))
  generalize hAe : va_A (zcM cI cZ q (zst a) im kp lf rw fn kn) s.heap.size = A at hD hAz0 ⊢
  have hA : ∀ y9 : Nat, s.heap.size ≤ y9 → A y9 := fun y9 h => by rw [← hAe]; exact Or.inr h
  have hS : va_S A s.heap s.heap [] := va_S.rf
  have hAz : ∀ y9, A y9 → hs ≤ y9 := hAz0
  have hK := hG.1
  have hl := lv_entry ([.ref (q 0)]) (n := 4) (Nat.le_of_ble_eq_true rfl)
  rw [lg_entry_eq]
  generalize (lg_sl ([.ref (q 0)]) ++ List.replicate (4 - (lg_sl ([.ref (q 0)])).length) Slot.unset).toArray = ls at hl ⊢
  have hl : lv_has ls 4 [(0, .ref (q 0))] := hl
  have hf112 := hts (.fieldLink RX3 112 "FrozenBitsModel" "kept" "I") (List.mem_of_getElem? (i := 1) rfl)
  have hiX3 : ∀ w ∈ u_ws RX3 TX3 7, w ∈ wsX3_layKept := fun w h => List.mem_cons_of_mem _ (List.mem_append_right _ h)
  have hf23 := hts (.fieldLink RX3 23 "FrozenBitsModel" "rows" "[I") (List.mem_of_getElem? (i := 2) rfl)
  have hf26 := hts (.fieldLink RX3 26 "FrozenBitsModel" "fines" "[I") (List.mem_of_getElem? (i := 3) rfl)
  have hf7 := hts (.fieldLink RX3 7 "FrozenBitsModel" "state" "[I") (List.mem_of_getElem? (i := 4) rfl)
  have h16 := zNp hI
  refine lv_aload_n hx hb dX3_layKept_0 rfl (lv_at hl 0 rfl) ?_
  refine lv_iconst (v := 1) hx hb dX3_layKept_1 (by decide) ?_
  refine zz_topi (nI (1)) (show (1 : Int32) = nI 1 from rfl) ?_
  refine va_put (ci := 3) (v := .int (nI (1))) (ty := .int) (C := RX3) (T := TX3) (N := 7) hx hb hts hiX3 tyX3 tyX3_ok nmX3 hown hK hP hD hS 0 rfl rfl 6 (by decide) hf112 (fun _ h9 => h9) rfl (by decide +kernel) rfl rfl (Nat.le_of_ble_eq_true rfl) dX3_layKept_2 (fun H locs hP hD hS => ?_)
  have hP : va_P D vwCl (zcM cI cZ q (zst a) im kp lf rw fn 1) H := hP
  have hD : va_D A (zcM cI cZ q (zst a) im kp lf rw fn 1) := hD
  refine lv_aload_n hx hb dX3_layKept_5 rfl (lv_at hl 0 rfl) ?_
  refine va_get (ci := 3) (C := RX3) (T := TX3) (N := 7) hx hb hts hiX3 hown hK hP 0 rfl rfl 4 (by decide) hf23 (fun _ h9 => h9) rfl dX3_layKept_6 ?_
  refine lv_iconst (v := 0) hx hb dX3_layKept_9 (by decide) ?_
  refine lv_iconst (v := 0) hx hb dX3_layKept_10 (by decide) ?_
  refine zz_iast hx hb hK hP hD hS 5 0 rfl rfl (i := 0) (show (0 : Int32) = nI 0 from rfl) (by decide) (by decide) dX3_layKept_11 (fun H locs hP hD hS => ?_)
  have hP : va_P D vwCl (zcM cI cZ q (zst a) im kp lf (upd rw 0 0) fn 1) H := hP
  have hD : va_D A (zcM cI cZ q (zst a) im kp lf (upd rw 0 0) fn 1) := hD
  refine lv_aload_n hx hb dX3_layKept_12 rfl (lv_at hl 0 rfl) ?_
  refine va_get (ci := 3) (C := RX3) (T := TX3) (N := 7) hx hb hts hiX3 hown hK hP 0 rfl rfl 5 (by decide) hf26 (fun _ h9 => h9) rfl dX3_layKept_13 ?_
  refine lv_iconst (v := 0) hx hb dX3_layKept_16 (by decide) ?_
  refine lv_iconst (v := 0) hx hb dX3_layKept_17 (by decide) ?_
  refine zz_iast hx hb hK hP hD hS 6 0 rfl rfl (i := 0) (show (0 : Int32) = nI 0 from rfl) (by decide) (by decide) dX3_layKept_18 (fun H locs hP hD hS => ?_)
  have hP : va_P D vwCl (zcM cI cZ q (zst a) im kp lf (upd rw 0 0) (upd fn 0 0) 1) H := hP
  have hD : va_D A (zcM cI cZ q (zst a) im kp lf (upd rw 0 0) (upd fn 0 0) 1) := hD
  refine lv_iconst (v := 0) hx hb dX3_layKept_19 (by decide) ?_
  refine lv_istore_n (lv' := [(1, .int 0), (0, .ref (q 0))]) hx hb dX3_layKept_20 rfl hl (by decide) rfl (fun ls hl => ?_)
  have hl : lv_has ls 4 [(1, .int (nI 0)), (0, .ref (q 0))] := hl
  refine zz_forHJ (P := fun H locs g => W p l e _ s m _ below meth c H locs _ _ _ g) (nL := 4) (2 ^ a.1) (fun j => [(1, .int (nI j)), (0, .ref (q 0))]) (fun j H locs => ∃ l1 : Nat → Int32, ∃ r1 : Nat → Int32, ∃ f1 : Nat → Int32, ∃ k1 : Nat, zRL (r1, f1, k1) (zkp a j) ∧ va_P D vwCl (zcM cI cZ q (zst a) im kp l1 r1 f1 k1) H ∧ va_D A (zcM cI cZ q (zst a) im kp l1 r1 f1 k1) ∧ va_S A s.heap H locs) (J := fun _ => True) ?_ ?_ (⟨_, _, _, _, zRL_one _ _, hP, hD, hS⟩) (trivial) ((lv_sub hl [0, 1] rfl))
  · intro H locs ls hJ hI0 hl
    obtain ⟨l1, r1, f1, k1, hEx, hP, hD, hS⟩ := hI0
    refine lv_iload_n hx hb dX3_layKept_21 rfl (lv_at hl 0 rfl) ?_
    refine lv_aload_n hx hb dX3_layKept_22 rfl (lv_at hl 1 rfl) ?_
    refine zz_cVi (cs := zcM cI cZ q (zst a) im kp l1 r1 f1 k1) (As := []) (rest := [.int (nI ((2 ^ a.1)))]) ⟨hx, hb, hml, hown, hts⟩ (c_X3_places l D cI cZ hs ta q a im kp l1 r1 f1 k1 hI.1.2) (cwV 0 hts gX3_layKept_X3_places rfl rfl rfl (by decide +kernel) ⟨Nat.le_of_ble_eq_true rfl, Nat.le_of_ble_eq_true rfl⟩) (va_recv hK hP (ci := 3) (q0 := 0) rfl rfl) hP hD hG hS hAz rfl hl.1 rfl (Nat.le_of_ble_eq_true rfl) ⟨Nat.zero_le _, Nat.zero_le _⟩ dX3_layKept_23 (fun r_1 er_1 => ?_)
    subst er_1
    refine lv_icmp_ge (tgt := 178) hx hb dX3_layKept_26 (by decide) (fun c_2 => ?_) (fun c_2 => ?_)
    · replace c_2 := Int32.not_lt.mpr c_2
      exact W.vret hx hb hr (fun t9 ht hW => ⟨⟨(l1, r1, f1, k1), rfl, (hEx), zP_ht ht hP⟩, hS.F ht⟩) hS.2.2 dX3_layKept_178
    · replace c_2 := Int32.not_le.mp c_2
      exact absurd c_2 (nI_nlt (Nat.le_refl _) (by omega))
  · intro j hj hJ ihj H locs ls hI0 hl
    obtain ⟨l1, r1, f1, k1, hEx, hP, hD, hS⟩ := hI0
    have h8 := zkp_len hI j
    refine lv_iload_n hx hb dX3_layKept_21 rfl (lv_at hl 0 rfl) ?_
    refine lv_aload_n hx hb dX3_layKept_22 rfl (lv_at hl 1 rfl) ?_
    refine zz_cVi (cs := zcM cI cZ q (zst a) im kp l1 r1 f1 k1) (As := []) (rest := [.int (nI j)]) ⟨hx, hb, hml, hown, hts⟩ (c_X3_places l D cI cZ hs ta q a im kp l1 r1 f1 k1 hI.1.2) (cwV 0 hts gX3_layKept_X3_places rfl rfl rfl (by decide +kernel) ⟨Nat.le_of_ble_eq_true rfl, Nat.le_of_ble_eq_true rfl⟩) (va_recv hK hP (ci := 3) (q0 := 0) rfl rfl) hP hD hG hS hAz rfl hl.1 rfl (Nat.le_of_ble_eq_true rfl) ⟨Nat.zero_le _, Nat.zero_le _⟩ dX3_layKept_23 (fun r_3 er_3 => ?_)
    subst er_3
    refine lv_icmp_ge (tgt := 178) hx hb dX3_layKept_26 (by decide) (fun c_4 => ?_) (fun c_4 => ?_)
    · replace c_4 := Int32.not_lt.mpr c_4
      exact absurd (nI_lt hj (by omega)) c_4
    · replace c_4 := Int32.not_le.mp c_4
      refine lv_aload_n hx hb dX3_layKept_29 rfl (lv_at hl 1 rfl) ?_
      refine va_get (ci := 3) (C := RX3) (T := TX3) (N := 7) hx hb hts hiX3 hown hK hP 0 rfl rfl 6 (by decide) hf112 (fun _ h9 => h9) rfl dX3_layKept_30 ?_
      refine zz_topi (nI ((zkp a j).length)) (by rw [show k1 = (zkp a j).length from hEx.1]) ?_
      refine lv_istore_n (lv' := [(2, .int (nI ((zkp a j).length))), (1, .int (nI j)), (0, .ref (q 0))]) hx hb dX3_layKept_33 rfl hl (by decide) rfl (fun ls hl => ?_)
      refine lv_iconst (v := 0) hx hb dX3_layKept_34 (by decide) ?_
      refine lv_istore_n (lv' := [(3, .int 0), (2, .int (nI ((zkp a j).length))), (1, .int (nI j)), (0, .ref (q 0))]) hx hb dX3_layKept_35 rfl hl (by decide) rfl (fun ls hl => ?_)
      have hl : lv_has ls 4 [(3, .int (nI 0)), (2, .int (nI ((zkp a j).length))), (1, .int (nI j)), (0, .ref (q 0))] := hl
      refine zz_forHJ (P := fun H locs g => W p l e _ s m _ below meth c H locs _ _ _ g) (nL := 4) ((zkp a j).length) (fun i => [(3, .int (nI i)), (2, .int (nI ((zkp a j).length))), (1, .int (nI j)), (0, .ref (q 0))]) (fun i H locs => ∃ l2 : Nat → Int32, ∃ r2 : Nat → Int32, ∃ f2 : Nat → Int32, ∃ k2 : Nat, zRL (r2, f2, k2) (zla a j (zkp a j) i) ∧ va_P D vwCl (zcM cI cZ q (zst a) im kp l2 r2 f2 k2) H ∧ va_D A (zcM cI cZ q (zst a) im kp l2 r2 f2 k2) ∧ va_S A s.heap H locs) (J := fun _ => True) ?_ ?_ (⟨_, _, _, _, by rw [zla_0]; exact hEx, hP, hD, hS⟩) (trivial) ((lv_sub hl [0, 1, 2, 3] rfl))
      · intro H locs ls hJ hI0 hl
        obtain ⟨l2, r2, f2, k2, hEx, hP, hD, hS⟩ := hI0
        refine lv_iload_n hx hb dX3_layKept_36 rfl (lv_at hl 0 rfl) ?_
        refine lv_iload_n hx hb dX3_layKept_37 rfl (lv_at hl 1 rfl) ?_
        refine lv_icmp_ge (tgt := 138) hx hb dX3_layKept_38 (by decide) (fun c_5 => ?_) (fun c_5 => ?_)
        · replace c_5 := Int32.not_lt.mpr c_5
          have hk2 : k2 = (zkp a j).length + (if Nat.testBit a.2.2.2.1 j = true then 0 else (zkp a j).length) := hEx.1.trans (zla_len (Nat.le_refl _))
          have hk16 : k2 ≤ 16 := by rw [hk2]; split <;> omega
          have hz16 : (zla a j (zkp a j) (zkp a j).length).length ≤ 16 := by rw [← hEx.1]; exact hk16
          refine lv_aload_n hx hb dX3_layKept_138 rfl (lv_at hl 3 rfl) ?_
          refine zz_mVv (ct := (fun (u : (Nat → Int32) × (Nat → Int32)) => zcM cI cZ q (zst a) im kp l2 u.1 u.2 k2)) (cs := zcM cI cZ q (zst a) im kp l2 r2 f2 k2) (As := []) (rest := []) ⟨hx, hb, hml, hown, hts⟩ (c_X3_sort l D cI cZ hs ta H.size q a im kp l2 r2 f2 k2 ((zla a j (zkp a j) (zkp a j).length)) hEx hz16) (fun _ => rfl) (cwV 0 hts gX3_layKept_X3_sort rfl rfl rfl (by decide +kernel) ⟨Nat.le_of_ble_eq_true rfl, Nat.le_of_ble_eq_true rfl⟩) (va_recv hK hP (ci := 3) (q0 := 0) rfl rfl) hP hD hG hS hA hAz rfl hl.1 rfl (Nat.le_of_ble_eq_true rfl) ⟨Nat.zero_le _, Nat.zero_le _⟩ dX3_layKept_139 (fun u_7 H locs eu_7 hP hD hS => ?_)
          have hEx := eu_7
          have hP : va_P D vwCl (zcM cI cZ q (zst a) im kp l2 u_7.1 u_7.2 k2) H := hP
          have hD : va_D A (zcM cI cZ q (zst a) im kp l2 u_7.1 u_7.2 k2) := hD
          refine lv_aload_n hx hb dX3_layKept_142 rfl (lv_at hl 3 rfl) ?_
          refine lv_aload_n hx hb dX3_layKept_143 rfl (lv_at hl 3 rfl) ?_
          refine va_get (ci := 3) (C := RX3) (T := TX3) (N := 7) hx hb hts hiX3 hown hK hP 0 rfl rfl 6 (by decide) hf112 (fun _ h9 => h9) rfl dX3_layKept_144 ?_
          refine lv_aload_n hx hb dX3_layKept_147 rfl (lv_at hl 3 rfl) ?_
          refine va_get (ci := 3) (C := RX3) (T := TX3) (N := 7) hx hb hts hiX3 hown hK hP 0 rfl rfl 0 (by decide) hf7 (fun _ h9 => h9) rfl dX3_layKept_148 ?_
          refine lv_iconst (v := 4) hx hb dX3_layKept_151 (by decide) ?_
          refine zz_iald hx hb hK hP 1 0 rfl rfl (i := 4) (show (4 : Int32) = nI 4 from rfl) (by decide) (by decide) dX3_layKept_152 ?_
          refine zz_topi (nI (a.2.2.2.2.1)) rfl ?_
          refine lv_icmp_le (tgt := 165) hx hb dX3_layKept_153 (by decide) (fun c_8 => ?_) (fun c_8 => ?_)
          · replace c_8 := Int32.not_lt.mpr c_8
            replace c_8 : ¬ a.2.2.2.2.1 < k2 := fun q => c_8 (nI_lt q (by omega))
            refine lv_aload_n hx hb dX3_layKept_165 rfl (lv_at hl 3 rfl) ?_
            refine va_get (ci := 3) (C := RX3) (T := TX3) (N := 7) hx hb hts hiX3 hown hK hP 0 rfl rfl 6 (by decide) hf112 (fun _ h9 => h9) rfl dX3_layKept_166 ?_
            refine va_put (ci := 3) (v := .int (nI (k2))) (ty := .int) (C := RX3) (T := TX3) (N := 7) hx hb hts hiX3 tyX3 tyX3_ok nmX3 hown hK hP hD hS 0 rfl rfl 6 (by decide) hf112 (fun _ h9 => h9) rfl (by decide +kernel) rfl rfl (Nat.le_of_ble_eq_true rfl) dX3_layKept_169 (fun H locs hP hD hS => ?_)
            have hP : va_P D vwCl (zcM cI cZ q (zst a) im kp l2 u_7.1 u_7.2 k2) H := hP
            have hD : va_D A (zcM cI cZ q (zst a) im kp l2 u_7.1 u_7.2 k2) := hD
            refine lv_iinc (v := (nI (j + 1))) (lv' := [(1, .int (nI (j + 1))), (3, .int (nI (((zkp a j).length)))), (2, .int (nI ((zkp a j).length))), (0, .ref (q 0))]) hx hb dX3_layKept_172 hl (k := 2) rfl (zz_inc _) (by decide) rfl (fun ls hl => ?_)
            refine lv_goto (tgt := 21) hx hb dX3_layKept_175 (by decide) ?_
            have hl : lv_has ls 4 [(1, .int (nI ((j + 1)))), (3, .int (nI (((zkp a j).length)))), (2, .int (nI ((zkp a j).length))), (0, .ref (q 0))] := hl
            exact ihj (trivial) _ _ ls (⟨_, _, _, _, by rw [← zkp_ref hI hj]; exact zRL_cutT hEx c_8, hP, hD, hS⟩) (lv_sub hl [0, 3] rfl)
          · replace c_8 := Int32.not_le.mp c_8
            replace c_8 := (nI_ltI (by have := hI.2.2.2.1.2; omega) (by omega)).mp c_8
            refine lv_aload_n hx hb dX3_layKept_156 rfl (lv_at hl 3 rfl) ?_
            refine va_get (ci := 3) (C := RX3) (T := TX3) (N := 7) hx hb hts hiX3 hown hK hP 0 rfl rfl 0 (by decide) hf7 (fun _ h9 => h9) rfl dX3_layKept_157 ?_
            refine lv_iconst (v := 4) hx hb dX3_layKept_160 (by decide) ?_
            refine zz_iald hx hb hK hP 1 0 rfl rfl (i := 4) (show (4 : Int32) = nI 4 from rfl) (by decide) (by decide) dX3_layKept_161 ?_
            refine zz_topi (nI (a.2.2.2.2.1)) rfl ?_
            refine lv_goto (tgt := 169) hx hb dX3_layKept_162 (by decide) ?_
            refine va_put (ci := 3) (v := .int (nI (a.2.2.2.2.1))) (ty := .int) (C := RX3) (T := TX3) (N := 7) hx hb hts hiX3 tyX3 tyX3_ok nmX3 hown hK hP hD hS 0 rfl rfl 6 (by decide) hf112 (fun _ h9 => h9) rfl (by decide +kernel) rfl rfl (Nat.le_of_ble_eq_true rfl) dX3_layKept_169 (fun H locs hP hD hS => ?_)
            have hP : va_P D vwCl (zcM cI cZ q (zst a) im kp l2 u_7.1 u_7.2 a.2.2.2.2.1) H := hP
            have hD : va_D A (zcM cI cZ q (zst a) im kp l2 u_7.1 u_7.2 a.2.2.2.2.1) := hD
            refine lv_iinc (v := (nI (j + 1))) (lv' := [(1, .int (nI (j + 1))), (3, .int (nI (((zkp a j).length)))), (2, .int (nI ((zkp a j).length))), (0, .ref (q 0))]) hx hb dX3_layKept_172 hl (k := 2) rfl (zz_inc _) (by decide) rfl (fun ls hl => ?_)
            refine lv_goto (tgt := 21) hx hb dX3_layKept_175 (by decide) ?_
            have hl : lv_has ls 4 [(1, .int (nI ((j + 1)))), (3, .int (nI (((zkp a j).length)))), (2, .int (nI ((zkp a j).length))), (0, .ref (q 0))] := hl
            exact ihj (trivial) _ _ ls (⟨_, _, _, _, by rw [← zkp_ref hI hj]; exact zRL_cutF hEx c_8, hP, hD, hS⟩) (lv_sub hl [0, 3] rfl)
        · replace c_5 := Int32.not_le.mp c_5
          exact absurd c_5 (nI_nlt (Nat.le_refl _) (by omega))
      · intro i hi hJ ihi H locs ls hI0 hl
        obtain ⟨l2, r2, f2, k2, hEx, hP, hD, hS⟩ := hI0
        have hk2 : k2 = (zkp a j).length + (if Nat.testBit a.2.2.2.1 j = true then 0 else i) := hEx.1.trans (zla_len (by omega))
        have hat := hEx.2 i (by rw [zla_len (by omega)]; omega)
        rw [zla_at hi] at hat
        dsimp only at hat
        refine lv_iload_n hx hb dX3_layKept_36 rfl (lv_at hl 0 rfl) ?_
        refine lv_iload_n hx hb dX3_layKept_37 rfl (lv_at hl 1 rfl) ?_
        refine lv_icmp_ge (tgt := 138) hx hb dX3_layKept_38 (by decide) (fun c_9 => ?_) (fun c_9 => ?_)
        · replace c_9 := Int32.not_lt.mpr c_9
          exact absurd (nI_lt hi (by omega)) c_9
        · replace c_9 := Int32.not_le.mp c_9
          refine lv_aload_n hx hb dX3_layKept_41 rfl (lv_at hl 3 rfl) ?_
          refine zz_cVi (cs := zcM cI cZ q (zst a) im kp l2 r2 f2 k2) (As := []) (rest := []) ⟨hx, hb, hml, hown, hts⟩ (c_X3_free l D cI cZ hs ta q a im kp l2 r2 f2 k2 hI) (cwV 0 hts gX3_layKept_X3_free rfl rfl rfl (by decide +kernel) ⟨Nat.le_of_ble_eq_true rfl, Nat.le_of_ble_eq_true rfl⟩) (va_recv hK hP (ci := 3) (q0 := 0) rfl rfl) hP hD hG hS hAz rfl hl.1 rfl (Nat.le_of_ble_eq_true rfl) ⟨Nat.zero_le _, Nat.zero_le _⟩ dX3_layKept_42 (fun r_10 er_10 => ?_)
          subst er_10
          refine lv_iload_n hx hb dX3_layKept_45 rfl (lv_at hl 2 rfl) ?_
          refine lv_ishr hx hb dX3_layKept_46 ?_
          refine zz_topi (nI ((zfre a) >>> j)) (zz_shrn rfl rfl (by have := zfre_lt hI; omega) (by omega)) ?_
          refine lv_iconst (v := 1) hx hb dX3_layKept_47 (by decide) ?_
          refine lv_iand hx hb dX3_layKept_48 ?_
          refine zz_topi (nI (((zfre a) >>> j) &&& 1)) (zz_andn rfl (show (1 : Int32) = nI 1 from rfl)) ?_
          refine lv_iconst (v := 1) hx hb dX3_layKept_49 (by decide) ?_
          refine lv_icmp_ne (tgt := 112) hx hb dX3_layKept_50 (by decide) (fun c_11 => ?_) (fun c_11 => ?_)
          · replace c_11 := Classical.not_not.mp (fun q => c_11 ((zI_1 (zand1 _)).mpr ((zfre_1 hI hj).mpr q)))
            rw [if_pos c_11] at hk2
            refine lv_aload_n hx hb dX3_layKept_112 rfl (lv_at hl 3 rfl) ?_
            refine va_get (ci := 3) (C := RX3) (T := TX3) (N := 7) hx hb hts hiX3 hown hK hP 0 rfl rfl 5 (by decide) hf26 (fun _ h9 => h9) rfl dX3_layKept_113 ?_
            refine lv_iload_n hx hb dX3_layKept_116 rfl (lv_at hl 0 rfl) ?_
            refine lv_dup2_11 hx hb dX3_layKept_117 rfl rfl ?_
            refine zz_iald hx hb hK hP 6 0 rfl rfl (i := i) rfl (by omega) (by decide) dX3_layKept_118 ?_
            refine zz_topi (((zkp a j).getD i (0, 0)).2) (hat.2.1) ?_
            refine lv_aload_n hx hb dX3_layKept_119 rfl (lv_at hl 3 rfl) ?_
            refine lv_iload_n hx hb dX3_layKept_120 rfl (lv_at hl 2 rfl) ?_
            refine lv_aload_n hx hb dX3_layKept_121 rfl (lv_at hl 3 rfl) ?_
            refine va_get (ci := 3) (C := RX3) (T := TX3) (N := 7) hx hb hts hiX3 hown hK hP 0 rfl rfl 4 (by decide) hf23 (fun _ h9 => h9) rfl dX3_layKept_122 ?_
            refine lv_iload_n hx hb dX3_layKept_125 rfl (lv_at hl 0 rfl) ?_
            refine zz_iald hx hb hK hP 5 0 rfl rfl (i := i) rfl (by omega) (by decide) dX3_layKept_126 ?_
            refine zz_topi (nI (((zkp a j).getD i (0, 0)).1)) (hat.1) ?_
            refine zz_mVi (ct := (fun (u : Nat → Int32) => zcM cI cZ q (zst a) im kp u r2 f2 k2)) (cs := zcM cI cZ q (zst a) im kp l2 r2 f2 k2) (As := [.int (nI j), .int (nI (((zkp a j).getD i (0, 0)).1))]) (rest := [.int (((zkp a j).getD i (0, 0)).2), .int (nI i), .ref (q 6)]) ⟨hx, hb, hml, hown, hts⟩ (c_X3_fineOf l D cI cZ hs ta H.size q a im kp l2 r2 f2 k2 j (((zkp a j).getD i (0, 0)).1) hI hj hat.2.2) (fun _ => rfl) (cwV 2 hts gX3_layKept_X3_fineOf rfl rfl rfl (by decide +kernel) ⟨Nat.le_of_ble_eq_true rfl, Nat.le_of_ble_eq_true rfl⟩) (va_recv hK hP (ci := 3) (q0 := 0) rfl rfl) hP hD hG hS hA hAz rfl hl.1 rfl (Nat.le_of_ble_eq_true rfl) ⟨Nat.zero_le _, Nat.zero_le _⟩ dX3_layKept_127 (fun r_12 u_13 H locs eu_13 hP hD hS => ?_)
            subst eu_13
            have hP : va_P D vwCl (zcM cI cZ q (zst a) im kp u_13 r2 f2 k2) H := hP
            have hD : va_D A (zcM cI cZ q (zst a) im kp u_13 r2 f2 k2) := hD
            refine lv_iadd hx hb dX3_layKept_130 ?_
            refine zz_iast hx hb hK hP hD hS 6 0 rfl rfl (i := i) rfl (by omega) (by decide) dX3_layKept_131 (fun H locs hP hD hS => ?_)
            have hP : va_P D vwCl (zcM cI cZ q (zst a) im kp u_13 r2 (upd f2 i ((((zkp a j).getD i (0, 0)).2) + (zfb (zsee a.2.2.2.2.2.1 a.1 j (((zkp a j).getD i (0, 0)).1)) (Nat.testBit (((zkp a j).getD i (0, 0)).1) j)))) k2) H := hP
            have hD : va_D A (zcM cI cZ q (zst a) im kp u_13 r2 (upd f2 i ((((zkp a j).getD i (0, 0)).2) + (zfb (zsee a.2.2.2.2.2.1 a.1 j (((zkp a j).getD i (0, 0)).1)) (Nat.testBit (((zkp a j).getD i (0, 0)).1) j)))) k2) := hD
            refine lv_iinc (v := (nI (i + 1))) (lv' := [(3, .int (nI (i + 1))), (2, .int (nI ((zkp a j).length))), (1, .int (nI j)), (0, .ref (q 0))]) hx hb dX3_layKept_132 hl (k := 0) rfl (zz_inc _) (by decide) rfl (fun ls hl => ?_)
            refine lv_goto (tgt := 36) hx hb dX3_layKept_135 (by decide) ?_
            have hl : lv_has ls 4 [(3, .int (nI ((i + 1)))), (2, .int (nI ((zkp a j).length))), (1, .int (nI j)), (0, .ref (q 0))] := hl
            exact ihi (trivial) _ _ ls (⟨_, _, _, _, zla_stepZ hEx hi c_11, hP, hD, hS⟩) (lv_sub hl [0, 1, 2, 3] rfl)
          · replace c_11 := (zfre_1 hI hj).mp ((zI_1 (zand1 _)).mp c_11)
            rw [if_neg c_11] at hk2
            refine lv_aload_n hx hb dX3_layKept_53 rfl (lv_at hl 3 rfl) ?_
            refine va_get (ci := 3) (C := RX3) (T := TX3) (N := 7) hx hb hts hiX3 hown hK hP 0 rfl rfl 4 (by decide) hf23 (fun _ h9 => h9) rfl dX3_layKept_54 ?_
            refine lv_aload_n hx hb dX3_layKept_57 rfl (lv_at hl 3 rfl) ?_
            refine va_get (ci := 3) (C := RX3) (T := TX3) (N := 7) hx hb hts hiX3 hown hK hP 0 rfl rfl 6 (by decide) hf112 (fun _ h9 => h9) rfl dX3_layKept_58 ?_
            refine lv_aload_n hx hb dX3_layKept_61 rfl (lv_at hl 3 rfl) ?_
            refine va_get (ci := 3) (C := RX3) (T := TX3) (N := 7) hx hb hts hiX3 hown hK hP 0 rfl rfl 4 (by decide) hf23 (fun _ h9 => h9) rfl dX3_layKept_62 ?_
            refine lv_iload_n hx hb dX3_layKept_65 rfl (lv_at hl 0 rfl) ?_
            refine zz_iald hx hb hK hP 5 0 rfl rfl (i := i) rfl (by omega) (by decide) dX3_layKept_66 ?_
            refine zz_topi (nI (((zkp a j).getD i (0, 0)).1)) (hat.1) ?_
            refine lv_iconst (v := 1) hx hb dX3_layKept_67 (by decide) ?_
            refine lv_iload_n hx hb dX3_layKept_68 rfl (lv_at hl 2 rfl) ?_
            refine lv_ishl hx hb dX3_layKept_69 ?_
            refine zz_topi (nI (2 ^ j)) (zz_shl1n rfl (by omega)) ?_
            refine lv_ior hx hb dX3_layKept_70 ?_
            refine zz_topi (nI ((((zkp a j).getD i (0, 0)).1) ||| (2 ^ j))) (zz_orn rfl rfl) ?_
            refine zz_iast hx hb hK hP hD hS 5 0 rfl rfl (i := k2) rfl (by omega) (by decide) dX3_layKept_71 (fun H locs hP hD hS => ?_)
            have hP : va_P D vwCl (zcM cI cZ q (zst a) im kp l2 (upd r2 k2 (nI ((((zkp a j).getD i (0, 0)).1) ||| (2 ^ j)))) f2 k2) H := hP
            have hD : va_D A (zcM cI cZ q (zst a) im kp l2 (upd r2 k2 (nI ((((zkp a j).getD i (0, 0)).1) ||| (2 ^ j)))) f2 k2) := hD
            refine lv_aload_n hx hb dX3_layKept_72 rfl (lv_at hl 3 rfl) ?_
            refine va_get (ci := 3) (C := RX3) (T := TX3) (N := 7) hx hb hts hiX3 hown hK hP 0 rfl rfl 5 (by decide) hf26 (fun _ h9 => h9) rfl dX3_layKept_73 ?_
            refine lv_aload_n hx hb dX3_layKept_76 rfl (lv_at hl 3 rfl) ?_
            refine va_get (ci := 3) (C := RX3) (T := TX3) (N := 7) hx hb hts hiX3 hown hK hP 0 rfl rfl 6 (by decide) hf112 (fun _ h9 => h9) rfl dX3_layKept_77 ?_
            refine lv_aload_n hx hb dX3_layKept_80 rfl (lv_at hl 3 rfl) ?_
            refine va_get (ci := 3) (C := RX3) (T := TX3) (N := 7) hx hb hts hiX3 hown hK hP 0 rfl rfl 5 (by decide) hf26 (fun _ h9 => h9) rfl dX3_layKept_81 ?_
            refine lv_iload_n hx hb dX3_layKept_84 rfl (lv_at hl 0 rfl) ?_
            refine zz_iald hx hb hK hP 6 0 rfl rfl (i := i) rfl (by omega) (by decide) dX3_layKept_85 ?_
            refine zz_topi (((zkp a j).getD i (0, 0)).2) (hat.2.1) ?_
            refine lv_aload_n hx hb dX3_layKept_86 rfl (lv_at hl 3 rfl) ?_
            refine lv_iload_n hx hb dX3_layKept_87 rfl (lv_at hl 2 rfl) ?_
            refine lv_aload_n hx hb dX3_layKept_88 rfl (lv_at hl 3 rfl) ?_
            refine va_get (ci := 3) (C := RX3) (T := TX3) (N := 7) hx hb hts hiX3 hown hK hP 0 rfl rfl 4 (by decide) hf23 (fun _ h9 => h9) rfl dX3_layKept_89 ?_
            refine lv_aload_n hx hb dX3_layKept_92 rfl (lv_at hl 3 rfl) ?_
            refine va_get (ci := 3) (C := RX3) (T := TX3) (N := 7) hx hb hts hiX3 hown hK hP 0 rfl rfl 6 (by decide) hf112 (fun _ h9 => h9) rfl dX3_layKept_93 ?_
            refine zz_iald hx hb hK hP 5 0 rfl rfl (i := k2) rfl (by omega) (by decide) dX3_layKept_96 ?_
            refine zz_topi (nI (((zkp a j).getD i (0, 0)).1 ||| 2 ^ j)) (pk_us) ?_
            refine zz_mVi (ct := (fun (u : Nat → Int32) => zcM cI cZ q (zst a) im kp u (upd r2 k2 (nI ((((zkp a j).getD i (0, 0)).1) ||| (2 ^ j)))) f2 k2)) (cs := zcM cI cZ q (zst a) im kp l2 (upd r2 k2 (nI ((((zkp a j).getD i (0, 0)).1) ||| (2 ^ j)))) f2 k2) (As := [.int (nI j), .int (nI (((zkp a j).getD i (0, 0)).1 ||| 2 ^ j))]) (rest := [.int (((zkp a j).getD i (0, 0)).2), .int (nI k2), .ref (q 6)]) ⟨hx, hb, hml, hown, hts⟩ (c_X3_fineOf l D cI cZ hs ta H.size q a im kp l2 (upd r2 k2 (nI ((((zkp a j).getD i (0, 0)).1) ||| (2 ^ j)))) f2 k2 j (((zkp a j).getD i (0, 0)).1 ||| 2 ^ j) hI hj (Nat.or_lt_two_pow (n := 16) hat.2.2 (zp2_16 (by omega)))) (fun _ => rfl) (cwV 2 hts gX3_layKept_X3_fineOf rfl rfl rfl (by decide +kernel) ⟨Nat.le_of_ble_eq_true rfl, Nat.le_of_ble_eq_true rfl⟩) (va_recv hK hP (ci := 3) (q0 := 0) rfl rfl) hP hD hG hS hA hAz rfl hl.1 rfl (Nat.le_of_ble_eq_true rfl) ⟨Nat.zero_le _, Nat.zero_le _⟩ dX3_layKept_97 (fun r_14 u_15 H locs eu_15 hP hD hS => ?_)
            subst eu_15
            have hP : va_P D vwCl (zcM cI cZ q (zst a) im kp u_15 (upd r2 k2 (nI ((((zkp a j).getD i (0, 0)).1) ||| (2 ^ j)))) f2 k2) H := hP
            have hD : va_D A (zcM cI cZ q (zst a) im kp u_15 (upd r2 k2 (nI ((((zkp a j).getD i (0, 0)).1) ||| (2 ^ j)))) f2 k2) := hD
            refine lv_iadd hx hb dX3_layKept_100 ?_
            refine zz_iast hx hb hK hP hD hS 6 0 rfl rfl (i := k2) rfl (by omega) (by decide) dX3_layKept_101 (fun H locs hP hD hS => ?_)
            have hP : va_P D vwCl (zcM cI cZ q (zst a) im kp u_15 (upd r2 k2 (nI ((((zkp a j).getD i (0, 0)).1) ||| (2 ^ j)))) (upd f2 k2 ((((zkp a j).getD i (0, 0)).2) + (zfb (zsee a.2.2.2.2.2.1 a.1 j (((zkp a j).getD i (0, 0)).1 ||| 2 ^ j)) (Nat.testBit (((zkp a j).getD i (0, 0)).1 ||| 2 ^ j) j)))) k2) H := hP
            have hD : va_D A (zcM cI cZ q (zst a) im kp u_15 (upd r2 k2 (nI ((((zkp a j).getD i (0, 0)).1) ||| (2 ^ j)))) (upd f2 k2 ((((zkp a j).getD i (0, 0)).2) + (zfb (zsee a.2.2.2.2.2.1 a.1 j (((zkp a j).getD i (0, 0)).1 ||| 2 ^ j)) (Nat.testBit (((zkp a j).getD i (0, 0)).1 ||| 2 ^ j) j)))) k2) := hD
            refine lv_aload_n hx hb dX3_layKept_102 rfl (lv_at hl 3 rfl) ?_
            refine lv_dup hx hb dX3_layKept_103 rfl ?_
            refine va_get (ci := 3) (C := RX3) (T := TX3) (N := 7) hx hb hts hiX3 hown hK hP 0 rfl rfl 6 (by decide) hf112 (fun _ h9 => h9) rfl dX3_layKept_104 ?_
            refine lv_iconst (v := 1) hx hb dX3_layKept_107 (by decide) ?_
            refine lv_iadd hx hb dX3_layKept_108 ?_
            refine zz_topi (nI (k2 + 1)) (zz_addn rfl (show (1 : Int32) = nI 1 from rfl)) ?_
            refine va_put (ci := 3) (v := .int (nI (k2 + 1))) (ty := .int) (C := RX3) (T := TX3) (N := 7) hx hb hts hiX3 tyX3 tyX3_ok nmX3 hown hK hP hD hS 0 rfl rfl 6 (by decide) hf112 (fun _ h9 => h9) rfl (by decide +kernel) rfl rfl (Nat.le_of_ble_eq_true rfl) dX3_layKept_109 (fun H locs hP hD hS => ?_)
            have hP : va_P D vwCl (zcM cI cZ q (zst a) im kp u_15 (upd r2 k2 (nI ((((zkp a j).getD i (0, 0)).1) ||| (2 ^ j)))) (upd f2 k2 ((((zkp a j).getD i (0, 0)).2) + (zfb (zsee a.2.2.2.2.2.1 a.1 j (((zkp a j).getD i (0, 0)).1 ||| 2 ^ j)) (Nat.testBit (((zkp a j).getD i (0, 0)).1 ||| 2 ^ j) j)))) (k2 + 1)) H := hP
            have hD : va_D A (zcM cI cZ q (zst a) im kp u_15 (upd r2 k2 (nI ((((zkp a j).getD i (0, 0)).1) ||| (2 ^ j)))) (upd f2 k2 ((((zkp a j).getD i (0, 0)).2) + (zfb (zsee a.2.2.2.2.2.1 a.1 j (((zkp a j).getD i (0, 0)).1 ||| 2 ^ j)) (Nat.testBit (((zkp a j).getD i (0, 0)).1 ||| 2 ^ j) j)))) (k2 + 1)) := hD
            refine lv_aload_n hx hb dX3_layKept_112 rfl (lv_at hl 3 rfl) ?_
            refine va_get (ci := 3) (C := RX3) (T := TX3) (N := 7) hx hb hts hiX3 hown hK hP 0 rfl rfl 5 (by decide) hf26 (fun _ h9 => h9) rfl dX3_layKept_113 ?_
            refine lv_iload_n hx hb dX3_layKept_116 rfl (lv_at hl 0 rfl) ?_
            refine lv_dup2_11 hx hb dX3_layKept_117 rfl rfl ?_
            refine zz_iald hx hb hK hP 6 0 rfl rfl (i := i) rfl (by omega) (by decide) dX3_layKept_118 ?_
            refine zz_topi (((zkp a j).getD i (0, 0)).2) ((pk_un (by omega)).trans hat.2.1) ?_
            refine lv_aload_n hx hb dX3_layKept_119 rfl (lv_at hl 3 rfl) ?_
            refine lv_iload_n hx hb dX3_layKept_120 rfl (lv_at hl 2 rfl) ?_
            refine lv_aload_n hx hb dX3_layKept_121 rfl (lv_at hl 3 rfl) ?_
            refine va_get (ci := 3) (C := RX3) (T := TX3) (N := 7) hx hb hts hiX3 hown hK hP 0 rfl rfl 4 (by decide) hf23 (fun _ h9 => h9) rfl dX3_layKept_122 ?_
            refine lv_iload_n hx hb dX3_layKept_125 rfl (lv_at hl 0 rfl) ?_
            refine zz_iald hx hb hK hP 5 0 rfl rfl (i := i) rfl (by omega) (by decide) dX3_layKept_126 ?_
            refine zz_topi (nI (((zkp a j).getD i (0, 0)).1)) ((pk_un (by omega)).trans hat.1) ?_
            refine zz_mVi (ct := (fun (u : Nat → Int32) => zcM cI cZ q (zst a) im kp u (upd r2 k2 (nI ((((zkp a j).getD i (0, 0)).1) ||| (2 ^ j)))) (upd f2 k2 ((((zkp a j).getD i (0, 0)).2) + (zfb (zsee a.2.2.2.2.2.1 a.1 j (((zkp a j).getD i (0, 0)).1 ||| 2 ^ j)) (Nat.testBit (((zkp a j).getD i (0, 0)).1 ||| 2 ^ j) j)))) (k2 + 1))) (cs := zcM cI cZ q (zst a) im kp u_15 (upd r2 k2 (nI ((((zkp a j).getD i (0, 0)).1) ||| (2 ^ j)))) (upd f2 k2 ((((zkp a j).getD i (0, 0)).2) + (zfb (zsee a.2.2.2.2.2.1 a.1 j (((zkp a j).getD i (0, 0)).1 ||| 2 ^ j)) (Nat.testBit (((zkp a j).getD i (0, 0)).1 ||| 2 ^ j) j)))) (k2 + 1)) (As := [.int (nI j), .int (nI (((zkp a j).getD i (0, 0)).1))]) (rest := [.int (((zkp a j).getD i (0, 0)).2), .int (nI i), .ref (q 6)]) ⟨hx, hb, hml, hown, hts⟩ (c_X3_fineOf l D cI cZ hs ta H.size q a im kp u_15 (upd r2 k2 (nI ((((zkp a j).getD i (0, 0)).1) ||| (2 ^ j)))) (upd f2 k2 ((((zkp a j).getD i (0, 0)).2) + (zfb (zsee a.2.2.2.2.2.1 a.1 j (((zkp a j).getD i (0, 0)).1 ||| 2 ^ j)) (Nat.testBit (((zkp a j).getD i (0, 0)).1 ||| 2 ^ j) j)))) (k2 + 1) j (((zkp a j).getD i (0, 0)).1) hI hj hat.2.2) (fun _ => rfl) (cwV 2 hts gX3_layKept_X3_fineOf rfl rfl rfl (by decide +kernel) ⟨Nat.le_of_ble_eq_true rfl, Nat.le_of_ble_eq_true rfl⟩) (va_recv hK hP (ci := 3) (q0 := 0) rfl rfl) hP hD hG hS hA hAz rfl hl.1 rfl (Nat.le_of_ble_eq_true rfl) ⟨Nat.zero_le _, Nat.zero_le _⟩ dX3_layKept_127 (fun r_16 u_17 H locs eu_17 hP hD hS => ?_)
            subst eu_17
            have hP : va_P D vwCl (zcM cI cZ q (zst a) im kp u_17 (upd r2 k2 (nI ((((zkp a j).getD i (0, 0)).1) ||| (2 ^ j)))) (upd f2 k2 ((((zkp a j).getD i (0, 0)).2) + (zfb (zsee a.2.2.2.2.2.1 a.1 j (((zkp a j).getD i (0, 0)).1 ||| 2 ^ j)) (Nat.testBit (((zkp a j).getD i (0, 0)).1 ||| 2 ^ j) j)))) (k2 + 1)) H := hP
            have hD : va_D A (zcM cI cZ q (zst a) im kp u_17 (upd r2 k2 (nI ((((zkp a j).getD i (0, 0)).1) ||| (2 ^ j)))) (upd f2 k2 ((((zkp a j).getD i (0, 0)).2) + (zfb (zsee a.2.2.2.2.2.1 a.1 j (((zkp a j).getD i (0, 0)).1 ||| 2 ^ j)) (Nat.testBit (((zkp a j).getD i (0, 0)).1 ||| 2 ^ j) j)))) (k2 + 1)) := hD
            refine lv_iadd hx hb dX3_layKept_130 ?_
            refine zz_iast hx hb hK hP hD hS 6 0 rfl rfl (i := i) rfl (by omega) (by decide) dX3_layKept_131 (fun H locs hP hD hS => ?_)
            have hP : va_P D vwCl (zcM cI cZ q (zst a) im kp u_17 (upd r2 k2 (nI ((((zkp a j).getD i (0, 0)).1) ||| (2 ^ j)))) (upd (upd f2 k2 ((((zkp a j).getD i (0, 0)).2) + (zfb (zsee a.2.2.2.2.2.1 a.1 j (((zkp a j).getD i (0, 0)).1 ||| 2 ^ j)) (Nat.testBit (((zkp a j).getD i (0, 0)).1 ||| 2 ^ j) j)))) i ((((zkp a j).getD i (0, 0)).2) + (zfb (zsee a.2.2.2.2.2.1 a.1 j (((zkp a j).getD i (0, 0)).1)) (Nat.testBit (((zkp a j).getD i (0, 0)).1) j)))) (k2 + 1)) H := hP
            have hD : va_D A (zcM cI cZ q (zst a) im kp u_17 (upd r2 k2 (nI ((((zkp a j).getD i (0, 0)).1) ||| (2 ^ j)))) (upd (upd f2 k2 ((((zkp a j).getD i (0, 0)).2) + (zfb (zsee a.2.2.2.2.2.1 a.1 j (((zkp a j).getD i (0, 0)).1 ||| 2 ^ j)) (Nat.testBit (((zkp a j).getD i (0, 0)).1 ||| 2 ^ j) j)))) i ((((zkp a j).getD i (0, 0)).2) + (zfb (zsee a.2.2.2.2.2.1 a.1 j (((zkp a j).getD i (0, 0)).1)) (Nat.testBit (((zkp a j).getD i (0, 0)).1) j)))) (k2 + 1)) := hD
            refine lv_iinc (v := (nI (i + 1))) (lv' := [(3, .int (nI (i + 1))), (2, .int (nI ((zkp a j).length))), (1, .int (nI j)), (0, .ref (q 0))]) hx hb dX3_layKept_132 hl (k := 0) rfl (zz_inc _) (by decide) rfl (fun ls hl => ?_)
            refine lv_goto (tgt := 36) hx hb dX3_layKept_135 (by decide) ?_
            have hl : lv_has ls 4 [(3, .int (nI ((i + 1)))), (2, .int (nI ((zkp a j).length))), (1, .int (nI j)), (0, .ref (q 0))] := hl
            exact ihi (trivial) _ _ ls (⟨_, _, _, _, zla_stepF hEx hi c_11 (Nat.or_lt_two_pow (n := 16) hat.2.2 (zp2_16 (by omega))), hP, hD, hS⟩) (lv_sub hl [0, 1, 2, 3] rfl)
set_option maxHeartbeats 4000000 in
set_option maxRecDepth 100000 in
theorem c_X3_kept (l : Launch) (D : va_G) (cI cZ : ClassId) (hs ta : Nat) (sz : Nat) (q : Nat → Nat) (a : ZA) (im : Nat → Int32) (kp : Nat → Int32) (lf : Nat → Int32) (rw : Nat → Int32) (fn : Nat → Int32) (kn : Nat) (p0 : Int32) (p1 : Int32) (hI : zInv a) : Met l yX3_kept wsX3_kept ({ frames := 5, cells := 0, slots := 0, locals := 120 }) (va_Pc [.ref (q 0), .int p0, .int p1] (fun U => U.heap.size = sz ∧ zPre D (zTy cI cZ) hs ta (zcM cI cZ q (zst a) im kp lf rw fn kn) U)) (va_Qi (fun (r : Int32) (u : (Nat → Int32) × (Nat → Int32) × (Nat → Int32) × Nat) => r = zq_kept a p0 p1) (fun (u : (Nat → Int32) × (Nat → Int32) × (Nat → Int32) × Nat) t9 => va_P D vwCl (zcM cI cZ q (zst a) im kp u.1 u.2.1 u.2.2.1 u.2.2.2) t9.heap) (va_A (zcM cI cZ q (zst a) im kp lf rw fn kn) sz)) 0 0 (va_A (zcM cI cZ q (zst a) im kp lf rw fn kn) sz) := by
  refine Met.ofW (cc := cX3_kept) (maxL := 3) (ret := (some .int)) (by decide) rfl ?_
  intro p e s m args below meth c s₁ B hml hv0
  obtain ⟨rfl, hsz, hP, hD0, hG⟩ := hv0
  have hx := B.exec
  have hb := B.bytes
  have hr := B.returns
  have hts := atoms_spec (ws := wsX3_kept) B.pre
  have hown : s.vm.findClass RX3 = some m.cls := findClass_of_methodNamed B.named
  have hlocks := B.notSynchronized
  subst hsz
  have hD := hD0.self (sz := s.heap.size)
  have hAz0 : ∀ y9, va_A (zcM cI cZ q (zst a) im kp lf rw fn kn) s.heap.size y9 → hs ≤ y9 := zA_of hD0 (fun y9 h => Nat.le_trans hG.2.2.2.2 h) (va_S.rf (A := zA hs) (H0 := s.heap))
  generalize hAe : va_A (zcM cI cZ q (zst a) im kp lf rw fn kn) s.heap.size = A at hD hAz0 ⊢
  have hA : ∀ y9 : Nat, s.heap.size ≤ y9 → A y9 := fun y9 h => by rw [← hAe]; exact Or.inr h
  have hS : va_S A s.heap s.heap [] := va_S.rf
  have hAz : ∀ y9, A y9 → hs ≤ y9 := hAz0
  have hK := hG.1
  have hl := lv_entry ([.ref (q 0), .int p0, .int p1]) (n := 3) (Nat.le_of_ble_eq_true rfl)
  rw [lg_entry_eq]
  generalize (lg_sl ([.ref (q 0), .int p0, .int p1]) ++ List.replicate (3 - (lg_sl ([.ref (q 0), .int p0, .int p1])).length) Slot.unset).toArray = ls at hl ⊢
  have hl : lv_has ls 3 [(0, .ref (q 0)), (1, .int p0), (2, .int p1)] := hl
  have hf112 := hts (.fieldLink RX3 112 "FrozenBitsModel" "kept" "I") (List.mem_of_getElem? (i := 1) rfl)
  have hiX3 : ∀ w ∈ u_ws RX3 TX3 7, w ∈ wsX3_kept := fun w h => List.mem_cons_of_mem _ (List.mem_append_right _ h)
  have hf23 := hts (.fieldLink RX3 23 "FrozenBitsModel" "rows" "[I") (List.mem_of_getElem? (i := 2) rfl)
  have hf26 := hts (.fieldLink RX3 26 "FrozenBitsModel" "fines" "[I") (List.mem_of_getElem? (i := 3) rfl)
  refine lv_iload_n hx hb dX3_kept_0 rfl (lv_at hl 2 rfl) ?_
  refine lv_iconst (v := 0) hx hb dX3_kept_1 (by decide) ?_
  refine lv_iconst (v := 2) hx hb dX3_kept_2 (by decide) ?_
  refine zz_pSi (As := [.int p1, .int 0, .int 2]) (rest := []) ⟨hx, hb, hml, hown, hts⟩ (c_X3_in l p1 0 2) (va_cwS 3 hts gX3_kept_X3_in rfl rfl rfl (by decide +kernel) ⟨Nat.le_of_ble_eq_true rfl, Nat.le_of_ble_eq_true rfl⟩) rfl hl.1 rfl (Nat.le_of_ble_eq_true rfl) ⟨Nat.zero_le _, Nat.zero_le _⟩ dX3_kept_3 (fun r_1 er_1 => ?_)
  refine lv_if_ne (tgt := 12) hx hb dX3_kept_6 (by decide) (fun c_2 => ?_) (fun c_2 => ?_)
  · replace c_2 := zB_t er_1 c_2
    refine lv_aload_n hx hb dX3_kept_12 rfl (lv_at hl 0 rfl) ?_
    refine zz_mVv (ct := (fun (u : (Nat → Int32) × (Nat → Int32) × (Nat → Int32) × Nat) => zcM cI cZ q (zst a) im kp u.1 u.2.1 u.2.2.1 u.2.2.2)) (cs := zcM cI cZ q (zst a) im kp lf rw fn kn) (As := []) (rest := []) ⟨hx, hb, hml, hown, hts⟩ (c_X3_layKept l D cI cZ hs ta s.heap.size q a im kp lf rw fn kn hI) (fun _ => rfl) (cwV 0 hts gX3_kept_X3_layKept rfl rfl rfl (by decide +kernel) ⟨Nat.le_of_ble_eq_true rfl, Nat.le_of_ble_eq_true rfl⟩) (va_recv hK hP (ci := 3) (q0 := 0) rfl rfl) hP hD hG hS hA hAz rfl hl.1 rfl (Nat.le_of_ble_eq_true rfl) ⟨Nat.zero_le _, Nat.zero_le _⟩ dX3_kept_13 (fun u_4 H locs eu_4 hP hD hS => ?_)
    have hEx := eu_4
    have hl8 := zkp_len hI (2 ^ a.1)
    have hl1 := zkp_ne hI (2 ^ a.1)
    have hk2 : u_4.2.2.2 = (zkp a (2 ^ a.1)).length := hEx.1
    have hP : va_P D vwCl (zcM cI cZ q (zst a) im kp u_4.1 u_4.2.1 u_4.2.2.1 u_4.2.2.2) H := hP
    have hD : va_D A (zcM cI cZ q (zst a) im kp u_4.1 u_4.2.1 u_4.2.2.1 u_4.2.2.2) := hD
    refine lv_iload_n hx hb dX3_kept_16 rfl (lv_at hl 1 rfl) ?_
    refine lv_iconst (v := (-1)) hx hb dX3_kept_17 (by decide) ?_
    refine lv_icmp_ne (tgt := 26) hx hb dX3_kept_18 (by decide) (fun c_5 => ?_) (fun c_5 => ?_)
    · refine lv_iload_n hx hb dX3_kept_26 rfl (lv_at hl 1 rfl) ?_
      refine lv_iconst (v := 0) hx hb dX3_kept_27 (by decide) ?_
      refine lv_aload_n hx hb dX3_kept_28 rfl (lv_at hl 0 rfl) ?_
      refine va_get (ci := 3) (C := RX3) (T := TX3) (N := 7) hx hb hts hiX3 hown hK hP 0 rfl rfl 6 (by decide) hf112 (fun _ h9 => h9) rfl dX3_kept_29 ?_
      refine zz_topi (nI ((zkp a (2 ^ a.1)).length)) (by rw [hk2]) ?_
      refine lv_iconst (v := 1) hx hb dX3_kept_32 (by decide) ?_
      refine lv_isub hx hb dX3_kept_33 ?_
      refine zz_topi (nI (((zkp a (2 ^ a.1)).length) - 1)) (zz_subn rfl (show (1 : Int32) = nI 1 from rfl) (hl1)) ?_
      refine zz_pSi (As := [.int p0, .int 0, .int (nI (((zkp a (2 ^ a.1)).length) - 1))]) (rest := []) ⟨hx, hb, hml, hown, hts⟩ (c_X3_in l p0 0 (nI (((zkp a (2 ^ a.1)).length) - 1))) (va_cwS 3 hts gX3_kept_X3_in rfl rfl rfl (by decide +kernel) ⟨Nat.le_of_ble_eq_true rfl, Nat.le_of_ble_eq_true rfl⟩) rfl hl.1 rfl (Nat.le_of_ble_eq_true rfl) ⟨Nat.zero_le _, Nat.zero_le _⟩ dX3_kept_34 (fun r_6 er_6 => ?_)
      refine lv_if_ne (tgt := 43) hx hb dX3_kept_37 (by decide) (fun c_7 => ?_) (fun c_7 => ?_)
      · replace c_7 := zB_t er_6 c_7
        rw [zin_iff hl1 (by omega)] at c_7
        obtain ⟨k0, hk0, rfl⟩ := zr0 c_7 (by omega)
        refine lv_iload_n hx hb dX3_kept_43 rfl (lv_at hl 2 rfl) ?_
        refine lv_if_ne (tgt := 56) hx hb dX3_kept_44 (by decide) (fun c_8 => ?_) (fun c_8 => ?_)
        · refine lv_iload_n hx hb dX3_kept_56 rfl (lv_at hl 2 rfl) ?_
          refine lv_iconst (v := 1) hx hb dX3_kept_57 (by decide) ?_
          refine lv_icmp_ne (tgt := 70) hx hb dX3_kept_58 (by decide) (fun c_9 => ?_) (fun c_9 => ?_)
          · refine lv_aload_n hx hb dX3_kept_70 rfl (lv_at hl 0 rfl) ?_
            refine lv_aload_n hx hb dX3_kept_71 rfl (lv_at hl 0 rfl) ?_
            refine va_get (ci := 3) (C := RX3) (T := TX3) (N := 7) hx hb hts hiX3 hown hK hP 0 rfl rfl 4 (by decide) hf23 (fun _ h9 => h9) rfl dX3_kept_72 ?_
            refine lv_iload_n hx hb dX3_kept_75 rfl (lv_at hl 1 rfl) ?_
            refine zz_iald hx hb hK hP 5 0 rfl rfl (i := k0) rfl (by omega) (by decide) dX3_kept_76 ?_
            refine zz_topi (nI (((zkp a (2 ^ a.1)).getD k0 (0, 0)).1)) ((hEx.2 k0 hk0).1) ?_
            refine zz_cVi (cs := zcM cI cZ q (zst a) im kp u_4.1 u_4.2.1 u_4.2.2.1 u_4.2.2.2) (As := [.int (nI (((zkp a (2 ^ a.1)).getD k0 (0, 0)).1))]) (rest := []) ⟨hx, hb, hml, hown, hts⟩ (c_X3_holds l D cI cZ hs ta q a im kp u_4.1 u_4.2.1 u_4.2.2.1 u_4.2.2.2 (((zkp a (2 ^ a.1)).getD k0 (0, 0)).1) hI ((hEx.2 k0 hk0).2.2)) (cwV 1 hts gX3_kept_X3_holds rfl rfl rfl (by decide +kernel) ⟨Nat.le_of_ble_eq_true rfl, Nat.le_of_ble_eq_true rfl⟩) (va_recv hK hP (ci := 3) (q0 := 0) rfl rfl) hP hD hG hS hAz rfl hl.1 rfl (Nat.le_of_ble_eq_true rfl) ⟨Nat.zero_le _, Nat.zero_le _⟩ dX3_kept_77 (fun r_10 er_10 => ?_)
            refine lv_if_eq (tgt := 87) hx hb dX3_kept_80 (by decide) (fun c_11 => ?_) (fun c_11 => ?_)
            · replace c_11 := zB_f er_10 c_11
              refine lv_iconst (v := 0) hx hb dX3_kept_87 (by decide) ?_
              exact W.iret (v := 0) hx hb hr (fun t9 ht hW => ⟨⟨_, (u_4.1, u_4.2.1, u_4.2.2.1, u_4.2.2.2), rfl, (by simp (decide := true) only [zq_kept, zN_nI (show k0 < 2 ^ 31 by omega), zB, c_2, c_5, c_7, c_8, c_9, c_11, not_true_eq_false, not_false_eq_true, and_self, and_true, true_and, and_false, false_and, or_self, or_true, true_or, or_false, false_or, if_true, if_false, ↓reduceIte, Bool.false_eq_true, iff_self, iff_true, iff_false, true_iff, false_iff, Nat.add_zero, Nat.or_zero]), zP_ht ht hP⟩, hS.F ht⟩) hS.2.2 dX3_kept_88
            · replace c_11 := zB_t er_10 c_11
              refine lv_iconst (v := 1) hx hb dX3_kept_83 (by decide) ?_
              refine lv_goto (tgt := 88) hx hb dX3_kept_84 (by decide) ?_
              exact W.iret (v := 1) hx hb hr (fun t9 ht hW => ⟨⟨_, (u_4.1, u_4.2.1, u_4.2.2.1, u_4.2.2.2), rfl, (by simp (decide := true) only [zq_kept, zN_nI (show k0 < 2 ^ 31 by omega), zB, c_2, c_5, c_7, c_8, c_9, c_11, not_true_eq_false, not_false_eq_true, and_self, and_true, true_and, and_false, false_and, or_self, or_true, true_or, or_false, false_or, if_true, if_false, ↓reduceIte, Bool.false_eq_true, iff_self, iff_true, iff_false, true_iff, false_iff, Nat.add_zero, Nat.or_zero]), zP_ht ht hP⟩, hS.F ht⟩) hS.2.2 dX3_kept_88
          · refine lv_aload_n hx hb dX3_kept_61 rfl (lv_at hl 0 rfl) ?_
            refine va_get (ci := 3) (C := RX3) (T := TX3) (N := 7) hx hb hts hiX3 hown hK hP 0 rfl rfl 5 (by decide) hf26 (fun _ h9 => h9) rfl dX3_kept_62 ?_
            refine lv_iload_n hx hb dX3_kept_65 rfl (lv_at hl 1 rfl) ?_
            refine zz_iald hx hb hK hP 6 0 rfl rfl (i := k0) rfl (by omega) (by decide) dX3_kept_66 ?_
            refine zz_topi (((zkp a (2 ^ a.1)).getD k0 (0, 0)).2) ((hEx.2 k0 hk0).2.1) ?_
            refine lv_goto (tgt := 88) hx hb dX3_kept_67 (by decide) ?_
            exact W.iret (v := (((zkp a (2 ^ a.1)).getD k0 (0, 0)).2)) hx hb hr (fun t9 ht hW => ⟨⟨_, (u_4.1, u_4.2.1, u_4.2.2.1, u_4.2.2.2), rfl, (by simp (decide := true) only [zq_kept, zN_nI (show k0 < 2 ^ 31 by omega), zB, c_2, c_5, c_7, c_8, c_9, not_true_eq_false, not_false_eq_true, and_self, and_true, true_and, and_false, false_and, or_self, or_true, true_or, or_false, false_or, if_true, if_false, ↓reduceIte, Bool.false_eq_true, iff_self, iff_true, iff_false, true_iff, false_iff, Nat.add_zero, Nat.or_zero]), zP_ht ht hP⟩, hS.F ht⟩) hS.2.2 dX3_kept_88
        · refine lv_aload_n hx hb dX3_kept_47 rfl (lv_at hl 0 rfl) ?_
          refine va_get (ci := 3) (C := RX3) (T := TX3) (N := 7) hx hb hts hiX3 hown hK hP 0 rfl rfl 4 (by decide) hf23 (fun _ h9 => h9) rfl dX3_kept_48 ?_
          refine lv_iload_n hx hb dX3_kept_51 rfl (lv_at hl 1 rfl) ?_
          refine zz_iald hx hb hK hP 5 0 rfl rfl (i := k0) rfl (by omega) (by decide) dX3_kept_52 ?_
          refine zz_topi (nI (((zkp a (2 ^ a.1)).getD k0 (0, 0)).1)) ((hEx.2 k0 hk0).1) ?_
          refine lv_goto (tgt := 88) hx hb dX3_kept_53 (by decide) ?_
          exact W.iret (v := (nI (((zkp a (2 ^ a.1)).getD k0 (0, 0)).1))) hx hb hr (fun t9 ht hW => ⟨⟨_, (u_4.1, u_4.2.1, u_4.2.2.1, u_4.2.2.2), rfl, (by simp (decide := true) only [zq_kept, zN_nI (show k0 < 2 ^ 31 by omega), zB, c_2, c_5, c_7, c_8, not_true_eq_false, not_false_eq_true, and_self, and_true, true_and, and_false, false_and, or_self, or_true, true_or, or_false, false_or, if_true, if_false, ↓reduceIte, Bool.false_eq_true, iff_self, iff_true, iff_false, true_iff, false_iff, Nat.add_zero, Nat.or_zero]), zP_ht ht hP⟩, hS.F ht⟩) hS.2.2 dX3_kept_88
      · replace c_7 := Classical.not_not.mp (zB_f er_6 c_7)
        replace c_7 := fun q => (zin_iff (p := p0) hl1 (show (zkp a (2 ^ a.1)).length < 2 ^ 31 by omega)).mpr q c_7
        replace c_7 : ¬ (¬ p0 < 0 ∧ p0 < nI (zkp a (2 ^ a.1)).length) := c_7
        refine lv_bipush (v := (-6)) hx hb dX3_kept_40 (by decide) ?_
        exact W.iret (v := (-6)) hx hb hr (fun t9 ht hW => ⟨⟨_, (u_4.1, u_4.2.1, u_4.2.2.1, u_4.2.2.2), rfl, (by simp (decide := true) only [zq_kept, zwm, c_2, c_5, c_7, not_true_eq_false, not_false_eq_true, and_self, and_true, true_and, and_false, false_and, or_self, or_true, true_or, or_false, false_or, if_true, if_false, ↓reduceIte, Bool.false_eq_true, iff_self, iff_true, iff_false, true_iff, false_iff, Nat.add_zero, Nat.or_zero]), zP_ht ht hP⟩, hS.F ht⟩) hS.2.2 dX3_kept_42
    · refine lv_aload_n hx hb dX3_kept_21 rfl (lv_at hl 0 rfl) ?_
      refine va_get (ci := 3) (C := RX3) (T := TX3) (N := 7) hx hb hts hiX3 hown hK hP 0 rfl rfl 6 (by decide) hf112 (fun _ h9 => h9) rfl dX3_kept_22 ?_
      refine zz_topi (nI ((zkp a (2 ^ a.1)).length)) (by rw [hk2]) ?_
      exact W.iret (v := (nI ((zkp a (2 ^ a.1)).length))) hx hb hr (fun t9 ht hW => ⟨⟨_, (u_4.1, u_4.2.1, u_4.2.2.1, u_4.2.2.2), rfl, (by simp (decide := true) only [zq_kept, zwm, c_2, c_5, not_true_eq_false, not_false_eq_true, and_self, and_true, true_and, and_false, false_and, or_self, or_true, true_or, or_false, false_or, if_true, if_false, ↓reduceIte, Bool.false_eq_true, iff_self, iff_true, iff_false, true_iff, false_iff, Nat.add_zero, Nat.or_zero]), zP_ht ht hP⟩, hS.F ht⟩) hS.2.2 dX3_kept_25
  · replace c_2 := Classical.not_not.mp (zB_f er_1 c_2)
    refine lv_bipush (v := (-2)) hx hb dX3_kept_9 (by decide) ?_
    exact W.iret (v := (-2)) hx hb hr (fun t9 ht hW => ⟨⟨_, (lf, rw, fn, kn), rfl, (by simp (decide := true) only [zq_kept, zwm, c_2, not_true_eq_false, not_false_eq_true, and_self, and_true, true_and, and_false, false_and, or_self, or_true, true_or, or_false, false_or, if_true, if_false, ↓reduceIte, Bool.false_eq_true, iff_self, iff_true, iff_false, true_iff, false_iff, Nat.add_zero, Nat.or_zero]), zP_ht ht hP⟩, hS.F ht⟩) hS.2.2 dX3_kept_11
set_option maxHeartbeats 4000000 in
set_option maxRecDepth 100000 in
theorem c_X3_chosen (l : Launch) (D : va_G) (cI cZ : ClassId) (hs ta : Nat) (sz : Nat) (q : Nat → Nat) (a : ZA) (im : Nat → Int32) (kp : Nat → Int32) (lf : Nat → Int32) (rw : Nat → Int32) (fn : Nat → Int32) (kn : Nat) (p0 : Int32) (hI : zInv a) : Met l yX3_chosen wsX3_chosen ({ frames := 5, cells := 0, slots := 0, locals := 120 }) (va_Pc [.ref (q 0), .int p0] (fun U => U.heap.size = sz ∧ zPre D (zTy cI cZ) hs ta (zcM cI cZ q (zst a) im kp lf rw fn kn) U)) (va_Qi (fun (r : Int32) (u : (Nat → Int32) × (Nat → Int32) × (Nat → Int32) × Nat) => r = zq_chosen a p0) (fun (u : (Nat → Int32) × (Nat → Int32) × (Nat → Int32) × Nat) t9 => va_P D vwCl (zcM cI cZ q (zst a) im kp u.1 u.2.1 u.2.2.1 u.2.2.2) t9.heap) (va_A (zcM cI cZ q (zst a) im kp lf rw fn kn) sz)) 0 0 (va_A (zcM cI cZ q (zst a) im kp lf rw fn kn) sz) := by
  refine Met.ofW (cc := cX3_chosen) (maxL := 3) (ret := (some .int)) (by decide) rfl ?_
  intro p e s m args below meth c s₁ B hml hv0
  obtain ⟨rfl, hsz, hP, hD0, hG⟩ := hv0
  have hx := B.exec
  have hb := B.bytes
  have hr := B.returns
  have hts := atoms_spec (ws := wsX3_chosen) B.pre
  have hown : s.vm.findClass RX3 = some m.cls := findClass_of_methodNamed B.named
  have hlocks := B.notSynchronized
  subst hsz
  have hD := hD0.self (sz := s.heap.size)
  have hAz0 : ∀ y9, va_A (zcM cI cZ q (zst a) im kp lf rw fn kn) s.heap.size y9 → hs ≤ y9 := zA_of hD0 (fun y9 h => Nat.le_trans hG.2.2.2.2 h) (va_S.rf (A := zA hs) (H0 := s.heap))
  generalize hAe : va_A (zcM cI cZ q (zst a) im kp lf rw fn kn) s.heap.size = A at hD hAz0 ⊢
  have hA : ∀ y9 : Nat, s.heap.size ≤ y9 → A y9 := fun y9 h => by rw [← hAe]; exact Or.inr h
  have hS : va_S A s.heap s.heap [] := va_S.rf
  have hAz : ∀ y9, A y9 → hs ≤ y9 := hAz0
  have hK := hG.1
  have hl := lv_entry ([.ref (q 0), .int p0]) (n := 3) (Nat.le_of_ble_eq_true rfl)
  rw [lg_entry_eq]
  generalize (lg_sl ([.ref (q 0), .int p0]) ++ List.replicate (3 - (lg_sl ([.ref (q 0), .int p0])).length) Slot.unset).toArray = ls at hl ⊢
  have hl : lv_has ls 3 [(0, .ref (q 0)), (1, .int p0)] := hl
  have hf112 := hts (.fieldLink RX3 112 "FrozenBitsModel" "kept" "I") (List.mem_of_getElem? (i := 1) rfl)
  have hiX3 : ∀ w ∈ u_ws RX3 TX3 7, w ∈ wsX3_chosen := fun w h => List.mem_cons_of_mem _ (List.mem_append_right _ h)
  have hf23 := hts (.fieldLink RX3 23 "FrozenBitsModel" "rows" "[I") (List.mem_of_getElem? (i := 2) rfl)
  have hf26 := hts (.fieldLink RX3 26 "FrozenBitsModel" "fines" "[I") (List.mem_of_getElem? (i := 3) rfl)
  refine lv_iload_n hx hb dX3_chosen_0 rfl (lv_at hl 1 rfl) ?_
  refine lv_iconst (v := 0) hx hb dX3_chosen_1 (by decide) ?_
  refine lv_iconst (v := 2) hx hb dX3_chosen_2 (by decide) ?_
  refine zz_pSi (As := [.int p0, .int 0, .int 2]) (rest := []) ⟨hx, hb, hml, hown, hts⟩ (c_X3_in l p0 0 2) (va_cwS 3 hts gX3_chosen_X3_in rfl rfl rfl (by decide +kernel) ⟨Nat.le_of_ble_eq_true rfl, Nat.le_of_ble_eq_true rfl⟩) rfl hl.1 rfl (Nat.le_of_ble_eq_true rfl) ⟨Nat.zero_le _, Nat.zero_le _⟩ dX3_chosen_3 (fun r_1 er_1 => ?_)
  refine lv_if_ne (tgt := 12) hx hb dX3_chosen_6 (by decide) (fun c_2 => ?_) (fun c_2 => ?_)
  · replace c_2 := zB_t er_1 c_2
    refine lv_aload_n hx hb dX3_chosen_12 rfl (lv_at hl 0 rfl) ?_
    refine zz_mVv (ct := (fun (u : (Nat → Int32) × (Nat → Int32) × (Nat → Int32) × Nat) => zcM cI cZ q (zst a) im kp u.1 u.2.1 u.2.2.1 u.2.2.2)) (cs := zcM cI cZ q (zst a) im kp lf rw fn kn) (As := []) (rest := []) ⟨hx, hb, hml, hown, hts⟩ (c_X3_layKept l D cI cZ hs ta s.heap.size q a im kp lf rw fn kn hI) (fun _ => rfl) (cwV 0 hts gX3_chosen_X3_layKept rfl rfl rfl (by decide +kernel) ⟨Nat.le_of_ble_eq_true rfl, Nat.le_of_ble_eq_true rfl⟩) (va_recv hK hP (ci := 3) (q0 := 0) rfl rfl) hP hD hG hS hA hAz rfl hl.1 rfl (Nat.le_of_ble_eq_true rfl) ⟨Nat.zero_le _, Nat.zero_le _⟩ dX3_chosen_13 (fun u_4 H locs eu_4 hP hD hS => ?_)
    have hEx := eu_4
    have hl8 := zkp_len hI (2 ^ a.1)
    have hl1 := zkp_ne hI (2 ^ a.1)
    have hk2 : u_4.2.2.2 = (zkp a (2 ^ a.1)).length := hEx.1
    have hP : va_P D vwCl (zcM cI cZ q (zst a) im kp u_4.1 u_4.2.1 u_4.2.2.1 u_4.2.2.2) H := hP
    have hD : va_D A (zcM cI cZ q (zst a) im kp u_4.1 u_4.2.1 u_4.2.2.1 u_4.2.2.2) := hD
    refine lv_iconst (v := 0) hx hb dX3_chosen_16 (by decide) ?_
    refine lv_istore_n (lv' := [(2, .int 0), (0, .ref (q 0)), (1, .int p0)]) hx hb dX3_chosen_17 rfl hl (by decide) rfl (fun ls hl => ?_)
    have hl : lv_has ls 3 [(2, .int (nI 0)), (0, .ref (q 0)), (1, .int p0)] := hl
    refine zz_forJ (nL := 3) ((zkp a (2 ^ a.1)).length) (fun i => [(2, .int (nI i)), (0, .ref (q 0)), (1, .int p0)]) (J := fun i => ∀ y, y < i → zhd a ((zkp a (2 ^ a.1)).getD y (0, 0)).1 = false) ?_ ?_ (fun j h => absurd h (Nat.not_lt_zero _)) (lv_sub hl [0, 1, 2] rfl)
    · intro hJ ls hl
      refine lv_iload_n hx hb dX3_chosen_18 rfl (lv_at hl 0 rfl) ?_
      refine lv_aload_n hx hb dX3_chosen_19 rfl (lv_at hl 1 rfl) ?_
      refine va_get (ci := 3) (C := RX3) (T := TX3) (N := 7) hx hb hts hiX3 hown hK hP 0 rfl rfl 6 (by decide) hf112 (fun _ h9 => h9) rfl dX3_chosen_20 ?_
      refine zz_topi (nI ((zkp a (2 ^ a.1)).length)) (by rw [hk2]) ?_
      refine lv_icmp_ge (tgt := 74) hx hb dX3_chosen_23 (by decide) (fun c_5 => ?_) (fun c_5 => ?_)
      · replace c_5 := Int32.not_lt.mpr c_5
        refine lv_bipush (v := (-6)) hx hb dX3_chosen_74 (by decide) ?_
        exact W.iret (v := (-6)) hx hb hr (fun t9 ht hW => ⟨⟨_, (u_4.1, u_4.2.1, u_4.2.2.1, u_4.2.2.2), rfl, (by have hz0 : zch a = none := zff_none hJ; simp (decide := true) only [zq_chosen, hz0, c_2, c_5, not_true_eq_false, not_false_eq_true, and_self, and_true, true_and, and_false, false_and, or_self, or_true, true_or, or_false, false_or, if_true, if_false, ↓reduceIte, Bool.false_eq_true, iff_self, iff_true, iff_false, true_iff, false_iff, Nat.add_zero, Nat.or_zero]), zP_ht ht hP⟩, hS.F ht⟩) hS.2.2 dX3_chosen_76
      · replace c_5 := Int32.not_le.mp c_5
        exact absurd c_5 (nI_nlt (Nat.le_refl _) (by omega))
    · intro i hi hJ ihi ls hl
      refine lv_iload_n hx hb dX3_chosen_18 rfl (lv_at hl 0 rfl) ?_
      refine lv_aload_n hx hb dX3_chosen_19 rfl (lv_at hl 1 rfl) ?_
      refine va_get (ci := 3) (C := RX3) (T := TX3) (N := 7) hx hb hts hiX3 hown hK hP 0 rfl rfl 6 (by decide) hf112 (fun _ h9 => h9) rfl dX3_chosen_20 ?_
      refine zz_topi (nI ((zkp a (2 ^ a.1)).length)) (by rw [hk2]) ?_
      refine lv_icmp_ge (tgt := 74) hx hb dX3_chosen_23 (by decide) (fun c_6 => ?_) (fun c_6 => ?_)
      · replace c_6 := Int32.not_lt.mpr c_6
        exact absurd (nI_lt hi (by omega)) c_6
      · replace c_6 := Int32.not_le.mp c_6
        refine lv_aload_n hx hb dX3_chosen_26 rfl (lv_at hl 1 rfl) ?_
        refine lv_aload_n hx hb dX3_chosen_27 rfl (lv_at hl 1 rfl) ?_
        refine va_get (ci := 3) (C := RX3) (T := TX3) (N := 7) hx hb hts hiX3 hown hK hP 0 rfl rfl 4 (by decide) hf23 (fun _ h9 => h9) rfl dX3_chosen_28 ?_
        refine lv_iload_n hx hb dX3_chosen_31 rfl (lv_at hl 0 rfl) ?_
        refine zz_iald hx hb hK hP 5 0 rfl rfl (i := i) rfl (by omega) (by decide) dX3_chosen_32 ?_
        refine zz_topi (nI (((zkp a (2 ^ a.1)).getD i (0, 0)).1)) ((hEx.2 i hi).1) ?_
        refine zz_cVi (cs := zcM cI cZ q (zst a) im kp u_4.1 u_4.2.1 u_4.2.2.1 u_4.2.2.2) (As := [.int (nI (((zkp a (2 ^ a.1)).getD i (0, 0)).1))]) (rest := []) ⟨hx, hb, hml, hown, hts⟩ (c_X3_holds l D cI cZ hs ta q a im kp u_4.1 u_4.2.1 u_4.2.2.1 u_4.2.2.2 (((zkp a (2 ^ a.1)).getD i (0, 0)).1) hI ((hEx.2 i hi).2.2)) (cwV 1 hts gX3_chosen_X3_holds rfl rfl rfl (by decide +kernel) ⟨Nat.le_of_ble_eq_true rfl, Nat.le_of_ble_eq_true rfl⟩) (va_recv hK hP (ci := 3) (q0 := 0) rfl rfl) hP hD hG hS hAz rfl hl.1 rfl (Nat.le_of_ble_eq_true rfl) ⟨Nat.zero_le _, Nat.zero_le _⟩ dX3_chosen_33 (fun r_7 er_7 => ?_)
        refine lv_if_eq (tgt := 68) hx hb dX3_chosen_36 (by decide) (fun c_8 => ?_) (fun c_8 => ?_)
        · replace c_8 := zB_f er_7 c_8
          refine lv_iinc (v := (nI (i + 1))) (lv' := [(2, .int (nI (i + 1))), (0, .ref (q 0)), (1, .int p0)]) hx hb dX3_chosen_68 hl (k := 0) rfl (zz_inc _) (by decide) rfl (fun ls hl => ?_)
          refine lv_goto (tgt := 18) hx hb dX3_chosen_71 (by decide) ?_
          have hl : lv_has ls 3 [(2, .int (nI ((i + 1)))), (0, .ref (q 0)), (1, .int p0)] := hl
          exact ihi (fun y hy => (Nat.lt_or_ge y i).elim (hJ y) (fun q => (show y = i by omega) ▸ Bool.eq_false_iff.mpr c_8)) ls (lv_sub hl [0, 1, 2] rfl)
        · replace c_8 := zB_t er_7 c_8
          refine lv_iload_n hx hb dX3_chosen_39 rfl (lv_at hl 2 rfl) ?_
          refine lv_if_ne (tgt := 52) hx hb dX3_chosen_40 (by decide) (fun c_9 => ?_) (fun c_9 => ?_)
          · refine lv_iload_n hx hb dX3_chosen_52 rfl (lv_at hl 2 rfl) ?_
            refine lv_iconst (v := 1) hx hb dX3_chosen_53 (by decide) ?_
            refine lv_icmp_ne (tgt := 61) hx hb dX3_chosen_54 (by decide) (fun c_10 => ?_) (fun c_10 => ?_)
            · refine lv_aload_n hx hb dX3_chosen_61 rfl (lv_at hl 1 rfl) ?_
              refine va_get (ci := 3) (C := RX3) (T := TX3) (N := 7) hx hb hts hiX3 hown hK hP 0 rfl rfl 5 (by decide) hf26 (fun _ h9 => h9) rfl dX3_chosen_62 ?_
              refine lv_iload_n hx hb dX3_chosen_65 rfl (lv_at hl 0 rfl) ?_
              refine zz_iald hx hb hK hP 6 0 rfl rfl (i := i) rfl (by omega) (by decide) dX3_chosen_66 ?_
              refine zz_topi (((zkp a (2 ^ a.1)).getD i (0, 0)).2) ((hEx.2 i hi).2.1) ?_
              exact W.iret (v := (((zkp a (2 ^ a.1)).getD i (0, 0)).2)) hx hb hr (fun t9 ht hW => ⟨⟨_, (u_4.1, u_4.2.1, u_4.2.2.1, u_4.2.2.2), rfl, (by have hz0 : zch a = some i := zff_some hi c_8 hJ; simp (decide := true) only [zq_chosen, hz0, c_2, c_6, c_8, c_9, c_10, not_true_eq_false, not_false_eq_true, and_self, and_true, true_and, and_false, false_and, or_self, or_true, true_or, or_false, false_or, if_true, if_false, ↓reduceIte, Bool.false_eq_true, iff_self, iff_true, iff_false, true_iff, false_iff, Nat.add_zero, Nat.or_zero]), zP_ht ht hP⟩, hS.F ht⟩) hS.2.2 dX3_chosen_67
            · refine lv_iload_n hx hb dX3_chosen_57 rfl (lv_at hl 0 rfl) ?_
              refine lv_goto (tgt := 67) hx hb dX3_chosen_58 (by decide) ?_
              exact W.iret (v := (nI i)) hx hb hr (fun t9 ht hW => ⟨⟨_, (u_4.1, u_4.2.1, u_4.2.2.1, u_4.2.2.2), rfl, (by have hz0 : zch a = some i := zff_some hi c_8 hJ; simp (decide := true) only [zq_chosen, hz0, c_2, c_6, c_8, c_9, c_10, not_true_eq_false, not_false_eq_true, and_self, and_true, true_and, and_false, false_and, or_self, or_true, true_or, or_false, false_or, if_true, if_false, ↓reduceIte, Bool.false_eq_true, iff_self, iff_true, iff_false, true_iff, false_iff, Nat.add_zero, Nat.or_zero]), zP_ht ht hP⟩, hS.F ht⟩) hS.2.2 dX3_chosen_67
          · refine lv_aload_n hx hb dX3_chosen_43 rfl (lv_at hl 1 rfl) ?_
            refine va_get (ci := 3) (C := RX3) (T := TX3) (N := 7) hx hb hts hiX3 hown hK hP 0 rfl rfl 4 (by decide) hf23 (fun _ h9 => h9) rfl dX3_chosen_44 ?_
            refine lv_iload_n hx hb dX3_chosen_47 rfl (lv_at hl 0 rfl) ?_
            refine zz_iald hx hb hK hP 5 0 rfl rfl (i := i) rfl (by omega) (by decide) dX3_chosen_48 ?_
            refine zz_topi (nI (((zkp a (2 ^ a.1)).getD i (0, 0)).1)) ((hEx.2 i hi).1) ?_
            refine lv_goto (tgt := 67) hx hb dX3_chosen_49 (by decide) ?_
            exact W.iret (v := (nI (((zkp a (2 ^ a.1)).getD i (0, 0)).1))) hx hb hr (fun t9 ht hW => ⟨⟨_, (u_4.1, u_4.2.1, u_4.2.2.1, u_4.2.2.2), rfl, (by have hz0 : zch a = some i := zff_some hi c_8 hJ; simp (decide := true) only [zq_chosen, hz0, c_2, c_6, c_8, c_9, not_true_eq_false, not_false_eq_true, and_self, and_true, true_and, and_false, false_and, or_self, or_true, true_or, or_false, false_or, if_true, if_false, ↓reduceIte, Bool.false_eq_true, iff_self, iff_true, iff_false, true_iff, false_iff, Nat.add_zero, Nat.or_zero]), zP_ht ht hP⟩, hS.F ht⟩) hS.2.2 dX3_chosen_67
  · replace c_2 := Classical.not_not.mp (zB_f er_1 c_2)
    refine lv_bipush (v := (-2)) hx hb dX3_chosen_9 (by decide) ?_
    exact W.iret (v := (-2)) hx hb hr (fun t9 ht hW => ⟨⟨_, (lf, rw, fn, kn), rfl, (by simp (decide := true) only [zq_chosen, zwm, c_2, not_true_eq_false, not_false_eq_true, and_self, and_true, true_and, and_false, false_and, or_self, or_true, true_or, or_false, false_or, if_true, if_false, ↓reduceIte, Bool.false_eq_true, iff_self, iff_true, iff_false, true_iff, false_iff, Nat.add_zero, Nat.or_zero]), zP_ht ht hP⟩, hS.F ht⟩) hS.2.2 dX3_chosen_11
