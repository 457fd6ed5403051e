set_option maxHeartbeats 4000000 in
set_option maxRecDepth 100000 in
theorem c_X3_isAhead (l : Launch) (D : va_G) (cI cZ : ClassId) (hs ta : Nat) (q : Nat → Nat) (a : ZA) (im : Nat → Int32) (kp : Nat → Int32) (lf : Nat → Int32) (rw : Nat → Int32) (fn : Nat → Int32) (kn : Nat) (x1 : Nat) (y1 : Nat) (hx1 : x1 < 16) (hy1 : y1 < 16) : Met l yX3_isAhead wsX3_isAhead ({ frames := 0, cells := 0, slots := 0, locals := 0 }) (va_Pc [.ref (q 0), .int (nI x1), .int (nI y1)] (zPre D (zTy cI cZ) hs ta (zcM cI cZ q (zst a) im kp lf rw fn kn))) (vp_Si (fun r : Int32 => r = zB (fn x1 < fn y1 ∨ (fn x1 = fn y1 ∧ rw x1 < rw y1)))) 0 0 (fun _ => False) := by
  refine Met.ofW (cc := cX3_isAhead) (maxL := 3) (ret := (some .boolean)) (by decide) rfl ?_
  intro p e s m args below meth c s₁ B hml hv0
  obtain ⟨rfl, hP, hD, hG⟩ := hv0
  have hx := B.exec
  have hb := B.bytes
  have hr := B.returns
  have hts := atoms_spec (ws := wsX3_isAhead) B.pre
  have hown : s.vm.findClass RX3 = some m.cls := findClass_of_methodNamed B.named
  have hlocks := B.notSynchronized
  have hK := hG.1
  have hS : va_S (zA hs) s.heap s.heap [] := va_S.rf
  have hAz : ∀ q, zA hs q → hs ≤ q := fun _ h => h
  have hl := lv_entry ([.ref (q 0), .int (nI x1), .int (nI y1)]) (n := 3) (Nat.le_of_ble_eq_true rfl)
  rw [lg_entry_eq]
  generalize (lg_sl ([.ref (q 0), .int (nI x1), .int (nI y1)]) ++ List.replicate (3 - (lg_sl ([.ref (q 0), .int (nI x1), .int (nI y1)])).length) Slot.unset).toArray = ls at hl ⊢
  have hl : lv_has ls 3 [(0, .ref (q 0)), (1, .int (nI x1)), (2, .int (nI y1))] := hl
  have hf26 := hts (.fieldLink RX3 26 "FrozenBitsModel" "fines" "[I") (List.mem_of_getElem? (i := 1) rfl)
  have hiX3 : ∀ w ∈ u_ws RX3 TX3 7, w ∈ wsX3_isAhead := fun w h => List.mem_cons_of_mem _ (List.mem_append_right _ h)
  have hf23 := hts (.fieldLink RX3 23 "FrozenBitsModel" "rows" "[I") (List.mem_of_getElem? (i := 2) rfl)
  refine lv_aload_n hx hb dX3_isAhead_0 rfl (lv_at hl 0 rfl) ?_
  refine va_get (ci := 3) (C := RX3) (T := TX3) (N := 7) hx hb hts hiX3 hown hK hP 0 rfl rfl 5 (by decide) hf26 (fun _ h9 => h9) rfl dX3_isAhead_1 ?_
  refine lv_iload_n hx hb dX3_isAhead_4 rfl (lv_at hl 1 rfl) ?_
  refine zz_iald hx hb hK hP 6 0 rfl rfl (i := x1) rfl (by omega) (by decide) dX3_isAhead_5 ?_
  refine lv_aload_n hx hb dX3_isAhead_6 rfl (lv_at hl 0 rfl) ?_
  refine va_get (ci := 3) (C := RX3) (T := TX3) (N := 7) hx hb hts hiX3 hown hK hP 0 rfl rfl 5 (by decide) hf26 (fun _ h9 => h9) rfl dX3_isAhead_7 ?_
  refine lv_iload_n hx hb dX3_isAhead_10 rfl (lv_at hl 2 rfl) ?_
  refine zz_iald hx hb hK hP 6 0 rfl rfl (i := y1) rfl (by omega) (by decide) dX3_isAhead_11 ?_
  refine lv_icmp_eq (tgt := 38) hx hb dX3_isAhead_12 (by decide) (fun c_1 => ?_) (fun c_1 => ?_)
  · refine lv_aload_n hx hb dX3_isAhead_38 rfl (lv_at hl 0 rfl) ?_
    refine va_get (ci := 3) (C := RX3) (T := TX3) (N := 7) hx hb hts hiX3 hown hK hP 0 rfl rfl 4 (by decide) hf23 (fun _ h9 => h9) rfl dX3_isAhead_39 ?_
    refine lv_iload_n hx hb dX3_isAhead_42 rfl (lv_at hl 1 rfl) ?_
    refine zz_iald hx hb hK hP 5 0 rfl rfl (i := x1) rfl (by omega) (by decide) dX3_isAhead_43 ?_
    refine lv_aload_n hx hb dX3_isAhead_44 rfl (lv_at hl 0 rfl) ?_
    refine va_get (ci := 3) (C := RX3) (T := TX3) (N := 7) hx hb hts hiX3 hown hK hP 0 rfl rfl 4 (by decide) hf23 (fun _ h9 => h9) rfl dX3_isAhead_45 ?_
    refine lv_iload_n hx hb dX3_isAhead_48 rfl (lv_at hl 2 rfl) ?_
    refine zz_iald hx hb hK hP 5 0 rfl rfl (i := y1) rfl (by omega) (by decide) dX3_isAhead_49 ?_
    refine lv_icmp_ge (tgt := 57) hx hb dX3_isAhead_50 (by decide) (fun c_2 => ?_) (fun c_2 => ?_)
    · replace c_2 := Int32.not_lt.mpr c_2
      refine lv_iconst (v := 0) hx hb dX3_isAhead_57 (by decide) ?_
      exact W.zret (v := 0) (ty := .boolean) hx hb hr (rfl) (fun t9 ht hW => ⟨_, rfl, (zia_d c_1 c_2), ht⟩) (fun _ h => absurd h List.not_mem_nil) dX3_isAhead_58
    · replace c_2 := Int32.not_le.mp c_2
      refine lv_iconst (v := 1) hx hb dX3_isAhead_53 (by decide) ?_
      refine lv_goto (tgt := 58) hx hb dX3_isAhead_54 (by decide) ?_
      exact W.zret (v := 1) (ty := .boolean) hx hb hr (rfl) (fun t9 ht hW => ⟨_, rfl, (zia_c c_1 c_2), ht⟩) (fun _ h => absurd h List.not_mem_nil) dX3_isAhead_58
  · refine lv_aload_n hx hb dX3_isAhead_15 rfl (lv_at hl 0 rfl) ?_
    refine va_get (ci := 3) (C := RX3) (T := TX3) (N := 7) hx hb hts hiX3 hown hK hP 0 rfl rfl 5 (by decide) hf26 (fun _ h9 => h9) rfl dX3_isAhead_16 ?_
    refine lv_iload_n hx hb dX3_isAhead_19 rfl (lv_at hl 1 rfl) ?_
    refine zz_iald hx hb hK hP 6 0 rfl rfl (i := x1) rfl (by omega) (by decide) dX3_isAhead_20 ?_
    refine lv_aload_n hx hb dX3_isAhead_21 rfl (lv_at hl 0 rfl) ?_
    refine va_get (ci := 3) (C := RX3) (T := TX3) (N := 7) hx hb hts hiX3 hown hK hP 0 rfl rfl 5 (by decide) hf26 (fun _ h9 => h9) rfl dX3_isAhead_22 ?_
    refine lv_iload_n hx hb dX3_isAhead_25 rfl (lv_at hl 2 rfl) ?_
    refine zz_iald hx hb hK hP 6 0 rfl rfl (i := y1) rfl (by omega) (by decide) dX3_isAhead_26 ?_
    refine lv_icmp_ge (tgt := 34) hx hb dX3_isAhead_27 (by decide) (fun c_3 => ?_) (fun c_3 => ?_)
    · replace c_3 := Int32.not_lt.mpr c_3
      refine lv_iconst (v := 0) hx hb dX3_isAhead_34 (by decide) ?_
      refine lv_goto (tgt := 58) hx hb dX3_isAhead_35 (by decide) ?_
      exact W.zret (v := 0) (ty := .boolean) hx hb hr (rfl) (fun t9 ht hW => ⟨_, rfl, (zia_b c_1 c_3), ht⟩) (fun _ h => absurd h List.not_mem_nil) dX3_isAhead_58
    · replace c_3 := Int32.not_le.mp c_3
      refine lv_iconst (v := 1) hx hb dX3_isAhead_30 (by decide) ?_
      refine lv_goto (tgt := 58) hx hb dX3_isAhead_31 (by decide) ?_
      exact W.zret (v := 1) (ty := .boolean) hx hb hr (rfl) (fun t9 ht hW => ⟨_, rfl, (zia_a c_3), ht⟩) (fun _ h => absurd h List.not_mem_nil) dX3_isAhead_58
set_option maxHeartbeats 4000000 in
set_option maxRecDepth 100000 in
theorem c_X3_swap (l : Launch) (D : va_G) (cI cZ : ClassId) (hs ta : Nat) (sz : Nat) (q : Nat → Nat) (a : ZA) (im : Nat → Int32) (kp : Nat → Int32) (lf : Nat → Int32) (rw : Nat → Int32) (fn : Nat → Int32) (kn : Nat) (x1 : Nat) (y1 : Nat) (hx1 : x1 < 16) (hy1 : y1 < 16) : Met l yX3_swap wsX3_swap ({ frames := 0, cells := 0, slots := 0, locals := 0 }) (va_Pc [.ref (q 0), .int (nI x1), .int (nI y1)] (fun U => U.heap.size = sz ∧ zPre D (zTy cI cZ) hs ta (zcM cI cZ q (zst a) im kp lf rw fn kn) U)) (va_Qv (fun (u : (Nat → Int32) × (Nat → Int32)) => u = (zsw2 rw x1 y1, zsw2 fn x1 y1)) (fun (u : (Nat → Int32) × (Nat → Int32)) t9 => va_P D vwCl (zcM cI cZ q (zst a) im kp lf u.1 u.2 kn) t9.heap) (va_A (zcM cI cZ q (zst a) im kp lf rw fn kn) sz)) 0 0 (va_A (zcM cI cZ q (zst a) im kp lf rw fn kn) sz) := by
  refine Met.ofW (cc := cX3_swap) (maxL := 5) (ret := none) (by decide) rfl ?_
  intro p e s m args below meth c s₁ B hml hv0
  obtain ⟨rfl, hsz, hP, hD0, hG⟩ := hv0
  have hx := B.exec
  have hb := B.bytes
  have hr := B.returns
  have hts := atoms_spec (ws := wsX3_swap) B.pre
  have hown : s.vm.findClass RX3 = some m.cls := findClass_of_methodNamed B.named
  have hlocks := B.notSynchronized
  subst hsz
  have hD := hD0.self (sz := s.heap.size)
  have hAz0 : ∀ y9, va_A (zcM cI cZ q (zst a) im kp lf rw fn kn) s.heap.size y9 → hs ≤ y9 := zA_of hD0 (fun y9 h => Nat.le_trans hG.2.2.2.2 h) (va_S.rf (A := zA hs) (H0 := s.heap))
  generalize hAe : va_A (zcM cI cZ q (zst a) im kp lf rw fn kn) s.heap.size = A at hD hAz0 ⊢
  have hA : ∀ y9 : Nat, s.heap.size ≤ y9 → A y9 := fun y9 h => by rw [← hAe]; exact Or.inr h
  have hS : va_S A s.heap s.heap [] := va_S.rf
  have hAz : ∀ y9, A y9 → hs ≤ y9 := hAz0
  have hK := hG.1
  have hl := lv_entry ([.ref (q 0), .int (nI x1), .int (nI y1)]) (n := 5) (Nat.le_of_ble_eq_true rfl)
  rw [lg_entry_eq]
  generalize (lg_sl ([.ref (q 0), .int (nI x1), .int (nI y1)]) ++ List.replicate (5 - (lg_sl ([.ref (q 0), .int (nI x1), .int (nI y1)])).length) Slot.unset).toArray = ls at hl ⊢
  have hl : lv_has ls 5 [(0, .ref (q 0)), (1, .int (nI x1)), (2, .int (nI y1))] := hl
  have hf23 := hts (.fieldLink RX3 23 "FrozenBitsModel" "rows" "[I") (List.mem_of_getElem? (i := 1) rfl)
  have hiX3 : ∀ w ∈ u_ws RX3 TX3 7, w ∈ wsX3_swap := fun w h => List.mem_cons_of_mem _ (List.mem_append_right _ h)
  have hf26 := hts (.fieldLink RX3 26 "FrozenBitsModel" "fines" "[I") (List.mem_of_getElem? (i := 2) rfl)
  refine lv_aload_n hx hb dX3_swap_0 rfl (lv_at hl 0 rfl) ?_
  refine va_get (ci := 3) (C := RX3) (T := TX3) (N := 7) hx hb hts hiX3 hown hK hP 0 rfl rfl 4 (by decide) hf23 (fun _ h9 => h9) rfl dX3_swap_1 ?_
  refine lv_iload_n hx hb dX3_swap_4 rfl (lv_at hl 1 rfl) ?_
  refine zz_iald hx hb hK hP 5 0 rfl rfl (i := x1) rfl (by omega) (by decide) dX3_swap_5 ?_
  refine zz_topi (rw x1) (rfl) ?_
  refine lv_istore_n (lv' := [(3, .int (rw x1)), (0, .ref (q 0)), (1, .int (nI x1)), (2, .int (nI y1))]) hx hb dX3_swap_6 rfl hl (by decide) rfl (fun ls hl => ?_)
  refine lv_aload_n hx hb dX3_swap_7 rfl (lv_at hl 1 rfl) ?_
  refine va_get (ci := 3) (C := RX3) (T := TX3) (N := 7) hx hb hts hiX3 hown hK hP 0 rfl rfl 5 (by decide) hf26 (fun _ h9 => h9) rfl dX3_swap_8 ?_
  refine lv_iload_n hx hb dX3_swap_11 rfl (lv_at hl 2 rfl) ?_
  refine zz_iald hx hb hK hP 6 0 rfl rfl (i := x1) rfl (by omega) (by decide) dX3_swap_12 ?_
  refine zz_topi (fn x1) (rfl) ?_
  refine lv_istore (lv' := [(4, .int (fn x1)), (3, .int (rw x1)), (0, .ref (q 0)), (1, .int (nI x1)), (2, .int (nI y1))]) hx hb dX3_swap_13 hl (by decide) rfl (fun ls hl => ?_)
  refine lv_aload_n hx hb dX3_swap_15 rfl (lv_at hl 2 rfl) ?_
  refine va_get (ci := 3) (C := RX3) (T := TX3) (N := 7) hx hb hts hiX3 hown hK hP 0 rfl rfl 4 (by decide) hf23 (fun _ h9 => h9) rfl dX3_swap_16 ?_
  refine lv_iload_n hx hb dX3_swap_19 rfl (lv_at hl 3 rfl) ?_
  refine lv_aload_n hx hb dX3_swap_20 rfl (lv_at hl 2 rfl) ?_
  refine va_get (ci := 3) (C := RX3) (T := TX3) (N := 7) hx hb hts hiX3 hown hK hP 0 rfl rfl 4 (by decide) hf23 (fun _ h9 => h9) rfl dX3_swap_21 ?_
  refine lv_iload_n hx hb dX3_swap_24 rfl (lv_at hl 4 rfl) ?_
  refine zz_iald hx hb hK hP 5 0 rfl rfl (i := y1) rfl (by omega) (by decide) dX3_swap_25 ?_
  refine zz_iast hx hb hK hP hD hS 5 0 rfl rfl (i := x1) rfl (by omega) (by decide) dX3_swap_26 (fun H locs hP hD hS => ?_)
  have hP : va_P D vwCl (zcM cI cZ q (zst a) im kp lf (upd rw x1 (rw y1)) fn kn) H := hP
  have hD : va_D A (zcM cI cZ q (zst a) im kp lf (upd rw x1 (rw y1)) fn kn) := hD
  refine lv_aload_n hx hb dX3_swap_27 rfl (lv_at hl 2 rfl) ?_
  refine va_get (ci := 3) (C := RX3) (T := TX3) (N := 7) hx hb hts hiX3 hown hK hP 0 rfl rfl 5 (by decide) hf26 (fun _ h9 => h9) rfl dX3_swap_28 ?_
  refine lv_iload_n hx hb dX3_swap_31 rfl (lv_at hl 3 rfl) ?_
  refine lv_aload_n hx hb dX3_swap_32 rfl (lv_at hl 2 rfl) ?_
  refine va_get (ci := 3) (C := RX3) (T := TX3) (N := 7) hx hb hts hiX3 hown hK hP 0 rfl rfl 5 (by decide) hf26 (fun _ h9 => h9) rfl dX3_swap_33 ?_
  refine lv_iload_n hx hb dX3_swap_36 rfl (lv_at hl 4 rfl) ?_
  refine zz_iald hx hb hK hP 6 0 rfl rfl (i := y1) rfl (by omega) (by decide) dX3_swap_37 ?_
  refine zz_iast hx hb hK hP hD hS 6 0 rfl rfl (i := x1) rfl (by omega) (by decide) dX3_swap_38 (fun H locs hP hD hS => ?_)
  have hP : va_P D vwCl (zcM cI cZ q (zst a) im kp lf (upd rw x1 (rw y1)) (upd fn x1 (fn y1)) kn) H := hP
  have hD : va_D A (zcM cI cZ q (zst a) im kp lf (upd rw x1 (rw y1)) (upd fn x1 (fn y1)) kn) := hD
  refine lv_aload_n hx hb dX3_swap_39 rfl (lv_at hl 2 rfl) ?_
  refine va_get (ci := 3) (C := RX3) (T := TX3) (N := 7) hx hb hts hiX3 hown hK hP 0 rfl rfl 4 (by decide) hf23 (fun _ h9 => h9) rfl dX3_swap_40 ?_
  refine lv_iload_n hx hb dX3_swap_43 rfl (lv_at hl 4 rfl) ?_
  refine lv_iload_n hx hb dX3_swap_44 rfl (lv_at hl 1 rfl) ?_
  refine zz_iast hx hb hK hP hD hS 5 0 rfl rfl (i := y1) rfl (by omega) (by decide) dX3_swap_45 (fun H locs hP hD hS => ?_)
  have hP : va_P D vwCl (zcM cI cZ q (zst a) im kp lf (upd (upd rw x1 (rw y1)) y1 (rw x1)) (upd fn x1 (fn y1)) kn) H := hP
  have hD : va_D A (zcM cI cZ q (zst a) im kp lf (upd (upd rw x1 (rw y1)) y1 (rw x1)) (upd fn x1 (fn y1)) kn) := hD
  refine lv_aload_n hx hb dX3_swap_46 rfl (lv_at hl 2 rfl) ?_
  refine va_get (ci := 3) (C := RX3) (T := TX3) (N := 7) hx hb hts hiX3 hown hK hP 0 rfl rfl 5 (by decide) hf26 (fun _ h9 => h9) rfl dX3_swap_47 ?_
  refine lv_iload_n hx hb dX3_swap_50 rfl (lv_at hl 4 rfl) ?_
  refine lv_iload hx hb dX3_swap_51 (lv_at hl 0 rfl) ?_
  refine zz_iast hx hb hK hP hD hS 6 0 rfl rfl (i := y1) rfl (by omega) (by decide) dX3_swap_53 (fun H locs hP hD hS => ?_)
  have hP : va_P D vwCl (zcM cI cZ q (zst a) im kp lf (upd (upd rw x1 (rw y1)) y1 (rw x1)) (upd (upd fn x1 (fn y1)) y1 (fn x1)) kn) H := hP
  have hD : va_D A (zcM cI cZ q (zst a) im kp lf (upd (upd rw x1 (rw y1)) y1 (rw x1)) (upd (upd fn x1 (fn y1)) y1 (fn x1)) kn) := hD
  exact W.vret hx hb hr (fun t9 ht hW => ⟨⟨(upd (upd rw x1 (rw y1)) y1 (rw x1), upd (upd fn x1 (fn y1)) y1 (fn x1)), rfl, (rfl), zP_ht ht hP⟩, hS.F ht⟩) hS.2.2 dX3_swap_54
set_option maxHeartbeats 4000000 in
set_option maxRecDepth 100000 in
theorem c_X3_sort (l : Launch) (D : va_G) (cI cZ : ClassId) (hs ta : Nat) (sz : Nat) (q : Nat → Nat) (a : ZA) (im : Nat → Int32) (kp : Nat → Int32) (lf : Nat → Int32) (rw : Nat → Int32) (fn : Nat → Int32) (kn : Nat) (L : ZL) (hL : zRL (rw, fn, kn) L) (hL16 : L.length ≤ 16) : Met l yX3_sort wsX3_sort ({ frames := 1, cells := 0, slots := 0, locals := 24 }) (va_Pc [.ref (q 0)] (fun U => U.heap.size = sz ∧ zPre D (zTy cI cZ) hs ta (zcM cI cZ q (zst a) im kp lf rw fn kn) U)) (va_Qv (fun (u : (Nat → Int32) × (Nat → Int32)) => zRL (u.1, u.2, kn) (zso L L.length)) (fun (u : (Nat → Int32) × (Nat → Int32)) t9 => va_P D vwCl (zcM cI cZ q (zst a) im kp lf u.1 u.2 kn) t9.heap) (va_A (zcM cI cZ q (zst a) im kp lf rw fn kn) sz)) 0 0 (va_A (zcM cI cZ q (zst a) im kp lf rw fn kn) sz) := by
  refine Met.ofW (cc := cX3_sort) (maxL := 3) (ret := none) (by decide) rfl ?_
  intro p e s m args below meth c s₁ B hml hv0
  obtain ⟨rfl, hsz, hP, hD0, hG⟩ := hv0
  have hx := B.exec
  have hb := B.bytes
  have hr := B.returns
  have hts := atoms_spec (ws := wsX3_sort) B.pre
  have hown : s.vm.findClass RX3 = some m.cls := findClass_of_methodNamed B.named
  have hlocks := B.notSynchronized
  subst hsz
  have hD := hD0.self (sz := s.heap.size)
  have hAz0 : ∀ y9, va_A (zcM cI cZ q (zst a) im kp lf rw fn kn) s.heap.size y9 → hs ≤ y9 := zA_of hD0 (fun y9 h => Nat.le_trans hG.2.2.2.2 h) (va_S.rf (A := zA hs) (H0 := s.heap))
  generalize hAe : va_A (zcM cI cZ q (zst a) im kp lf rw fn kn) s.heap.size = A at hD hAz0 ⊢
  have hA : ∀ y9 : Nat, s.heap.size ≤ y9 → A y9 := fun y9 h => by rw [← hAe]; exact Or.inr h
  have hS : va_S A s.heap s.heap [] := va_S.rf
  have hAz : ∀ y9, A y9 → hs ≤ y9 := hAz0
  have hK := hG.1
  have hl := lv_entry ([.ref (q 0)]) (n := 3) (Nat.le_of_ble_eq_true rfl)
  rw [lg_entry_eq]
  generalize (lg_sl ([.ref (q 0)]) ++ List.replicate (3 - (lg_sl ([.ref (q 0)])).length) Slot.unset).toArray = ls at hl ⊢
  have hl : lv_has ls 3 [(0, .ref (q 0))] := hl
  have hf112 := hts (.fieldLink RX3 112 "FrozenBitsModel" "kept" "I") (List.mem_of_getElem? (i := 1) rfl)
  have hiX3 : ∀ w ∈ u_ws RX3 TX3 7, w ∈ wsX3_sort := fun w h => List.mem_cons_of_mem _ (List.mem_append_right _ h)
  have hkn : kn = L.length := hL.1
  refine lv_iconst (v := 1) hx hb dX3_sort_0 (by decide) ?_
  refine lv_istore_n (lv' := [(1, .int 1), (0, .ref (q 0))]) hx hb dX3_sort_1 rfl hl (by decide) rfl (fun ls hl => ?_)
  have hl : lv_has ls 3 [(1, .int (nI (1 + 0))), (0, .ref (q 0))] := hl
  refine zz_forHJ (P := fun H locs g => W p l e _ s m _ below meth c H locs _ _ _ g) (nL := 3) (kn - 1) (fun i => [(1, .int (nI (1 + i))), (0, .ref (q 0))]) (fun i H locs => ∃ r1 : Nat → Int32, ∃ f1 : Nat → Int32, zRL (r1, f1, kn) (zso L (1 + i) ++ L.drop (1 + i)) ∧ va_P D vwCl (zcM cI cZ q (zst a) im kp lf r1 f1 kn) H ∧ va_D A (zcM cI cZ q (zst a) im kp lf r1 f1 kn) ∧ va_S A s.heap H locs) (J := fun _ => True) ?_ ?_ (⟨_, _, by rw [Nat.add_zero, zso_1]; exact hL, hP, hD, hS⟩) (trivial) ((lv_sub hl [0, 1] rfl))
  · intro H locs ls hJ hI0 hl
    obtain ⟨r1, f1, hEx, hP, hD, hS⟩ := hI0
    refine lv_iload_n hx hb dX3_sort_2 rfl (lv_at hl 0 rfl) ?_
    refine lv_aload_n hx hb dX3_sort_3 rfl (lv_at hl 1 rfl) ?_
    refine va_get (ci := 3) (C := RX3) (T := TX3) (N := 7) hx hb hts hiX3 hown hK hP 0 rfl rfl 6 (by decide) hf112 (fun _ h9 => h9) rfl dX3_sort_4 ?_
    refine lv_icmp_ge (tgt := 47) hx hb dX3_sort_7 (by decide) (fun c_1 => ?_) (fun c_1 => ?_)
    · replace c_1 := Int32.not_lt.mpr c_1
      exact W.vret hx hb hr (fun t9 ht hW => ⟨⟨(r1, f1), rfl, (by rw [← zso_end hkn]; exact hEx), zP_ht ht hP⟩, hS.F ht⟩) hS.2.2 dX3_sort_47
    · replace c_1 := Int32.not_le.mp c_1
      exact absurd c_1 (nI_nlt (by omega) (by omega))
  · intro i hi hJ ihi H locs ls hI0 hl
    obtain ⟨r1, f1, hEx, hP, hD, hS⟩ := hI0
    have hgl : (zso L (1 + i)).length = 1 + i := zso_len (by omega)
    have hpz := zpos_le (zso L (1 + i)) (L.getD (1 + i) (0, 0)) (zso L (1 + i)).length
    refine lv_iload_n hx hb dX3_sort_2 rfl (lv_at hl 0 rfl) ?_
    refine lv_aload_n hx hb dX3_sort_3 rfl (lv_at hl 1 rfl) ?_
    refine va_get (ci := 3) (C := RX3) (T := TX3) (N := 7) hx hb hts hiX3 hown hK hP 0 rfl rfl 6 (by decide) hf112 (fun _ h9 => h9) rfl dX3_sort_4 ?_
    refine lv_icmp_ge (tgt := 47) hx hb dX3_sort_7 (by decide) (fun c_2 => ?_) (fun c_2 => ?_)
    · replace c_2 := Int32.not_lt.mpr c_2
      exact absurd (nI_lt (show 1 + i < kn by omega) (by omega)) c_2
    · replace c_2 := Int32.not_le.mp c_2
      refine lv_iload_n hx hb dX3_sort_10 rfl (lv_at hl 0 rfl) ?_
      refine lv_istore_n (lv' := [(2, .int (nI (1 + i))), (1, .int (nI (1 + i))), (0, .ref (q 0))]) hx hb dX3_sort_11 rfl hl (by decide) rfl (fun ls hl => ?_)
      rw [show ((nI (1 + i)) : Int32) = (nI (1 + i - 0)) from by rw [Nat.sub_zero]] at hl
      refine zz_forHJ (P := fun H locs g => W p l e _ s m _ below meth c H locs _ _ _ g) (nL := 3) (1 + i - zpos (zso L (1 + i)) (L.getD (1 + i) (0, 0)) (zso L (1 + i)).length) (fun j => [(2, .int (nI (1 + i - j))), (1, .int (nI (1 + i))), (0, .ref (q 0))]) (fun j H locs => ∃ r2 : Nat → Int32, ∃ f2 : Nat → Int32, zRL (r2, f2, kn) (zmid (zso L (1 + i)) (L.getD (1 + i) (0, 0)) (L.drop (1 + i + 1)) (1 + i - j)) ∧ va_P D vwCl (zcM cI cZ q (zst a) im kp lf r2 f2 kn) H ∧ va_D A (zcM cI cZ q (zst a) im kp lf r2 f2 kn) ∧ va_S A s.heap H locs) (J := fun _ => True) ?_ ?_ (⟨_, _, by rw [Nat.sub_zero, zmid_start (by omega)]; exact hEx, hP, hD, hS⟩) (trivial) ((lv_sub hl [0, 1, 2] rfl))
      · intro H locs ls hJ hI0 hl
        obtain ⟨r2, f2, hEx, hP, hD, hS⟩ := hI0
        have hpe : 1 + i - (1 + i - zpos (zso L (1 + i)) (L.getD (1 + i) (0, 0)) (zso L (1 + i)).length) = zpos (zso L (1 + i)) (L.getD (1 + i) (0, 0)) (zso L (1 + i)).length := by omega
        rw [hpe] at hl hEx
        refine lv_iload_n hx hb dX3_sort_12 rfl (lv_at hl 0 rfl) ?_
        refine lv_if_le (tgt := 41) hx hb dX3_sort_13 (by decide) (fun c_3 => ?_) (fun c_3 => ?_)
        · replace c_3 := Int32.not_lt.mpr c_3
          rw [zmid_end (by omega)] at hEx
          refine lv_iinc (v := (nI ((1 + i) + 1))) (lv' := [(1, .int (nI ((1 + i) + 1))), (2, .int (nI (zpos (zso L (1 + i)) (L.getD (1 + i) (0, 0)) (zso L (1 + i)).length))), (0, .ref (q 0))]) hx hb dX3_sort_41 hl (k := 1) rfl (zz_inc _) (by decide) rfl (fun ls hl => ?_)
          refine lv_goto (tgt := 2) hx hb dX3_sort_44 (by decide) ?_
          have hl : lv_has ls 3 [(1, .int (nI (1 + (i + 1)))), (2, .int (nI (zpos (zso L (1 + i)) (L.getD (1 + i) (0, 0)) (zso L (1 + i)).length))), (0, .ref (q 0))] := hl
          exact ihi (trivial) _ _ ls (⟨_, _, hEx, hP, hD, hS⟩) (lv_sub hl [0, 2] rfl)
        · replace c_3 := Int32.not_le.mp c_3
          have hq1 : 0 < zpos (zso L (1 + i)) (L.getD (1 + i) (0, 0)) (zso L (1 + i)).length := (nI_ltI (by decide) (by omega)).mp c_3
          refine lv_aload_n hx hb dX3_sort_16 rfl (lv_at hl 2 rfl) ?_
          refine lv_iload_n hx hb dX3_sort_17 rfl (lv_at hl 0 rfl) ?_
          refine lv_iload_n hx hb dX3_sort_18 rfl (lv_at hl 0 rfl) ?_
          refine lv_iconst (v := 1) hx hb dX3_sort_19 (by decide) ?_
          refine lv_isub hx hb dX3_sort_20 ?_
          refine zz_topi (nI ((zpos (zso L (1 + i)) (L.getD (1 + i) (0, 0)) (zso L (1 + i)).length) - 1)) (zz_subn rfl (show (1 : Int32) = nI 1 from rfl) (by omega)) ?_
          refine zz_cVi (cs := zcM cI cZ q (zst a) im kp lf r2 f2 kn) (As := [.int (nI (zpos (zso L (1 + i)) (L.getD (1 + i) (0, 0)) (zso L (1 + i)).length)), .int (nI ((zpos (zso L (1 + i)) (L.getD (1 + i) (0, 0)) (zso L (1 + i)).length) - 1))]) (rest := []) ⟨hx, hb, hml, hown, hts⟩ (c_X3_isAhead l D cI cZ hs ta q a im kp lf r2 f2 kn (zpos (zso L (1 + i)) (L.getD (1 + i) (0, 0)) (zso L (1 + i)).length) ((zpos (zso L (1 + i)) (L.getD (1 + i) (0, 0)) (zso L (1 + i)).length) - 1) (by omega) (by omega)) (cwV 2 hts gX3_sort_X3_isAhead rfl rfl rfl (by decide +kernel) ⟨Nat.le_of_ble_eq_true rfl, Nat.le_of_ble_eq_true rfl⟩) (va_recv hK hP (ci := 3) (q0 := 0) rfl rfl) hP hD hG hS hAz rfl hl.1 rfl (Nat.le_of_ble_eq_true rfl) ⟨Nat.zero_le _, Nat.zero_le _⟩ dX3_sort_21 (fun r_4 er_4 => ?_)
          refine lv_if_eq (tgt := 41) hx hb dX3_sort_24 (by decide) (fun c_5 => ?_) (fun c_5 => ?_)
          · replace c_5 := zB_f er_4 c_5
            rw [zmid_end (by omega)] at hEx
            refine lv_iinc (v := (nI ((1 + i) + 1))) (lv' := [(1, .int (nI ((1 + i) + 1))), (2, .int (nI (zpos (zso L (1 + i)) (L.getD (1 + i) (0, 0)) (zso L (1 + i)).length))), (0, .ref (q 0))]) hx hb dX3_sort_41 hl (k := 1) rfl (zz_inc _) (by decide) rfl (fun ls hl => ?_)
            refine lv_goto (tgt := 2) hx hb dX3_sort_44 (by decide) ?_
            have hl : lv_has ls 3 [(1, .int (nI (1 + (i + 1)))), (2, .int (nI (zpos (zso L (1 + i)) (L.getD (1 + i) (0, 0)) (zso L (1 + i)).length))), (0, .ref (q 0))] := hl
            exact ihi (trivial) _ _ ls (⟨_, _, hEx, hP, hD, hS⟩) (lv_sub hl [0, 2] rfl)
          · replace c_5 := zB_t er_4 c_5
            (exact absurd ((zmid_ah hEx hq1 (by omega)).mp c_5) ((zpos_2 (zso L (1 + i)) (L.getD (1 + i) (0, 0)) (zso L (1 + i)).length).resolve_left (by omega)))
      · intro j hj hJ ihj H locs ls hI0 hl
        obtain ⟨r2, f2, hEx, hP, hD, hS⟩ := hI0
        refine lv_iload_n hx hb dX3_sort_12 rfl (lv_at hl 0 rfl) ?_
        refine lv_if_le (tgt := 41) hx hb dX3_sort_13 (by decide) (fun c_6 => ?_) (fun c_6 => ?_)
        · replace c_6 := Int32.not_lt.mpr c_6
          exact absurd (nI_lt (show 0 < 1 + i - j by omega) (by omega)) c_6
        · replace c_6 := Int32.not_le.mp c_6
          have hq1 : 0 < 1 + i - j := (nI_ltI (by decide) (by omega)).mp c_6
          refine lv_aload_n hx hb dX3_sort_16 rfl (lv_at hl 2 rfl) ?_
          refine lv_iload_n hx hb dX3_sort_17 rfl (lv_at hl 0 rfl) ?_
          refine lv_iload_n hx hb dX3_sort_18 rfl (lv_at hl 0 rfl) ?_
          refine lv_iconst (v := 1) hx hb dX3_sort_19 (by decide) ?_
          refine lv_isub hx hb dX3_sort_20 ?_
          refine zz_topi (nI ((1 + i - j) - 1)) (zz_subn rfl (show (1 : Int32) = nI 1 from rfl) (by omega)) ?_
          refine zz_cVi (cs := zcM cI cZ q (zst a) im kp lf r2 f2 kn) (As := [.int (nI (1 + i - j)), .int (nI ((1 + i - j) - 1))]) (rest := []) ⟨hx, hb, hml, hown, hts⟩ (c_X3_isAhead l D cI cZ hs ta q a im kp lf r2 f2 kn (1 + i - j) ((1 + i - j) - 1) (by omega) (by omega)) (cwV 2 hts gX3_sort_X3_isAhead rfl rfl rfl (by decide +kernel) ⟨Nat.le_of_ble_eq_true rfl, Nat.le_of_ble_eq_true rfl⟩) (va_recv hK hP (ci := 3) (q0 := 0) rfl rfl) hP hD hG hS hAz rfl hl.1 rfl (Nat.le_of_ble_eq_true rfl) ⟨Nat.zero_le _, Nat.zero_le _⟩ dX3_sort_21 (fun r_7 er_7 => ?_)
          refine lv_if_eq (tgt := 41) hx hb dX3_sort_24 (by decide) (fun c_8 => ?_) (fun c_8 => ?_)
          · replace c_8 := zB_f er_7 c_8
            (exact absurd ((zmid_ah hEx (by omega) (by omega)).mpr (zpos_1 (zso L (1 + i)) (L.getD (1 + i) (0, 0)) (zso L (1 + i)).length (1 + i - j - 1) (by omega) (by omega))) c_8)
          · replace c_8 := zB_t er_7 c_8
            refine lv_aload_n hx hb dX3_sort_27 rfl (lv_at hl 2 rfl) ?_
            refine lv_iload_n hx hb dX3_sort_28 rfl (lv_at hl 0 rfl) ?_
            refine lv_iload_n hx hb dX3_sort_29 rfl (lv_at hl 0 rfl) ?_
            refine lv_iconst (v := 1) hx hb dX3_sort_30 (by decide) ?_
            refine lv_isub hx hb dX3_sort_31 ?_
            refine zz_topi (nI ((1 + i - j) - 1)) (zz_subn rfl (show (1 : Int32) = nI 1 from rfl) (by omega)) ?_
            refine zz_mVv (ct := (fun (u : (Nat → Int32) × (Nat → Int32)) => zcM cI cZ q (zst a) im kp lf u.1 u.2 kn)) (cs := zcM cI cZ q (zst a) im kp lf r2 f2 kn) (As := [.int (nI (1 + i - j)), .int (nI ((1 + i - j) - 1))]) (rest := []) ⟨hx, hb, hml, hown, hts⟩ (c_X3_swap l D cI cZ hs ta H.size q a im kp lf r2 f2 kn (1 + i - j) ((1 + i - j) - 1) (by omega) (by omega)) (fun _ => rfl) (cwV 2 hts gX3_sort_X3_swap rfl rfl rfl (by decide +kernel) ⟨Nat.le_of_ble_eq_true rfl, Nat.le_of_ble_eq_true rfl⟩) (va_recv hK hP (ci := 3) (q0 := 0) rfl rfl) hP hD hG hS hA hAz rfl hl.1 rfl (Nat.le_of_ble_eq_true rfl) ⟨Nat.zero_le _, Nat.zero_le _⟩ dX3_sort_32 (fun u_10 H locs eu_10 hP hD hS => ?_)
            have hEx : zRL (u_10.1, u_10.2, kn) (zmid (zso L (1 + i)) (L.getD (1 + i) (0, 0)) (L.drop (1 + i + 1)) (1 + i - (j + 1))) := by rw [eu_10, show 1 + i - (j + 1) = 1 + i - j - 1 by omega]; exact zmid_swap hEx (by omega) (by omega)
            have hP : va_P D vwCl (zcM cI cZ q (zst a) im kp lf u_10.1 u_10.2 kn) H := hP
            have hD : va_D A (zcM cI cZ q (zst a) im kp lf u_10.1 u_10.2 kn) := hD
            obtain ⟨v_11, ev_11⟩ : ∃ y : Int32, y = (nI (1 + i - j)) + (-1) := ⟨_, rfl⟩
            refine lv_iinc (v := v_11) (lv' := [(2, .int v_11), (1, .int (nI (1 + i))), (0, .ref (q 0))]) hx hb dX3_sort_35 hl (k := 0) rfl (by rw [ev_11]; rfl) (by decide) rfl (fun ls hl => ?_)
            refine lv_goto (tgt := 12) hx hb dX3_sort_38 (by decide) ?_
            obtain rfl : v_11 = (nI (1 + i - (j + 1))) := by rw [ev_11, show 1 + i - j = (1 + i - (j + 1)) + 1 by omega]; exact pk_m1 _
            exact ihj (trivial) _ _ ls (⟨_, _, hEx, hP, hD, hS⟩) (lv_sub hl [0, 1, 2] rfl)
