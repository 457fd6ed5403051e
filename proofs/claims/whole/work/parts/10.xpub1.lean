set_option maxHeartbeats 4000000 in
set_option maxRecDepth 100000 in
theorem c_X2_deep (l : Launch) (D : va_G) (cI cZ : ClassId) (hs ta : Nat) (sz : Nat) (q : Nat → Nat) (a : ZA) (b0 : ZA) (b1 : ZA) (ik : Nat) (ha : Nat → Int32) (t : ZR) (g : ZR) (p0 : Int32) (hI : zInv a) : Met l yX2_deep wsX2_deep ({ frames := 1, cells := 0, slots := 0, locals := 22 }) (va_Pc [.ref (q 0), .int p0] (fun U => U.heap.size = sz ∧ zPre D (zTy cI cZ) hs ta (zcX cI q a b0 b1 ik ha t g) U)) (va_Qi (fun (r : Int32) (u : ZA) => (r, u) = zq_deep a p0) (fun (u : ZA) t9 => va_P D vwCl (zcX cI q u b0 b1 ik ha t g) t9.heap) (va_A (zcX cI q a b0 b1 ik ha t g) sz)) 0 0 (va_A (zcX cI q a b0 b1 ik ha t g) sz) := by
  refine Met.ofW (cc := cX2_deep) (maxL := 3) (ret := (some .int)) (by decide) rfl ?_
  intro p e s m args below meth c s₁ B hml hv0
  obtain ⟨rfl, hsz, hP, hD0, hG⟩ := hv0
  have hx := B.exec
  have hb := B.bytes
  have hr := B.returns
  have hts := atoms_spec (ws := wsX2_deep) B.pre
  have hown : s.vm.findClass RX2 = some m.cls := findClass_of_methodNamed B.named
  have hlocks := B.notSynchronized
  subst hsz
  have hD := hD0.self (sz := s.heap.size)
  have hAz0 : ∀ y9, va_A (zcX cI q a b0 b1 ik ha t g) s.heap.size y9 → hs ≤ y9 := zA_of hD0 (fun y9 h => Nat.le_trans hG.2.2.2.2 h) (va_S.rf (A := zA hs) (H0 := s.heap))
  generalize hAe : va_A (zcX cI q a b0 b1 ik ha t g) s.heap.size = A at hD hAz0 ⊢
  have hA : ∀ y9 : Nat, s.heap.size ≤ y9 → A y9 := fun y9 h => by rw [← hAe]; exact Or.inr h
  have hS : va_S A s.heap s.heap [] := va_S.rf
  have hAz : ∀ y9, A y9 → hs ≤ y9 := hAz0
  have hK := hG.1
  have hl := lv_entry ([.ref (q 0), .int p0]) (n := 3) (Nat.le_of_ble_eq_true rfl)
  rw [lg_entry_eq]
  generalize (lg_sl ([.ref (q 0), .int p0]) ++ List.replicate (3 - (lg_sl ([.ref (q 0), .int p0])).length) Slot.unset).toArray = ls at hl ⊢
  have hl : lv_has ls 3 [(0, .ref (q 0)), (1, .int p0)] := hl
  have hf10 := hts (.fieldLink RX2 10 "FrozenBits" "now" "LFrozenBits$Facts;") (List.mem_of_getElem? (i := 1) rfl)
  have hiX2 : ∀ w ∈ u_ws RX2 TX2 7, w ∈ wsX2_deep := fun w h => List.mem_cons_of_mem _ (List.mem_append_left _ (List.mem_append_right _ h))
  have hn40 := hG.2.1 (.fieldLinkNest "FrozenBits" 40 "FrozenBits$Facts" "deep" "I" "FrozenBits") (List.mem_of_getElem? (i := 0) rfl)
  have hiX0 : ∀ w ∈ u_ws RX0 TX0 7, w ∈ wsX2_deep := fun w h => List.mem_cons_of_mem _ (List.mem_append_right _ h)
  refine lv_iload_n hx hb dX2_deep_0 rfl (lv_at hl 1 rfl) ?_
  refine lv_iconst (v := 1) hx hb dX2_deep_1 (by decide) ?_
  refine lv_icmp_lt (tgt := 10) hx hb dX2_deep_2 (by decide) (fun c_1 => ?_) (fun c_1 => ?_)
  · refine lv_bipush (v := (-2)) hx hb dX2_deep_10 (by decide) ?_
    exact W.iret (v := (-2)) hx hb hr (fun t9 ht hW => ⟨⟨_, a, rfl, (by simp (decide := true) only [zq_deep, zwm, c_1, not_true_eq_false, not_false_eq_true, and_self, and_true, true_and, and_false, false_and, or_self, or_true, true_or, or_false, false_or, if_true, if_false, ↓reduceIte, Bool.false_eq_true, iff_self, iff_true, iff_false, true_iff, false_iff, Nat.add_zero]), zP_ht ht hP⟩, hS.F ht⟩) hS.2.2 dX2_deep_12
  · refine lv_iload_n hx hb dX2_deep_5 rfl (lv_at hl 1 rfl) ?_
    refine lv_iconst (v := 4) hx hb dX2_deep_6 (by decide) ?_
    refine lv_icmp_le (tgt := 13) hx hb dX2_deep_7 (by decide) (fun c_2 => ?_) (fun c_2 => ?_)
    · replace c_2 := Int32.not_lt.mpr c_2
      obtain ⟨k0, hk0, hk1, rfl⟩ := zr1 (lo := 1) (hi := 4) c_1 c_2 (by decide) (by decide)
      refine lv_aload_n hx hb dX2_deep_13 rfl (lv_at hl 0 rfl) ?_
      refine va_get (ci := 2) (C := RX2) (T := TX2) (N := 7) hx hb hts hiX2 hown hK hP 0 rfl rfl 0 (by decide) hf10 (fun _ h9 => h9) rfl dX2_deep_14 ?_
      refine va_getN (ci := 0) (C := RX0) (T := TX0) (N := 7) hx hb hts hiX0 hown hK hP 1 rfl rfl 0 (by decide) (va_Nw.use rfl hn40) (fun _ h9 => h9) rfl dX2_deep_17 ?_
      refine lv_istore_n (lv' := [(2, .int (nI (a.1))), (0, .ref (q 0)), (1, .int (nI k0))]) hx hb dX2_deep_20 rfl hl (by decide) rfl (fun ls hl => ?_)
      refine lv_aload_n hx hb dX2_deep_21 rfl (lv_at hl 1 rfl) ?_
      refine va_get (ci := 2) (C := RX2) (T := TX2) (N := 7) hx hb hts hiX2 hown hK hP 0 rfl rfl 0 (by decide) hf10 (fun _ h9 => h9) rfl dX2_deep_22 ?_
      refine lv_iload_n hx hb dX2_deep_25 rfl (lv_at hl 2 rfl) ?_
      refine zz_nVv (ct := fun (u : ZA) => zcF cI (q 1) (q 2) (q 3) u) (cn := fun (u : ZA) => zcX cI q u b0 b1 ik ha t g) (cs := zcF cI (q 1) (q 2) (q 3) a) (As := [.int (nI k0)]) (rest := []) ⟨hx, hb, hml, hown, hts⟩ (c_X0_beginAnew l D cI cZ hs ta s.heap.size (q 1) (q 2) (q 3) a k0) (fun _ => rfl) (cwV 1 hts gX2_deep_X0_beginAnew rfl rfl rfl (by decide +kernel) ⟨Nat.le_of_ble_eq_true rfl, Nat.le_of_ble_eq_true rfl⟩) (va_recv hK hP (ci := 0) (q0 := 1) rfl rfl) hP hD [1, 2, 3] [0, 4, 5, 6, 7, 8, 9, 10, 11, 12, 13, 14, 15, 16] [0, 14, 15, 16, 1, 2, 3, 4, 5, 6, 7, 8, 9, 10, 11, 12, 13] (nW := 17) rfl (by decide) (by decide) (by decide) rfl (by decide) (fun _ => rfl) (fun _ => rfl) (fun _ => rfl) hG hS hA hAz rfl hl.1 rfl (Nat.le_of_ble_eq_true rfl) ⟨Nat.zero_le _, Nat.zero_le _⟩ dX2_deep_26 (fun u_4 H locs eu_4 hP hD hS => ?_)
      subst eu_4
      have hP : va_P D vwCl (zcX cI q (k0, a.2.1, a.2.2.1, 0, a.2.2.2.2.1, (fun _ => 0), (fun _ => 0)) b0 b1 ik ha t g) H := hP
      have hD : va_D A (zcX cI q (k0, a.2.1, a.2.2.1, 0, a.2.2.2.2.1, (fun _ => 0), (fun _ => 0)) b0 b1 ik ha t g) := hD
      refine lv_iload_n hx hb dX2_deep_29 rfl (lv_at hl 0 rfl) ?_
      exact W.iret (v := (nI (a.1))) hx hb hr (fun t9 ht hW => ⟨⟨_, (k0, a.2.1, a.2.2.1, 0, a.2.2.2.2.1, (fun _ => 0), (fun _ => 0)), rfl, (by simp (decide := true) only [zq_deep, zwm, c_1, c_2, not_true_eq_false, not_false_eq_true, and_self, and_true, true_and, and_false, false_and, or_self, or_true, true_or, or_false, false_or, if_true, if_false, ↓reduceIte, Bool.false_eq_true, iff_self, iff_true, iff_false, true_iff, false_iff, Nat.add_zero]; rw [zN_nI (by omega)]), zP_ht ht hP⟩, hS.F ht⟩) hS.2.2 dX2_deep_30
    · replace c_2 := Int32.not_le.mp c_2
      refine lv_bipush (v := (-2)) hx hb dX2_deep_10 (by decide) ?_
      exact W.iret (v := (-2)) hx hb hr (fun t9 ht hW => ⟨⟨_, a, rfl, (by simp (decide := true) only [zq_deep, zwm, c_1, c_2, not_true_eq_false, not_false_eq_true, and_self, and_true, true_and, and_false, false_and, or_self, or_true, true_or, or_false, false_or, if_true, if_false, ↓reduceIte, Bool.false_eq_true, iff_self, iff_true, iff_false, true_iff, false_iff, Nat.add_zero]), zP_ht ht hP⟩, hS.F ht⟩) hS.2.2 dX2_deep_12
set_option maxHeartbeats 4000000 in
set_option maxRecDepth 100000 in
theorem c_X2_loss (l : Launch) (D : va_G) (cI cZ : ClassId) (hs ta : Nat) (sz : Nat) (q : Nat → Nat) (a : ZA) (b0 : ZA) (b1 : ZA) (ik : Nat) (ha : Nat → Int32) (t : ZR) (g : ZR) (p0 : Int32) (p1 : Int32) (hI : zInv a) : Met l yX2_loss wsX2_loss ({ frames := 0, cells := 0, slots := 0, locals := 0 }) (va_Pc [.ref (q 0), .int p0, .int p1] (fun U => U.heap.size = sz ∧ zPre D (zTy cI cZ) hs ta (zcX cI q a b0 b1 ik ha t g) U)) (va_Qi (fun (r : Int32) (u : ZA) => (r, u) = zq_loss a p0 p1) (fun (u : ZA) t9 => va_P D vwCl (zcX cI q u b0 b1 ik ha t g) t9.heap) (va_A (zcX cI q a b0 b1 ik ha t g) sz)) 0 0 (va_A (zcX cI q a b0 b1 ik ha t g) sz) := by
  refine Met.ofW (cc := cX2_loss) (maxL := 4) (ret := (some .int)) (by decide) rfl ?_
  intro p e s m args below meth c s₁ B hml hv0
  obtain ⟨rfl, hsz, hP, hD0, hG⟩ := hv0
  have hx := B.exec
  have hb := B.bytes
  have hr := B.returns
  have hts := atoms_spec (ws := wsX2_loss) B.pre
  have hown : s.vm.findClass RX2 = some m.cls := findClass_of_methodNamed B.named
  have hlocks := B.notSynchronized
  subst hsz
  have hD := hD0.self (sz := s.heap.size)
  have hAz0 : ∀ y9, va_A (zcX cI q a b0 b1 ik ha t g) s.heap.size y9 → hs ≤ y9 := zA_of hD0 (fun y9 h => Nat.le_trans hG.2.2.2.2 h) (va_S.rf (A := zA hs) (H0 := s.heap))
  generalize hAe : va_A (zcX cI q a b0 b1 ik ha t g) s.heap.size = A at hD hAz0 ⊢
  have hA : ∀ y9 : Nat, s.heap.size ≤ y9 → A y9 := fun y9 h => by rw [← hAe]; exact Or.inr h
  have hS : va_S A s.heap s.heap [] := va_S.rf
  have hAz : ∀ y9, A y9 → hs ≤ y9 := hAz0
  have hK := hG.1
  have hl := lv_entry ([.ref (q 0), .int p0, .int p1]) (n := 4) (Nat.le_of_ble_eq_true rfl)
  rw [lg_entry_eq]
  generalize (lg_sl ([.ref (q 0), .int p0, .int p1]) ++ List.replicate (4 - (lg_sl ([.ref (q 0), .int p0, .int p1])).length) Slot.unset).toArray = ls at hl ⊢
  have hl : lv_has ls 4 [(0, .ref (q 0)), (1, .int p0), (2, .int p1)] := hl
  have hf10 := hts (.fieldLink RX2 10 "FrozenBits" "now" "LFrozenBits$Facts;") (List.mem_of_getElem? (i := 1) rfl)
  have hiX2 : ∀ w ∈ u_ws RX2 TX2 7, w ∈ wsX2_loss := fun w h => List.mem_cons_of_mem _ (List.mem_append_left _ (List.mem_append_right _ h))
  have hn47 := hG.2.1 (.fieldLinkNest "FrozenBits" 47 "FrozenBits$Facts" "of" "I" "FrozenBits") (List.mem_of_getElem? (i := 2) rfl)
  have hiX0 : ∀ w ∈ u_ws RX0 TX0 7, w ∈ wsX2_loss := fun w h => List.mem_cons_of_mem _ (List.mem_append_right _ h)
  have hn50 := hG.2.1 (.fieldLinkNest "FrozenBits" 50 "FrozenBits$Facts" "top" "I" "FrozenBits") (List.mem_of_getElem? (i := 1) rfl)
  refine lv_iload_n hx hb dX2_loss_0 rfl (lv_at hl 2 rfl) ?_
  refine lv_iconst (v := 2) hx hb dX2_loss_1 (by decide) ?_
  refine lv_icmp_lt (tgt := 20) hx hb dX2_loss_2 (by decide) (fun c_1 => ?_) (fun c_1 => ?_)
  · refine lv_bipush (v := (-2)) hx hb dX2_loss_20 (by decide) ?_
    exact W.iret (v := (-2)) hx hb hr (fun t9 ht hW => ⟨⟨_, a, rfl, (by simp (decide := true) only [zq_loss, zwm, c_1, not_true_eq_false, not_false_eq_true, and_self, and_true, true_and, and_false, false_and, or_self, or_true, true_or, or_false, false_or, if_true, if_false, ↓reduceIte, Bool.false_eq_true, iff_self, iff_true, iff_false, true_iff, false_iff, Nat.add_zero]), zP_ht ht hP⟩, hS.F ht⟩) hS.2.2 dX2_loss_22
  · refine lv_iload_n hx hb dX2_loss_5 rfl (lv_at hl 2 rfl) ?_
    refine lv_bipush (v := 10) hx hb dX2_loss_6 (by decide) ?_
    refine lv_icmp_gt (tgt := 20) hx hb dX2_loss_8 (by decide) (fun c_2 => ?_) (fun c_2 => ?_)
    · refine lv_bipush (v := (-2)) hx hb dX2_loss_20 (by decide) ?_
      exact W.iret (v := (-2)) hx hb hr (fun t9 ht hW => ⟨⟨_, a, rfl, (by simp (decide := true) only [zq_loss, zwm, c_1, c_2, not_true_eq_false, not_false_eq_true, and_self, and_true, true_and, and_false, false_and, or_self, or_true, true_or, or_false, false_or, if_true, if_false, ↓reduceIte, Bool.false_eq_true, iff_self, iff_true, iff_false, true_iff, false_iff, Nat.add_zero]), zP_ht ht hP⟩, hS.F ht⟩) hS.2.2 dX2_loss_22
    · refine lv_iload_n hx hb dX2_loss_11 rfl (lv_at hl 1 rfl) ?_
      refine lv_if_lt (tgt := 20) hx hb dX2_loss_12 (by decide) (fun c_3 => ?_) (fun c_3 => ?_)
      · refine lv_bipush (v := (-2)) hx hb dX2_loss_20 (by decide) ?_
        exact W.iret (v := (-2)) hx hb hr (fun t9 ht hW => ⟨⟨_, a, rfl, (by simp (decide := true) only [zq_loss, zwm, c_1, c_2, c_3, not_true_eq_false, not_false_eq_true, and_self, and_true, true_and, and_false, false_and, or_self, or_true, true_or, or_false, false_or, if_true, if_false, ↓reduceIte, Bool.false_eq_true, iff_self, iff_true, iff_false, true_iff, false_iff, Nat.add_zero]), zP_ht ht hP⟩, hS.F ht⟩) hS.2.2 dX2_loss_22
      · refine lv_iload_n hx hb dX2_loss_15 rfl (lv_at hl 1 rfl) ?_
        refine lv_iload_n hx hb dX2_loss_16 rfl (lv_at hl 2 rfl) ?_
        refine lv_icmp_le (tgt := 23) hx hb dX2_loss_17 (by decide) (fun c_4 => ?_) (fun c_4 => ?_)
        · replace c_4 := Int32.not_lt.mpr c_4
          obtain ⟨k1, hk1, hk2, rfl⟩ := zr1 (lo := 2) (hi := 10) c_1 c_2 (by decide) (by decide)
          obtain ⟨k0, hk3, hk4, rfl⟩ := zr1 (lo := 0) (hi := k1) c_3 c_4 (by omega) (by decide)
          refine lv_aload_n hx hb dX2_loss_23 rfl (lv_at hl 0 rfl) ?_
          refine va_get (ci := 2) (C := RX2) (T := TX2) (N := 7) hx hb hts hiX2 hown hK hP 0 rfl rfl 0 (by decide) hf10 (fun _ h9 => h9) rfl dX2_loss_24 ?_
          refine va_getN (ci := 0) (C := RX0) (T := TX0) (N := 7) hx hb hts hiX0 hown hK hP 1 rfl rfl 2 (by decide) (va_Nw.use rfl hn47) (fun _ h9 => h9) rfl dX2_loss_27 ?_
          refine lv_istore_n (lv' := [(3, .int (nI (a.2.2.1))), (0, .ref (q 0)), (1, .int (nI k0)), (2, .int (nI k1))]) hx hb dX2_loss_30 rfl hl (by decide) rfl (fun ls hl => ?_)
          refine lv_aload_n hx hb dX2_loss_31 rfl (lv_at hl 1 rfl) ?_
          refine va_get (ci := 2) (C := RX2) (T := TX2) (N := 7) hx hb hts hiX2 hown hK hP 0 rfl rfl 0 (by decide) hf10 (fun _ h9 => h9) rfl dX2_loss_32 ?_
          refine lv_iload_n hx hb dX2_loss_35 rfl (lv_at hl 2 rfl) ?_
          refine va_putN (ci := 0) (v := .int (nI (k0))) (ty := .int) (C := RX0) (T := TX0) (N := 7) hx hb hts hiX0 tyX0 tyX0_ok nmX0 hown hK hP hD hS 1 rfl rfl 1 (by decide) (va_Nw.use rfl hn50) (fun _ h9 => h9) rfl (by decide +kernel) rfl rfl (Nat.le_of_ble_eq_true rfl) dX2_loss_36 (fun H locs hP hD hS => ?_)
          have hP : va_P D vwCl (zcX cI q (a.1, k0, a.2.2.1, a.2.2.2.1, a.2.2.2.2.1, a.2.2.2.2.2.1, a.2.2.2.2.2.2) b0 b1 ik ha t g) H := hP
          have hD : va_D A (zcX cI q (a.1, k0, a.2.2.1, a.2.2.2.1, a.2.2.2.2.1, a.2.2.2.2.2.1, a.2.2.2.2.2.2) b0 b1 ik ha t g) := hD
          refine lv_aload_n hx hb dX2_loss_39 rfl (lv_at hl 1 rfl) ?_
          refine va_get (ci := 2) (C := RX2) (T := TX2) (N := 7) hx hb hts hiX2 hown hK hP 0 rfl rfl 0 (by decide) hf10 (fun _ h9 => h9) rfl dX2_loss_40 ?_
          refine lv_iload_n hx hb dX2_loss_43 rfl (lv_at hl 3 rfl) ?_
          refine va_putN (ci := 0) (v := .int (nI (k1))) (ty := .int) (C := RX0) (T := TX0) (N := 7) hx hb hts hiX0 tyX0 tyX0_ok nmX0 hown hK hP hD hS 1 rfl rfl 2 (by decide) (va_Nw.use rfl hn47) (fun _ h9 => h9) rfl (by decide +kernel) rfl rfl (Nat.le_of_ble_eq_true rfl) dX2_loss_44 (fun H locs hP hD hS => ?_)
          have hP : va_P D vwCl (zcX cI q (a.1, k0, k1, a.2.2.2.1, a.2.2.2.2.1, a.2.2.2.2.2.1, a.2.2.2.2.2.2) b0 b1 ik ha t g) H := hP
          have hD : va_D A (zcX cI q (a.1, k0, k1, a.2.2.2.1, a.2.2.2.2.1, a.2.2.2.2.2.1, a.2.2.2.2.2.2) b0 b1 ik ha t g) := hD
          refine lv_iload_n hx hb dX2_loss_47 rfl (lv_at hl 0 rfl) ?_
          exact W.iret (v := (nI (a.2.2.1))) hx hb hr (fun t9 ht hW => ⟨⟨_, (a.1, k0, k1, a.2.2.2.1, a.2.2.2.2.1, a.2.2.2.2.2.1, a.2.2.2.2.2.2), rfl, (by simp (decide := true) only [zq_loss, zwm, c_1, c_2, c_3, c_4, not_true_eq_false, not_false_eq_true, and_self, and_true, true_and, and_false, false_and, or_self, or_true, true_or, or_false, false_or, if_true, if_false, ↓reduceIte, Bool.false_eq_true, iff_self, iff_true, iff_false, true_iff, false_iff, Nat.add_zero]; rw [zN_nI (by omega), zN_nI (by omega)]), zP_ht ht hP⟩, hS.F ht⟩) hS.2.2 dX2_loss_48
        · replace c_4 := Int32.not_le.mp c_4
          refine lv_bipush (v := (-2)) hx hb dX2_loss_20 (by decide) ?_
          exact W.iret (v := (-2)) hx hb hr (fun t9 ht hW => ⟨⟨_, a, rfl, (by simp (decide := true) only [zq_loss, zwm, c_1, c_2, c_3, c_4, not_true_eq_false, not_false_eq_true, and_self, and_true, true_and, and_false, false_and, or_self, or_true, true_or, or_false, false_or, if_true, if_false, ↓reduceIte, Bool.false_eq_true, iff_self, iff_true, iff_false, true_iff, false_iff, Nat.add_zero]), zP_ht ht hP⟩, hS.F ht⟩) hS.2.2 dX2_loss_22
set_option maxHeartbeats 4000000 in
set_option maxRecDepth 100000 in
theorem c_X2_split (l : Launch) (D : va_G) (cI cZ : ClassId) (hs ta : Nat) (q : Nat → Nat) (a : ZA) (b0 : ZA) (b1 : ZA) (ik : Nat) (ha : Nat → Int32) (t : ZR) (g : ZR) (p0 : Int32) (p1 : Int32) (hI : zInv a) : Met l yX2_split wsX2_split ({ frames := 2, cells := 0, slots := 0, locals := 47 }) (va_Pc [.ref (q 0), .int p0, .int p1] (zPre D (zTy cI cZ) hs ta (zcX cI q a b0 b1 ik ha t g))) (vp_Sl (fun r : Int64 => r = zq_split a p0 p1)) 0 0 (fun _ => False) := by
  refine Met.ofW (cc := cX2_split) (maxL := 9) (ret := (some .long)) (by decide) rfl ?_
  intro p e s m args below meth c s₁ B hml hv0
  obtain ⟨rfl, hP, hD, hG⟩ := hv0
  have hx := B.exec
  have hb := B.bytes
  have hr := B.returns
  have hts := atoms_spec (ws := wsX2_split) B.pre
  have hown : s.vm.findClass RX2 = some m.cls := findClass_of_methodNamed B.named
  have hlocks := B.notSynchronized
  have hK := hG.1
  have hS : va_S (zA hs) s.heap s.heap [] := va_S.rf
  have hAz : ∀ q, zA hs q → hs ≤ q := fun _ h => h
  have hl := lv_entry ([.ref (q 0), .int p0, .int p1]) (n := 9) (Nat.le_of_ble_eq_true rfl)
  rw [lg_entry_eq]
  generalize (lg_sl ([.ref (q 0), .int p0, .int p1]) ++ List.replicate (9 - (lg_sl ([.ref (q 0), .int p0, .int p1])).length) Slot.unset).toArray = ls at hl ⊢
  have hl : lv_has ls 9 [(0, .ref (q 0)), (1, .int p0), (2, .int p1)] := hl
  have hc59 := hts (.constantLong RX2 59 (-2)) (List.mem_of_getElem? (i := 2) rfl)
  have hc57 := hts (.constantLong RX2 57 (-1)) (List.mem_of_getElem? (i := 1) rfl)
  refine lv_aload_n hx hb dX2_split_0 rfl (lv_at hl 0 rfl) ?_
  refine lv_iload_n hx hb dX2_split_1 rfl (lv_at hl 1 rfl) ?_
  refine zz_cVi (cs := zcX cI q a b0 b1 ik ha t g) (As := [.int p0]) (rest := []) ⟨hx, hb, hml, hown, hts⟩ (c_X2_isPlace l D cI cZ hs ta q a b0 b1 ik ha t g p0 hI) (cwV 1 hts gX2_split_X2_isPlace rfl rfl rfl (by decide +kernel) ⟨Nat.le_of_ble_eq_true rfl, Nat.le_of_ble_eq_true rfl⟩) (va_recv hK hP (ci := 2) (q0 := 0) rfl rfl) hP hD hG hS hAz rfl hl.1 rfl (Nat.le_of_ble_eq_true rfl) ⟨Nat.zero_le _, Nat.zero_le _⟩ dX2_split_2 (fun r_1 er_1 => ?_)
  refine lv_if_ne (tgt := 12) hx hb dX2_split_5 (by decide) (fun c_2 => ?_) (fun c_2 => ?_)
  · replace c_2 := zB_t er_1 c_2
    refine lv_iload_n hx hb dX2_split_12 rfl (lv_at hl 2 rfl) ?_
    refine lv_if_lt (tgt := 21) hx hb dX2_split_13 (by decide) (fun c_3 => ?_) (fun c_3 => ?_)
    · refine lv_ldc2 hx hb hown hc59 dX2_split_21 ?_
      exact W.lret (v := (-2)) hx hb hr (fun t9 ht hW => ⟨_, rfl, (by simp (decide := true) only [zq_split, zwm, c_2, c_3, not_true_eq_false, not_false_eq_true, and_self, and_true, true_and, and_false, false_and, or_self, or_true, true_or, or_false, false_or, if_true, if_false, ↓reduceIte, Bool.false_eq_true, iff_self, iff_true, iff_false, true_iff, false_iff, Nat.add_zero]), ht⟩) (fun _ h => absurd h List.not_mem_nil) dX2_split_24
    · refine lv_iload_n hx hb dX2_split_16 rfl (lv_at hl 2 rfl) ?_
      refine lv_iconst (v := 1) hx hb dX2_split_17 (by decide) ?_
      refine lv_icmp_le (tgt := 25) hx hb dX2_split_18 (by decide) (fun c_4 => ?_) (fun c_4 => ?_)
      · replace c_4 := Int32.not_lt.mpr c_4
        obtain ⟨k0, hk0, rfl⟩ := zr0 c_2 (by have := zNp hI; omega)
        obtain ⟨K, hK0, hK1, hK2, hK3, hK4, hK5⟩ := zeu_K hI k0
        refine lv_aload_n hx hb dX2_split_25 rfl (lv_at hl 0 rfl) ?_
        refine lv_iload_n hx hb dX2_split_26 rfl (lv_at hl 1 rfl) ?_
        refine zz_cVl (cs := zcX cI q a b0 b1 ik ha t g) (As := [.int (nI k0)]) (rest := []) ⟨hx, hb, hml, hown, hts⟩ (c_X2_upperLoss l D cI cZ hs ta q a b0 b1 ik ha t g k0 hI (by have := zNp hI; omega)) (cwV 1 hts gX2_split_X2_upperLoss rfl rfl rfl (by decide +kernel) ⟨Nat.le_of_ble_eq_true rfl, Nat.le_of_ble_eq_true rfl⟩) (va_recv hK hP (ci := 2) (q0 := 0) rfl rfl) hP hD hG hS hAz rfl hl.1 rfl (Nat.le_of_ble_eq_true rfl) ⟨Nat.zero_le _, Nat.zero_le _⟩ dX2_split_27 (fun r_5 er_5 => ?_)
        subst er_5
        refine lv_lstore_n (lv' := [(3, .long (lN (zlos a k0))), (0, .ref (q 0)), (1, .int (nI k0)), (2, .int p1)]) hx hb dX2_split_30 rfl hl (by decide) rfl (fun ls hl => ?_)
        refine lv_aload_n hx hb dX2_split_31 rfl (lv_at hl 1 rfl) ?_
        refine zz_cVl (cs := zcX cI q a b0 b1 ik ha t g) (As := []) (rest := []) ⟨hx, hb, hml, hown, hts⟩ (c_X2_lowerLoss l D cI cZ hs ta q a b0 b1 ik ha t g hI) (cwV 0 hts gX2_split_X2_lowerLoss rfl rfl rfl (by decide +kernel) ⟨Nat.le_of_ble_eq_true rfl, Nat.le_of_ble_eq_true rfl⟩) (va_recv hK hP (ci := 2) (q0 := 0) rfl rfl) hP hD hG hS hAz rfl hl.1 rfl (Nat.le_of_ble_eq_true rfl) ⟨Nat.zero_le _, Nat.zero_le _⟩ dX2_split_32 (fun r_6 er_6 => ?_)
        subst er_6
        refine lv_lstore (lv' := [(5, .long (lN (zlo a.2.2.1 a.1))), (3, .long (lN (zlos a k0))), (0, .ref (q 0)), (1, .int (nI k0)), (2, .int p1)]) hx hb dX2_split_35 hl (by decide) rfl (fun ls hl => ?_)
        refine lv_lload_n hx hb dX2_split_37 rfl (lv_at hl 1 rfl) ?_
        refine lv_lload hx hb dX2_split_38 (lv_at hl 0 rfl) ?_
        refine zz_pSl (As := [.long (lN (zlos a k0)), .long (lN (zlo a.2.2.1 a.1))]) (rest := []) ⟨hx, hb, hml, hown, hts⟩ (c_X2_commonDivisor l (zlos a k0) (zlo a.2.2.1 a.1) K (zlos_lt hI k0) (zlo_lt hI a.1 (Nat.le_refl _)) hK0 hK1 hK2) (va_cwS 2 hts gX2_split_X2_commonDivisor rfl rfl rfl (by decide +kernel) ⟨Nat.le_of_ble_eq_true rfl, Nat.le_of_ble_eq_true rfl⟩) rfl hl.1 rfl (Nat.le_of_ble_eq_true rfl) ⟨Nat.zero_le _, Nat.zero_le _⟩ dX2_split_40 (fun r_7 er_7 => ?_)
        subst er_7
        refine zz_topl (lN (zgc a k0)) (by rw [hK3]) ?_
        refine lv_lstore (lv' := [(7, .long (lN (zgc a k0))), (5, .long (lN (zlo a.2.2.1 a.1))), (3, .long (lN (zlos a k0))), (0, .ref (q 0)), (1, .int (nI k0)), (2, .int p1)]) hx hb dX2_split_43 hl (by decide) rfl (fun ls hl => ?_)
        refine lv_lload hx hb dX2_split_45 (lv_at hl 0 rfl) ?_
        refine lv_lconst (v := 1) hx hb dX2_split_47 (by decide) ?_
        refine W.lcmp hx hb dX2_split_48 ?_
        refine lv_if_ge (tgt := 56) hx hb dX2_split_49 (by decide) (fun c_8 => ?_) (fun c_8 => ?_)
        · replace c_8 := Int32.not_lt.mpr c_8
          refine lv_iload_n hx hb dX2_split_56 rfl (lv_at hl 5 rfl) ?_
          refine lv_if_ne (tgt := 67) hx hb dX2_split_57 (by decide) (fun c_9 => ?_) (fun c_9 => ?_)
          · refine lv_lload hx hb dX2_split_67 (lv_at hl 1 rfl) ?_
            refine lv_lload hx hb dX2_split_69 (lv_at hl 0 rfl) ?_
            refine lv_ldiv hx hb dX2_split_71 (fun q => absurd ((pk_lEQ (b := 0) hK5 (by decide)).mp q) (by omega)) ?_
            refine zz_topl (lN (zlo a.2.2.1 a.1 / zgc a k0)) (pk_lDiv (zlo_lt hI a.1 (Nat.le_refl _)) (by omega) hK5) ?_
            exact W.lret (v := (lN (zlo a.2.2.1 a.1 / zgc a k0))) hx hb hr (fun t9 ht hW => ⟨_, rfl, (by simp (decide := true) only [zq_split, zwm, c_2, c_3, c_4, c_8, c_9, not_true_eq_false, not_false_eq_true, and_self, and_true, true_and, and_false, false_and, or_self, or_true, true_or, or_false, false_or, if_true, if_false, ↓reduceIte, Bool.false_eq_true, iff_self, iff_true, iff_false, true_iff, false_iff, Nat.add_zero]; rw [zN_nI (by have := zNp hI; omega)]), ht⟩) (fun _ h => absurd h List.not_mem_nil) dX2_split_72
          · refine lv_lload_n hx hb dX2_split_60 rfl (lv_at hl 2 rfl) ?_
            refine lv_lload hx hb dX2_split_61 (lv_at hl 0 rfl) ?_
            refine lv_ldiv hx hb dX2_split_63 (fun q => absurd ((pk_lEQ (b := 0) hK5 (by decide)).mp q) (by omega)) ?_
            refine zz_topl (lN (zlos a k0 / zgc a k0)) (pk_lDiv (zlos_lt hI k0) (by omega) hK5) ?_
            refine lv_goto (tgt := 72) hx hb dX2_split_64 (by decide) ?_
            exact W.lret (v := (lN (zlos a k0 / zgc a k0))) hx hb hr (fun t9 ht hW => ⟨_, rfl, (by simp (decide := true) only [zq_split, zwm, c_2, c_3, c_4, c_8, c_9, not_true_eq_false, not_false_eq_true, and_self, and_true, true_and, and_false, false_and, or_self, or_true, true_or, or_false, false_or, if_true, if_false, ↓reduceIte, Bool.false_eq_true, iff_self, iff_true, iff_false, true_iff, false_iff, Nat.add_zero]; rw [zN_nI (by have := zNp hI; omega)]), ht⟩) (fun _ h => absurd h List.not_mem_nil) dX2_split_72
        · replace c_8 := Int32.not_le.mp c_8
          exact absurd ((zcmp_lt (y := 1) hK5 (by decide)).mp c_8) (by omega)
      · replace c_4 := Int32.not_le.mp c_4
        refine lv_ldc2 hx hb hown hc59 dX2_split_21 ?_
        exact W.lret (v := (-2)) hx hb hr (fun t9 ht hW => ⟨_, rfl, (by simp (decide := true) only [zq_split, zwm, c_2, c_3, c_4, not_true_eq_false, not_false_eq_true, and_self, and_true, true_and, and_false, false_and, or_self, or_true, true_or, or_false, false_or, if_true, if_false, ↓reduceIte, Bool.false_eq_true, iff_self, iff_true, iff_false, true_iff, false_iff, Nat.add_zero]), ht⟩) (fun _ h => absurd h List.not_mem_nil) dX2_split_24
  · replace c_2 := zB_f er_1 c_2
    refine lv_ldc2 hx hb hown hc57 dX2_split_8 ?_
    exact W.lret (v := (-1)) hx hb hr (fun t9 ht hW => ⟨_, rfl, (by simp (decide := true) only [zq_split, zwm, c_2, not_true_eq_false, not_false_eq_true, and_self, and_true, true_and, and_false, false_and, or_self, or_true, true_or, or_false, false_or, if_true, if_false, ↓reduceIte, Bool.false_eq_true, iff_self, iff_true, iff_false, true_iff, false_iff, Nat.add_zero]), ht⟩) (fun _ h => absurd h List.not_mem_nil) dX2_split_11
set_option maxHeartbeats 4000000 in
set_option maxRecDepth 100000 in
theorem c_X2_rank (l : Launch) (D : va_G) (cI cZ : ClassId) (hs ta : Nat) (q : Nat → Nat) (a : ZA) (b0 : ZA) (b1 : ZA) (ik : Nat) (ha : Nat → Int32) (t : ZR) (g : ZR) (p0 : Int32) (p1 : Int32) (hI : zInv a) : Met l yX2_rank wsX2_rank ({ frames := 4, cells := 0, slots := 0, locals := 96 }) (va_Pc [.ref (q 0), .int p0, .int p1] (zPre D (zTy cI cZ) hs ta (zcX cI q a b0 b1 ik ha t g))) (vp_Si (fun r : Int32 => r = zq_rank a p0 p1)) 0 0 (fun _ => False) := by
  refine Met.ofW (cc := cX2_rank) (maxL := 3) (ret := (some .int)) (by decide) rfl ?_
  intro p e s m args below meth c s₁ B hml hv0
  obtain ⟨rfl, hP, hD, hG⟩ := hv0
  have hx := B.exec
  have hb := B.bytes
  have hr := B.returns
  have hts := atoms_spec (ws := wsX2_rank) B.pre
  have hown : s.vm.findClass RX2 = some m.cls := findClass_of_methodNamed B.named
  have hlocks := B.notSynchronized
  have hK := hG.1
  have hS : va_S (zA hs) s.heap s.heap [] := va_S.rf
  have hAz : ∀ q, zA hs q → hs ≤ q := fun _ h => h
  have hl := lv_entry ([.ref (q 0), .int p0, .int p1]) (n := 3) (Nat.le_of_ble_eq_true rfl)
  rw [lg_entry_eq]
  generalize (lg_sl ([.ref (q 0), .int p0, .int p1]) ++ List.replicate (3 - (lg_sl ([.ref (q 0), .int p0, .int p1])).length) Slot.unset).toArray = ls at hl ⊢
  have hl : lv_has ls 3 [(0, .ref (q 0)), (1, .int p0), (2, .int p1)] := hl
  refine lv_aload_n hx hb dX2_rank_0 rfl (lv_at hl 0 rfl) ?_
  refine lv_iload_n hx hb dX2_rank_1 rfl (lv_at hl 1 rfl) ?_
  refine zz_cVi (cs := zcX cI q a b0 b1 ik ha t g) (As := [.int p0]) (rest := []) ⟨hx, hb, hml, hown, hts⟩ (c_X2_isPlace l D cI cZ hs ta q a b0 b1 ik ha t g p0 hI) (cwV 1 hts gX2_rank_X2_isPlace rfl rfl rfl (by decide +kernel) ⟨Nat.le_of_ble_eq_true rfl, Nat.le_of_ble_eq_true rfl⟩) (va_recv hK hP (ci := 2) (q0 := 0) rfl rfl) hP hD hG hS hAz rfl hl.1 rfl (Nat.le_of_ble_eq_true rfl) ⟨Nat.zero_le _, Nat.zero_le _⟩ dX2_rank_2 (fun r_1 er_1 => ?_)
  refine lv_if_ne (tgt := 10) hx hb dX2_rank_5 (by decide) (fun c_2 => ?_) (fun c_2 => ?_)
  · replace c_2 := zB_t er_1 c_2
    refine lv_iload_n hx hb dX2_rank_10 rfl (lv_at hl 2 rfl) ?_
    refine lv_if_lt (tgt := 19) hx hb dX2_rank_11 (by decide) (fun c_3 => ?_) (fun c_3 => ?_)
    · refine lv_bipush (v := (-2)) hx hb dX2_rank_19 (by decide) ?_
      exact W.iret (v := (-2)) hx hb hr (fun t9 ht hW => ⟨_, rfl, (by simp (decide := true) only [zq_rank, zwm, c_2, c_3, not_true_eq_false, not_false_eq_true, and_self, and_true, true_and, and_false, false_and, or_self, or_true, true_or, or_false, false_or, if_true, if_false, ↓reduceIte, Bool.false_eq_true, iff_self, iff_true, iff_false, true_iff, false_iff, Nat.add_zero]), ht⟩) (fun _ h => absurd h List.not_mem_nil) dX2_rank_21
    · refine lv_iload_n hx hb dX2_rank_14 rfl (lv_at hl 2 rfl) ?_
      refine lv_iconst (v := 1) hx hb dX2_rank_15 (by decide) ?_
      refine lv_icmp_le (tgt := 22) hx hb dX2_rank_16 (by decide) (fun c_4 => ?_) (fun c_4 => ?_)
      · replace c_4 := Int32.not_lt.mpr c_4
        obtain ⟨k0, hk0, rfl⟩ := zr0 c_2 (by have := zNp hI; omega)
        have hb0 := zbr_spec hI hk0
        refine lv_iload_n hx hb dX2_rank_22 rfl (lv_at hl 2 rfl) ?_
        refine lv_if_ne (tgt := 34) hx hb dX2_rank_23 (by decide) (fun c_5 => ?_) (fun c_5 => ?_)
        · refine lv_aload_n hx hb dX2_rank_34 rfl (lv_at hl 0 rfl) ?_
          refine lv_iload_n hx hb dX2_rank_35 rfl (lv_at hl 1 rfl) ?_
          refine zz_cVi (cs := zcX cI q a b0 b1 ik ha t g) (As := [.int (nI k0)]) (rest := []) ⟨hx, hb, hml, hown, hts⟩ (c_X2_howManyBetter l D cI cZ hs ta q a b0 b1 ik ha t g k0 hI (by have := zNp hI; omega)) (cwV 1 hts gX2_rank_X2_howManyBetter rfl rfl rfl (by decide +kernel) ⟨Nat.le_of_ble_eq_true rfl, Nat.le_of_ble_eq_true rfl⟩) (va_recv hK hP (ci := 2) (q0 := 0) rfl rfl) hP hD hG hS hAz rfl hl.1 rfl (Nat.le_of_ble_eq_true rfl) ⟨Nat.zero_le _, Nat.zero_le _⟩ dX2_rank_36 (fun r_6 er_6 => ?_)
          subst er_6
          exact W.iret (v := (nI (zrk a k0))) hx hb hr (fun t9 ht hW => ⟨_, rfl, (by simp (decide := true) only [zq_rank, zwm, c_2, c_3, c_4, c_5, not_true_eq_false, not_false_eq_true, and_self, and_true, true_and, and_false, false_and, or_self, or_true, true_or, or_false, false_or, if_true, if_false, ↓reduceIte, Bool.false_eq_true, iff_self, iff_true, iff_false, true_iff, false_iff, Nat.add_zero]; rw [zN_nI (by have := zNp hI; omega)]), ht⟩) (fun _ h => absurd h List.not_mem_nil) dX2_rank_39
        · refine lv_aload_n hx hb dX2_rank_26 rfl (lv_at hl 0 rfl) ?_
          refine lv_iload_n hx hb dX2_rank_27 rfl (lv_at hl 1 rfl) ?_
          refine zz_cVi (cs := zcX cI q a b0 b1 ik ha t g) (As := [.int (nI k0)]) (rest := []) ⟨hx, hb, hml, hown, hts⟩ (c_X2_bitOfRank l D cI cZ hs ta q a b0 b1 ik ha t g k0 (zbr a k0) hI (by have := zNp hI; omega) hb0.1 hb0.2.1 hb0.2.2) (cwV 1 hts gX2_rank_X2_bitOfRank rfl rfl rfl (by decide +kernel) ⟨Nat.le_of_ble_eq_true rfl, Nat.le_of_ble_eq_true rfl⟩) (va_recv hK hP (ci := 2) (q0 := 0) rfl rfl) hP hD hG hS hAz rfl hl.1 rfl (Nat.le_of_ble_eq_true rfl) ⟨Nat.zero_le _, Nat.zero_le _⟩ dX2_rank_28 (fun r_7 er_7 => ?_)
          subst er_7
          refine lv_goto (tgt := 39) hx hb dX2_rank_31 (by decide) ?_
          exact W.iret (v := (nI (zbr a k0))) hx hb hr (fun t9 ht hW => ⟨_, rfl, (by simp (decide := true) only [zq_rank, zwm, c_2, c_3, c_4, c_5, not_true_eq_false, not_false_eq_true, and_self, and_true, true_and, and_false, false_and, or_self, or_true, true_or, or_false, false_or, if_true, if_false, ↓reduceIte, Bool.false_eq_true, iff_self, iff_true, iff_false, true_iff, false_iff, Nat.add_zero]; rw [zN_nI (by have := zNp hI; omega)]), ht⟩) (fun _ h => absurd h List.not_mem_nil) dX2_rank_39
      · replace c_4 := Int32.not_le.mp c_4
        refine lv_bipush (v := (-2)) hx hb dX2_rank_19 (by decide) ?_
        exact W.iret (v := (-2)) hx hb hr (fun t9 ht hW => ⟨_, rfl, (by simp (decide := true) only [zq_rank, zwm, c_2, c_3, c_4, not_true_eq_false, not_false_eq_true, and_self, and_true, true_and, and_false, false_and, or_self, or_true, true_or, or_false, false_or, if_true, if_false, ↓reduceIte, Bool.false_eq_true, iff_self, iff_true, iff_false, true_iff, false_iff, Nat.add_zero]), ht⟩) (fun _ h => absurd h List.not_mem_nil) dX2_rank_21
  · replace c_2 := zB_f er_1 c_2
    refine lv_iconst (v := (-1)) hx hb dX2_rank_8 (by decide) ?_
    exact W.iret (v := (-1)) hx hb hr (fun t9 ht hW => ⟨_, rfl, (by simp (decide := true) only [zq_rank, zwm, c_2, not_true_eq_false, not_false_eq_true, and_self, and_true, true_and, and_false, false_and, or_self, or_true, true_or, or_false, false_or, if_true, if_false, ↓reduceIte, Bool.false_eq_true, iff_self, iff_true, iff_false, true_iff, false_iff, Nat.add_zero]), ht⟩) (fun _ h => absurd h List.not_mem_nil) dX2_rank_9
set_option maxHeartbeats 4000000 in
set_option maxRecDepth 100000 in
theorem c_X2_freeze (l : Launch) (D : va_G) (cI cZ : ClassId) (hs ta : Nat) (sz : Nat) (q : Nat → Nat) (a : ZA) (b0 : ZA) (b1 : ZA) (ik : Nat) (ha : Nat → Int32) (t : ZR) (g : ZR) (p0 : Int32) (hI : zInv a) : Met l yX2_freeze wsX2_freeze ({ frames := 2, cells := 0, slots := 0, locals := 41 }) (va_Pc [.ref (q 0), .int p0] (fun U => U.heap.size = sz ∧ zPre D (zTy cI cZ) hs ta (zcX cI q a b0 b1 ik ha t g) U)) (va_Qi (fun (r : Int32) (u : ZA) => (r, u) = zq_freeze a p0) (fun (u : ZA) t9 => va_P D vwCl (zcX cI q u b0 b1 ik ha t g) t9.heap) (va_A (zcX cI q a b0 b1 ik ha t g) sz)) 0 0 (va_A (zcX cI q a b0 b1 ik ha t g) sz) := by
  refine Met.ofW (cc := cX2_freeze) (maxL := 2) (ret := (some .int)) (by decide) rfl ?_
  intro p e s m args below meth c s₁ B hml hv0
  obtain ⟨rfl, hsz, hP, hD0, hG⟩ := hv0
  have hx := B.exec
  have hb := B.bytes
  have hr := B.returns
  have hts := atoms_spec (ws := wsX2_freeze) B.pre
  have hown : s.vm.findClass RX2 = some m.cls := findClass_of_methodNamed B.named
  have hlocks := B.notSynchronized
  subst hsz
  have hD := hD0.self (sz := s.heap.size)
  have hAz0 : ∀ y9, va_A (zcX cI q a b0 b1 ik ha t g) s.heap.size y9 → hs ≤ y9 := zA_of hD0 (fun y9 h => Nat.le_trans hG.2.2.2.2 h) (va_S.rf (A := zA hs) (H0 := s.heap))
  generalize hAe : va_A (zcX cI q a b0 b1 ik ha t g) s.heap.size = A at hD hAz0 ⊢
  have hA : ∀ y9 : Nat, s.heap.size ≤ y9 → A y9 := fun y9 h => by rw [← hAe]; exact Or.inr h
  have hS : va_S A s.heap s.heap [] := va_S.rf
  have hAz : ∀ y9, A y9 → hs ≤ y9 := hAz0
  have hK := hG.1
  have hl := lv_entry ([.ref (q 0), .int p0]) (n := 2) (Nat.le_of_ble_eq_true rfl)
  rw [lg_entry_eq]
  generalize (lg_sl ([.ref (q 0), .int p0]) ++ List.replicate (2 - (lg_sl ([.ref (q 0), .int p0])).length) Slot.unset).toArray = ls at hl ⊢
  have hl : lv_has ls 2 [(0, .ref (q 0)), (1, .int p0)] := hl
  have hf10 := hts (.fieldLink RX2 10 "FrozenBits" "now" "LFrozenBits$Facts;") (List.mem_of_getElem? (i := 1) rfl)
  have hiX2 : ∀ w ∈ u_ws RX2 TX2 7, w ∈ wsX2_freeze := fun w h => List.mem_cons_of_mem _ (List.mem_append_left _ (List.mem_append_right _ h))
  have hn83 := hG.2.1 (.fieldLinkNest "FrozenBits" 83 "FrozenBits$Facts" "frozen" "I" "FrozenBits") (List.mem_of_getElem? (i := 3) rfl)
  have hiX0 : ∀ w ∈ u_ws RX0 TX0 7, w ∈ wsX2_freeze := fun w h => List.mem_cons_of_mem _ (List.mem_append_right _ h)
  refine lv_aload_n hx hb dX2_freeze_0 rfl (lv_at hl 0 rfl) ?_
  refine lv_iload_n hx hb dX2_freeze_1 rfl (lv_at hl 1 rfl) ?_
  refine zz_cVi (cs := zcX cI q a b0 b1 ik ha t g) (As := [.int p0]) (rest := []) ⟨hx, hb, hml, hown, hts⟩ (c_X2_isSet l D cI cZ hs ta q a b0 b1 ik ha t g p0 hI) (cwV 1 hts gX2_freeze_X2_isSet rfl rfl rfl (by decide +kernel) ⟨Nat.le_of_ble_eq_true rfl, Nat.le_of_ble_eq_true rfl⟩) (va_recv hK hP (ci := 2) (q0 := 0) rfl rfl) hP hD hG hS hAz rfl hl.1 rfl (Nat.le_of_ble_eq_true rfl) ⟨Nat.zero_le _, Nat.zero_le _⟩ dX2_freeze_2 (fun r_1 er_1 => ?_)
  refine lv_if_ne (tgt := 11) hx hb dX2_freeze_5 (by decide) (fun c_2 => ?_) (fun c_2 => ?_)
  · replace c_2 := zB_t er_1 c_2
    obtain ⟨k0, hk0, rfl⟩ := zr0 c_2 (by have := zNN hI; omega)
    refine lv_aload_n hx hb dX2_freeze_11 rfl (lv_at hl 0 rfl) ?_
    refine va_get (ci := 2) (C := RX2) (T := TX2) (N := 7) hx hb hts hiX2 hown hK hP 0 rfl rfl 0 (by decide) hf10 (fun _ h9 => h9) rfl dX2_freeze_12 ?_
    refine lv_iload_n hx hb dX2_freeze_15 rfl (lv_at hl 1 rfl) ?_
    refine va_putN (ci := 0) (v := .int (nI (k0))) (ty := .int) (C := RX0) (T := TX0) (N := 7) hx hb hts hiX0 tyX0 tyX0_ok nmX0 hown hK hP hD hS 1 rfl rfl 3 (by decide) (va_Nw.use rfl hn83) (fun _ h9 => h9) rfl (by decide +kernel) rfl rfl (Nat.le_of_ble_eq_true rfl) dX2_freeze_16 (fun H locs hP hD hS => ?_)
    have hP : va_P D vwCl (zcX cI q (a.1, a.2.1, a.2.2.1, k0, a.2.2.2.2.1, a.2.2.2.2.2.1, a.2.2.2.2.2.2) b0 b1 ik ha t g) H := hP
    have hD : va_D A (zcX cI q (a.1, a.2.1, a.2.2.1, k0, a.2.2.2.2.1, a.2.2.2.2.2.1, a.2.2.2.2.2.2) b0 b1 ik ha t g) := hD
    refine lv_aload_n hx hb dX2_freeze_19 rfl (lv_at hl 0 rfl) ?_
    refine zz_cVi (cs := zcX cI q (a.1, a.2.1, a.2.2.1, k0, a.2.2.2.2.1, a.2.2.2.2.2.1, a.2.2.2.2.2.2) b0 b1 ik ha t g) (As := []) (rest := []) ⟨hx, hb, hml, hown, hts⟩ (c_X2_howManyFree l D cI cZ hs ta q (a.1, a.2.1, a.2.2.1, k0, a.2.2.2.2.1, a.2.2.2.2.2.1, a.2.2.2.2.2.2) b0 b1 ik ha t g (zInv_fz hI hk0)) (cwV 0 hts gX2_freeze_X2_howManyFree rfl rfl rfl (by decide +kernel) ⟨Nat.le_of_ble_eq_true rfl, Nat.le_of_ble_eq_true rfl⟩) (va_recv hK hP (ci := 2) (q0 := 0) rfl rfl) hP hD hG hS hAz rfl hl.1 rfl (Nat.le_of_ble_eq_true rfl) ⟨Nat.zero_le _, Nat.zero_le _⟩ dX2_freeze_20 (fun r_3 er_3 => ?_)
    subst er_3
    exact W.iret (v := (nI (2 ^ a.1 - zpc k0))) hx hb hr (fun t9 ht hW => ⟨⟨_, (a.1, a.2.1, a.2.2.1, k0, a.2.2.2.2.1, a.2.2.2.2.2.1, a.2.2.2.2.2.2), rfl, (by simp (decide := true) only [zq_freeze, zwm, c_2, not_true_eq_false, not_false_eq_true, and_self, and_true, true_and, and_false, false_and, or_self, or_true, true_or, or_false, false_or, if_true, if_false, ↓reduceIte, Bool.false_eq_true, iff_self, iff_true, iff_false, true_iff, false_iff, Nat.add_zero]; rw [zN_nI (by have := zNN hI; omega)]), zP_ht ht hP⟩, hS.F ht⟩) hS.2.2 dX2_freeze_23
  · replace c_2 := zB_f er_1 c_2
    refine lv_bipush (v := (-2)) hx hb dX2_freeze_8 (by decide) ?_
    exact W.iret (v := (-2)) hx hb hr (fun t9 ht hW => ⟨⟨_, a, rfl, (by simp (decide := true) only [zq_freeze, zwm, c_2, not_true_eq_false, not_false_eq_true, and_self, and_true, true_and, and_false, false_and, or_self, or_true, true_or, or_false, false_or, if_true, if_false, ↓reduceIte, Bool.false_eq_true, iff_self, iff_true, iff_false, true_iff, false_iff, Nat.add_zero]), zP_ht ht hP⟩, hS.F ht⟩) hS.2.2 dX2_freeze_10
set_option maxHeartbeats 4000000 in
set_option maxRecDepth 100000 in
theorem c_X2_best (l : Launch) (D : va_G) (cI cZ : ClassId) (hs ta : Nat) (sz : Nat) (q : Nat → Nat) (a : ZA) (b0 : ZA) (b1 : ZA) (ik : Nat) (ha : Nat → Int32) (t : ZR) (g : ZR) (p0 : Int32) (hI : zInv a) : Met l yX2_best wsX2_best ({ frames := 3, cells := 0, slots := 0, locals := 74 }) (va_Pc [.ref (q 0), .int p0] (fun U => U.heap.size = sz ∧ zPre D (zTy cI cZ) hs ta (zcX cI q a b0 b1 ik ha t g) U)) (va_Qi (fun (r : Int32) (u : ZA) => (r, u) = zq_best a p0) (fun (u : ZA) t9 => va_P D vwCl (zcX cI q u b0 b1 ik ha t g) t9.heap) (va_A (zcX cI q a b0 b1 ik ha t g) sz)) 0 0 (va_A (zcX cI q a b0 b1 ik ha t g) sz) := by
  refine Met.ofW (cc := cX2_best) (maxL := 4) (ret := (some .int)) (by decide) rfl ?_
  intro p e s m args below meth c s₁ B hml hv0
  obtain ⟨rfl, hsz, hP, hD0, hG⟩ := hv0
  have hx := B.exec
  have hb := B.bytes
  have hr := B.returns
  have hts := atoms_spec (ws := wsX2_best) B.pre
  have hown : s.vm.findClass RX2 = some m.cls := findClass_of_methodNamed B.named
  have hlocks := B.notSynchronized
  subst hsz
  have hD := hD0.self (sz := s.heap.size)
  have hAz0 : ∀ y9, va_A (zcX cI q a b0 b1 ik ha t g) s.heap.size y9 → hs ≤ y9 := zA_of hD0 (fun y9 h => Nat.le_trans hG.2.2.2.2 h) (va_S.rf (A := zA hs) (H0 := s.heap))
  generalize hAe : va_A (zcX cI q a b0 b1 ik ha t g) s.heap.size = A at hD hAz0 ⊢
  have hA : ∀ y9 : Nat, s.heap.size ≤ y9 → A y9 := fun y9 h => by rw [← hAe]; exact Or.inr h
  have hS : va_S A s.heap s.heap [] := va_S.rf
  have hAz : ∀ y9, A y9 → hs ≤ y9 := hAz0
  have hK := hG.1
  have hl := lv_entry ([.ref (q 0), .int p0]) (n := 4) (Nat.le_of_ble_eq_true rfl)
  rw [lg_entry_eq]
  generalize (lg_sl ([.ref (q 0), .int p0]) ++ List.replicate (4 - (lg_sl ([.ref (q 0), .int p0])).length) Slot.unset).toArray = ls at hl ⊢
  have hl : lv_has ls 4 [(0, .ref (q 0)), (1, .int p0)] := hl
  have hf10 := hts (.fieldLink RX2 10 "FrozenBits" "now" "LFrozenBits$Facts;") (List.mem_of_getElem? (i := 1) rfl)
  have hiX2 : ∀ w ∈ u_ws RX2 TX2 7, w ∈ wsX2_best := fun w h => List.mem_cons_of_mem _ (List.mem_append_left _ (List.mem_append_right _ h))
  have hn83 := hG.2.1 (.fieldLinkNest "FrozenBits" 83 "FrozenBits$Facts" "frozen" "I" "FrozenBits") (List.mem_of_getElem? (i := 3) rfl)
  have hiX0 : ∀ w ∈ u_ws RX0 TX0 7, w ∈ wsX2_best := fun w h => List.mem_cons_of_mem _ (List.mem_append_right _ h)
  refine lv_iload_n hx hb dX2_best_0 rfl (lv_at hl 1 rfl) ?_
  refine lv_if_lt (tgt := 12) hx hb dX2_best_1 (by decide) (fun c_1 => ?_) (fun c_1 => ?_)
  · refine lv_bipush (v := (-2)) hx hb dX2_best_12 (by decide) ?_
    exact W.iret (v := (-2)) hx hb hr (fun t9 ht hW => ⟨⟨_, a, rfl, (by simp (decide := true) only [zq_best, zwm, c_1, not_true_eq_false, not_false_eq_true, and_self, and_true, true_and, and_false, false_and, or_self, or_true, true_or, or_false, false_or, if_true, if_false, ↓reduceIte, Bool.false_eq_true, iff_self, iff_true, iff_false, true_iff, false_iff, Nat.add_zero]), zP_ht ht hP⟩, hS.F ht⟩) hS.2.2 dX2_best_14
  · refine lv_iload_n hx hb dX2_best_4 rfl (lv_at hl 1 rfl) ?_
    refine lv_aload_n hx hb dX2_best_5 rfl (lv_at hl 0 rfl) ?_
    refine zz_cVi (cs := zcX cI q a b0 b1 ik ha t g) (As := []) (rest := [.int p0]) ⟨hx, hb, hml, hown, hts⟩ (c_X2_places l D cI cZ hs ta q a b0 b1 ik ha t g hI.1.2) (cwV 0 hts gX2_best_X2_places rfl rfl rfl (by decide +kernel) ⟨Nat.le_of_ble_eq_true rfl, Nat.le_of_ble_eq_true rfl⟩) (va_recv hK hP (ci := 2) (q0 := 0) rfl rfl) hP hD hG hS hAz rfl hl.1 rfl (Nat.le_of_ble_eq_true rfl) ⟨Nat.zero_le _, Nat.zero_le _⟩ dX2_best_6 (fun r_2 er_2 => ?_)
    subst er_2
    refine lv_icmp_le (tgt := 15) hx hb dX2_best_9 (by decide) (fun c_3 => ?_) (fun c_3 => ?_)
    · replace c_3 := Int32.not_lt.mpr c_3
      obtain ⟨k0, hk0, hk1, rfl⟩ := zr1 (lo := 0) (hi := 2 ^ a.1) c_1 c_3 (by have := zNp hI; omega) (by decide)
      refine lv_iconst (v := 0) hx hb dX2_best_15 (by decide) ?_
      refine lv_istore_n (lv' := [(2, .int 0), (0, .ref (q 0)), (1, .int (nI k0))]) hx hb dX2_best_16 rfl hl (by decide) rfl (fun ls hl => ?_)
      refine lv_iconst (v := 0) hx hb dX2_best_17 (by decide) ?_
      refine lv_istore_n (lv' := [(3, .int 0), (2, .int 0), (0, .ref (q 0)), (1, .int (nI k0))]) hx hb dX2_best_18 rfl hl (by decide) rfl (fun ls hl => ?_)
      have hl : lv_has ls 4 [(3, .int (nI 0)), (2, .int (nI (zbd a k0 0))), (0, .ref (q 0)), (1, .int (nI k0))] := hl
      refine zz_forJ (nL := 4) (2 ^ a.1) (fun i => [(3, .int (nI i)), (2, .int (nI (zbd a k0 i))), (0, .ref (q 0)), (1, .int (nI k0))]) (J := fun _ => True) ?_ ?_ (trivial) (lv_sub hl [0, 1, 2, 3] rfl)
      · intro hJ ls hl
        refine lv_iload_n hx hb dX2_best_19 rfl (lv_at hl 0 rfl) ?_
        refine lv_aload_n hx hb dX2_best_20 rfl (lv_at hl 2 rfl) ?_
        refine zz_cVi (cs := zcX cI q a b0 b1 ik ha t g) (As := []) (rest := [.int (nI ((2 ^ a.1)))]) ⟨hx, hb, hml, hown, hts⟩ (c_X2_places l D cI cZ hs ta q a b0 b1 ik ha t g hI.1.2) (cwV 0 hts gX2_best_X2_places rfl rfl rfl (by decide +kernel) ⟨Nat.le_of_ble_eq_true rfl, Nat.le_of_ble_eq_true rfl⟩) (va_recv hK hP (ci := 2) (q0 := 0) rfl rfl) hP hD hG hS hAz rfl hl.1 rfl (Nat.le_of_ble_eq_true rfl) ⟨Nat.zero_le _, Nat.zero_le _⟩ dX2_best_21 (fun r_4 er_4 => ?_)
        subst er_4
        refine lv_icmp_ge (tgt := 48) hx hb dX2_best_24 (by decide) (fun c_5 => ?_) (fun c_5 => ?_)
        · replace c_5 := Int32.not_lt.mpr c_5
          refine lv_aload_n hx hb dX2_best_48 rfl (lv_at hl 2 rfl) ?_
          refine va_get (ci := 2) (C := RX2) (T := TX2) (N := 7) hx hb hts hiX2 hown hK hP 0 rfl rfl 0 (by decide) hf10 (fun _ h9 => h9) rfl dX2_best_49 ?_
          refine lv_iload_n hx hb dX2_best_52 rfl (lv_at hl 1 rfl) ?_
          refine va_putN (ci := 0) (v := .int (nI (zbd a k0 (2 ^ a.1)))) (ty := .int) (C := RX0) (T := TX0) (N := 7) hx hb hts hiX0 tyX0 tyX0_ok nmX0 hown hK hP hD hS 1 rfl rfl 3 (by decide) (va_Nw.use rfl hn83) (fun _ h9 => h9) rfl (by decide +kernel) rfl rfl (Nat.le_of_ble_eq_true rfl) dX2_best_53 (fun H locs hP hD hS => ?_)
          have hP : va_P D vwCl (zcX cI q (a.1, a.2.1, a.2.2.1, zbd a k0 (2 ^ a.1), a.2.2.2.2.1, a.2.2.2.2.2.1, a.2.2.2.2.2.2) b0 b1 ik ha t g) H := hP
          have hD : va_D A (zcX cI q (a.1, a.2.1, a.2.2.1, zbd a k0 (2 ^ a.1), a.2.2.2.2.1, a.2.2.2.2.2.1, a.2.2.2.2.2.2) b0 b1 ik ha t g) := hD
          refine lv_iload_n hx hb dX2_best_56 rfl (lv_at hl 1 rfl) ?_
          exact W.iret (v := (nI (zbd a k0 (2 ^ a.1)))) hx hb hr (fun t9 ht hW => ⟨⟨_, (a.1, a.2.1, a.2.2.1, zbd a k0 (2 ^ a.1), a.2.2.2.2.1, a.2.2.2.2.2.1, a.2.2.2.2.2.2), rfl, (by simp (decide := true) only [zq_best, zwm, c_1, c_3, c_5, not_true_eq_false, not_false_eq_true, and_self, and_true, true_and, and_false, false_and, or_self, or_true, true_or, or_false, false_or, if_true, if_false, ↓reduceIte, Bool.false_eq_true, iff_self, iff_true, iff_false, true_iff, false_iff, Nat.add_zero]; rw [zN_nI (by have := zNp hI; omega)]), zP_ht ht hP⟩, hS.F ht⟩) hS.2.2 dX2_best_57
        · replace c_5 := Int32.not_le.mp c_5
          exact absurd c_5 (nI_nlt (Nat.le_refl _) (by have := zNp hI; omega))
      · intro i hi hJ ihi ls hl
        refine lv_iload_n hx hb dX2_best_19 rfl (lv_at hl 0 rfl) ?_
        refine lv_aload_n hx hb dX2_best_20 rfl (lv_at hl 2 rfl) ?_
        refine zz_cVi (cs := zcX cI q a b0 b1 ik ha t g) (As := []) (rest := [.int (nI i)]) ⟨hx, hb, hml, hown, hts⟩ (c_X2_places l D cI cZ hs ta q a b0 b1 ik ha t g hI.1.2) (cwV 0 hts gX2_best_X2_places rfl rfl rfl (by decide +kernel) ⟨Nat.le_of_ble_eq_true rfl, Nat.le_of_ble_eq_true rfl⟩) (va_recv hK hP (ci := 2) (q0 := 0) rfl rfl) hP hD hG hS hAz rfl hl.1 rfl (Nat.le_of_ble_eq_true rfl) ⟨Nat.zero_le _, Nat.zero_le _⟩ dX2_best_21 (fun r_6 er_6 => ?_)
        subst er_6
        refine lv_icmp_ge (tgt := 48) hx hb dX2_best_24 (by decide) (fun c_7 => ?_) (fun c_7 => ?_)
        · replace c_7 := Int32.not_lt.mpr c_7
          exact absurd (nI_lt hi (by have := zNp hI; omega)) c_7
        · replace c_7 := Int32.not_le.mp c_7
          refine lv_aload_n hx hb dX2_best_27 rfl (lv_at hl 2 rfl) ?_
          refine lv_iload_n hx hb dX2_best_28 rfl (lv_at hl 0 rfl) ?_
          refine zz_cVi (cs := zcX cI q a b0 b1 ik ha t g) (As := [.int (nI i)]) (rest := []) ⟨hx, hb, hml, hown, hts⟩ (c_X2_howManyBetter l D cI cZ hs ta q a b0 b1 ik ha t g i hI (by have := zNp hI; omega)) (cwV 1 hts gX2_best_X2_howManyBetter rfl rfl rfl (by decide +kernel) ⟨Nat.le_of_ble_eq_true rfl, Nat.le_of_ble_eq_true rfl⟩) (va_recv hK hP (ci := 2) (q0 := 0) rfl rfl) hP hD hG hS hAz rfl hl.1 rfl (Nat.le_of_ble_eq_true rfl) ⟨Nat.zero_le _, Nat.zero_le _⟩ dX2_best_29 (fun r_8 er_8 => ?_)
          subst er_8
          refine lv_iload_n hx hb dX2_best_32 rfl (lv_at hl 3 rfl) ?_
          refine lv_icmp_lt (tgt := 42) hx hb dX2_best_33 (by decide) (fun c_9 => ?_) (fun c_9 => ?_)
          · replace c_9 := (nI_ltI (by have := zct_le (zbt a i) (2 ^ a.1); have := zNp hI; unfold zrk; omega) (by have := zNp hI; omega)).mp c_9
            refine lv_iinc (v := (nI (i + 1))) (lv' := [(3, .int (nI (i + 1))), (2, .int (nI (zbd a k0 i))), (0, .ref (q 0)), (1, .int (nI k0))]) hx hb dX2_best_42 hl (k := 0) rfl (zz_inc _) (by decide) rfl (fun ls hl => ?_)
            refine lv_goto (tgt := 19) hx hb dX2_best_45 (by decide) ?_
            rw [show ((nI (zbd a k0 i)) : Int32) = (nI (zbd a k0 (i + 1))) from by simp only [zbd, c_1, c_3, c_7, c_9, not_true_eq_false, not_false_eq_true, and_self, and_true, true_and, and_false, false_and, or_self, or_true, true_or, or_false, false_or, if_true, if_false, ↓reduceIte, Bool.false_eq_true, iff_self, iff_true, iff_false, true_iff, false_iff, Nat.add_zero]] at hl
            have hl : lv_has ls 4 [(3, .int (nI ((i + 1)))), (2, .int (nI (zbd a k0 (i + 1)))), (0, .ref (q 0)), (1, .int (nI k0))] := hl
            exact ihi (trivial) ls (lv_sub hl [0, 1, 2, 3] rfl)
          · replace c_9 := (not_congr (nI_ltI (by have := zct_le (zbt a i) (2 ^ a.1); have := zNp hI; unfold zrk; omega) (by have := zNp hI; omega))).mp c_9
            refine lv_iload_n hx hb dX2_best_36 rfl (lv_at hl 1 rfl) ?_
            refine lv_iconst (v := 1) hx hb dX2_best_37 (by decide) ?_
            refine lv_iload_n hx hb dX2_best_38 rfl (lv_at hl 0 rfl) ?_
            refine lv_ishl hx hb dX2_best_39 ?_
            refine zz_topi (nI (2 ^ i)) (zz_shl1n rfl (by have := zNp hI; omega)) ?_
            refine lv_ior hx hb dX2_best_40 ?_
            refine zz_topi (nI ((zbd a k0 i) ||| (2 ^ i))) (zz_orn rfl rfl) ?_
            refine lv_istore_n (lv' := [(2, .int (nI ((zbd a k0 i) ||| (2 ^ i)))), (3, .int (nI i)), (0, .ref (q 0)), (1, .int (nI k0))]) hx hb dX2_best_41 rfl hl (by decide) rfl (fun ls hl => ?_)
            refine lv_iinc (v := (nI (i + 1))) (lv' := [(3, .int (nI (i + 1))), (2, .int (nI ((zbd a k0 i) ||| (2 ^ i)))), (0, .ref (q 0)), (1, .int (nI k0))]) hx hb dX2_best_42 hl (k := 1) rfl (zz_inc _) (by decide) rfl (fun ls hl => ?_)
            refine lv_goto (tgt := 19) hx hb dX2_best_45 (by decide) ?_
            rw [show ((nI ((zbd a k0 i) ||| (2 ^ i))) : Int32) = (nI (zbd a k0 (i + 1))) from by simp only [zbd, c_1, c_3, c_7, c_9, not_true_eq_false, not_false_eq_true, and_self, and_true, true_and, and_false, false_and, or_self, or_true, true_or, or_false, false_or, if_true, if_false, ↓reduceIte, Bool.false_eq_true, iff_self, iff_true, iff_false, true_iff, false_iff, Nat.add_zero]] at hl
            have hl : lv_has ls 4 [(3, .int (nI ((i + 1)))), (2, .int (nI (zbd a k0 (i + 1)))), (0, .ref (q 0)), (1, .int (nI k0))] := hl
            exact ihi (trivial) ls (lv_sub hl [0, 1, 2, 3] rfl)
    · replace c_3 := Int32.not_le.mp c_3
      refine lv_bipush (v := (-2)) hx hb dX2_best_12 (by decide) ?_
      exact W.iret (v := (-2)) hx hb hr (fun t9 ht hW => ⟨⟨_, a, rfl, (by simp (decide := true) only [zq_best, zwm, c_1, c_3, not_true_eq_false, not_false_eq_true, and_self, and_true, true_and, and_false, false_and, or_self, or_true, true_or, or_false, false_or, if_true, if_false, ↓reduceIte, Bool.false_eq_true, iff_self, iff_true, iff_false, true_iff, false_iff, Nat.add_zero]), zP_ht ht hP⟩, hS.F ht⟩) hS.2.2 dX2_best_14
set_option maxHeartbeats 4000000 in
set_option maxRecDepth 100000 in
theorem c_X2_coded (l : Launch) (D : va_G) (cI cZ : ClassId) (hs ta : Nat) (q : Nat → Nat) (a : ZA) (b0 : ZA) (b1 : ZA) (ik : Nat) (ha : Nat → Int32) (t : ZR) (g : ZR) (p0 : Int32) (hI : zInv a) : Met l yX2_coded wsX2_coded ({ frames := 2, cells := 0, slots := 0, locals := 41 }) (va_Pc [.ref (q 0), .int p0] (zPre D (zTy cI cZ) hs ta (zcX cI q a b0 b1 ik ha t g))) (vp_Si (fun r : Int32 => r = zq_coded a p0)) 0 0 (fun _ => False) := by
  refine Met.ofW (cc := cX2_coded) (maxL := 2) (ret := (some .int)) (by decide) rfl ?_
  intro p e s m args below meth c s₁ B hml hv0
  obtain ⟨rfl, hP, hD, hG⟩ := hv0
  have hx := B.exec
  have hb := B.bytes
  have hr := B.returns
  have hts := atoms_spec (ws := wsX2_coded) B.pre
  have hown : s.vm.findClass RX2 = some m.cls := findClass_of_methodNamed B.named
  have hlocks := B.notSynchronized
  have hK := hG.1
  have hS : va_S (zA hs) s.heap s.heap [] := va_S.rf
  have hAz : ∀ q, zA hs q → hs ≤ q := fun _ h => h
  have hl := lv_entry ([.ref (q 0), .int p0]) (n := 2) (Nat.le_of_ble_eq_true rfl)
  rw [lg_entry_eq]
  generalize (lg_sl ([.ref (q 0), .int p0]) ++ List.replicate (2 - (lg_sl ([.ref (q 0), .int p0])).length) Slot.unset).toArray = ls at hl ⊢
  have hl : lv_has ls 2 [(0, .ref (q 0)), (1, .int p0)] := hl
  refine lv_aload_n hx hb dX2_coded_0 rfl (lv_at hl 0 rfl) ?_
  refine lv_iload_n hx hb dX2_coded_1 rfl (lv_at hl 1 rfl) ?_
  refine zz_cVi (cs := zcX cI q a b0 b1 ik ha t g) (As := [.int p0]) (rest := []) ⟨hx, hb, hml, hown, hts⟩ (c_X2_isSet l D cI cZ hs ta q a b0 b1 ik ha t g p0 hI) (cwV 1 hts gX2_coded_X2_isSet rfl rfl rfl (by decide +kernel) ⟨Nat.le_of_ble_eq_true rfl, Nat.le_of_ble_eq_true rfl⟩) (va_recv hK hP (ci := 2) (q0 := 0) rfl rfl) hP hD hG hS hAz rfl hl.1 rfl (Nat.le_of_ble_eq_true rfl) ⟨Nat.zero_le _, Nat.zero_le _⟩ dX2_coded_2 (fun r_1 er_1 => ?_)
  refine lv_if_eq (tgt := 15) hx hb dX2_coded_5 (by decide) (fun c_2 => ?_) (fun c_2 => ?_)
  · replace c_2 := zB_f er_1 c_2
    refine lv_bipush (v := (-2)) hx hb dX2_coded_15 (by decide) ?_
    exact W.iret (v := (-2)) hx hb hr (fun t9 ht hW => ⟨_, rfl, (by simp (decide := true) only [zq_coded, zwm, c_2, not_true_eq_false, not_false_eq_true, and_self, and_true, true_and, and_false, false_and, or_self, or_true, true_or, or_false, false_or, if_true, if_false, ↓reduceIte, Bool.false_eq_true, iff_self, iff_true, iff_false, true_iff, false_iff, Nat.add_zero]), ht⟩) (fun _ h => absurd h List.not_mem_nil) dX2_coded_17
  · replace c_2 := zB_t er_1 c_2
    obtain ⟨k0, hk0, rfl⟩ := zr0 c_2 (by have := zNN hI; omega)
    refine lv_iload_n hx hb dX2_coded_8 rfl (lv_at hl 1 rfl) ?_
    refine zz_cSi (cs := []) (As := [.int (nI k0)]) (rest := []) ⟨hx, hb, hml, hown, hts⟩ (c_X2_codedOf l D cI cZ hs ta k0 (by have := zNN hI; omega)) (va_cwS 1 hts gX2_coded_X2_codedOf rfl rfl rfl (by decide +kernel) ⟨Nat.le_of_ble_eq_true rfl, Nat.le_of_ble_eq_true rfl⟩) zP_nil zD_nil hG hS hAz rfl hl.1 rfl (Nat.le_of_ble_eq_true rfl) ⟨Nat.zero_le _, Nat.zero_le _⟩ dX2_coded_9 (fun r_3 er_3 => ?_)
    subst er_3
    refine lv_goto (tgt := 17) hx hb dX2_coded_12 (by decide) ?_
    exact W.iret (v := (nI (zcod k0))) hx hb hr (fun t9 ht hW => ⟨_, rfl, (by simp (decide := true) only [zq_coded, zwm, c_2, not_true_eq_false, not_false_eq_true, and_self, and_true, true_and, and_false, false_and, or_self, or_true, true_or, or_false, false_or, if_true, if_false, ↓reduceIte, Bool.false_eq_true, iff_self, iff_true, iff_false, true_iff, false_iff, Nat.add_zero]; rw [zN_nI (by have := zNN hI; omega)]), ht⟩) (fun _ h => absurd h List.not_mem_nil) dX2_coded_17
set_option maxHeartbeats 4000000 in
set_option maxRecDepth 100000 in
theorem c_X2_word (l : Launch) (D : va_G) (cI cZ : ClassId) (hs ta : Nat) (q : Nat → Nat) (a : ZA) (b0 : ZA) (b1 : ZA) (ik : Nat) (ha : Nat → Int32) (t : ZR) (g : ZR) (p0 : Int32) (hI : zInv a) : Met l yX2_word wsX2_word ({ frames := 2, cells := 0, slots := 0, locals := 42 }) (va_Pc [.ref (q 0), .int p0] (zPre D (zTy cI cZ) hs ta (zcX cI q a b0 b1 ik ha t g))) (vp_Si (fun r : Int32 => r = zq_word a p0)) 0 0 (fun _ => False) := by
  refine Met.ofW (cc := cX2_word) (maxL := 5) (ret := (some .int)) (by decide) rfl ?_
  intro p e s m args below meth c s₁ B hml hv0
  obtain ⟨rfl, hP, hD, hG⟩ := hv0
  have hx := B.exec
  have hb := B.bytes
  have hr := B.returns
  have hts := atoms_spec (ws := wsX2_word) B.pre
  have hown : s.vm.findClass RX2 = some m.cls := findClass_of_methodNamed B.named
  have hlocks := B.notSynchronized
  have hK := hG.1
  have hS : va_S (zA hs) s.heap s.heap [] := va_S.rf
  have hAz : ∀ q, zA hs q → hs ≤ q := fun _ h => h
  have hl := lv_entry ([.ref (q 0), .int p0]) (n := 5) (Nat.le_of_ble_eq_true rfl)
  rw [lg_entry_eq]
  generalize (lg_sl ([.ref (q 0), .int p0]) ++ List.replicate (5 - (lg_sl ([.ref (q 0), .int p0])).length) Slot.unset).toArray = ls at hl ⊢
  have hl : lv_has ls 5 [(0, .ref (q 0)), (1, .int p0)] := hl
  refine lv_iload_n hx hb dX2_word_0 rfl (lv_at hl 1 rfl) ?_
  refine lv_if_lt (tgt := 14) hx hb dX2_word_1 (by decide) (fun c_1 => ?_) (fun c_1 => ?_)
  · refine lv_bipush (v := (-2)) hx hb dX2_word_14 (by decide) ?_
    exact W.iret (v := (-2)) hx hb hr (fun t9 ht hW => ⟨_, rfl, (by simp (decide := true) only [zq_word, zwm, c_1, not_true_eq_false, not_false_eq_true, and_self, and_true, true_and, and_false, false_and, or_self, or_true, true_or, or_false, false_or, if_true, if_false, ↓reduceIte, Bool.false_eq_true, iff_self, iff_true, iff_false, true_iff, false_iff, Nat.add_zero]), ht⟩) (fun _ h => absurd h List.not_mem_nil) dX2_word_16
  · refine lv_iload_n hx hb dX2_word_4 rfl (lv_at hl 1 rfl) ?_
    refine lv_iconst (v := 1) hx hb dX2_word_5 (by decide) ?_
    refine lv_aload_n hx hb dX2_word_6 rfl (lv_at hl 0 rfl) ?_
    refine zz_cVi (cs := zcX cI q a b0 b1 ik ha t g) (As := []) (rest := [.int 1, .int p0]) ⟨hx, hb, hml, hown, hts⟩ (c_X2_howManyFree l D cI cZ hs ta q a b0 b1 ik ha t g hI) (cwV 0 hts gX2_word_X2_howManyFree rfl rfl rfl (by decide +kernel) ⟨Nat.le_of_ble_eq_true rfl, Nat.le_of_ble_eq_true rfl⟩) (va_recv hK hP (ci := 2) (q0 := 0) rfl rfl) hP hD hG hS hAz rfl hl.1 rfl (Nat.le_of_ble_eq_true rfl) ⟨Nat.zero_le _, Nat.zero_le _⟩ dX2_word_7 (fun r_2 er_2 => ?_)
    subst er_2
    refine lv_ishl hx hb dX2_word_10 ?_
    refine zz_topi (nI (2 ^ (2 ^ a.1 - zpc a.2.2.2.1))) (zz_shl1n rfl (by have := zNp hI; omega)) ?_
    refine lv_icmp_lt (tgt := 17) hx hb dX2_word_11 (by decide) (fun c_3 => ?_) (fun c_3 => ?_)
    · obtain ⟨k0, hk0, rfl⟩ := zr0 ⟨c_1, c_3⟩ (by have := zp2_le (show 2 ^ a.1 - zpc a.2.2.2.1 ≤ 16 from by have := zNp hI; omega); omega)
      refine lv_iconst (v := 0) hx hb dX2_word_17 (by decide) ?_
      refine lv_istore_n (lv' := [(2, .int 0), (0, .ref (q 0)), (1, .int (nI k0))]) hx hb dX2_word_18 rfl hl (by decide) rfl (fun ls hl => ?_)
      refine lv_iload_n hx hb dX2_word_19 rfl (lv_at hl 2 rfl) ?_
      refine lv_istore_n (lv' := [(3, .int (nI k0)), (2, .int 0), (0, .ref (q 0)), (1, .int (nI k0))]) hx hb dX2_word_20 rfl hl (by decide) rfl (fun ls hl => ?_)
      refine lv_iconst (v := 0) hx hb dX2_word_21 (by decide) ?_
      refine lv_istore (lv' := [(4, .int 0), (3, .int (nI k0)), (2, .int 0), (0, .ref (q 0)), (1, .int (nI k0))]) hx hb dX2_word_22 hl (by decide) rfl (fun ls hl => ?_)
      have hl : lv_has ls 5 [(4, .int (nI 0)), (3, .int (nI ((zwd a.2.2.2.1 k0 0).2))), (2, .int (nI ((zwd a.2.2.2.1 k0 0).1))), (0, .ref (q 0)), (1, .int (nI k0))] := hl
      refine zz_forJ (nL := 5) (2 ^ a.1) (fun i => [(4, .int (nI i)), (2, .int (nI ((zwd a.2.2.2.1 k0 i).1))), (3, .int (nI ((zwd a.2.2.2.1 k0 i).2))), (0, .ref (q 0)), (1, .int (nI k0))]) (J := fun _ => True) ?_ ?_ (trivial) (lv_sub hl [0, 2, 1, 3, 4] rfl)
      · intro hJ ls hl
        refine lv_iload hx hb dX2_word_24 (lv_at hl 0 rfl) ?_
        refine lv_aload_n hx hb dX2_word_26 rfl (lv_at hl 3 rfl) ?_
        refine zz_cVi (cs := zcX cI q a b0 b1 ik ha t g) (As := []) (rest := [.int (nI ((2 ^ a.1)))]) ⟨hx, hb, hml, hown, hts⟩ (c_X2_places l D cI cZ hs ta q a b0 b1 ik ha t g hI.1.2) (cwV 0 hts gX2_word_X2_places rfl rfl rfl (by decide +kernel) ⟨Nat.le_of_ble_eq_true rfl, Nat.le_of_ble_eq_true rfl⟩) (va_recv hK hP (ci := 2) (q0 := 0) rfl rfl) hP hD hG hS hAz rfl hl.1 rfl (Nat.le_of_ble_eq_true rfl) ⟨Nat.zero_le _, Nat.zero_le _⟩ dX2_word_27 (fun r_4 er_4 => ?_)
        subst er_4
        refine lv_icmp_ge (tgt := 61) hx hb dX2_word_30 (by decide) (fun c_5 => ?_) (fun c_5 => ?_)
        · replace c_5 := Int32.not_lt.mpr c_5
          refine lv_iload_n hx hb dX2_word_61 rfl (lv_at hl 1 rfl) ?_
          exact W.iret (v := (nI ((zwd a.2.2.2.1 k0 (2 ^ a.1)).1))) hx hb hr (fun t9 ht hW => ⟨_, rfl, (by simp (decide := true) only [zq_word, zwm, c_1, c_3, c_5, not_true_eq_false, not_false_eq_true, and_self, and_true, true_and, and_false, false_and, or_self, or_true, true_or, or_false, false_or, if_true, if_false, ↓reduceIte, Bool.false_eq_true, iff_self, iff_true, iff_false, true_iff, false_iff, Nat.add_zero]; rw [zN_nI (by have := zp2_le (show 2 ^ a.1 - zpc a.2.2.2.1 ≤ 16 from by have := zNp hI; omega); omega)]), ht⟩) (fun _ h => absurd h List.not_mem_nil) dX2_word_62
        · replace c_5 := Int32.not_le.mp c_5
          exact absurd c_5 (nI_nlt (Nat.le_refl _) (by have := zNp hI; omega))
      · intro i hi hJ ihi ls hl
        refine lv_iload hx hb dX2_word_24 (lv_at hl 0 rfl) ?_
        refine lv_aload_n hx hb dX2_word_26 rfl (lv_at hl 3 rfl) ?_
        refine zz_cVi (cs := zcX cI q a b0 b1 ik ha t g) (As := []) (rest := [.int (nI i)]) ⟨hx, hb, hml, hown, hts⟩ (c_X2_places l D cI cZ hs ta q a b0 b1 ik ha t g hI.1.2) (cwV 0 hts gX2_word_X2_places rfl rfl rfl (by decide +kernel) ⟨Nat.le_of_ble_eq_true rfl, Nat.le_of_ble_eq_true rfl⟩) (va_recv hK hP (ci := 2) (q0 := 0) rfl rfl) hP hD hG hS hAz rfl hl.1 rfl (Nat.le_of_ble_eq_true rfl) ⟨Nat.zero_le _, Nat.zero_le _⟩ dX2_word_27 (fun r_6 er_6 => ?_)
        subst er_6
        refine lv_icmp_ge (tgt := 61) hx hb dX2_word_30 (by decide) (fun c_7 => ?_) (fun c_7 => ?_)
        · replace c_7 := Int32.not_lt.mpr c_7
          exact absurd (nI_lt hi (by have := zNp hI; omega)) c_7
        · replace c_7 := Int32.not_le.mp c_7
          refine lv_aload_n hx hb dX2_word_33 rfl (lv_at hl 3 rfl) ?_
          refine lv_iload hx hb dX2_word_34 (lv_at hl 0 rfl) ?_
          refine zz_cVi (cs := zcX cI q a b0 b1 ik ha t g) (As := [.int (nI i)]) (rest := []) ⟨hx, hb, hml, hown, hts⟩ (c_X2_isFree l D cI cZ hs ta q a b0 b1 ik ha t g i hI (by have := zNp hI; omega)) (cwV 1 hts gX2_word_X2_isFree rfl rfl rfl (by decide +kernel) ⟨Nat.le_of_ble_eq_true rfl, Nat.le_of_ble_eq_true rfl⟩) (va_recv hK hP (ci := 2) (q0 := 0) rfl rfl) hP hD hG hS hAz rfl hl.1 rfl (Nat.le_of_ble_eq_true rfl) ⟨Nat.zero_le _, Nat.zero_le _⟩ dX2_word_36 (fun r_8 er_8 => ?_)
          refine lv_if_eq (tgt := 55) hx hb dX2_word_39 (by decide) (fun c_9 => ?_) (fun c_9 => ?_)
          · replace c_9 := Classical.not_not.mp (zB_f er_8 c_9)
            refine lv_iinc (v := (nI (i + 1))) (lv' := [(4, .int (nI (i + 1))), (2, .int (nI ((zwd a.2.2.2.1 k0 i).1))), (3, .int (nI ((zwd a.2.2.2.1 k0 i).2))), (0, .ref (q 0)), (1, .int (nI k0))]) hx hb dX2_word_55 hl (k := 0) rfl (zz_inc _) (by decide) rfl (fun ls hl => ?_)
            refine lv_goto (tgt := 24) hx hb dX2_word_58 (by decide) ?_
            rw [show ((nI ((zwd a.2.2.2.1 k0 i).1)) : Int32) = (nI ((zwd a.2.2.2.1 k0 (i + 1)).1)) from by simp only [zwd, c_1, c_3, c_7, c_9, not_true_eq_false, not_false_eq_true, and_self, and_true, true_and, and_false, false_and, or_self, or_true, true_or, or_false, false_or, if_true, if_false, ↓reduceIte, Bool.false_eq_true, iff_self, iff_true, iff_false, true_iff, false_iff, Nat.add_zero]] at hl
            rw [show ((nI ((zwd a.2.2.2.1 k0 i).2)) : Int32) = (nI ((zwd a.2.2.2.1 k0 (i + 1)).2)) from by simp only [zwd, c_1, c_3, c_7, c_9, not_true_eq_false, not_false_eq_true, and_self, and_true, true_and, and_false, false_and, or_self, or_true, true_or, or_false, false_or, if_true, if_false, ↓reduceIte, Bool.false_eq_true, iff_self, iff_true, iff_false, true_iff, false_iff, Nat.add_zero]] at hl
            have hl : lv_has ls 5 [(4, .int (nI ((i + 1)))), (2, .int (nI ((zwd a.2.2.2.1 k0 (i + 1)).1))), (3, .int (nI ((zwd a.2.2.2.1 k0 (i + 1)).2))), (0, .ref (q 0)), (1, .int (nI k0))] := hl
            exact ihi (trivial) ls (lv_sub hl [0, 1, 2, 3, 4] rfl)
          · replace c_9 := zB_t er_8 c_9
            refine lv_iload_n hx hb dX2_word_42 rfl (lv_at hl 1 rfl) ?_
            refine lv_iload_n hx hb dX2_word_43 rfl (lv_at hl 2 rfl) ?_
            refine lv_iconst (v := 1) hx hb dX2_word_44 (by decide) ?_
            refine lv_iand hx hb dX2_word_45 ?_
            refine zz_topi (nI (((zwd a.2.2.2.1 k0 i).2) &&& 1)) (zz_andn rfl (show (1 : Int32) = nI 1 from rfl)) ?_
            refine lv_iload hx hb dX2_word_46 (lv_at hl 0 rfl) ?_
            refine lv_ishl hx hb dX2_word_48 ?_
            refine zz_topi (nI ((((zwd a.2.2.2.1 k0 i).2) &&& 1) <<< i)) (zz_shln rfl rfl (by have := zNp hI; omega) (by have : (zwd a.2.2.2.1 k0 i).2 &&& 1 ≤ 1 := Nat.and_le_right; have := zp2_16 (show i < 16 from by have := zNp hI; omega); calc _ ≤ 1 * 2 ^ i := Nat.mul_le_mul_right _ (by omega)
        _ < 2 ^ 32 := by omega)) ?_
            refine lv_ior hx hb dX2_word_49 ?_
            refine zz_topi (nI (((zwd a.2.2.2.1 k0 i).1) ||| ((((zwd a.2.2.2.1 k0 i).2) &&& 1) <<< i))) (zz_orn rfl rfl) ?_
            refine lv_istore_n (lv' := [(2, .int (nI (((zwd a.2.2.2.1 k0 i).1) ||| ((((zwd a.2.2.2.1 k0 i).2) &&& 1) <<< i)))), (4, .int (nI i)), (3, .int (nI ((zwd a.2.2.2.1 k0 i).2))), (0, .ref (q 0)), (1, .int (nI k0))]) hx hb dX2_word_50 rfl hl (by decide) rfl (fun ls hl => ?_)
            refine lv_iload_n hx hb dX2_word_51 rfl (lv_at hl 2 rfl) ?_
            refine lv_iconst (v := 1) hx hb dX2_word_52 (by decide) ?_
            refine lv_ishr hx hb dX2_word_53 ?_
            refine zz_topi (nI (((zwd a.2.2.2.1 k0 i).2) >>> 1)) (zz_shrn rfl (show (1 : Int32) = nI 1 from rfl) (by have := zwd_2 a.2.2.2.1 k0 i; have := zp2_le (show 2 ^ a.1 - zpc a.2.2.2.1 ≤ 16 from by have := zNp hI; omega); omega) (by decide)) ?_
            refine lv_istore_n (lv' := [(3, .int (nI (((zwd a.2.2.2.1 k0 i).2) >>> 1))), (2, .int (nI (((zwd a.2.2.2.1 k0 i).1) ||| ((((zwd a.2.2.2.1 k0 i).2) &&& 1) <<< i)))), (4, .int (nI i)), (0, .ref (q 0)), (1, .int (nI k0))]) hx hb dX2_word_54 rfl hl (by decide) rfl (fun ls hl => ?_)
            refine lv_iinc (v := (nI (i + 1))) (lv' := [(4, .int (nI (i + 1))), (3, .int (nI (((zwd a.2.2.2.1 k0 i).2) >>> 1))), (2, .int (nI (((zwd a.2.2.2.1 k0 i).1) ||| ((((zwd a.2.2.2.1 k0 i).2) &&& 1) <<< i)))), (0, .ref (q 0)), (1, .int (nI k0))]) hx hb dX2_word_55 hl (k := 2) rfl (zz_inc _) (by decide) rfl (fun ls hl => ?_)
            refine lv_goto (tgt := 24) hx hb dX2_word_58 (by decide) ?_
            rw [show ((nI (((zwd a.2.2.2.1 k0 i).1) ||| ((((zwd a.2.2.2.1 k0 i).2) &&& 1) <<< i))) : Int32) = (nI ((zwd a.2.2.2.1 k0 (i + 1)).1)) from by simp only [zwd, c_1, c_3, c_7, c_9, not_true_eq_false, not_false_eq_true, and_self, and_true, true_and, and_false, false_and, or_self, or_true, true_or, or_false, false_or, if_true, if_false, ↓reduceIte, Bool.false_eq_true, iff_self, iff_true, iff_false, true_iff, false_iff, Nat.add_zero]] at hl
            rw [show ((nI (((zwd a.2.2.2.1 k0 i).2) >>> 1)) : Int32) = (nI ((zwd a.2.2.2.1 k0 (i + 1)).2)) from by simp only [zwd, c_1, c_3, c_7, c_9, not_true_eq_false, not_false_eq_true, and_self, and_true, true_and, and_false, false_and, or_self, or_true, true_or, or_false, false_or, if_true, if_false, ↓reduceIte, Bool.false_eq_true, iff_self, iff_true, iff_false, true_iff, false_iff, Nat.add_zero]] at hl
            have hl : lv_has ls 5 [(4, .int (nI ((i + 1)))), (3, .int (nI ((zwd a.2.2.2.1 k0 (i + 1)).2))), (2, .int (nI ((zwd a.2.2.2.1 k0 (i + 1)).1))), (0, .ref (q 0)), (1, .int (nI k0))] := hl
            exact ihi (trivial) ls (lv_sub hl [0, 2, 1, 3, 4] rfl)
    · refine lv_bipush (v := (-2)) hx hb dX2_word_14 (by decide) ?_
      exact W.iret (v := (-2)) hx hb hr (fun t9 ht hW => ⟨_, rfl, (by simp (decide := true) only [zq_word, zwm, c_1, c_3, not_true_eq_false, not_false_eq_true, and_self, and_true, true_and, and_false, false_and, or_self, or_true, true_or, or_false, false_or, if_true, if_false, ↓reduceIte, Bool.false_eq_true, iff_self, iff_true, iff_false, true_iff, false_iff, Nat.add_zero]), ht⟩) (fun _ h => absurd h List.not_mem_nil) dX2_word_16
set_option maxHeartbeats 4000000 in
set_option maxRecDepth 100000 in
theorem c_X2_light (l : Launch) (D : va_G) (cI cZ : ClassId) (hs ta : Nat) (q : Nat → Nat) (a : ZA) (b0 : ZA) (b1 : ZA) (ik : Nat) (ha : Nat → Int32) (t : ZR) (g : ZR) (p0 : Int32) (hI : zInv a) : Met l yX2_light wsX2_light ({ frames := 3, cells := 0, slots := 0, locals := 70 }) (va_Pc [.ref (q 0), .int p0] (zPre D (zTy cI cZ) hs ta (zcX cI q a b0 b1 ik ha t g))) (vp_Si (fun r : Int32 => r = zq_light a p0)) 0 0 (fun _ => False) := by
  refine Met.ofW (cc := cX2_light) (maxL := 3) (ret := (some .int)) (by decide) rfl ?_
  intro p e s m args below meth c s₁ B hml hv0
  obtain ⟨rfl, hP, hD, hG⟩ := hv0
  have hx := B.exec
  have hb := B.bytes
  have hr := B.returns
  have hts := atoms_spec (ws := wsX2_light) B.pre
  have hown : s.vm.findClass RX2 = some m.cls := findClass_of_methodNamed B.named
  have hlocks := B.notSynchronized
  have hK := hG.1
  have hS : va_S (zA hs) s.heap s.heap [] := va_S.rf
  have hAz : ∀ q, zA hs q → hs ≤ q := fun _ h => h
  have hl := lv_entry ([.ref (q 0), .int p0]) (n := 3) (Nat.le_of_ble_eq_true rfl)
  rw [lg_entry_eq]
  generalize (lg_sl ([.ref (q 0), .int p0]) ++ List.replicate (3 - (lg_sl ([.ref (q 0), .int p0])).length) Slot.unset).toArray = ls at hl ⊢
  have hl : lv_has ls 3 [(0, .ref (q 0)), (1, .int p0)] := hl
  refine lv_iload_n hx hb dX2_light_0 rfl (lv_at hl 1 rfl) ?_
  refine lv_if_lt (tgt := 9) hx hb dX2_light_1 (by decide) (fun c_1 => ?_) (fun c_1 => ?_)
  · refine lv_bipush (v := (-2)) hx hb dX2_light_9 (by decide) ?_
    exact W.iret (v := (-2)) hx hb hr (fun t9 ht hW => ⟨_, rfl, (by simp (decide := true) only [zq_light, zwm, c_1, not_true_eq_false, not_false_eq_true, and_self, and_true, true_and, and_false, false_and, or_self, or_true, true_or, or_false, false_or, if_true, if_false, ↓reduceIte, Bool.false_eq_true, iff_self, iff_true, iff_false, true_iff, false_iff, Nat.add_zero]), ht⟩) (fun _ h => absurd h List.not_mem_nil) dX2_light_11
  · refine lv_iload_n hx hb dX2_light_4 rfl (lv_at hl 1 rfl) ?_
    refine lv_iconst (v := 1) hx hb dX2_light_5 (by decide) ?_
    refine lv_icmp_le (tgt := 12) hx hb dX2_light_6 (by decide) (fun c_2 => ?_) (fun c_2 => ?_)
    · replace c_2 := Int32.not_lt.mpr c_2
      refine lv_aload_n hx hb dX2_light_12 rfl (lv_at hl 0 rfl) ?_
      refine zz_cVi (cs := zcX cI q a b0 b1 ik ha t g) (As := []) (rest := []) ⟨hx, hb, hml, hown, hts⟩ (c_X2_howManyFree l D cI cZ hs ta q a b0 b1 ik ha t g hI) (cwV 0 hts gX2_light_X2_howManyFree rfl rfl rfl (by decide +kernel) ⟨Nat.le_of_ble_eq_true rfl, Nat.le_of_ble_eq_true rfl⟩) (va_recv hK hP (ci := 2) (q0 := 0) rfl rfl) hP hD hG hS hAz rfl hl.1 rfl (Nat.le_of_ble_eq_true rfl) ⟨Nat.zero_le _, Nat.zero_le _⟩ dX2_light_13 (fun r_3 er_3 => ?_)
      subst er_3
      refine lv_if_ne (tgt := 22) hx hb dX2_light_16 (by decide) (fun c_4 => ?_) (fun c_4 => ?_)
      · replace c_4 := zI_n0 c_4
        obtain ⟨K, hq, hg⟩ := zseq_ex hI c_4
        have hcnt := hg.2.2.2
        refine lv_aload_n hx hb dX2_light_22 rfl (lv_at hl 0 rfl) ?_
        refine zz_cVi (cs := zcX cI q a b0 b1 ik ha t g) (As := []) (rest := []) ⟨hx, hb, hml, hown, hts⟩ (c_X2_leastWeight l D cI cZ hs ta q a b0 b1 ik ha t g hI) (cwV 0 hts gX2_light_X2_leastWeight rfl rfl rfl (by decide +kernel) ⟨Nat.le_of_ble_eq_true rfl, Nat.le_of_ble_eq_true rfl⟩) (va_recv hK hP (ci := 2) (q0 := 0) rfl rfl) hP hD hG hS hAz rfl hl.1 rfl (Nat.le_of_ble_eq_true rfl) ⟨Nat.zero_le _, Nat.zero_le _⟩ dX2_light_23 (fun r_5 er_5 => ?_)
        subst er_5
        refine lv_istore_n (lv' := [(2, .int (nI (zlw a.2.2.2.1 (2 ^ a.1)))), (0, .ref (q 0)), (1, .int p0)]) hx hb dX2_light_26 rfl hl (by decide) rfl (fun ls hl => ?_)
        refine lv_iload_n hx hb dX2_light_27 rfl (lv_at hl 2 rfl) ?_
        refine lv_if_ne (tgt := 35) hx hb dX2_light_28 (by decide) (fun c_6 => ?_) (fun c_6 => ?_)
        · refine lv_aload_n hx hb dX2_light_35 rfl (lv_at hl 1 rfl) ?_
          refine lv_iload_n hx hb dX2_light_36 rfl (lv_at hl 0 rfl) ?_
          refine lv_iconst (v := 1) hx hb dX2_light_37 (by decide) ?_
          refine zz_cVi (cs := zcX cI q a b0 b1 ik ha t g) (As := [.int (nI (zlw a.2.2.2.1 (2 ^ a.1))), .int 1]) (rest := []) ⟨hx, hb, hml, hown, hts⟩ (c_X2_howManySets l D cI cZ hs ta q a b0 b1 ik ha t g (zlw a.2.2.2.1 (2 ^ a.1)) 1 K hI hq (zlw_le _ _)) (cwV 2 hts gX2_light_X2_howManySets rfl rfl rfl (by decide +kernel) ⟨Nat.le_of_ble_eq_true rfl, Nat.le_of_ble_eq_true rfl⟩) (va_recv hK hP (ci := 2) (q0 := 0) rfl rfl) hP hD hG hS hAz rfl hl.1 rfl (Nat.le_of_ble_eq_true rfl) ⟨Nat.zero_le _, Nat.zero_le _⟩ dX2_light_38 (fun r_7 er_7 => ?_)
          subst er_7
          refine zz_topi (nI (zlc a (zlw a.2.2.2.1 (2 ^ a.1)))) (by rw [hcnt]; rfl) ?_
          exact W.iret (v := (nI (zlc a (zlw a.2.2.2.1 (2 ^ a.1))))) hx hb hr (fun t9 ht hW => ⟨_, rfl, (by simp (decide := true) only [zq_light, zwm, c_1, c_2, c_4, c_6, not_true_eq_false, not_false_eq_true, and_self, and_true, true_and, and_false, false_and, or_self, or_true, true_or, or_false, false_or, if_true, if_false, ↓reduceIte, Bool.false_eq_true, iff_self, iff_true, iff_false, true_iff, false_iff, Nat.add_zero]), ht⟩) (fun _ h => absurd h List.not_mem_nil) dX2_light_41
        · refine lv_iload_n hx hb dX2_light_31 rfl (lv_at hl 0 rfl) ?_
          refine lv_goto (tgt := 41) hx hb dX2_light_32 (by decide) ?_
          exact W.iret (v := (nI (zlw a.2.2.2.1 (2 ^ a.1)))) hx hb hr (fun t9 ht hW => ⟨_, rfl, (by simp (decide := true) only [zq_light, zwm, c_1, c_2, c_4, c_6, not_true_eq_false, not_false_eq_true, and_self, and_true, true_and, and_false, false_and, or_self, or_true, true_or, or_false, false_or, if_true, if_false, ↓reduceIte, Bool.false_eq_true, iff_self, iff_true, iff_false, true_iff, false_iff, Nat.add_zero]), ht⟩) (fun _ h => absurd h List.not_mem_nil) dX2_light_41
      · replace c_4 := zI_0 (by have := zNp hI; omega) c_4
        refine lv_bipush (v := (-6)) hx hb dX2_light_19 (by decide) ?_
        exact W.iret (v := (-6)) hx hb hr (fun t9 ht hW => ⟨_, rfl, (by simp (decide := true) only [zq_light, zwm, c_1, c_2, c_4, not_true_eq_false, not_false_eq_true, and_self, and_true, true_and, and_false, false_and, or_self, or_true, true_or, or_false, false_or, if_true, if_false, ↓reduceIte, Bool.false_eq_true, iff_self, iff_true, iff_false, true_iff, false_iff, Nat.add_zero]), ht⟩) (fun _ h => absurd h List.not_mem_nil) dX2_light_21
    · replace c_2 := Int32.not_le.mp c_2
      refine lv_bipush (v := (-2)) hx hb dX2_light_9 (by decide) ?_
      exact W.iret (v := (-2)) hx hb hr (fun t9 ht hW => ⟨_, rfl, (by simp (decide := true) only [zq_light, zwm, c_1, c_2, not_true_eq_false, not_false_eq_true, and_self, and_true, true_and, and_false, false_and, or_self, or_true, true_or, or_false, false_or, if_true, if_false, ↓reduceIte, Bool.false_eq_true, iff_self, iff_true, iff_false, true_iff, false_iff, Nat.add_zero]), ht⟩) (fun _ h => absurd h List.not_mem_nil) dX2_light_11
set_option maxHeartbeats 4000000 in
set_option maxRecDepth 100000 in
theorem c_X2_put (l : Launch) (D : va_G) (cI cZ : ClassId) (hs ta : Nat) (sz : Nat) (q : Nat → Nat) (a : ZA) (b0 : ZA) (b1 : ZA) (ik : Nat) (ha : Nat → Int32) (t : ZR) (g : ZR) (p0 : Int32) (p1 : Int32) (hI : zInv a) : Met l yX2_put wsX2_put ({ frames := 2, cells := 0, slots := 0, locals := 41 }) (va_Pc [.ref (q 0), .int p0, .int p1] (fun U => U.heap.size = sz ∧ zPre D (zTy cI cZ) hs ta (zcX cI q a b0 b1 ik ha t g) U)) (va_Qi (fun (r : Int32) (u : ZA) => (r, u) = zq_put a p0 p1) (fun (u : ZA) t9 => va_P D vwCl (zcX cI q u b0 b1 ik ha t g) t9.heap) (va_A (zcX cI q a b0 b1 ik ha t g) sz)) 0 0 (va_A (zcX cI q a b0 b1 ik ha t g) sz) := by
  refine Met.ofW (cc := cX2_put) (maxL := 4) (ret := (some .int)) (by decide) rfl ?_
  intro p e s m args below meth c s₁ B hml hv0
  obtain ⟨rfl, hsz, hP, hD0, hG⟩ := hv0
  have hx := B.exec
  have hb := B.bytes
  have hr := B.returns
  have hts := atoms_spec (ws := wsX2_put) B.pre
  have hown : s.vm.findClass RX2 = some m.cls := findClass_of_methodNamed B.named
  have hlocks := B.notSynchronized
  subst hsz
  have hD := hD0.self (sz := s.heap.size)
  have hAz0 : ∀ y9, va_A (zcX cI q a b0 b1 ik ha t g) s.heap.size y9 → hs ≤ y9 := zA_of hD0 (fun y9 h => Nat.le_trans hG.2.2.2.2 h) (va_S.rf (A := zA hs) (H0 := s.heap))
  generalize hAe : va_A (zcX cI q a b0 b1 ik ha t g) s.heap.size = A at hD hAz0 ⊢
  have hA : ∀ y9 : Nat, s.heap.size ≤ y9 → A y9 := fun y9 h => by rw [← hAe]; exact Or.inr h
  have hS : va_S A s.heap s.heap [] := va_S.rf
  have hAz : ∀ y9, A y9 → hs ≤ y9 := hAz0
  have hK := hG.1
  have hl := lv_entry ([.ref (q 0), .int p0, .int p1]) (n := 4) (Nat.le_of_ble_eq_true rfl)
  rw [lg_entry_eq]
  generalize (lg_sl ([.ref (q 0), .int p0, .int p1]) ++ List.replicate (4 - (lg_sl ([.ref (q 0), .int p0, .int p1])).length) Slot.unset).toArray = ls at hl ⊢
  have hl : lv_has ls 4 [(0, .ref (q 0)), (1, .int p0), (2, .int p1)] := hl
  have hc107 := hts (.constant RX2 107 (-1000002)) (List.mem_of_getElem? (i := 2) rfl)
  have hf10 := hts (.fieldLink RX2 10 "FrozenBits" "now" "LFrozenBits$Facts;") (List.mem_of_getElem? (i := 3) rfl)
  have hiX2 : ∀ w ∈ u_ws RX2 TX2 7, w ∈ wsX2_put := fun w h => List.mem_cons_of_mem _ (List.mem_append_left _ (List.mem_append_right _ h))
  have hn108 := hG.2.1 (.fieldLinkNest "FrozenBits" 108 "FrozenBits$Facts" "measures" "[I" "FrozenBits") (List.mem_of_getElem? (i := 5) rfl)
  have hiX0 : ∀ w ∈ u_ws RX0 TX0 7, w ∈ wsX2_put := fun w h => List.mem_cons_of_mem _ (List.mem_append_right _ h)
  have hc106 := hts (.constant RX2 106 (-1000001)) (List.mem_of_getElem? (i := 1) rfl)
  refine lv_aload_n hx hb dX2_put_0 rfl (lv_at hl 0 rfl) ?_
  refine lv_iload_n hx hb dX2_put_1 rfl (lv_at hl 1 rfl) ?_
  refine zz_cVi (cs := zcX cI q a b0 b1 ik ha t g) (As := [.int p0]) (rest := []) ⟨hx, hb, hml, hown, hts⟩ (c_X2_isPlace l D cI cZ hs ta q a b0 b1 ik ha t g p0 hI) (cwV 1 hts gX2_put_X2_isPlace rfl rfl rfl (by decide +kernel) ⟨Nat.le_of_ble_eq_true rfl, Nat.le_of_ble_eq_true rfl⟩) (va_recv hK hP (ci := 2) (q0 := 0) rfl rfl) hP hD hG hS hAz rfl hl.1 rfl (Nat.le_of_ble_eq_true rfl) ⟨Nat.zero_le _, Nat.zero_le _⟩ dX2_put_2 (fun r_1 er_1 => ?_)
  refine lv_if_ne (tgt := 11) hx hb dX2_put_5 (by decide) (fun c_2 => ?_) (fun c_2 => ?_)
  · replace c_2 := zB_t er_1 c_2
    refine lv_iload_n hx hb dX2_put_11 rfl (lv_at hl 2 rfl) ?_
    refine lv_bipush (v := (-99)) hx hb dX2_put_12 (by decide) ?_
    refine lv_icmp_lt (tgt := 23) hx hb dX2_put_14 (by decide) (fun c_3 => ?_) (fun c_3 => ?_)
    · refine lv_ldc hx hb hown hc107 dX2_put_23 ?_
      exact W.iret (v := (-1000002)) hx hb hr (fun t9 ht hW => ⟨⟨_, a, rfl, (by simp (decide := true) only [zq_put, zwm, c_2, c_3, not_true_eq_false, not_false_eq_true, and_self, and_true, true_and, and_false, false_and, or_self, or_true, true_or, or_false, false_or, if_true, if_false, ↓reduceIte, Bool.false_eq_true, iff_self, iff_true, iff_false, true_iff, false_iff, Nat.add_zero]), zP_ht ht hP⟩, hS.F ht⟩) hS.2.2 dX2_put_25
    · refine lv_iload_n hx hb dX2_put_17 rfl (lv_at hl 2 rfl) ?_
      refine lv_bipush (v := 99) hx hb dX2_put_18 (by decide) ?_
      refine lv_icmp_le (tgt := 26) hx hb dX2_put_20 (by decide) (fun c_4 => ?_) (fun c_4 => ?_)
      · replace c_4 := Int32.not_lt.mpr c_4
        obtain ⟨k0, hk0, rfl⟩ := zr0 c_2 (by have := zNp hI; omega)
        refine lv_aload_n hx hb dX2_put_26 rfl (lv_at hl 0 rfl) ?_
        refine va_get (ci := 2) (C := RX2) (T := TX2) (N := 7) hx hb hts hiX2 hown hK hP 0 rfl rfl 0 (by decide) hf10 (fun _ h9 => h9) rfl dX2_put_27 ?_
        refine va_getN (ci := 0) (C := RX0) (T := TX0) (N := 7) hx hb hts hiX0 hown hK hP 1 rfl rfl 5 (by decide) (va_Nw.use rfl hn108) (fun _ h9 => h9) rfl dX2_put_30 ?_
        refine lv_iload_n hx hb dX2_put_33 rfl (lv_at hl 1 rfl) ?_
        refine zz_iald hx hb hK hP 2 0 rfl rfl (i := k0) rfl (by have := zNp hI; omega) (by decide) dX2_put_34 ?_
        refine zz_topi (a.2.2.2.2.2.1 k0) (rfl) ?_
        refine lv_istore_n (lv' := [(3, .int (a.2.2.2.2.2.1 k0)), (0, .ref (q 0)), (1, .int (nI k0)), (2, .int p1)]) hx hb dX2_put_35 rfl hl (by decide) rfl (fun ls hl => ?_)
        refine lv_aload_n hx hb dX2_put_36 rfl (lv_at hl 1 rfl) ?_
        refine va_get (ci := 2) (C := RX2) (T := TX2) (N := 7) hx hb hts hiX2 hown hK hP 0 rfl rfl 0 (by decide) hf10 (fun _ h9 => h9) rfl dX2_put_37 ?_
        refine va_getN (ci := 0) (C := RX0) (T := TX0) (N := 7) hx hb hts hiX0 hown hK hP 1 rfl rfl 5 (by decide) (va_Nw.use rfl hn108) (fun _ h9 => h9) rfl dX2_put_40 ?_
        refine lv_iload_n hx hb dX2_put_43 rfl (lv_at hl 2 rfl) ?_
        refine lv_iload_n hx hb dX2_put_44 rfl (lv_at hl 3 rfl) ?_
        refine zz_iast hx hb hK hP hD hS 2 0 rfl rfl (i := k0) rfl (by have := zNp hI; omega) (by decide) dX2_put_45 (fun H locs hP hD hS => ?_)
        have hP : va_P D vwCl (zcX cI q (a.1, a.2.1, a.2.2.1, a.2.2.2.1, a.2.2.2.2.1, upd a.2.2.2.2.2.1 k0 p1, a.2.2.2.2.2.2) b0 b1 ik ha t g) H := hP
        have hD : va_D A (zcX cI q (a.1, a.2.1, a.2.2.1, a.2.2.2.1, a.2.2.2.2.1, upd a.2.2.2.2.2.1 k0 p1, a.2.2.2.2.2.2) b0 b1 ik ha t g) := hD
        refine lv_iload_n hx hb dX2_put_46 rfl (lv_at hl 0 rfl) ?_
        exact W.iret (v := (a.2.2.2.2.2.1 k0)) hx hb hr (fun t9 ht hW => ⟨⟨_, (a.1, a.2.1, a.2.2.1, a.2.2.2.1, a.2.2.2.2.1, upd a.2.2.2.2.2.1 k0 p1, a.2.2.2.2.2.2), rfl, (by simp (decide := true) only [zq_put, zwm, c_2, c_3, c_4, not_true_eq_false, not_false_eq_true, and_self, and_true, true_and, and_false, false_and, or_self, or_true, true_or, or_false, false_or, if_true, if_false, ↓reduceIte, Bool.false_eq_true, iff_self, iff_true, iff_false, true_iff, false_iff, Nat.add_zero]; rw [zN_nI (by have := zNp hI; omega)]), zP_ht ht hP⟩, hS.F ht⟩) hS.2.2 dX2_put_47
      · replace c_4 := Int32.not_le.mp c_4
        refine lv_ldc hx hb hown hc107 dX2_put_23 ?_
        exact W.iret (v := (-1000002)) hx hb hr (fun t9 ht hW => ⟨⟨_, a, rfl, (by simp (decide := true) only [zq_put, zwm, c_2, c_3, c_4, not_true_eq_false, not_false_eq_true, and_self, and_true, true_and, and_false, false_and, or_self, or_true, true_or, or_false, false_or, if_true, if_false, ↓reduceIte, Bool.false_eq_true, iff_self, iff_true, iff_false, true_iff, false_iff, Nat.add_zero]), zP_ht ht hP⟩, hS.F ht⟩) hS.2.2 dX2_put_25
  · replace c_2 := zB_f er_1 c_2
    refine lv_ldc hx hb hown hc106 dX2_put_8 ?_
    exact W.iret (v := (-1000001)) hx hb hr (fun t9 ht hW => ⟨⟨_, a, rfl, (by simp (decide := true) only [zq_put, zwm, c_2, not_true_eq_false, not_false_eq_true, and_self, and_true, true_and, and_false, false_and, or_self, or_true, true_or, or_false, false_or, if_true, if_false, ↓reduceIte, Bool.false_eq_true, iff_self, iff_true, iff_false, true_iff, false_iff, Nat.add_zero]), zP_ht ht hP⟩, hS.F ht⟩) hS.2.2 dX2_put_10
set_option maxHeartbeats 4000000 in
set_option maxRecDepth 100000 in
theorem c_X2_hear (l : Launch) (D : va_G) (cI cZ : ClassId) (hs ta : Nat) (sz : Nat) (q : Nat → Nat) (a : ZA) (b0 : ZA) (b1 : ZA) (ik : Nat) (ha : Nat → Int32) (t : ZR) (g : ZR) (p0 : Int32) (p1 : Int32) (hI : zInv a) : Met l yX2_hear wsX2_hear ({ frames := 2, cells := 0, slots := 0, locals := 41 }) (va_Pc [.ref (q 0), .int p0, .int p1] (fun U => U.heap.size = sz ∧ zPre D (zTy cI cZ) hs ta (zcX cI q a b0 b1 ik ha t g) U)) (va_Qi (fun (r : Int32) (u : ZA) => (r, u) = zq_hear a p0 p1) (fun (u : ZA) t9 => va_P D vwCl (zcX cI q u b0 b1 ik ha t g) t9.heap) (va_A (zcX cI q a b0 b1 ik ha t g) sz)) 0 0 (va_A (zcX cI q a b0 b1 ik ha t g) sz) := by
  refine Met.ofW (cc := cX2_hear) (maxL := 5) (ret := (some .int)) (by decide) rfl ?_
  intro p e s m args below meth c s₁ B hml hv0
  obtain ⟨rfl, hsz, hP, hD0, hG⟩ := hv0
  have hx := B.exec
  have hb := B.bytes
  have hr := B.returns
  have hts := atoms_spec (ws := wsX2_hear) B.pre
  have hown : s.vm.findClass RX2 = some m.cls := findClass_of_methodNamed B.named
  have hlocks := B.notSynchronized
  subst hsz
  have hD := hD0.self (sz := s.heap.size)
  have hAz0 : ∀ y9, va_A (zcX cI q a b0 b1 ik ha t g) s.heap.size y9 → hs ≤ y9 := zA_of hD0 (fun y9 h => Nat.le_trans hG.2.2.2.2 h) (va_S.rf (A := zA hs) (H0 := s.heap))
  generalize hAe : va_A (zcX cI q a b0 b1 ik ha t g) s.heap.size = A at hD hAz0 ⊢
  have hA : ∀ y9 : Nat, s.heap.size ≤ y9 → A y9 := fun y9 h => by rw [← hAe]; exact Or.inr h
  have hS : va_S A s.heap s.heap [] := va_S.rf
  have hAz : ∀ y9, A y9 → hs ≤ y9 := hAz0
  have hK := hG.1
  have hl := lv_entry ([.ref (q 0), .int p0, .int p1]) (n := 5) (Nat.le_of_ble_eq_true rfl)
  rw [lg_entry_eq]
  generalize (lg_sl ([.ref (q 0), .int p0, .int p1]) ++ List.replicate (5 - (lg_sl ([.ref (q 0), .int p0, .int p1])).length) Slot.unset).toArray = ls at hl ⊢
  have hl : lv_has ls 5 [(0, .ref (q 0)), (1, .int p0), (2, .int p1)] := hl
  have hf10 := hts (.fieldLink RX2 10 "FrozenBits" "now" "LFrozenBits$Facts;") (List.mem_of_getElem? (i := 1) rfl)
  have hiX2 : ∀ w ∈ u_ws RX2 TX2 7, w ∈ wsX2_hear := fun w h => List.mem_cons_of_mem _ (List.mem_append_left _ (List.mem_append_right _ h))
  have hn108 := hG.2.1 (.fieldLinkNest "FrozenBits" 108 "FrozenBits$Facts" "measures" "[I" "FrozenBits") (List.mem_of_getElem? (i := 5) rfl)
  have hiX0 : ∀ w ∈ u_ws RX0 TX0 7, w ∈ wsX2_hear := fun w h => List.mem_cons_of_mem _ (List.mem_append_right _ h)
  refine lv_aload_n hx hb dX2_hear_0 rfl (lv_at hl 0 rfl) ?_
  refine lv_iload_n hx hb dX2_hear_1 rfl (lv_at hl 1 rfl) ?_
  refine zz_cVi (cs := zcX cI q a b0 b1 ik ha t g) (As := [.int p0]) (rest := []) ⟨hx, hb, hml, hown, hts⟩ (c_X2_isSet l D cI cZ hs ta q a b0 b1 ik ha t g p0 hI) (cwV 1 hts gX2_hear_X2_isSet rfl rfl rfl (by decide +kernel) ⟨Nat.le_of_ble_eq_true rfl, Nat.le_of_ble_eq_true rfl⟩) (va_recv hK hP (ci := 2) (q0 := 0) rfl rfl) hP hD hG hS hAz rfl hl.1 rfl (Nat.le_of_ble_eq_true rfl) ⟨Nat.zero_le _, Nat.zero_le _⟩ dX2_hear_2 (fun r_1 er_1 => ?_)
  refine lv_if_eq (tgt := 19) hx hb dX2_hear_5 (by decide) (fun c_2 => ?_) (fun c_2 => ?_)
  · replace c_2 := zB_f er_1 c_2
    refine lv_bipush (v := (-2)) hx hb dX2_hear_19 (by decide) ?_
    exact W.iret (v := (-2)) hx hb hr (fun t9 ht hW => ⟨⟨_, a, rfl, (by simp (decide := true) only [zq_hear, zwm, c_2, not_true_eq_false, not_false_eq_true, and_self, and_true, true_and, and_false, false_and, or_self, or_true, true_or, or_false, false_or, if_true, if_false, ↓reduceIte, Bool.false_eq_true, iff_self, iff_true, iff_false, true_iff, false_iff, Nat.add_zero]), zP_ht ht hP⟩, hS.F ht⟩) hS.2.2 dX2_hear_21
  · replace c_2 := zB_t er_1 c_2
    refine lv_iload_n hx hb dX2_hear_8 rfl (lv_at hl 2 rfl) ?_
    refine lv_iconst (v := 1) hx hb dX2_hear_9 (by decide) ?_
    refine lv_icmp_lt (tgt := 19) hx hb dX2_hear_10 (by decide) (fun c_3 => ?_) (fun c_3 => ?_)
    · refine lv_bipush (v := (-2)) hx hb dX2_hear_19 (by decide) ?_
      exact W.iret (v := (-2)) hx hb hr (fun t9 ht hW => ⟨⟨_, a, rfl, (by simp (decide := true) only [zq_hear, zwm, c_2, c_3, not_true_eq_false, not_false_eq_true, and_self, and_true, true_and, and_false, false_and, or_self, or_true, true_or, or_false, false_or, if_true, if_false, ↓reduceIte, Bool.false_eq_true, iff_self, iff_true, iff_false, true_iff, false_iff, Nat.add_zero]), zP_ht ht hP⟩, hS.F ht⟩) hS.2.2 dX2_hear_21
    · refine lv_iload_n hx hb dX2_hear_13 rfl (lv_at hl 2 rfl) ?_
      refine lv_bipush (v := 99) hx hb dX2_hear_14 (by decide) ?_
      refine lv_icmp_le (tgt := 22) hx hb dX2_hear_16 (by decide) (fun c_4 => ?_) (fun c_4 => ?_)
      · replace c_4 := Int32.not_lt.mpr c_4
        obtain ⟨k0, hk0, rfl⟩ := zr0 c_2 (by have := zNN hI; omega)
        refine lv_iload_n hx hb dX2_hear_22 rfl (lv_at hl 1 rfl) ?_
        refine zz_cSi (cs := []) (As := [.int (nI k0)]) (rest := []) ⟨hx, hb, hml, hown, hts⟩ (c_X2_codedOf l D cI cZ hs ta k0 (by have := zNN hI; omega)) (va_cwS 1 hts gX2_hear_X2_codedOf rfl rfl rfl (by decide +kernel) ⟨Nat.le_of_ble_eq_true rfl, Nat.le_of_ble_eq_true rfl⟩) zP_nil zD_nil hG hS hAz rfl hl.1 rfl (Nat.le_of_ble_eq_true rfl) ⟨Nat.zero_le _, Nat.zero_le _⟩ dX2_hear_23 (fun r_5 er_5 => ?_)
        subst er_5
        refine lv_istore_n (lv' := [(3, .int (nI (zcod k0))), (0, .ref (q 0)), (1, .int (nI k0)), (2, .int p1)]) hx hb dX2_hear_26 rfl hl (by decide) rfl (fun ls hl => ?_)
        refine lv_iconst (v := 0) hx hb dX2_hear_27 (by decide) ?_
        refine lv_istore (lv' := [(4, .int 0), (3, .int (nI (zcod k0))), (0, .ref (q 0)), (1, .int (nI k0)), (2, .int p1)]) hx hb dX2_hear_28 hl (by decide) rfl (fun ls hl => ?_)
        have hl : lv_has ls 5 [(4, .int (nI 0)), (3, .int (nI (zcod k0))), (0, .ref (q 0)), (1, .int (nI k0)), (2, .int p1)] := hl
        refine zz_forHJ (P := fun H locs g => W p l e _ s m _ below meth c H locs _ _ _ g) (nL := 5) (2 ^ a.1) (fun i => [(4, .int (nI i)), (3, .int (nI (zcod k0))), (0, .ref (q 0)), (1, .int (nI k0)), (2, .int p1)]) (fun i H locs => va_P D vwCl (zcX cI q (a.1, a.2.1, a.2.2.1, a.2.2.2.1, a.2.2.2.2.1, zhe (zcod k0) p1 a.2.2.2.2.2.1 i, a.2.2.2.2.2.2) b0 b1 ik ha t g) H ∧ va_D A (zcX cI q (a.1, a.2.1, a.2.2.1, a.2.2.2.1, a.2.2.2.2.1, zhe (zcod k0) p1 a.2.2.2.2.2.1 i, a.2.2.2.2.2.2) b0 b1 ik ha t g) ∧ va_S A s.heap H locs) (J := fun _ => True) ?_ ?_ (⟨by rw [zhe_0]; exact hP, by rw [zhe_0]; exact hD, hS⟩) (trivial) ((lv_sub hl [0, 1, 2, 3, 4] rfl))
        · intro H locs ls hJ hI0 hl
          obtain ⟨hP, hD, hS⟩ := hI0
          refine lv_iload hx hb dX2_hear_30 (lv_at hl 0 rfl) ?_
          refine lv_aload_n hx hb dX2_hear_32 rfl (lv_at hl 2 rfl) ?_
          refine zz_cVi (cs := zcX cI q (a.1, a.2.1, a.2.2.1, a.2.2.2.1, a.2.2.2.2.1, zhe (zcod k0) p1 a.2.2.2.2.2.1 (2 ^ a.1), a.2.2.2.2.2.2) b0 b1 ik ha t g) (As := []) (rest := [.int (nI ((2 ^ a.1)))]) ⟨hx, hb, hml, hown, hts⟩ (c_X2_places l D cI cZ hs ta q (a.1, a.2.1, a.2.2.1, a.2.2.2.1, a.2.2.2.2.1, zhe (zcod k0) p1 a.2.2.2.2.2.1 (2 ^ a.1), a.2.2.2.2.2.2) b0 b1 ik ha t g hI.1.2) (cwV 0 hts gX2_hear_X2_places rfl rfl rfl (by decide +kernel) ⟨Nat.le_of_ble_eq_true rfl, Nat.le_of_ble_eq_true rfl⟩) (va_recv hK hP (ci := 2) (q0 := 0) rfl rfl) hP hD hG hS hAz rfl hl.1 rfl (Nat.le_of_ble_eq_true rfl) ⟨Nat.zero_le _, Nat.zero_le _⟩ dX2_hear_33 (fun r_6 er_6 => ?_)
          subst er_6
          refine lv_icmp_ge (tgt := 70) hx hb dX2_hear_36 (by decide) (fun c_7 => ?_) (fun c_7 => ?_)
          · replace c_7 := Int32.not_lt.mpr c_7
            refine lv_iload_n hx hb dX2_hear_70 rfl (lv_at hl 1 rfl) ?_
            exact W.iret (v := (nI (zcod k0))) hx hb hr (fun t9 ht hW => ⟨⟨_, (a.1, a.2.1, a.2.2.1, a.2.2.2.1, a.2.2.2.2.1, zhe (zcod k0) p1 a.2.2.2.2.2.1 (2 ^ a.1), a.2.2.2.2.2.2), rfl, (by simp (decide := true) only [zq_hear, zwm, c_2, c_3, c_4, c_7, not_true_eq_false, not_false_eq_true, and_self, and_true, true_and, and_false, false_and, or_self, or_true, true_or, or_false, false_or, if_true, if_false, ↓reduceIte, Bool.false_eq_true, iff_self, iff_true, iff_false, true_iff, false_iff, Nat.add_zero]; rw [zN_nI (by have := zNN hI; omega)]), zP_ht ht hP⟩, hS.F ht⟩) hS.2.2 dX2_hear_71
          · replace c_7 := Int32.not_le.mp c_7
            exact absurd c_7 (nI_nlt (Nat.le_refl _) (by have := zNp hI; omega))
        · intro i hi hJ ihi H locs ls hI0 hl
          obtain ⟨hP, hD, hS⟩ := hI0
          refine lv_iload hx hb dX2_hear_30 (lv_at hl 0 rfl) ?_
          refine lv_aload_n hx hb dX2_hear_32 rfl (lv_at hl 2 rfl) ?_
          refine zz_cVi (cs := zcX cI q (a.1, a.2.1, a.2.2.1, a.2.2.2.1, a.2.2.2.2.1, zhe (zcod k0) p1 a.2.2.2.2.2.1 i, a.2.2.2.2.2.2) b0 b1 ik ha t g) (As := []) (rest := [.int (nI i)]) ⟨hx, hb, hml, hown, hts⟩ (c_X2_places l D cI cZ hs ta q (a.1, a.2.1, a.2.2.1, a.2.2.2.1, a.2.2.2.2.1, zhe (zcod k0) p1 a.2.2.2.2.2.1 i, a.2.2.2.2.2.2) b0 b1 ik ha t g hI.1.2) (cwV 0 hts gX2_hear_X2_places rfl rfl rfl (by decide +kernel) ⟨Nat.le_of_ble_eq_true rfl, Nat.le_of_ble_eq_true rfl⟩) (va_recv hK hP (ci := 2) (q0 := 0) rfl rfl) hP hD hG hS hAz rfl hl.1 rfl (Nat.le_of_ble_eq_true rfl) ⟨Nat.zero_le _, Nat.zero_le _⟩ dX2_hear_33 (fun r_8 er_8 => ?_)
          subst er_8
          refine lv_icmp_ge (tgt := 70) hx hb dX2_hear_36 (by decide) (fun c_9 => ?_) (fun c_9 => ?_)
          · replace c_9 := Int32.not_lt.mpr c_9
            exact absurd (nI_lt hi (by have := zNp hI; omega)) c_9
          · replace c_9 := Int32.not_le.mp c_9
            refine lv_aload_n hx hb dX2_hear_39 rfl (lv_at hl 2 rfl) ?_
            refine va_get (ci := 2) (C := RX2) (T := TX2) (N := 7) hx hb hts hiX2 hown hK hP 0 rfl rfl 0 (by decide) hf10 (fun _ h9 => h9) rfl dX2_hear_40 ?_
            refine va_getN (ci := 0) (C := RX0) (T := TX0) (N := 7) hx hb hts hiX0 hown hK hP 1 rfl rfl 5 (by decide) (va_Nw.use rfl hn108) (fun _ h9 => h9) rfl dX2_hear_43 ?_
            refine lv_iload hx hb dX2_hear_46 (lv_at hl 0 rfl) ?_
            refine lv_iload_n hx hb dX2_hear_48 rfl (lv_at hl 1 rfl) ?_
            refine lv_iload hx hb dX2_hear_49 (lv_at hl 0 rfl) ?_
            refine zz_pSi (As := [.int (nI (zcod k0)), .int (nI i)]) (rest := [.int (nI i), .ref (q 2)]) ⟨hx, hb, hml, hown, hts⟩ (c_X2_has l (zcod k0) i (by have := zcod_lt (show k0 < 65536 from by have := zNN hI; omega); omega) (by have := zNp hI; omega)) (va_cwS 2 hts gX2_hear_X2_has rfl rfl rfl (by decide +kernel) ⟨Nat.le_of_ble_eq_true rfl, Nat.le_of_ble_eq_true rfl⟩) rfl hl.1 rfl (Nat.le_of_ble_eq_true rfl) ⟨Nat.zero_le _, Nat.zero_le _⟩ dX2_hear_51 (fun r_10 er_10 => ?_)
            refine lv_if_eq (tgt := 62) hx hb dX2_hear_54 (by decide) (fun c_11 => ?_) (fun c_11 => ?_)
            · replace c_11 := zB_f er_10 c_11
              refine lv_iload_n hx hb dX2_hear_62 rfl (lv_at hl 4 rfl) ?_
              refine zz_iast hx hb hK hP hD hS 2 0 rfl rfl (i := i) rfl (by have := zNp hI; omega) (by decide) dX2_hear_63 (fun H locs hP hD hS => ?_)
              have hP : va_P D vwCl (zcX cI q (a.1, a.2.1, a.2.2.1, a.2.2.2.1, a.2.2.2.2.1, upd (zhe (zcod k0) p1 a.2.2.2.2.2.1 i) i p1, a.2.2.2.2.2.2) b0 b1 ik ha t g) H := hP
              have hD : va_D A (zcX cI q (a.1, a.2.1, a.2.2.1, a.2.2.2.1, a.2.2.2.2.1, upd (zhe (zcod k0) p1 a.2.2.2.2.2.1 i) i p1, a.2.2.2.2.2.2) b0 b1 ik ha t g) := hD
              rw [zhe_s (v := p1) (by simp only [c_11, not_true_eq_false, not_false_eq_true, and_self, and_true, true_and, and_false, false_and, or_self, or_true, true_or, or_false, false_or, if_true, if_false, ↓reduceIte, Bool.false_eq_true, iff_self, iff_true, iff_false, true_iff, false_iff, Nat.add_zero])] at hP hD
              have hP : va_P D vwCl (zcX cI q (a.1, a.2.1, a.2.2.1, a.2.2.2.1, a.2.2.2.2.1, zhe (zcod k0) p1 a.2.2.2.2.2.1 (i + 1), a.2.2.2.2.2.2) b0 b1 ik ha t g) H := hP
              have hD : va_D A (zcX cI q (a.1, a.2.1, a.2.2.1, a.2.2.2.1, a.2.2.2.2.1, zhe (zcod k0) p1 a.2.2.2.2.2.1 (i + 1), a.2.2.2.2.2.2) b0 b1 ik ha t g) := hD
              refine lv_iinc (v := (nI (i + 1))) (lv' := [(4, .int (nI (i + 1))), (3, .int (nI (zcod k0))), (0, .ref (q 0)), (1, .int (nI k0)), (2, .int p1)]) hx hb dX2_hear_64 hl (k := 0) rfl (zz_inc _) (by decide) rfl (fun ls hl => ?_)
              refine lv_goto (tgt := 30) hx hb dX2_hear_67 (by decide) ?_
              have hl : lv_has ls 5 [(4, .int (nI ((i + 1)))), (3, .int (nI (zcod k0))), (0, .ref (q 0)), (1, .int (nI k0)), (2, .int p1)] := hl
              exact ihi (trivial) _ _ ls (⟨hP, hD, hS⟩) (lv_sub hl [0, 1, 2, 3, 4] rfl)
            · replace c_11 := zB_t er_10 c_11
              refine lv_iload_n hx hb dX2_hear_57 rfl (lv_at hl 4 rfl) ?_
              refine lv_ineg hx hb dX2_hear_58 ?_
              refine lv_goto (tgt := 63) hx hb dX2_hear_59 (by decide) ?_
              refine zz_iast hx hb hK hP hD hS 2 0 rfl rfl (i := i) rfl (by have := zNp hI; omega) (by decide) dX2_hear_63 (fun H locs hP hD hS => ?_)
              have hP : va_P D vwCl (zcX cI q (a.1, a.2.1, a.2.2.1, a.2.2.2.1, a.2.2.2.2.1, upd (zhe (zcod k0) p1 a.2.2.2.2.2.1 i) i (-p1), a.2.2.2.2.2.2) b0 b1 ik ha t g) H := hP
              have hD : va_D A (zcX cI q (a.1, a.2.1, a.2.2.1, a.2.2.2.1, a.2.2.2.2.1, upd (zhe (zcod k0) p1 a.2.2.2.2.2.1 i) i (-p1), a.2.2.2.2.2.2) b0 b1 ik ha t g) := hD
              rw [zhe_s (v := (-p1)) (by simp only [c_11, not_true_eq_false, not_false_eq_true, and_self, and_true, true_and, and_false, false_and, or_self, or_true, true_or, or_false, false_or, if_true, if_false, ↓reduceIte, Bool.false_eq_true, iff_self, iff_true, iff_false, true_iff, false_iff, Nat.add_zero])] at hP hD
              have hP : va_P D vwCl (zcX cI q (a.1, a.2.1, a.2.2.1, a.2.2.2.1, a.2.2.2.2.1, zhe (zcod k0) p1 a.2.2.2.2.2.1 (i + 1), a.2.2.2.2.2.2) b0 b1 ik ha t g) H := hP
              have hD : va_D A (zcX cI q (a.1, a.2.1, a.2.2.1, a.2.2.2.1, a.2.2.2.2.1, zhe (zcod k0) p1 a.2.2.2.2.2.1 (i + 1), a.2.2.2.2.2.2) b0 b1 ik ha t g) := hD
              refine lv_iinc (v := (nI (i + 1))) (lv' := [(4, .int (nI (i + 1))), (3, .int (nI (zcod k0))), (0, .ref (q 0)), (1, .int (nI k0)), (2, .int p1)]) hx hb dX2_hear_64 hl (k := 0) rfl (zz_inc _) (by decide) rfl (fun ls hl => ?_)
              refine lv_goto (tgt := 30) hx hb dX2_hear_67 (by decide) ?_
              have hl : lv_has ls 5 [(4, .int (nI ((i + 1)))), (3, .int (nI (zcod k0))), (0, .ref (q 0)), (1, .int (nI k0)), (2, .int p1)] := hl
              exact ihi (trivial) _ _ ls (⟨hP, hD, hS⟩) (lv_sub hl [0, 1, 2, 3, 4] rfl)
      · replace c_4 := Int32.not_le.mp c_4
        refine lv_bipush (v := (-2)) hx hb dX2_hear_19 (by decide) ?_
        exact W.iret (v := (-2)) hx hb hr (fun t9 ht hW => ⟨⟨_, a, rfl, (by simp (decide := true) only [zq_hear, zwm, c_2, c_3, c_4, not_true_eq_false, not_false_eq_true, and_self, and_true, true_and, and_false, false_and, or_self, or_true, true_or, or_false, false_or, if_true, if_false, ↓reduceIte, Bool.false_eq_true, iff_self, iff_true, iff_false, true_iff, false_iff, Nat.add_zero]), zP_ht ht hP⟩, hS.F ht⟩) hS.2.2 dX2_hear_21
set_option maxHeartbeats 4000000 in
set_option maxRecDepth 100000 in
theorem c_X2_spoil (l : Launch) (D : va_G) (cI cZ : ClassId) (hs ta : Nat) (sz : Nat) (q : Nat → Nat) (a : ZA) (b0 : ZA) (b1 : ZA) (ik : Nat) (ha : Nat → Int32) (t : ZR) (g : ZR) (p0 : Int32) (p1 : Int32) (hI : zInv a) : Met l yX2_spoil wsX2_spoil ({ frames := 2, cells := 0, slots := 0, locals := 41 }) (va_Pc [.ref (q 0), .int p0, .int p1] (fun U => U.heap.size = sz ∧ zPre D (zTy cI cZ) hs ta (zcX cI q a b0 b1 ik ha t g) U)) (va_Qi (fun (r : Int32) (u : ZA) => (r, u) = zq_spoil a p0 p1) (fun (u : ZA) t9 => va_P D vwCl (zcX cI q u b0 b1 ik ha t g) t9.heap) (va_A (zcX cI q a b0 b1 ik ha t g) sz)) 0 0 (va_A (zcX cI q a b0 b1 ik ha t g) sz) := by
  refine Met.ofW (cc := cX2_spoil) (maxL := 5) (ret := (some .int)) (by decide) rfl ?_
  intro p e s m args below meth c s₁ B hml hv0
  obtain ⟨rfl, hsz, hP, hD0, hG⟩ := hv0
  have hx := B.exec
  have hb := B.bytes
  have hr := B.returns
  have hts := atoms_spec (ws := wsX2_spoil) B.pre
  have hown : s.vm.findClass RX2 = some m.cls := findClass_of_methodNamed B.named
  have hlocks := B.notSynchronized
  subst hsz
  have hD := hD0.self (sz := s.heap.size)
  have hAz0 : ∀ y9, va_A (zcX cI q a b0 b1 ik ha t g) s.heap.size y9 → hs ≤ y9 := zA_of hD0 (fun y9 h => Nat.le_trans hG.2.2.2.2 h) (va_S.rf (A := zA hs) (H0 := s.heap))
  generalize hAe : va_A (zcX cI q a b0 b1 ik ha t g) s.heap.size = A at hD hAz0 ⊢
  have hA : ∀ y9 : Nat, s.heap.size ≤ y9 → A y9 := fun y9 h => by rw [← hAe]; exact Or.inr h
  have hS : va_S A s.heap s.heap [] := va_S.rf
  have hAz : ∀ y9, A y9 → hs ≤ y9 := hAz0
  have hK := hG.1
  have hl := lv_entry ([.ref (q 0), .int p0, .int p1]) (n := 5) (Nat.le_of_ble_eq_true rfl)
  rw [lg_entry_eq]
  generalize (lg_sl ([.ref (q 0), .int p0, .int p1]) ++ List.replicate (5 - (lg_sl ([.ref (q 0), .int p0, .int p1])).length) Slot.unset).toArray = ls at hl ⊢
  have hl : lv_has ls 5 [(0, .ref (q 0)), (1, .int p0), (2, .int p1)] := hl
  have hf10 := hts (.fieldLink RX2 10 "FrozenBits" "now" "LFrozenBits$Facts;") (List.mem_of_getElem? (i := 1) rfl)
  have hiX2 : ∀ w ∈ u_ws RX2 TX2 7, w ∈ wsX2_spoil := fun w h => List.mem_cons_of_mem _ (List.mem_append_left _ (List.mem_append_right _ h))
  have hn108 := hG.2.1 (.fieldLinkNest "FrozenBits" 108 "FrozenBits$Facts" "measures" "[I" "FrozenBits") (List.mem_of_getElem? (i := 5) rfl)
  have hiX0 : ∀ w ∈ u_ws RX0 TX0 7, w ∈ wsX2_spoil := fun w h => List.mem_cons_of_mem _ (List.mem_append_right _ h)
  refine lv_aload_n hx hb dX2_spoil_0 rfl (lv_at hl 0 rfl) ?_
  refine lv_iload_n hx hb dX2_spoil_1 rfl (lv_at hl 1 rfl) ?_
  refine zz_cVi (cs := zcX cI q a b0 b1 ik ha t g) (As := [.int p0]) (rest := []) ⟨hx, hb, hml, hown, hts⟩ (c_X2_isSet l D cI cZ hs ta q a b0 b1 ik ha t g p0 hI) (cwV 1 hts gX2_spoil_X2_isSet rfl rfl rfl (by decide +kernel) ⟨Nat.le_of_ble_eq_true rfl, Nat.le_of_ble_eq_true rfl⟩) (va_recv hK hP (ci := 2) (q0 := 0) rfl rfl) hP hD hG hS hAz rfl hl.1 rfl (Nat.le_of_ble_eq_true rfl) ⟨Nat.zero_le _, Nat.zero_le _⟩ dX2_spoil_2 (fun r_1 er_1 => ?_)
  refine lv_if_eq (tgt := 17) hx hb dX2_spoil_5 (by decide) (fun c_2 => ?_) (fun c_2 => ?_)
  · replace c_2 := zB_f er_1 c_2
    refine lv_bipush (v := (-2)) hx hb dX2_spoil_17 (by decide) ?_
    exact W.iret (v := (-2)) hx hb hr (fun t9 ht hW => ⟨⟨_, a, rfl, (by simp (decide := true) only [zq_spoil, zwm, c_2, not_true_eq_false, not_false_eq_true, and_self, and_true, true_and, and_false, false_and, or_self, or_true, true_or, or_false, false_or, if_true, if_false, ↓reduceIte, Bool.false_eq_true, iff_self, iff_true, iff_false, true_iff, false_iff, Nat.add_zero]), zP_ht ht hP⟩, hS.F ht⟩) hS.2.2 dX2_spoil_19
  · replace c_2 := zB_t er_1 c_2
    refine lv_iload_n hx hb dX2_spoil_8 rfl (lv_at hl 2 rfl) ?_
    refine lv_if_lt (tgt := 17) hx hb dX2_spoil_9 (by decide) (fun c_3 => ?_) (fun c_3 => ?_)
    · refine lv_bipush (v := (-2)) hx hb dX2_spoil_17 (by decide) ?_
      exact W.iret (v := (-2)) hx hb hr (fun t9 ht hW => ⟨⟨_, a, rfl, (by simp (decide := true) only [zq_spoil, zwm, c_2, c_3, not_true_eq_false, not_false_eq_true, and_self, and_true, true_and, and_false, false_and, or_self, or_true, true_or, or_false, false_or, if_true, if_false, ↓reduceIte, Bool.false_eq_true, iff_self, iff_true, iff_false, true_iff, false_iff, Nat.add_zero]), zP_ht ht hP⟩, hS.F ht⟩) hS.2.2 dX2_spoil_19
    · refine lv_iload_n hx hb dX2_spoil_12 rfl (lv_at hl 2 rfl) ?_
      refine lv_iconst (v := 1) hx hb dX2_spoil_13 (by decide) ?_
      refine lv_icmp_le (tgt := 20) hx hb dX2_spoil_14 (by decide) (fun c_4 => ?_) (fun c_4 => ?_)
      · replace c_4 := Int32.not_lt.mpr c_4
        obtain ⟨k0, hk0, rfl⟩ := zr0 c_2 (by have := zNN hI; omega)
        refine lv_iconst (v := 0) hx hb dX2_spoil_20 (by decide) ?_
        refine lv_istore_n (lv' := [(3, .int 0), (0, .ref (q 0)), (1, .int (nI k0)), (2, .int p1)]) hx hb dX2_spoil_21 rfl hl (by decide) rfl (fun ls hl => ?_)
        refine lv_iconst (v := 0) hx hb dX2_spoil_22 (by decide) ?_
        refine lv_istore (lv' := [(4, .int 0), (3, .int 0), (0, .ref (q 0)), (1, .int (nI k0)), (2, .int p1)]) hx hb dX2_spoil_23 hl (by decide) rfl (fun ls hl => ?_)
        have hl : lv_has ls 5 [(4, .int (nI 0)), (3, .int (nI (zct (zsc k0 a.2.2.2.2.2.1) 0))), (0, .ref (q 0)), (1, .int (nI k0)), (2, .int p1)] := hl
        refine zz_forHJ (P := fun H locs g => W p l e _ s m _ below meth c H locs _ _ _ g) (nL := 5) (2 ^ a.1) (fun i => [(4, .int (nI i)), (3, .int (nI (zct (zsc k0 a.2.2.2.2.2.1) i))), (0, .ref (q 0)), (1, .int (nI k0)), (2, .int p1)]) (fun i H locs => va_P D vwCl (zcX cI q (a.1, a.2.1, a.2.2.1, a.2.2.2.1, a.2.2.2.2.1, zsp k0 p1 a.2.2.2.2.2.1 i, a.2.2.2.2.2.2) b0 b1 ik ha t g) H ∧ va_D A (zcX cI q (a.1, a.2.1, a.2.2.1, a.2.2.2.1, a.2.2.2.2.1, zsp k0 p1 a.2.2.2.2.2.1 i, a.2.2.2.2.2.2) b0 b1 ik ha t g) ∧ va_S A s.heap H locs) (J := fun _ => True) ?_ ?_ (⟨by rw [zsp_0]; exact hP, by rw [zsp_0]; exact hD, hS⟩) (trivial) ((lv_sub hl [0, 1, 2, 3, 4] rfl))
        · intro H locs ls hJ hI0 hl
          obtain ⟨hP, hD, hS⟩ := hI0
          refine lv_iload hx hb dX2_spoil_25 (lv_at hl 0 rfl) ?_
          refine lv_aload_n hx hb dX2_spoil_27 rfl (lv_at hl 2 rfl) ?_
          refine zz_cVi (cs := zcX cI q (a.1, a.2.1, a.2.2.1, a.2.2.2.1, a.2.2.2.2.1, zsp k0 p1 a.2.2.2.2.2.1 (2 ^ a.1), a.2.2.2.2.2.2) b0 b1 ik ha t g) (As := []) (rest := [.int (nI ((2 ^ a.1)))]) ⟨hx, hb, hml, hown, hts⟩ (c_X2_places l D cI cZ hs ta q (a.1, a.2.1, a.2.2.1, a.2.2.2.1, a.2.2.2.2.1, zsp k0 p1 a.2.2.2.2.2.1 (2 ^ a.1), a.2.2.2.2.2.2) b0 b1 ik ha t g hI.1.2) (cwV 0 hts gX2_spoil_X2_places rfl rfl rfl (by decide +kernel) ⟨Nat.le_of_ble_eq_true rfl, Nat.le_of_ble_eq_true rfl⟩) (va_recv hK hP (ci := 2) (q0 := 0) rfl rfl) hP hD hG hS hAz rfl hl.1 rfl (Nat.le_of_ble_eq_true rfl) ⟨Nat.zero_le _, Nat.zero_le _⟩ dX2_spoil_28 (fun r_5 er_5 => ?_)
          subst er_5
          refine lv_icmp_ge (tgt := 94) hx hb dX2_spoil_31 (by decide) (fun c_6 => ?_) (fun c_6 => ?_)
          · replace c_6 := Int32.not_lt.mpr c_6
            refine lv_iload_n hx hb dX2_spoil_94 rfl (lv_at hl 1 rfl) ?_
            exact W.iret (v := (nI (zct (zsc k0 a.2.2.2.2.2.1) (2 ^ a.1)))) hx hb hr (fun t9 ht hW => ⟨⟨_, (a.1, a.2.1, a.2.2.1, a.2.2.2.1, a.2.2.2.2.1, zsp k0 p1 a.2.2.2.2.2.1 (2 ^ a.1), a.2.2.2.2.2.2), rfl, (by simp (decide := true) only [zq_spoil, zwm, c_2, c_3, c_4, c_6, not_true_eq_false, not_false_eq_true, and_self, and_true, true_and, and_false, false_and, or_self, or_true, true_or, or_false, false_or, if_true, if_false, ↓reduceIte, Bool.false_eq_true, iff_self, iff_true, iff_false, true_iff, false_iff, Nat.add_zero]; rw [zN_nI (by have := zNN hI; omega)]), zP_ht ht hP⟩, hS.F ht⟩) hS.2.2 dX2_spoil_95
          · replace c_6 := Int32.not_le.mp c_6
            exact absurd c_6 (nI_nlt (Nat.le_refl _) (by have := zNp hI; omega))
        · intro i hi hJ ihi H locs ls hI0 hl
          obtain ⟨hP, hD, hS⟩ := hI0
          refine lv_iload hx hb dX2_spoil_25 (lv_at hl 0 rfl) ?_
          refine lv_aload_n hx hb dX2_spoil_27 rfl (lv_at hl 2 rfl) ?_
          refine zz_cVi (cs := zcX cI q (a.1, a.2.1, a.2.2.1, a.2.2.2.1, a.2.2.2.2.1, zsp k0 p1 a.2.2.2.2.2.1 i, a.2.2.2.2.2.2) b0 b1 ik ha t g) (As := []) (rest := [.int (nI i)]) ⟨hx, hb, hml, hown, hts⟩ (c_X2_places l D cI cZ hs ta q (a.1, a.2.1, a.2.2.1, a.2.2.2.1, a.2.2.2.2.1, zsp k0 p1 a.2.2.2.2.2.1 i, a.2.2.2.2.2.2) b0 b1 ik ha t g hI.1.2) (cwV 0 hts gX2_spoil_X2_places rfl rfl rfl (by decide +kernel) ⟨Nat.le_of_ble_eq_true rfl, Nat.le_of_ble_eq_true rfl⟩) (va_recv hK hP (ci := 2) (q0 := 0) rfl rfl) hP hD hG hS hAz rfl hl.1 rfl (Nat.le_of_ble_eq_true rfl) ⟨Nat.zero_le _, Nat.zero_le _⟩ dX2_spoil_28 (fun r_7 er_7 => ?_)
          subst er_7
          refine lv_icmp_ge (tgt := 94) hx hb dX2_spoil_31 (by decide) (fun c_8 => ?_) (fun c_8 => ?_)
          · replace c_8 := Int32.not_lt.mpr c_8
            exact absurd (nI_lt hi (by have := zNp hI; omega)) c_8
          · replace c_8 := Int32.not_le.mp c_8
            refine lv_iload_n hx hb dX2_spoil_34 rfl (lv_at hl 3 rfl) ?_
            refine lv_iload hx hb dX2_spoil_35 (lv_at hl 0 rfl) ?_
            refine zz_pSi (As := [.int (nI k0), .int (nI i)]) (rest := []) ⟨hx, hb, hml, hown, hts⟩ (c_X2_has l k0 i (by have := zNN hI; omega) (by have := zNp hI; omega)) (va_cwS 2 hts gX2_spoil_X2_has rfl rfl rfl (by decide +kernel) ⟨Nat.le_of_ble_eq_true rfl, Nat.le_of_ble_eq_true rfl⟩) rfl hl.1 rfl (Nat.le_of_ble_eq_true rfl) ⟨Nat.zero_le _, Nat.zero_le _⟩ dX2_spoil_37 (fun r_9 er_9 => ?_)
            refine lv_if_eq (tgt := 88) hx hb dX2_spoil_40 (by decide) (fun c_10 => ?_) (fun c_10 => ?_)
            · replace c_10 := zB_f er_9 c_10
              refine lv_iinc (v := (nI (i + 1))) (lv' := [(4, .int (nI (i + 1))), (3, .int (nI (zct (zsc k0 a.2.2.2.2.2.1) i))), (0, .ref (q 0)), (1, .int (nI k0)), (2, .int p1)]) hx hb dX2_spoil_88 hl (k := 0) rfl (zz_inc _) (by decide) rfl (fun ls hl => ?_)
              refine lv_goto (tgt := 25) hx hb dX2_spoil_91 (by decide) ?_
              rw [show ((nI (zct (zsc k0 a.2.2.2.2.2.1) i)) : Int32) = (nI (zct (zsc k0 a.2.2.2.2.2.1) (i + 1))) from by simp only [zct, zsc, c_2, c_3, c_4, c_8, c_10, decide_true, decide_false, not_true_eq_false, not_false_eq_true, and_self, and_true, true_and, and_false, false_and, or_self, or_true, true_or, or_false, false_or, if_true, if_false, ↓reduceIte, Bool.false_eq_true, iff_self, iff_true, iff_false, true_iff, false_iff, Nat.add_zero]] at hl
              have hl : lv_has ls 5 [(4, .int (nI ((i + 1)))), (3, .int (nI (zct (zsc k0 a.2.2.2.2.2.1) (i + 1)))), (0, .ref (q 0)), (1, .int (nI k0)), (2, .int p1)] := hl
              exact ihi (trivial) _ _ ls (⟨by rw [zsp_n (Or.inl c_10)]; exact hP, by rw [zsp_n (Or.inl c_10)]; exact hD, hS⟩) (lv_sub hl [0, 1, 2, 3, 4] rfl)
            · replace c_10 := zB_t er_9 c_10
              refine lv_aload_n hx hb dX2_spoil_43 rfl (lv_at hl 2 rfl) ?_
              refine va_get (ci := 2) (C := RX2) (T := TX2) (N := 7) hx hb hts hiX2 hown hK hP 0 rfl rfl 0 (by decide) hf10 (fun _ h9 => h9) rfl dX2_spoil_44 ?_
              refine va_getN (ci := 0) (C := RX0) (T := TX0) (N := 7) hx hb hts hiX0 hown hK hP 1 rfl rfl 5 (by decide) (va_Nw.use rfl hn108) (fun _ h9 => h9) rfl dX2_spoil_47 ?_
              refine lv_iload hx hb dX2_spoil_50 (lv_at hl 0 rfl) ?_
              refine zz_iald hx hb hK hP 2 0 rfl rfl (i := i) rfl (by have := zNp hI; omega) (by decide) dX2_spoil_52 ?_
              refine zz_topi (a.2.2.2.2.2.1 i) (zsp_i _ _ _ _) ?_
              refine lv_if_eq (tgt := 88) hx hb dX2_spoil_53 (by decide) (fun c_11 => ?_) (fun c_11 => ?_)
              · refine lv_iinc (v := (nI (i + 1))) (lv' := [(4, .int (nI (i + 1))), (3, .int (nI (zct (zsc k0 a.2.2.2.2.2.1) i))), (0, .ref (q 0)), (1, .int (nI k0)), (2, .int p1)]) hx hb dX2_spoil_88 hl (k := 0) rfl (zz_inc _) (by decide) rfl (fun ls hl => ?_)
                refine lv_goto (tgt := 25) hx hb dX2_spoil_91 (by decide) ?_
                rw [show ((nI (zct (zsc k0 a.2.2.2.2.2.1) i)) : Int32) = (nI (zct (zsc k0 a.2.2.2.2.2.1) (i + 1))) from by simp only [zct, zsc, c_2, c_3, c_4, c_8, c_10, c_11, decide_true, decide_false, not_true_eq_false, not_false_eq_true, and_self, and_true, true_and, and_false, false_and, or_self, or_true, true_or, or_false, false_or, if_true, if_false, ↓reduceIte, Bool.false_eq_true, iff_self, iff_true, iff_false, true_iff, false_iff, Nat.add_zero]] at hl
                have hl : lv_has ls 5 [(4, .int (nI ((i + 1)))), (3, .int (nI (zct (zsc k0 a.2.2.2.2.2.1) (i + 1)))), (0, .ref (q 0)), (1, .int (nI k0)), (2, .int p1)] := hl
                exact ihi (trivial) _ _ ls (⟨by rw [zsp_n (Or.inr c_11)]; exact hP, by rw [zsp_n (Or.inr c_11)]; exact hD, hS⟩) (lv_sub hl [0, 1, 2, 3, 4] rfl)
              · refine lv_iinc (v := (nI ((zct (zsc k0 a.2.2.2.2.2.1) i) + 1))) (lv' := [(3, .int (nI ((zct (zsc k0 a.2.2.2.2.2.1) i) + 1))), (4, .int (nI i)), (0, .ref (q 0)), (1, .int (nI k0)), (2, .int p1)]) hx hb dX2_spoil_56 hl (k := 1) rfl (zz_inc _) (by decide) rfl (fun ls hl => ?_)
                refine lv_aload_n hx hb dX2_spoil_59 rfl (lv_at hl 2 rfl) ?_
                refine va_get (ci := 2) (C := RX2) (T := TX2) (N := 7) hx hb hts hiX2 hown hK hP 0 rfl rfl 0 (by decide) hf10 (fun _ h9 => h9) rfl dX2_spoil_60 ?_
                refine va_getN (ci := 0) (C := RX0) (T := TX0) (N := 7) hx hb hts hiX0 hown hK hP 1 rfl rfl 5 (by decide) (va_Nw.use rfl hn108) (fun _ h9 => h9) rfl dX2_spoil_63 ?_
                refine lv_iload hx hb dX2_spoil_66 (lv_at hl 1 rfl) ?_
                refine lv_iload_n hx hb dX2_spoil_68 rfl (lv_at hl 4 rfl) ?_
                refine lv_if_ne (tgt := 76) hx hb dX2_spoil_69 (by decide) (fun c_12 => ?_) (fun c_12 => ?_)
                · refine lv_aload_n hx hb dX2_spoil_76 rfl (lv_at hl 2 rfl) ?_
                  refine va_get (ci := 2) (C := RX2) (T := TX2) (N := 7) hx hb hts hiX2 hown hK hP 0 rfl rfl 0 (by decide) hf10 (fun _ h9 => h9) rfl dX2_spoil_77 ?_
                  refine va_getN (ci := 0) (C := RX0) (T := TX0) (N := 7) hx hb hts hiX0 hown hK hP 1 rfl rfl 5 (by decide) (va_Nw.use rfl hn108) (fun _ h9 => h9) rfl dX2_spoil_80 ?_
                  refine lv_iload hx hb dX2_spoil_83 (lv_at hl 1 rfl) ?_
                  refine zz_iald hx hb hK hP 2 0 rfl rfl (i := i) rfl (by have := zNp hI; omega) (by decide) dX2_spoil_85 ?_
                  refine zz_topi (a.2.2.2.2.2.1 i) (zsp_i _ _ _ _) ?_
                  refine lv_ineg hx hb dX2_spoil_86 ?_
                  refine zz_iast hx hb hK hP hD hS 2 0 rfl rfl (i := i) rfl (by have := zNp hI; omega) (by decide) dX2_spoil_87 (fun H locs hP hD hS => ?_)
                  have hP : va_P D vwCl (zcX cI q (a.1, a.2.1, a.2.2.1, a.2.2.2.1, a.2.2.2.2.1, upd (zsp k0 p1 a.2.2.2.2.2.1 i) i (-(a.2.2.2.2.2.1 i)), a.2.2.2.2.2.2) b0 b1 ik ha t g) H := hP
                  have hD : va_D A (zcX cI q (a.1, a.2.1, a.2.2.1, a.2.2.2.1, a.2.2.2.2.1, upd (zsp k0 p1 a.2.2.2.2.2.1 i) i (-(a.2.2.2.2.2.1 i)), a.2.2.2.2.2.2) b0 b1 ik ha t g) := hD
                  rw [zsp_s (v := (-(a.2.2.2.2.2.1 i))) c_10 (by simp only [c_12, not_true_eq_false, not_false_eq_true, and_self, and_true, true_and, and_false, false_and, or_self, or_true, true_or, or_false, false_or, if_true, if_false, ↓reduceIte, Bool.false_eq_true, iff_self, iff_true, iff_false, true_iff, false_iff, Nat.add_zero])] at hP hD
                  have hP : va_P D vwCl (zcX cI q (a.1, a.2.1, a.2.2.1, a.2.2.2.1, a.2.2.2.2.1, zsp k0 p1 a.2.2.2.2.2.1 (i + 1), a.2.2.2.2.2.2) b0 b1 ik ha t g) H := hP
                  have hD : va_D A (zcX cI q (a.1, a.2.1, a.2.2.1, a.2.2.2.1, a.2.2.2.2.1, zsp k0 p1 a.2.2.2.2.2.1 (i + 1), a.2.2.2.2.2.2) b0 b1 ik ha t g) := hD
                  refine lv_iinc (v := (nI (i + 1))) (lv' := [(4, .int (nI (i + 1))), (3, .int (nI ((zct (zsc k0 a.2.2.2.2.2.1) i) + 1))), (0, .ref (q 0)), (1, .int (nI k0)), (2, .int p1)]) hx hb dX2_spoil_88 hl (k := 1) rfl (zz_inc _) (by decide) rfl (fun ls hl => ?_)
                  refine lv_goto (tgt := 25) hx hb dX2_spoil_91 (by decide) ?_
                  rw [show ((nI ((zct (zsc k0 a.2.2.2.2.2.1) i) + 1)) : Int32) = (nI (zct (zsc k0 a.2.2.2.2.2.1) (i + 1))) from by simp only [zct, zsc, c_2, c_3, c_4, c_8, c_10, c_11, c_12, decide_true, decide_false, not_true_eq_false, not_false_eq_true, and_self, and_true, true_and, and_false, false_and, or_self, or_true, true_or, or_false, false_or, if_true, if_false, ↓reduceIte, Bool.false_eq_true, iff_self, iff_true, iff_false, true_iff, false_iff, Nat.add_zero]] at hl
                  have hl : lv_has ls 5 [(4, .int (nI ((i + 1)))), (3, .int (nI (zct (zsc k0 a.2.2.2.2.2.1) (i + 1)))), (0, .ref (q 0)), (1, .int (nI k0)), (2, .int p1)] := hl
                  exact ihi (trivial) _ _ ls (⟨hP, hD, hS⟩) (lv_sub hl [0, 1, 2, 3, 4] rfl)
                · refine lv_iconst (v := 0) hx hb dX2_spoil_72 (by decide) ?_
                  refine lv_goto (tgt := 87) hx hb dX2_spoil_73 (by decide) ?_
                  refine zz_iast hx hb hK hP hD hS 2 0 rfl rfl (i := i) rfl (by have := zNp hI; omega) (by decide) dX2_spoil_87 (fun H locs hP hD hS => ?_)
                  have hP : va_P D vwCl (zcX cI q (a.1, a.2.1, a.2.2.1, a.2.2.2.1, a.2.2.2.2.1, upd (zsp k0 p1 a.2.2.2.2.2.1 i) i 0, a.2.2.2.2.2.2) b0 b1 ik ha t g) H := hP
                  have hD : va_D A (zcX cI q (a.1, a.2.1, a.2.2.1, a.2.2.2.1, a.2.2.2.2.1, upd (zsp k0 p1 a.2.2.2.2.2.1 i) i 0, a.2.2.2.2.2.2) b0 b1 ik ha t g) := hD
                  rw [zsp_s (v := 0) c_10 (by simp only [c_12, not_true_eq_false, not_false_eq_true, and_self, and_true, true_and, and_false, false_and, or_self, or_true, true_or, or_false, false_or, if_true, if_false, ↓reduceIte, Bool.false_eq_true, iff_self, iff_true, iff_false, true_iff, false_iff, Nat.add_zero])] at hP hD
                  have hP : va_P D vwCl (zcX cI q (a.1, a.2.1, a.2.2.1, a.2.2.2.1, a.2.2.2.2.1, zsp k0 p1 a.2.2.2.2.2.1 (i + 1), a.2.2.2.2.2.2) b0 b1 ik ha t g) H := hP
                  have hD : va_D A (zcX cI q (a.1, a.2.1, a.2.2.1, a.2.2.2.1, a.2.2.2.2.1, zsp k0 p1 a.2.2.2.2.2.1 (i + 1), a.2.2.2.2.2.2) b0 b1 ik ha t g) := hD
                  refine lv_iinc (v := (nI (i + 1))) (lv' := [(4, .int (nI (i + 1))), (3, .int (nI ((zct (zsc k0 a.2.2.2.2.2.1) i) + 1))), (0, .ref (q 0)), (1, .int (nI k0)), (2, .int p1)]) hx hb dX2_spoil_88 hl (k := 1) rfl (zz_inc _) (by decide) rfl (fun ls hl => ?_)
                  refine lv_goto (tgt := 25) hx hb dX2_spoil_91 (by decide) ?_
                  rw [show ((nI ((zct (zsc k0 a.2.2.2.2.2.1) i) + 1)) : Int32) = (nI (zct (zsc k0 a.2.2.2.2.2.1) (i + 1))) from by simp only [zct, zsc, c_2, c_3, c_4, c_8, c_10, c_11, c_12, decide_true, decide_false, not_true_eq_false, not_false_eq_true, and_self, and_true, true_and, and_false, false_and, or_self, or_true, true_or, or_false, false_or, if_true, if_false, ↓reduceIte, Bool.false_eq_true, iff_self, iff_true, iff_false, true_iff, false_iff, Nat.add_zero]] at hl
                  have hl : lv_has ls 5 [(4, .int (nI ((i + 1)))), (3, .int (nI (zct (zsc k0 a.2.2.2.2.2.1) (i + 1)))), (0, .ref (q 0)), (1, .int (nI k0)), (2, .int p1)] := hl
                  exact ihi (trivial) _ _ ls (⟨hP, hD, hS⟩) (lv_sub hl [0, 1, 2, 3, 4] rfl)
      · replace c_4 := Int32.not_le.mp c_4
        refine lv_bipush (v := (-2)) hx hb dX2_spoil_17 (by decide) ?_
        exact W.iret (v := (-2)) hx hb hr (fun t9 ht hW => ⟨⟨_, a, rfl, (by simp (decide := true) only [zq_spoil, zwm, c_2, c_3, c_4, not_true_eq_false, not_false_eq_true, and_self, and_true, true_and, and_false, false_and, or_self, or_true, true_or, or_false, false_or, if_true, if_false, ↓reduceIte, Bool.false_eq_true, iff_self, iff_true, iff_false, true_iff, false_iff, Nat.add_zero]), zP_ht ht hP⟩, hS.F ht⟩) hS.2.2 dX2_spoil_19
