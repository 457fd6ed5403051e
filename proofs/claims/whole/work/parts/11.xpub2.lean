set_option maxHeartbeats 4000000 in
set_option maxRecDepth 100000 in
theorem c_X2_measure (l : Launch) (D : va_G) (cI cZ : ClassId) (hs ta : Nat) (sz : Nat) (q : Nat → Nat) (a : ZA) (b0 : ZA) (b1 : ZA) (ik : Nat) (ha : Nat → Int32) (t : ZR) (g : ZR) (p0 : Int32) (p1 : Int32) (hI : zInv a) : Met l yX2_measure wsX2_measure ({ frames := 5, cells := 0, slots := 0, locals := 111 }) (va_Pc [.ref (q 0), .int p0, .int p1] (fun U => U.heap.size = sz ∧ zPre D (zTy cI cZ) hs ta (zcX cI q a b0 b1 ik ha t g) U)) (va_Qi (fun (r : Int32) (u : Nat → Int32) => r = zq_measure a p0 p1) (fun (u : Nat → Int32) t9 => va_P D vwCl (zcX cI q a b0 b1 ik u t g) t9.heap) (va_A (zcX cI q a b0 b1 ik ha t g) sz)) 0 0 (va_A (zcX cI q a b0 b1 ik ha t g) sz) := by
  refine Met.ofW (cc := cX2_measure) (maxL := 3) (ret := (some .int)) (by decide) rfl ?_
  intro p e s m args below meth c s₁ B hml hv0
  obtain ⟨rfl, hsz, hP, hD0, hG⟩ := hv0
  have hx := B.exec
  have hb := B.bytes
  have hr := B.returns
  have hts := atoms_spec (ws := wsX2_measure) B.pre
  have hown : s.vm.findClass RX2 = some m.cls := findClass_of_methodNamed B.named
  have hlocks := B.notSynchronized
  subst hsz
  have hD := hD0.self (sz := s.heap.size)
  have hAz0 : ∀ y9, va_A (zcX cI q a b0 b1 ik ha t g) s.heap.size y9 → hs ≤ y9 := zA_of hD0 (fun y9 h => Nat.le_trans hG.2.2.2.2 h) (va_S.rf (A := zA hs) (H0 := s.heap))
  generalize hAe : va_A (zcX cI q a b0 b1 ik ha t g) s.heap.size = A at hD hAz0 ⊢
  have hA : ∀ y9 : Nat, s.heap.size ≤ y9 → A y9 := fun y9 h => by rw [← hAe]; exact Or.inr h
  have hS : va_S A s.heap s.heap [] := va_S.rf
  have hAz : ∀ y9, A y9 → hs ≤ y9 := hAz0
  have hK := hG.1
  have hl := lv_entry ([.ref (q 0), .int p0, .int p1]) (n := 3) (Nat.le_of_ble_eq_true rfl)
  rw [lg_entry_eq]
  generalize (lg_sl ([.ref (q 0), .int p0, .int p1]) ++ List.replicate (3 - (lg_sl ([.ref (q 0), .int p0, .int p1])).length) Slot.unset).toArray = ls at hl ⊢
  have hl : lv_has ls 3 [(0, .ref (q 0)), (1, .int p0), (2, .int p1)] := hl
  have hc107 := hts (.constant RX2 107 (-1000002)) (List.mem_of_getElem? (i := 2) rfl)
  have hf10 := hts (.fieldLink RX2 10 "FrozenBits" "now" "LFrozenBits$Facts;") (List.mem_of_getElem? (i := 3) rfl)
  have hiX2 : ∀ w ∈ u_ws RX2 TX2 7, w ∈ wsX2_measure := fun w h => List.mem_cons_of_mem _ (List.mem_append_left _ (List.mem_append_right _ h))
  have hn108 := hG.2.1 (.fieldLinkNest "FrozenBits" 108 "FrozenBits$Facts" "measures" "[I" "FrozenBits") (List.mem_of_getElem? (i := 5) rfl)
  have hiX0 : ∀ w ∈ u_ws RX0 TX0 7, w ∈ wsX2_measure := fun w h => List.mem_cons_of_mem _ (List.mem_append_right _ h)
  have hc106 := hts (.constant RX2 106 (-1000001)) (List.mem_of_getElem? (i := 1) rfl)
  refine lv_aload_n hx hb dX2_measure_0 rfl (lv_at hl 0 rfl) ?_
  refine lv_iload_n hx hb dX2_measure_1 rfl (lv_at hl 1 rfl) ?_
  refine zz_cVi (cs := zcX cI q a b0 b1 ik ha t g) (As := [.int p0]) (rest := []) ⟨hx, hb, hml, hown, hts⟩ (c_X2_isPlace l D cI cZ hs ta q a b0 b1 ik ha t g p0 hI) (cwV 1 hts gX2_measure_X2_isPlace rfl rfl rfl (by decide +kernel) ⟨Nat.le_of_ble_eq_true rfl, Nat.le_of_ble_eq_true rfl⟩) (va_recv hK hP (ci := 2) (q0 := 0) rfl rfl) hP hD hG hS hAz rfl hl.1 rfl (Nat.le_of_ble_eq_true rfl) ⟨Nat.zero_le _, Nat.zero_le _⟩ dX2_measure_2 (fun r_1 er_1 => ?_)
  refine lv_if_ne (tgt := 11) hx hb dX2_measure_5 (by decide) (fun c_2 => ?_) (fun c_2 => ?_)
  · replace c_2 := zB_t er_1 c_2
    refine lv_iload_n hx hb dX2_measure_11 rfl (lv_at hl 2 rfl) ?_
    refine lv_if_lt (tgt := 20) hx hb dX2_measure_12 (by decide) (fun c_3 => ?_) (fun c_3 => ?_)
    · refine lv_ldc hx hb hown hc107 dX2_measure_20 ?_
      exact W.iret (v := (-1000002)) hx hb hr (fun t9 ht hW => ⟨⟨_, ha, rfl, (by simp (decide := true) only [zq_measure, zwm, c_2, c_3, not_true_eq_false, not_false_eq_true, and_self, and_true, true_and, and_false, false_and, or_self, or_true, true_or, or_false, false_or, if_true, if_false, ↓reduceIte, Bool.false_eq_true, iff_self, iff_true, iff_false, true_iff, false_iff, Nat.add_zero]), zP_ht ht hP⟩, hS.F ht⟩) hS.2.2 dX2_measure_22
    · refine lv_iload_n hx hb dX2_measure_15 rfl (lv_at hl 2 rfl) ?_
      refine lv_iconst (v := 1) hx hb dX2_measure_16 (by decide) ?_
      refine lv_icmp_le (tgt := 23) hx hb dX2_measure_17 (by decide) (fun c_4 => ?_) (fun c_4 => ?_)
      · replace c_4 := Int32.not_lt.mpr c_4
        obtain ⟨k0, hk0, rfl⟩ := zr0 c_2 (by have := zNp hI; omega)
        refine lv_iload_n hx hb dX2_measure_23 rfl (lv_at hl 2 rfl) ?_
        refine lv_if_ne (tgt := 39) hx hb dX2_measure_24 (by decide) (fun c_5 => ?_) (fun c_5 => ?_)
        · refine lv_aload_n hx hb dX2_measure_39 rfl (lv_at hl 0 rfl) ?_
          refine lv_iload_n hx hb dX2_measure_40 rfl (lv_at hl 1 rfl) ?_
          refine lv_aload_n hx hb dX2_measure_41 rfl (lv_at hl 0 rfl) ?_
          refine zz_mVi (ct := (fun (u : Nat → Int32) => zcX cI q a b0 b1 ik u t g)) (cs := zcX cI q a b0 b1 ik ha t g) (As := []) (rest := [.int (nI k0), .ref (q 0)]) ⟨hx, hb, hml, hown, hts⟩ (c_X2_rowRead l D cI cZ hs ta s.heap.size q a b0 b1 ik ha t g hI) (fun _ => rfl) (cwV 0 hts gX2_measure_X2_rowRead rfl rfl rfl (by decide +kernel) ⟨Nat.le_of_ble_eq_true rfl, Nat.le_of_ble_eq_true rfl⟩) (va_recv hK hP (ci := 2) (q0 := 0) rfl rfl) hP hD hG hS hA hAz rfl hl.1 rfl (Nat.le_of_ble_eq_true rfl) ⟨Nat.zero_le _, Nat.zero_le _⟩ dX2_measure_42 (fun r_6 u_7 H locs eu_7 hP hD hS => ?_)
          subst eu_7
          have hP : va_P D vwCl (zcX cI q a b0 b1 ik u_7 t g) H := hP
          have hD : va_D A (zcX cI q a b0 b1 ik u_7 t g) := hD
          refine zz_mVi (ct := (fun (u : Nat → Int32) => zcX cI q a b0 b1 ik u t g)) (cs := zcX cI q a b0 b1 ik u_7 t g) (As := [.int (nI k0), .int (nI (zrr a (2 ^ a.1)))]) (rest := []) ⟨hx, hb, hml, hown, hts⟩ (c_X2_seenOf l D cI cZ hs ta H.size q a b0 b1 ik u_7 t g k0 (zrr a (2 ^ a.1)) hI (by have := zNp hI; omega) (zrr_16 a (zNp hI))) (fun _ => rfl) (cwV 2 hts gX2_measure_X2_seenOf rfl rfl rfl (by decide +kernel) ⟨Nat.le_of_ble_eq_true rfl, Nat.le_of_ble_eq_true rfl⟩) (va_recv hK hP (ci := 2) (q0 := 0) rfl rfl) hP hD hG hS hA hAz rfl hl.1 rfl (Nat.le_of_ble_eq_true rfl) ⟨Nat.zero_le _, Nat.zero_le _⟩ dX2_measure_45 (fun r_8 u_9 H locs eu_9 hP hD hS => ?_)
          subst eu_9
          have hP : va_P D vwCl (zcX cI q a b0 b1 ik u_9 t g) H := hP
          have hD : va_D A (zcX cI q a b0 b1 ik u_9 t g) := hD
          exact W.iret (v := (zsee a.2.2.2.2.2.1 a.1 k0 (zrr a (2 ^ a.1)))) hx hb hr (fun t9 ht hW => ⟨⟨_, u_9, rfl, (by simp (decide := true) only [zq_measure, zwm, c_2, c_3, c_4, c_5, not_true_eq_false, not_false_eq_true, and_self, and_true, true_and, and_false, false_and, or_self, or_true, true_or, or_false, false_or, if_true, if_false, ↓reduceIte, Bool.false_eq_true, iff_self, iff_true, iff_false, true_iff, false_iff, Nat.add_zero]; rw [zN_nI (by have := zNp hI; omega)]), zP_ht ht hP⟩, hS.F ht⟩) hS.2.2 dX2_measure_48
        · refine lv_aload_n hx hb dX2_measure_27 rfl (lv_at hl 0 rfl) ?_
          refine va_get (ci := 2) (C := RX2) (T := TX2) (N := 7) hx hb hts hiX2 hown hK hP 0 rfl rfl 0 (by decide) hf10 (fun _ h9 => h9) rfl dX2_measure_28 ?_
          refine va_getN (ci := 0) (C := RX0) (T := TX0) (N := 7) hx hb hts hiX0 hown hK hP 1 rfl rfl 5 (by decide) (va_Nw.use rfl hn108) (fun _ h9 => h9) rfl dX2_measure_31 ?_
          refine lv_iload_n hx hb dX2_measure_34 rfl (lv_at hl 1 rfl) ?_
          refine zz_iald hx hb hK hP 2 0 rfl rfl (i := k0) rfl (by have := zNp hI; omega) (by decide) dX2_measure_35 ?_
          refine lv_goto (tgt := 48) hx hb dX2_measure_36 (by decide) ?_
          exact W.iret (v := (a.2.2.2.2.2.1 k0)) hx hb hr (fun t9 ht hW => ⟨⟨_, ha, rfl, (by simp (decide := true) only [zq_measure, zwm, c_2, c_3, c_4, c_5, not_true_eq_false, not_false_eq_true, and_self, and_true, true_and, and_false, false_and, or_self, or_true, true_or, or_false, false_or, if_true, if_false, ↓reduceIte, Bool.false_eq_true, iff_self, iff_true, iff_false, true_iff, false_iff, Nat.add_zero]; rw [zN_nI (by have := zNp hI; omega)]), zP_ht ht hP⟩, hS.F ht⟩) hS.2.2 dX2_measure_48
      · replace c_4 := Int32.not_le.mp c_4
        refine lv_ldc hx hb hown hc107 dX2_measure_20 ?_
        exact W.iret (v := (-1000002)) hx hb hr (fun t9 ht hW => ⟨⟨_, ha, rfl, (by simp (decide := true) only [zq_measure, zwm, c_2, c_3, c_4, not_true_eq_false, not_false_eq_true, and_self, and_true, true_and, and_false, false_and, or_self, or_true, true_or, or_false, false_or, if_true, if_false, ↓reduceIte, Bool.false_eq_true, iff_self, iff_true, iff_false, true_iff, false_iff, Nat.add_zero]), zP_ht ht hP⟩, hS.F ht⟩) hS.2.2 dX2_measure_22
  · replace c_2 := zB_f er_1 c_2
    refine lv_ldc hx hb hown hc106 dX2_measure_8 ?_
    exact W.iret (v := (-1000001)) hx hb hr (fun t9 ht hW => ⟨⟨_, ha, rfl, (by simp (decide := true) only [zq_measure, zwm, c_2, not_true_eq_false, not_false_eq_true, and_self, and_true, true_and, and_false, false_and, or_self, or_true, true_or, or_false, false_or, if_true, if_false, ↓reduceIte, Bool.false_eq_true, iff_self, iff_true, iff_false, true_iff, false_iff, Nat.add_zero]), zP_ht ht hP⟩, hS.F ht⟩) hS.2.2 dX2_measure_10
set_option maxHeartbeats 4000000 in
set_option maxRecDepth 100000 in
theorem c_X2_read (l : Launch) (D : va_G) (cI cZ : ClassId) (hs ta : Nat) (sz : Nat) (q : Nat → Nat) (a : ZA) (b0 : ZA) (b1 : ZA) (ik : Nat) (ha : Nat → Int32) (t : ZR) (g : ZR) (p0 : Int32) (hI : zInv a) : Met l yX2_read wsX2_read ({ frames := 5, cells := 0, slots := 0, locals := 112 }) (va_Pc [.ref (q 0), .int p0] (fun U => U.heap.size = sz ∧ zPre D (zTy cI cZ) hs ta (zcX cI q a b0 b1 ik ha t g) U)) (va_Qi (fun (r : Int32) (u : Nat → Int32) => r = zq_read a p0) (fun (u : Nat → Int32) t9 => va_P D vwCl (zcX cI q a b0 b1 ik u t g) t9.heap) (va_A (zcX cI q a b0 b1 ik ha t g) sz)) 0 0 (va_A (zcX cI q a b0 b1 ik ha t g) sz) := by
  refine Met.ofW (cc := cX2_read) (maxL := 3) (ret := (some .int)) (by decide) rfl ?_
  intro p e s m args below meth c s₁ B hml hv0
  obtain ⟨rfl, hsz, hP, hD0, hG⟩ := hv0
  have hx := B.exec
  have hb := B.bytes
  have hr := B.returns
  have hts := atoms_spec (ws := wsX2_read) B.pre
  have hown : s.vm.findClass RX2 = some m.cls := findClass_of_methodNamed B.named
  have hlocks := B.notSynchronized
  subst hsz
  have hD := hD0.self (sz := s.heap.size)
  have hAz0 : ∀ y9, va_A (zcX cI q a b0 b1 ik ha t g) s.heap.size y9 → hs ≤ y9 := zA_of hD0 (fun y9 h => Nat.le_trans hG.2.2.2.2 h) (va_S.rf (A := zA hs) (H0 := s.heap))
  generalize hAe : va_A (zcX cI q a b0 b1 ik ha t g) s.heap.size = A at hD hAz0 ⊢
  have hA : ∀ y9 : Nat, s.heap.size ≤ y9 → A y9 := fun y9 h => by rw [← hAe]; exact Or.inr h
  have hS : va_S A s.heap s.heap [] := va_S.rf
  have hAz : ∀ y9, A y9 → hs ≤ y9 := hAz0
  have hK := hG.1
  have hl := lv_entry ([.ref (q 0), .int p0]) (n := 3) (Nat.le_of_ble_eq_true rfl)
  rw [lg_entry_eq]
  generalize (lg_sl ([.ref (q 0), .int p0]) ++ List.replicate (3 - (lg_sl ([.ref (q 0), .int p0])).length) Slot.unset).toArray = ls at hl ⊢
  have hl : lv_has ls 3 [(0, .ref (q 0)), (1, .int p0)] := hl
  have hf10 := hts (.fieldLink RX2 10 "FrozenBits" "now" "LFrozenBits$Facts;") (List.mem_of_getElem? (i := 1) rfl)
  have hiX2 : ∀ w ∈ u_ws RX2 TX2 7, w ∈ wsX2_read := fun w h => List.mem_cons_of_mem _ (List.mem_append_left _ (List.mem_append_right _ h))
  refine lv_iload_n hx hb dX2_read_0 rfl (lv_at hl 1 rfl) ?_
  refine lv_if_lt (tgt := 9) hx hb dX2_read_1 (by decide) (fun c_1 => ?_) (fun c_1 => ?_)
  · refine lv_bipush (v := (-2)) hx hb dX2_read_9 (by decide) ?_
    exact W.iret (v := (-2)) hx hb hr (fun t9 ht hW => ⟨⟨_, ha, rfl, (by simp (decide := true) only [zq_read, zwm, c_1, not_true_eq_false, not_false_eq_true, and_self, and_true, true_and, and_false, false_and, or_self, or_true, true_or, or_false, false_or, if_true, if_false, ↓reduceIte, Bool.false_eq_true, iff_self, iff_true, iff_false, true_iff, false_iff, Nat.add_zero]), zP_ht ht hP⟩, hS.F ht⟩) hS.2.2 dX2_read_11
  · refine lv_iload_n hx hb dX2_read_4 rfl (lv_at hl 1 rfl) ?_
    refine lv_iconst (v := 3) hx hb dX2_read_5 (by decide) ?_
    refine lv_icmp_le (tgt := 12) hx hb dX2_read_6 (by decide) (fun c_2 => ?_) (fun c_2 => ?_)
    · replace c_2 := Int32.not_lt.mpr c_2
      refine lv_aload_n hx hb dX2_read_12 rfl (lv_at hl 0 rfl) ?_
      refine zz_mVi (ct := (fun (u : Nat → Int32) => zcX cI q a b0 b1 ik u t g)) (cs := zcX cI q a b0 b1 ik ha t g) (As := []) (rest := []) ⟨hx, hb, hml, hown, hts⟩ (c_X2_rowRead l D cI cZ hs ta s.heap.size q a b0 b1 ik ha t g hI) (fun _ => rfl) (cwV 0 hts gX2_read_X2_rowRead rfl rfl rfl (by decide +kernel) ⟨Nat.le_of_ble_eq_true rfl, Nat.le_of_ble_eq_true rfl⟩) (va_recv hK hP (ci := 2) (q0 := 0) rfl rfl) hP hD hG hS hA hAz rfl hl.1 rfl (Nat.le_of_ble_eq_true rfl) ⟨Nat.zero_le _, Nat.zero_le _⟩ dX2_read_13 (fun r_3 u_4 H locs eu_4 hP hD hS => ?_)
      subst eu_4
      have hP : va_P D vwCl (zcX cI q a b0 b1 ik u_4 t g) H := hP
      have hD : va_D A (zcX cI q a b0 b1 ik u_4 t g) := hD
      refine lv_istore_n (lv' := [(2, .int (nI (zrr a (2 ^ a.1)))), (0, .ref (q 0)), (1, .int p0)]) hx hb dX2_read_16 rfl hl (by decide) rfl (fun ls hl => ?_)
      refine lv_iload_n hx hb dX2_read_17 rfl (lv_at hl 2 rfl) ?_
      by_cases c_5 : p0 = 0
      · refine lv_tableIn (tgt := 44) (off := 26) hx hb dX2_read_18 (by rw [c_5]; decide) (by rw [c_5]; decide) (by rw [c_5]; rfl) (by decide) ?_
        refine lv_iload_n hx hb dX2_read_44 rfl (lv_at hl 0 rfl) ?_
        exact W.iret (v := (nI (zrr a (2 ^ a.1)))) hx hb hr (fun t9 ht hW => ⟨⟨_, u_4, rfl, (by simp (decide := true) only [zq_read, zwm, c_1, c_2, c_5, not_true_eq_false, not_false_eq_true, and_self, and_true, true_and, and_false, false_and, or_self, or_true, true_or, or_false, false_or, if_true, if_false, ↓reduceIte, Bool.false_eq_true, iff_self, iff_true, iff_false, true_iff, false_iff, Nat.add_zero]), zP_ht ht hP⟩, hS.F ht⟩) hS.2.2 dX2_read_45
      by_cases c_6 : p0 = 1
      · refine lv_tableIn (tgt := 46) (off := 28) hx hb dX2_read_18 (by rw [c_6]; decide) (by rw [c_6]; decide) (by rw [c_6]; rfl) (by decide) ?_
        refine lv_aload_n hx hb dX2_read_46 rfl (lv_at hl 1 rfl) ?_
        refine lv_iload_n hx hb dX2_read_47 rfl (lv_at hl 0 rfl) ?_
        refine zz_mVi (ct := (fun (u : Nat → Int32) => zcX cI q a b0 b1 ik u t g)) (cs := zcX cI q a b0 b1 ik u_4 t g) (As := [.int (nI (zrr a (2 ^ a.1)))]) (rest := []) ⟨hx, hb, hml, hown, hts⟩ (c_X2_fineOf l D cI cZ hs ta H.size q a b0 b1 ik u_4 t g (zrr a (2 ^ a.1)) hI (zrr_16 a (zNp hI))) (fun _ => rfl) (cwV 1 hts gX2_read_X2_fineOf rfl rfl rfl (by decide +kernel) ⟨Nat.le_of_ble_eq_true rfl, Nat.le_of_ble_eq_true rfl⟩) (va_recv hK hP (ci := 2) (q0 := 0) rfl rfl) hP hD hG hS hA hAz rfl hl.1 rfl (Nat.le_of_ble_eq_true rfl) ⟨Nat.zero_le _, Nat.zero_le _⟩ dX2_read_48 (fun r_7 u_8 H locs eu_8 hP hD hS => ?_)
        subst eu_8
        have hP : va_P D vwCl (zcX cI q a b0 b1 ik u_8 t g) H := hP
        have hD : va_D A (zcX cI q a b0 b1 ik u_8 t g) := hD
        exact W.iret (v := (zfi a.2.2.2.2.2.1 a.1 (zrr a (2 ^ a.1)) (2 ^ a.1))) hx hb hr (fun t9 ht hW => ⟨⟨_, u_8, rfl, (by simp (decide := true) only [zq_read, zwm, c_1, c_2, c_5, c_6, not_true_eq_false, not_false_eq_true, and_self, and_true, true_and, and_false, false_and, or_self, or_true, true_or, or_false, false_or, if_true, if_false, ↓reduceIte, Bool.false_eq_true, iff_self, iff_true, iff_false, true_iff, false_iff, Nat.add_zero]), zP_ht ht hP⟩, hS.F ht⟩) hS.2.2 dX2_read_51
      by_cases c_9 : p0 = 2
      · refine lv_tableIn (tgt := 52) (off := 34) hx hb dX2_read_18 (by rw [c_9]; decide) (by rw [c_9]; decide) (by rw [c_9]; rfl) (by decide) ?_
        refine lv_aload_n hx hb dX2_read_52 rfl (lv_at hl 1 rfl) ?_
        refine lv_iload_n hx hb dX2_read_53 rfl (lv_at hl 0 rfl) ?_
        refine zz_cSi (cs := []) (As := [.int (nI (zrr a (2 ^ a.1)))]) (rest := [.ref (q 0)]) ⟨hx, hb, hml, hown, hts⟩ (c_X2_codedOf l D cI cZ hs ta (zrr a (2 ^ a.1)) (zrr_16 a (zNp hI))) (va_cwS 1 hts gX2_read_X2_codedOf rfl rfl rfl (by decide +kernel) ⟨Nat.le_of_ble_eq_true rfl, Nat.le_of_ble_eq_true rfl⟩) zP_nil zD_nil hG hS hAz rfl hl.1 rfl (Nat.le_of_ble_eq_true rfl) ⟨Nat.zero_le _, Nat.zero_le _⟩ dX2_read_54 (fun r_10 er_10 => ?_)
        subst er_10
        refine zz_cVi (cs := zcX cI q a b0 b1 ik u_4 t g) (As := [.int (nI (zcod (zrr a (2 ^ a.1))))]) (rest := []) ⟨hx, hb, hml, hown, hts⟩ (c_X2_howManyToldOtherwise l D cI cZ hs ta q a b0 b1 ik u_4 t g (zcod (zrr a (2 ^ a.1))) hI (zcod_lt (zrr_16 a (zNp hI)))) (cwV 1 hts gX2_read_X2_howManyToldOtherwise rfl rfl rfl (by decide +kernel) ⟨Nat.le_of_ble_eq_true rfl, Nat.le_of_ble_eq_true rfl⟩) (va_recv hK hP (ci := 2) (q0 := 0) rfl rfl) hP hD hG hS hAz rfl hl.1 rfl (Nat.le_of_ble_eq_true rfl) ⟨Nat.zero_le _, Nat.zero_le _⟩ dX2_read_57 (fun r_11 er_11 => ?_)
        subst er_11
        exact W.iret (v := (nI (zct (zun a.2.2.2.2.2.1 (zcod (zrr a (2 ^ a.1)))) (2 ^ a.1)))) hx hb hr (fun t9 ht hW => ⟨⟨_, u_4, rfl, (by simp (decide := true) only [zq_read, zwm, c_1, c_2, c_5, c_6, c_9, not_true_eq_false, not_false_eq_true, and_self, and_true, true_and, and_false, false_and, or_self, or_true, true_or, or_false, false_or, if_true, if_false, ↓reduceIte, Bool.false_eq_true, iff_self, iff_true, iff_false, true_iff, false_iff, Nat.add_zero]), zP_ht ht hP⟩, hS.F ht⟩) hS.2.2 dX2_read_60
      refine lv_tableOut (tgt := 61) hx hb dX2_read_18 (by have q0 : (p0).toInt ≠ 0 := zsw 0 c_5; have q1 : (p0).toInt ≠ 1 := zsw 1 c_6; have q2 : (p0).toInt ≠ 2 := zsw 2 c_9; omega) (by decide) ?_
      refine lv_aload_n hx hb dX2_read_61 rfl (lv_at hl 1 rfl) ?_
      refine va_get (ci := 2) (C := RX2) (T := TX2) (N := 7) hx hb hts hiX2 hown hK hP 0 rfl rfl 0 (by decide) hf10 (fun _ h9 => h9) rfl dX2_read_62 ?_
      refine lv_iload_n hx hb dX2_read_65 rfl (lv_at hl 0 rfl) ?_
      refine zz_cVi (cs := zcF cI (q 1) (q 2) (q 3) a) (As := [.int (nI (zrr a (2 ^ a.1)))]) (rest := []) ⟨hx, hb, hml, hown, hts⟩ (c_X0_holds l D cI cZ hs ta (q 1) (q 2) (q 3) a (zrr a (2 ^ a.1)) hI (zrr_16 a (zNp hI))) (cwV 1 hts gX2_read_X0_holds rfl rfl rfl (by decide +kernel) ⟨Nat.le_of_ble_eq_true rfl, Nat.le_of_ble_eq_true rfl⟩) (va_recv hK hP (ci := 0) (q0 := 1) rfl rfl) (hP.sub (ws' := zcF cI (q 1) (q 2) (q 3) a) [1, 2, 3] rfl) (hD.sub (ws' := zcF cI (q 1) (q 2) (q 3) a) [1, 2, 3] (by decide) rfl) hG hS hAz rfl hl.1 rfl (Nat.le_of_ble_eq_true rfl) ⟨Nat.zero_le _, Nat.zero_le _⟩ dX2_read_66 (fun r_12 er_12 => ?_)
      refine lv_if_eq (tgt := 76) hx hb dX2_read_69 (by decide) (fun c_13 => ?_) (fun c_13 => ?_)
      · replace c_13 := zB_f er_12 c_13
        refine lv_iconst (v := 0) hx hb dX2_read_76 (by decide) ?_
        exact W.iret (v := 0) hx hb hr (fun t9 ht hW => ⟨⟨_, u_4, rfl, (by simp (decide := true) only [zq_read, zB, c_1, c_2, c_5, c_6, c_9, c_13, not_true_eq_false, not_false_eq_true, and_self, and_true, true_and, and_false, false_and, or_self, or_true, true_or, or_false, false_or, if_true, if_false, ↓reduceIte, Bool.false_eq_true, iff_self, iff_true, iff_false, true_iff, false_iff, Nat.add_zero]), zP_ht ht hP⟩, hS.F ht⟩) hS.2.2 dX2_read_77
      · replace c_13 := zB_t er_12 c_13
        refine lv_iconst (v := 1) hx hb dX2_read_72 (by decide) ?_
        refine lv_goto (tgt := 77) hx hb dX2_read_73 (by decide) ?_
        exact W.iret (v := 1) hx hb hr (fun t9 ht hW => ⟨⟨_, u_4, rfl, (by simp (decide := true) only [zq_read, zB, c_1, c_2, c_5, c_6, c_9, c_13, not_true_eq_false, not_false_eq_true, and_self, and_true, true_and, and_false, false_and, or_self, or_true, true_or, or_false, false_or, if_true, if_false, ↓reduceIte, Bool.false_eq_true, iff_self, iff_true, iff_false, true_iff, false_iff, Nat.add_zero]), zP_ht ht hP⟩, hS.F ht⟩) hS.2.2 dX2_read_77
    · replace c_2 := Int32.not_le.mp c_2
      refine lv_bipush (v := (-2)) hx hb dX2_read_9 (by decide) ?_
      exact W.iret (v := (-2)) hx hb hr (fun t9 ht hW => ⟨⟨_, ha, rfl, (by simp (decide := true) only [zq_read, zwm, c_1, c_2, not_true_eq_false, not_false_eq_true, and_self, and_true, true_and, and_false, false_and, or_self, or_true, true_or, or_false, false_or, if_true, if_false, ↓reduceIte, Bool.false_eq_true, iff_self, iff_true, iff_false, true_iff, false_iff, Nat.add_zero]), zP_ht ht hP⟩, hS.F ht⟩) hS.2.2 dX2_read_11
set_option maxHeartbeats 4000000 in
set_option maxRecDepth 100000 in
theorem c_X2_most (l : Launch) (D : va_G) (cI cZ : ClassId) (hs ta : Nat) (sz : Nat) (q : Nat → Nat) (a : ZA) (b0 : ZA) (b1 : ZA) (ik : Nat) (ha : Nat → Int32) (t : ZR) (g : ZR) (p0 : Int32) (hI : zInv a) : Met l yX2_most wsX2_most ({ frames := 0, cells := 0, slots := 0, locals := 0 }) (va_Pc [.ref (q 0), .int p0] (fun U => U.heap.size = sz ∧ zPre D (zTy cI cZ) hs ta (zcX cI q a b0 b1 ik ha t g) U)) (va_Qi (fun (r : Int32) (u : ZA) => (r, u) = zq_most a p0) (fun (u : ZA) t9 => va_P D vwCl (zcX cI q u b0 b1 ik ha t g) t9.heap) (va_A (zcX cI q a b0 b1 ik ha t g) sz)) 0 0 (va_A (zcX cI q a b0 b1 ik ha t g) sz) := by
  refine Met.ofW (cc := cX2_most) (maxL := 3) (ret := (some .int)) (by decide) rfl ?_
  intro p e s m args below meth c s₁ B hml hv0
  obtain ⟨rfl, hsz, hP, hD0, hG⟩ := hv0
  have hx := B.exec
  have hb := B.bytes
  have hr := B.returns
  have hts := atoms_spec (ws := wsX2_most) B.pre
  have hown : s.vm.findClass RX2 = some m.cls := findClass_of_methodNamed B.named
  have hlocks := B.notSynchronized
  subst hsz
  have hD := hD0.self (sz := s.heap.size)
  have hAz0 : ∀ y9, va_A (zcX cI q a b0 b1 ik ha t g) s.heap.size y9 → hs ≤ y9 := zA_of hD0 (fun y9 h => Nat.le_trans hG.2.2.2.2 h) (va_S.rf (A := zA hs) (H0 := s.heap))
  generalize hAe : va_A (zcX cI q a b0 b1 ik ha t g) s.heap.size = A at hD hAz0 ⊢
  have hA : ∀ y9 : Nat, s.heap.size ≤ y9 → A y9 := fun y9 h => by rw [← hAe]; exact Or.inr h
  have hS : va_S A s.heap s.heap [] := va_S.rf
  have hAz : ∀ y9, A y9 → hs ≤ y9 := hAz0
  have hK := hG.1
  have hl := lv_entry ([.ref (q 0), .int p0]) (n := 3) (Nat.le_of_ble_eq_true rfl)
  rw [lg_entry_eq]
  generalize (lg_sl ([.ref (q 0), .int p0]) ++ List.replicate (3 - (lg_sl ([.ref (q 0), .int p0])).length) Slot.unset).toArray = ls at hl ⊢
  have hl : lv_has ls 3 [(0, .ref (q 0)), (1, .int p0)] := hl
  have hf10 := hts (.fieldLink RX2 10 "FrozenBits" "now" "LFrozenBits$Facts;") (List.mem_of_getElem? (i := 1) rfl)
  have hiX2 : ∀ w ∈ u_ws RX2 TX2 7, w ∈ wsX2_most := fun w h => List.mem_cons_of_mem _ (List.mem_append_left _ (List.mem_append_right _ h))
  have hn131 := hG.2.1 (.fieldLinkNest "FrozenBits" 131 "FrozenBits$Facts" "most" "I" "FrozenBits") (List.mem_of_getElem? (i := 4) rfl)
  have hiX0 : ∀ w ∈ u_ws RX0 TX0 7, w ∈ wsX2_most := fun w h => List.mem_cons_of_mem _ (List.mem_append_right _ h)
  refine lv_iload_n hx hb dX2_most_0 rfl (lv_at hl 1 rfl) ?_
  refine lv_iconst (v := 1) hx hb dX2_most_1 (by decide) ?_
  refine lv_icmp_lt (tgt := 11) hx hb dX2_most_2 (by decide) (fun c_1 => ?_) (fun c_1 => ?_)
  · refine lv_bipush (v := (-2)) hx hb dX2_most_11 (by decide) ?_
    exact W.iret (v := (-2)) hx hb hr (fun t9 ht hW => ⟨⟨_, a, rfl, (by simp (decide := true) only [zq_most, zwm, c_1, not_true_eq_false, not_false_eq_true, and_self, and_true, true_and, and_false, false_and, or_self, or_true, true_or, or_false, false_or, if_true, if_false, ↓reduceIte, Bool.false_eq_true, iff_self, iff_true, iff_false, true_iff, false_iff, Nat.add_zero]), zP_ht ht hP⟩, hS.F ht⟩) hS.2.2 dX2_most_13
  · refine lv_iload_n hx hb dX2_most_5 rfl (lv_at hl 1 rfl) ?_
    refine lv_bipush (v := 8) hx hb dX2_most_6 (by decide) ?_
    refine lv_icmp_le (tgt := 14) hx hb dX2_most_8 (by decide) (fun c_2 => ?_) (fun c_2 => ?_)
    · replace c_2 := Int32.not_lt.mpr c_2
      obtain ⟨k0, hk0, hk1, rfl⟩ := zr1 (lo := 1) (hi := 8) c_1 c_2 (by decide) (by decide)
      refine lv_aload_n hx hb dX2_most_14 rfl (lv_at hl 0 rfl) ?_
      refine va_get (ci := 2) (C := RX2) (T := TX2) (N := 7) hx hb hts hiX2 hown hK hP 0 rfl rfl 0 (by decide) hf10 (fun _ h9 => h9) rfl dX2_most_15 ?_
      refine va_getN (ci := 0) (C := RX0) (T := TX0) (N := 7) hx hb hts hiX0 hown hK hP 1 rfl rfl 4 (by decide) (va_Nw.use rfl hn131) (fun _ h9 => h9) rfl dX2_most_18 ?_
      refine lv_istore_n (lv' := [(2, .int (nI (a.2.2.2.2.1))), (0, .ref (q 0)), (1, .int (nI k0))]) hx hb dX2_most_21 rfl hl (by decide) rfl (fun ls hl => ?_)
      refine lv_aload_n hx hb dX2_most_22 rfl (lv_at hl 1 rfl) ?_
      refine va_get (ci := 2) (C := RX2) (T := TX2) (N := 7) hx hb hts hiX2 hown hK hP 0 rfl rfl 0 (by decide) hf10 (fun _ h9 => h9) rfl dX2_most_23 ?_
      refine lv_iload_n hx hb dX2_most_26 rfl (lv_at hl 2 rfl) ?_
      refine va_putN (ci := 0) (v := .int (nI (k0))) (ty := .int) (C := RX0) (T := TX0) (N := 7) hx hb hts hiX0 tyX0 tyX0_ok nmX0 hown hK hP hD hS 1 rfl rfl 4 (by decide) (va_Nw.use rfl hn131) (fun _ h9 => h9) rfl (by decide +kernel) rfl rfl (Nat.le_of_ble_eq_true rfl) dX2_most_27 (fun H locs hP hD hS => ?_)
      have hP : va_P D vwCl (zcX cI q (a.1, a.2.1, a.2.2.1, a.2.2.2.1, k0, a.2.2.2.2.2.1, a.2.2.2.2.2.2) b0 b1 ik ha t g) H := hP
      have hD : va_D A (zcX cI q (a.1, a.2.1, a.2.2.1, a.2.2.2.1, k0, a.2.2.2.2.2.1, a.2.2.2.2.2.2) b0 b1 ik ha t g) := hD
      refine lv_iload_n hx hb dX2_most_30 rfl (lv_at hl 0 rfl) ?_
      exact W.iret (v := (nI (a.2.2.2.2.1))) hx hb hr (fun t9 ht hW => ⟨⟨_, (a.1, a.2.1, a.2.2.1, a.2.2.2.1, k0, a.2.2.2.2.2.1, a.2.2.2.2.2.2), rfl, (by simp (decide := true) only [zq_most, zwm, c_1, c_2, not_true_eq_false, not_false_eq_true, and_self, and_true, true_and, and_false, false_and, or_self, or_true, true_or, or_false, false_or, if_true, if_false, ↓reduceIte, Bool.false_eq_true, iff_self, iff_true, iff_false, true_iff, false_iff, Nat.add_zero]; rw [zN_nI (by omega)]), zP_ht ht hP⟩, hS.F ht⟩) hS.2.2 dX2_most_31
    · replace c_2 := Int32.not_le.mp c_2
      refine lv_bipush (v := (-2)) hx hb dX2_most_11 (by decide) ?_
      exact W.iret (v := (-2)) hx hb hr (fun t9 ht hW => ⟨⟨_, a, rfl, (by simp (decide := true) only [zq_most, zwm, c_1, c_2, not_true_eq_false, not_false_eq_true, and_self, and_true, true_and, and_false, false_and, or_self, or_true, true_or, or_false, false_or, if_true, if_false, ↓reduceIte, Bool.false_eq_true, iff_self, iff_true, iff_false, true_iff, false_iff, Nat.add_zero]), zP_ht ht hP⟩, hS.F ht⟩) hS.2.2 dX2_most_13
set_option maxHeartbeats 4000000 in
set_option maxRecDepth 100000 in
theorem c_X2_kept (l : Launch) (D : va_G) (cI cZ : ClassId) (hs ta : Nat) (sz : Nat) (q : Nat → Nat) (a : ZA) (b0 : ZA) (b1 : ZA) (ik : Nat) (ha : Nat → Int32) (t : ZR) (g : ZR) (p0 : Int32) (p1 : Int32) (hI : zInv a) : Met l yX2_kept wsX2_kept ({ frames := 6, cells := 0, slots := 0, locals := 135 }) (va_Pc [.ref (q 0), .int p0, .int p1] (fun U => U.heap.size = sz ∧ zPre D (zTy cI cZ) hs ta (zcX cI q a b0 b1 ik ha t g) U)) (va_Qi (fun (r : Int32) (u : (Nat → Int32) × ZR × ZR) => r = zq_kept a p0 p1) (fun (u : (Nat → Int32) × ZR × ZR) t9 => va_P D vwCl (zcX cI q a b0 b1 ik u.1 u.2.1 u.2.2) t9.heap) (va_A (zcX cI q a b0 b1 ik ha t g) sz)) 0 0 (va_A (zcX cI q a b0 b1 ik ha t g) sz) := by
  refine Met.ofW (cc := cX2_kept) (maxL := 3) (ret := (some .int)) (by decide) rfl ?_
  intro p e s m args below meth c s₁ B hml hv0
  obtain ⟨rfl, hsz, hP, hD0, hG⟩ := hv0
  have hx := B.exec
  have hb := B.bytes
  have hr := B.returns
  have hts := atoms_spec (ws := wsX2_kept) B.pre
  have hown : s.vm.findClass RX2 = some m.cls := findClass_of_methodNamed B.named
  have hlocks := B.notSynchronized
  subst hsz
  have hD := hD0.self (sz := s.heap.size)
  have hAz0 : ∀ y9, va_A (zcX cI q a b0 b1 ik ha t g) s.heap.size y9 → hs ≤ y9 := zA_of hD0 (fun y9 h => Nat.le_trans hG.2.2.2.2 h) (va_S.rf (A := zA hs) (H0 := s.heap))
  generalize hAe : va_A (zcX cI q a b0 b1 ik ha t g) s.heap.size = A at hD hAz0 ⊢
  have hA : ∀ y9 : Nat, s.heap.size ≤ y9 → A y9 := fun y9 h => by rw [← hAe]; exact Or.inr h
  have hS : va_S A s.heap s.heap [] := va_S.rf
  have hAz : ∀ y9, A y9 → hs ≤ y9 := hAz0
  have hK := hG.1
  have hl := lv_entry ([.ref (q 0), .int p0, .int p1]) (n := 3) (Nat.le_of_ble_eq_true rfl)
  rw [lg_entry_eq]
  generalize (lg_sl ([.ref (q 0), .int p0, .int p1]) ++ List.replicate (3 - (lg_sl ([.ref (q 0), .int p0, .int p1])).length) Slot.unset).toArray = ls at hl ⊢
  have hl : lv_has ls 3 [(0, .ref (q 0)), (1, .int p0), (2, .int p1)] := hl
  have hf33 := hts (.fieldLink RX2 33 "FrozenBits" "told" "LFrozenBits$FinedRows;") (List.mem_of_getElem? (i := 1) rfl)
  have hiX2 : ∀ w ∈ u_ws RX2 TX2 7, w ∈ wsX2_kept := fun w h => List.mem_cons_of_mem _ (List.mem_append_left _ (List.mem_append_left _ (List.mem_append_right _ h)))
  have hn143 := hG.2.1 (.fieldLinkNest "FrozenBits" 143 "FrozenBits$FinedRows" "rows" "[I" "FrozenBits") (List.mem_of_getElem? (i := 7) rfl)
  have hiX1 : ∀ w ∈ u_ws RX1 TX1 3, w ∈ wsX2_kept := fun w h => List.mem_cons_of_mem _ (List.mem_append_left _ (List.mem_append_right _ h))
  have hn146 := hG.2.1 (.fieldLinkNest "FrozenBits" 146 "FrozenBits$FinedRows" "fines" "[I" "FrozenBits") (List.mem_of_getElem? (i := 8) rfl)
  have hf10 := hts (.fieldLink RX2 10 "FrozenBits" "now" "LFrozenBits$Facts;") (List.mem_of_getElem? (i := 2) rfl)
  have hn137 := hG.2.1 (.fieldLinkNest "FrozenBits" 137 "FrozenBits$FinedRows" "size" "I" "FrozenBits") (List.mem_of_getElem? (i := 9) rfl)
  refine lv_iload_n hx hb dX2_kept_0 rfl (lv_at hl 2 rfl) ?_
  refine lv_if_lt (tgt := 9) hx hb dX2_kept_1 (by decide) (fun c_1 => ?_) (fun c_1 => ?_)
  · refine lv_bipush (v := (-2)) hx hb dX2_kept_9 (by decide) ?_
    exact W.iret (v := (-2)) hx hb hr (fun t9 ht hW => ⟨⟨_, (ha, t, g), rfl, (by simp (decide := true) only [zq_kept, zwm, c_1, not_true_eq_false, not_false_eq_true, and_self, and_true, true_and, and_false, false_and, or_self, or_true, true_or, or_false, false_or, if_true, if_false, ↓reduceIte, Bool.false_eq_true, iff_self, iff_true, iff_false, true_iff, false_iff, Nat.add_zero]), zP_ht ht hP⟩, hS.F ht⟩) hS.2.2 dX2_kept_11
  · refine lv_iload_n hx hb dX2_kept_4 rfl (lv_at hl 2 rfl) ?_
    refine lv_iconst (v := 2) hx hb dX2_kept_5 (by decide) ?_
    refine lv_icmp_le (tgt := 12) hx hb dX2_kept_6 (by decide) (fun c_2 => ?_) (fun c_2 => ?_)
    · replace c_2 := Int32.not_lt.mpr c_2
      refine lv_aload_n hx hb dX2_kept_12 rfl (lv_at hl 0 rfl) ?_
      refine zz_mVv (ct := (fun (u : (Nat → Int32) × ZR × ZR) => zcX cI q a b0 b1 ik u.1 u.2.1 u.2.2)) (cs := zcX cI q a b0 b1 ik ha t g) (As := []) (rest := []) ⟨hx, hb, hml, hown, hts⟩ (c_X2_tellKept l D cI cZ hs ta s.heap.size q a b0 b1 ik ha t g hI) (fun _ => rfl) (cwV 0 hts gX2_kept_X2_tellKept rfl rfl rfl (by decide +kernel) ⟨Nat.le_of_ble_eq_true rfl, Nat.le_of_ble_eq_true rfl⟩) (va_recv hK hP (ci := 2) (q0 := 0) rfl rfl) hP hD hG hS hA hAz rfl hl.1 rfl (Nat.le_of_ble_eq_true rfl) ⟨Nat.zero_le _, Nat.zero_le _⟩ dX2_kept_13 (fun u_4 H locs eu_4 hP hD hS => ?_)
      have hEx := eu_4
      have hl8 := zkp_len hI (2 ^ a.1)
      have hP : va_P D vwCl (zcX cI q a b0 b1 ik u_4.1 u_4.2.1 u_4.2.2) H := hP
      have hD : va_D A (zcX cI q a b0 b1 ik u_4.1 u_4.2.1 u_4.2.2) := hD
      refine lv_iload_n hx hb dX2_kept_16 rfl (lv_at hl 1 rfl) ?_
      refine lv_iconst (v := (-1)) hx hb dX2_kept_17 (by decide) ?_
      refine lv_icmp_ne (tgt := 29) hx hb dX2_kept_18 (by decide) (fun c_5 => ?_) (fun c_5 => ?_)
      · refine lv_aload_n hx hb dX2_kept_29 rfl (lv_at hl 0 rfl) ?_
        refine va_get (ci := 2) (C := RX2) (T := TX2) (N := 7) hx hb hts hiX2 hown hK hP 0 rfl rfl 5 (by decide) hf33 (fun _ h9 => h9) rfl dX2_kept_30 ?_
        refine lv_iload_n hx hb dX2_kept_33 rfl (lv_at hl 1 rfl) ?_
        refine zz_cVi (cs := zcR cI (q 11) (q 12) (q 13) u_4.2.1) (As := [.int p0]) (rest := []) ⟨hx, hb, hml, hown, hts⟩ (c_X1_hasAt l D cI cZ hs ta (q 11) (q 12) (q 13) u_4.2.1 p0) (cwV 1 hts gX2_kept_X1_hasAt rfl rfl rfl (by decide +kernel) ⟨Nat.le_of_ble_eq_true rfl, Nat.le_of_ble_eq_true rfl⟩) (va_recv hK hP (ci := 1) (q0 := 11) rfl rfl) (hP.sub (ws' := zcR cI (q 11) (q 12) (q 13) u_4.2.1) [11, 12, 13] rfl) (hD.sub (ws' := zcR cI (q 11) (q 12) (q 13) u_4.2.1) [11, 12, 13] (by decide) rfl) hG hS hAz rfl hl.1 rfl (Nat.le_of_ble_eq_true rfl) ⟨Nat.zero_le _, Nat.zero_le _⟩ dX2_kept_34 (fun r_6 er_6 => ?_)
        refine lv_if_ne (tgt := 43) hx hb dX2_kept_37 (by decide) (fun c_7 => ?_) (fun c_7 => ?_)
        · replace c_7 := zB_t er_6 c_7
          rw [hEx.1] at c_7
          obtain ⟨k0, hk0, rfl⟩ := zr0 c_7 (by omega)
          refine lv_iload_n hx hb dX2_kept_43 rfl (lv_at hl 2 rfl) ?_
          by_cases c_8 : p1 = 0
          · refine lv_lookup (tgt := 72) (off := 28) hx hb dX2_kept_44 (by decide) (by rw [c_8]; rfl) (by decide) ?_
            refine lv_aload_n hx hb dX2_kept_72 rfl (lv_at hl 0 rfl) ?_
            refine va_get (ci := 2) (C := RX2) (T := TX2) (N := 7) hx hb hts hiX2 hown hK hP 0 rfl rfl 5 (by decide) hf33 (fun _ h9 => h9) rfl dX2_kept_73 ?_
            refine va_getN (ci := 1) (C := RX1) (T := TX1) (N := 3) hx hb hts hiX1 hown hK hP 11 rfl rfl 0 (by decide) (va_Nw.use rfl hn143) (fun _ h9 => h9) rfl dX2_kept_76 ?_
            refine lv_iload_n hx hb dX2_kept_79 rfl (lv_at hl 1 rfl) ?_
            refine zz_iald hx hb hK hP 12 0 rfl rfl (i := k0) rfl (by omega) (by decide) dX2_kept_80 ?_
            refine zz_topi (nI (((zkp a (2 ^ a.1)).getD k0 (0, 0)).1)) ((hEx.2 k0 hk0).1) ?_
            exact W.iret (v := (nI (((zkp a (2 ^ a.1)).getD k0 (0, 0)).1))) hx hb hr (fun t9 ht hW => ⟨⟨_, (u_4.1, u_4.2.1, u_4.2.2), rfl, (by simp (decide := true) only [zq_kept, zwm, c_1, c_2, c_5, c_7, c_8, not_true_eq_false, not_false_eq_true, and_self, and_true, true_and, and_false, false_and, or_self, or_true, true_or, or_false, false_or, if_true, if_false, ↓reduceIte, Bool.false_eq_true, iff_self, iff_true, iff_false, true_iff, false_iff, Nat.add_zero]; rw [zN_nI (by omega)]), zP_ht ht hP⟩, hS.F ht⟩) hS.2.2 dX2_kept_81
          by_cases c_9 : p1 = 1
          · refine lv_lookup (tgt := 82) (off := 38) hx hb dX2_kept_44 (by decide) (by rw [c_9]; rfl) (by decide) ?_
            refine lv_aload_n hx hb dX2_kept_82 rfl (lv_at hl 0 rfl) ?_
            refine va_get (ci := 2) (C := RX2) (T := TX2) (N := 7) hx hb hts hiX2 hown hK hP 0 rfl rfl 5 (by decide) hf33 (fun _ h9 => h9) rfl dX2_kept_83 ?_
            refine va_getN (ci := 1) (C := RX1) (T := TX1) (N := 3) hx hb hts hiX1 hown hK hP 11 rfl rfl 1 (by decide) (va_Nw.use rfl hn146) (fun _ h9 => h9) rfl dX2_kept_86 ?_
            refine lv_iload_n hx hb dX2_kept_89 rfl (lv_at hl 1 rfl) ?_
            refine zz_iald hx hb hK hP 13 0 rfl rfl (i := k0) rfl (by omega) (by decide) dX2_kept_90 ?_
            refine zz_topi (((zkp a (2 ^ a.1)).getD k0 (0, 0)).2) ((hEx.2 k0 hk0).2.1) ?_
            exact W.iret (v := (((zkp a (2 ^ a.1)).getD k0 (0, 0)).2)) hx hb hr (fun t9 ht hW => ⟨⟨_, (u_4.1, u_4.2.1, u_4.2.2), rfl, (by simp (decide := true) only [zq_kept, zwm, c_1, c_2, c_5, c_7, c_8, c_9, not_true_eq_false, not_false_eq_true, and_self, and_true, true_and, and_false, false_and, or_self, or_true, true_or, or_false, false_or, if_true, if_false, ↓reduceIte, Bool.false_eq_true, iff_self, iff_true, iff_false, true_iff, false_iff, Nat.add_zero]; rw [zN_nI (by omega)]), zP_ht ht hP⟩, hS.F ht⟩) hS.2.2 dX2_kept_91
          refine lv_lookup (tgt := 92) (off := 48) hx hb dX2_kept_44 (by decide) (by have q0 : (p1).toInt ≠ 0 := zsw 0 c_8; have q1 : (p1).toInt ≠ 1 := zsw 1 c_9; exact zz_lkup q0 q1) (by decide) ?_
          refine lv_aload_n hx hb dX2_kept_92 rfl (lv_at hl 0 rfl) ?_
          refine va_get (ci := 2) (C := RX2) (T := TX2) (N := 7) hx hb hts hiX2 hown hK hP 0 rfl rfl 0 (by decide) hf10 (fun _ h9 => h9) rfl dX2_kept_93 ?_
          refine lv_aload_n hx hb dX2_kept_96 rfl (lv_at hl 0 rfl) ?_
          refine va_get (ci := 2) (C := RX2) (T := TX2) (N := 7) hx hb hts hiX2 hown hK hP 0 rfl rfl 5 (by decide) hf33 (fun _ h9 => h9) rfl dX2_kept_97 ?_
          refine va_getN (ci := 1) (C := RX1) (T := TX1) (N := 3) hx hb hts hiX1 hown hK hP 11 rfl rfl 0 (by decide) (va_Nw.use rfl hn143) (fun _ h9 => h9) rfl dX2_kept_100 ?_
          refine lv_iload_n hx hb dX2_kept_103 rfl (lv_at hl 1 rfl) ?_
          refine zz_iald hx hb hK hP 12 0 rfl rfl (i := k0) rfl (by omega) (by decide) dX2_kept_104 ?_
          refine zz_topi (nI (((zkp a (2 ^ a.1)).getD k0 (0, 0)).1)) ((hEx.2 k0 hk0).1) ?_
          refine zz_cVi (cs := zcF cI (q 1) (q 2) (q 3) a) (As := [.int (nI (((zkp a (2 ^ a.1)).getD k0 (0, 0)).1))]) (rest := []) ⟨hx, hb, hml, hown, hts⟩ (c_X0_holds l D cI cZ hs ta (q 1) (q 2) (q 3) a (((zkp a (2 ^ a.1)).getD k0 (0, 0)).1) hI ((hEx.2 k0 hk0).2.2)) (cwV 1 hts gX2_kept_X0_holds rfl rfl rfl (by decide +kernel) ⟨Nat.le_of_ble_eq_true rfl, Nat.le_of_ble_eq_true rfl⟩) (va_recv hK hP (ci := 0) (q0 := 1) rfl rfl) (hP.sub (ws' := zcF cI (q 1) (q 2) (q 3) a) [1, 2, 3] rfl) (hD.sub (ws' := zcF cI (q 1) (q 2) (q 3) a) [1, 2, 3] (by decide) rfl) hG hS hAz rfl hl.1 rfl (Nat.le_of_ble_eq_true rfl) ⟨Nat.zero_le _, Nat.zero_le _⟩ dX2_kept_105 (fun r_10 er_10 => ?_)
          refine lv_if_eq (tgt := 115) hx hb dX2_kept_108 (by decide) (fun c_11 => ?_) (fun c_11 => ?_)
          · replace c_11 := zB_f er_10 c_11
            refine lv_iconst (v := 0) hx hb dX2_kept_115 (by decide) ?_
            exact W.iret (v := 0) hx hb hr (fun t9 ht hW => ⟨⟨_, (u_4.1, u_4.2.1, u_4.2.2), rfl, (by simp (decide := true) only [zq_kept, zN_nI (show k0 < 2 ^ 31 by omega), zB, c_1, c_2, c_5, c_7, c_8, c_9, c_11, not_true_eq_false, not_false_eq_true, and_self, and_true, true_and, and_false, false_and, or_self, or_true, true_or, or_false, false_or, if_true, if_false, ↓reduceIte, Bool.false_eq_true, iff_self, iff_true, iff_false, true_iff, false_iff, Nat.add_zero]), zP_ht ht hP⟩, hS.F ht⟩) hS.2.2 dX2_kept_116
          · replace c_11 := zB_t er_10 c_11
            refine lv_iconst (v := 1) hx hb dX2_kept_111 (by decide) ?_
            refine lv_goto (tgt := 116) hx hb dX2_kept_112 (by decide) ?_
            exact W.iret (v := 1) hx hb hr (fun t9 ht hW => ⟨⟨_, (u_4.1, u_4.2.1, u_4.2.2), rfl, (by simp (decide := true) only [zq_kept, zN_nI (show k0 < 2 ^ 31 by omega), zB, c_1, c_2, c_5, c_7, c_8, c_9, c_11, not_true_eq_false, not_false_eq_true, and_self, and_true, true_and, and_false, false_and, or_self, or_true, true_or, or_false, false_or, if_true, if_false, ↓reduceIte, Bool.false_eq_true, iff_self, iff_true, iff_false, true_iff, false_iff, Nat.add_zero]), zP_ht ht hP⟩, hS.F ht⟩) hS.2.2 dX2_kept_116
        · replace c_7 := zB_f er_6 c_7
          rw [hEx.1] at c_7
          refine lv_bipush (v := (-6)) hx hb dX2_kept_40 (by decide) ?_
          exact W.iret (v := (-6)) hx hb hr (fun t9 ht hW => ⟨⟨_, (u_4.1, u_4.2.1, u_4.2.2), rfl, (by simp (decide := true) only [zq_kept, zwm, c_1, c_2, c_5, c_7, not_true_eq_false, not_false_eq_true, and_self, and_true, true_and, and_false, false_and, or_self, or_true, true_or, or_false, false_or, if_true, if_false, ↓reduceIte, Bool.false_eq_true, iff_self, iff_true, iff_false, true_iff, false_iff, Nat.add_zero]), zP_ht ht hP⟩, hS.F ht⟩) hS.2.2 dX2_kept_42
      · refine lv_aload_n hx hb dX2_kept_21 rfl (lv_at hl 0 rfl) ?_
        refine va_get (ci := 2) (C := RX2) (T := TX2) (N := 7) hx hb hts hiX2 hown hK hP 0 rfl rfl 5 (by decide) hf33 (fun _ h9 => h9) rfl dX2_kept_22 ?_
        refine va_getN (ci := 1) (C := RX1) (T := TX1) (N := 3) hx hb hts hiX1 hown hK hP 11 rfl rfl 2 (by decide) (va_Nw.use rfl hn137) (fun _ h9 => h9) rfl dX2_kept_25 ?_
        refine zz_topi (nI ((zkp a (2 ^ a.1)).length)) (by rw [hEx.1]) ?_
        exact W.iret (v := (nI ((zkp a (2 ^ a.1)).length))) hx hb hr (fun t9 ht hW => ⟨⟨_, (u_4.1, u_4.2.1, u_4.2.2), rfl, (by simp (decide := true) only [zq_kept, zwm, c_1, c_2, c_5, not_true_eq_false, not_false_eq_true, and_self, and_true, true_and, and_false, false_and, or_self, or_true, true_or, or_false, false_or, if_true, if_false, ↓reduceIte, Bool.false_eq_true, iff_self, iff_true, iff_false, true_iff, false_iff, Nat.add_zero]), zP_ht ht hP⟩, hS.F ht⟩) hS.2.2 dX2_kept_28
    · replace c_2 := Int32.not_le.mp c_2
      refine lv_bipush (v := (-2)) hx hb dX2_kept_9 (by decide) ?_
      exact W.iret (v := (-2)) hx hb hr (fun t9 ht hW => ⟨⟨_, (ha, t, g), rfl, (by simp (decide := true) only [zq_kept, zwm, c_1, c_2, not_true_eq_false, not_false_eq_true, and_self, and_true, true_and, and_false, false_and, or_self, or_true, true_or, or_false, false_or, if_true, if_false, ↓reduceIte, Bool.false_eq_true, iff_self, iff_true, iff_false, true_iff, false_iff, Nat.add_zero]), zP_ht ht hP⟩, hS.F ht⟩) hS.2.2 dX2_kept_11
set_option maxHeartbeats 4000000 in
set_option maxRecDepth 100000 in
theorem c_X2_chosen (l : Launch) (D : va_G) (cI cZ : ClassId) (hs ta : Nat) (sz : Nat) (q : Nat → Nat) (a : ZA) (b0 : ZA) (b1 : ZA) (ik : Nat) (ha : Nat → Int32) (t : ZR) (g : ZR) (p0 : Int32) (hI : zInv a) : Met l yX2_chosen wsX2_chosen ({ frames := 6, cells := 0, slots := 0, locals := 135 }) (va_Pc [.ref (q 0), .int p0] (fun U => U.heap.size = sz ∧ zPre D (zTy cI cZ) hs ta (zcX cI q a b0 b1 ik ha t g) U)) (va_Qi (fun (r : Int32) (u : (Nat → Int32) × ZR × ZR) => r = zq_chosen a p0) (fun (u : (Nat → Int32) × ZR × ZR) t9 => va_P D vwCl (zcX cI q a b0 b1 ik u.1 u.2.1 u.2.2) t9.heap) (va_A (zcX cI q a b0 b1 ik ha t g) sz)) 0 0 (va_A (zcX cI q a b0 b1 ik ha t g) sz) := by
  refine Met.ofW (cc := cX2_chosen) (maxL := 3) (ret := (some .int)) (by decide) rfl ?_
  intro p e s m args below meth c s₁ B hml hv0
  obtain ⟨rfl, hsz, hP, hD0, hG⟩ := hv0
  have hx := B.exec
  have hb := B.bytes
  have hr := B.returns
  have hts := atoms_spec (ws := wsX2_chosen) B.pre
  have hown : s.vm.findClass RX2 = some m.cls := findClass_of_methodNamed B.named
  have hlocks := B.notSynchronized
  subst hsz
  have hD := hD0.self (sz := s.heap.size)
  have hAz0 : ∀ y9, va_A (zcX cI q a b0 b1 ik ha t g) s.heap.size y9 → hs ≤ y9 := zA_of hD0 (fun y9 h => Nat.le_trans hG.2.2.2.2 h) (va_S.rf (A := zA hs) (H0 := s.heap))
  generalize hAe : va_A (zcX cI q a b0 b1 ik ha t g) s.heap.size = A at hD hAz0 ⊢
  have hA : ∀ y9 : Nat, s.heap.size ≤ y9 → A y9 := fun y9 h => by rw [← hAe]; exact Or.inr h
  have hS : va_S A s.heap s.heap [] := va_S.rf
  have hAz : ∀ y9, A y9 → hs ≤ y9 := hAz0
  have hK := hG.1
  have hl := lv_entry ([.ref (q 0), .int p0]) (n := 3) (Nat.le_of_ble_eq_true rfl)
  rw [lg_entry_eq]
  generalize (lg_sl ([.ref (q 0), .int p0]) ++ List.replicate (3 - (lg_sl ([.ref (q 0), .int p0])).length) Slot.unset).toArray = ls at hl ⊢
  have hl : lv_has ls 3 [(0, .ref (q 0)), (1, .int p0)] := hl
  have hf33 := hts (.fieldLink RX2 33 "FrozenBits" "told" "LFrozenBits$FinedRows;") (List.mem_of_getElem? (i := 1) rfl)
  have hiX2 : ∀ w ∈ u_ws RX2 TX2 7, w ∈ wsX2_chosen := fun w h => List.mem_cons_of_mem _ (List.mem_append_left _ (List.mem_append_left _ (List.mem_append_right _ h)))
  have hn143 := hG.2.1 (.fieldLinkNest "FrozenBits" 143 "FrozenBits$FinedRows" "rows" "[I" "FrozenBits") (List.mem_of_getElem? (i := 7) rfl)
  have hiX1 : ∀ w ∈ u_ws RX1 TX1 3, w ∈ wsX2_chosen := fun w h => List.mem_cons_of_mem _ (List.mem_append_left _ (List.mem_append_right _ h))
  have hn146 := hG.2.1 (.fieldLinkNest "FrozenBits" 146 "FrozenBits$FinedRows" "fines" "[I" "FrozenBits") (List.mem_of_getElem? (i := 8) rfl)
  refine lv_iload_n hx hb dX2_chosen_0 rfl (lv_at hl 1 rfl) ?_
  refine lv_if_lt (tgt := 9) hx hb dX2_chosen_1 (by decide) (fun c_1 => ?_) (fun c_1 => ?_)
  · refine lv_bipush (v := (-2)) hx hb dX2_chosen_9 (by decide) ?_
    exact W.iret (v := (-2)) hx hb hr (fun t9 ht hW => ⟨⟨_, (ha, t, g), rfl, (by simp (decide := true) only [zq_chosen, zwm, c_1, not_true_eq_false, not_false_eq_true, and_self, and_true, true_and, and_false, false_and, or_self, or_true, true_or, or_false, false_or, if_true, if_false, ↓reduceIte, Bool.false_eq_true, iff_self, iff_true, iff_false, true_iff, false_iff, Nat.add_zero]), zP_ht ht hP⟩, hS.F ht⟩) hS.2.2 dX2_chosen_11
  · refine lv_iload_n hx hb dX2_chosen_4 rfl (lv_at hl 1 rfl) ?_
    refine lv_iconst (v := 2) hx hb dX2_chosen_5 (by decide) ?_
    refine lv_icmp_le (tgt := 12) hx hb dX2_chosen_6 (by decide) (fun c_2 => ?_) (fun c_2 => ?_)
    · replace c_2 := Int32.not_lt.mpr c_2
      refine lv_aload_n hx hb dX2_chosen_12 rfl (lv_at hl 0 rfl) ?_
      refine zz_mVv (ct := (fun (u : (Nat → Int32) × ZR × ZR) => zcX cI q a b0 b1 ik u.1 u.2.1 u.2.2)) (cs := zcX cI q a b0 b1 ik ha t g) (As := []) (rest := []) ⟨hx, hb, hml, hown, hts⟩ (c_X2_tellKept l D cI cZ hs ta s.heap.size q a b0 b1 ik ha t g hI) (fun _ => rfl) (cwV 0 hts gX2_chosen_X2_tellKept rfl rfl rfl (by decide +kernel) ⟨Nat.le_of_ble_eq_true rfl, Nat.le_of_ble_eq_true rfl⟩) (va_recv hK hP (ci := 2) (q0 := 0) rfl rfl) hP hD hG hS hA hAz rfl hl.1 rfl (Nat.le_of_ble_eq_true rfl) ⟨Nat.zero_le _, Nat.zero_le _⟩ dX2_chosen_13 (fun u_4 H locs eu_4 hP hD hS => ?_)
      have hEx := eu_4
      have hl8 := zkp_len hI (2 ^ a.1)
      have hP : va_P D vwCl (zcX cI q a b0 b1 ik u_4.1 u_4.2.1 u_4.2.2) H := hP
      have hD : va_D A (zcX cI q a b0 b1 ik u_4.1 u_4.2.1 u_4.2.2) := hD
      refine lv_aload_n hx hb dX2_chosen_16 rfl (lv_at hl 0 rfl) ?_
      refine zz_cVi (cs := zcX cI q a b0 b1 ik u_4.1 u_4.2.1 u_4.2.2) (As := []) (rest := []) ⟨hx, hb, hml, hown, hts⟩ (c_X2_firstThatHolds l D cI cZ hs ta q a b0 b1 ik u_4.1 u_4.2.1 u_4.2.2 (zkp a (2 ^ a.1)) hI hEx hl8) (cwV 0 hts gX2_chosen_X2_firstThatHolds rfl rfl rfl (by decide +kernel) ⟨Nat.le_of_ble_eq_true rfl, Nat.le_of_ble_eq_true rfl⟩) (va_recv hK hP (ci := 2) (q0 := 0) rfl rfl) hP hD hG hS hAz rfl hl.1 rfl (Nat.le_of_ble_eq_true rfl) ⟨Nat.zero_le _, Nat.zero_le _⟩ dX2_chosen_17 (fun r_5 er_5 => ?_)
      subst er_5
      refine zz_topi (zfr (zch a)) (rfl) ?_
      refine lv_topi (fun v_6 ev_6 => ?_)
      refine lv_istore_n (lv' := [(2, .int v_6), (0, .ref (q 0)), (1, .int p0)]) hx hb dX2_chosen_20 rfl hl (by decide) rfl (fun ls hl => ?_)
      refine lv_aload_n hx hb dX2_chosen_21 rfl (lv_at hl 1 rfl) ?_
      refine va_get (ci := 2) (C := RX2) (T := TX2) (N := 7) hx hb hts hiX2 hown hK hP 0 rfl rfl 5 (by decide) hf33 (fun _ h9 => h9) rfl dX2_chosen_22 ?_
      refine lv_iload_n hx hb dX2_chosen_25 rfl (lv_at hl 0 rfl) ?_
      refine zz_cVi (cs := zcR cI (q 11) (q 12) (q 13) u_4.2.1) (As := [.int v_6]) (rest := []) ⟨hx, hb, hml, hown, hts⟩ (c_X1_hasAt l D cI cZ hs ta (q 11) (q 12) (q 13) u_4.2.1 v_6) (cwV 1 hts gX2_chosen_X1_hasAt rfl rfl rfl (by decide +kernel) ⟨Nat.le_of_ble_eq_true rfl, Nat.le_of_ble_eq_true rfl⟩) (va_recv hK hP (ci := 1) (q0 := 11) rfl rfl) (hP.sub (ws' := zcR cI (q 11) (q 12) (q 13) u_4.2.1) [11, 12, 13] rfl) (hD.sub (ws' := zcR cI (q 11) (q 12) (q 13) u_4.2.1) [11, 12, 13] (by decide) rfl) hG hS hAz rfl hl.1 rfl (Nat.le_of_ble_eq_true rfl) ⟨Nat.zero_le _, Nat.zero_le _⟩ dX2_chosen_26 (fun r_7 er_7 => ?_)
      refine lv_if_ne (tgt := 35) hx hb dX2_chosen_29 (by decide) (fun c_8 => ?_) (fun c_8 => ?_)
      · replace c_8 := zB_t er_7 c_8
        rw [hEx.1] at c_8
        obtain ⟨k0, hk0, hz0, rfl⟩ := zch_T a hl8 ev_6 c_8
        refine lv_iload_n hx hb dX2_chosen_35 rfl (lv_at hl 2 rfl) ?_
        by_cases c_9 : p0 = 0
        · refine lv_lookup (tgt := 64) (off := 28) hx hb dX2_chosen_36 (by decide) (by rw [c_9]; rfl) (by decide) ?_
          refine lv_aload_n hx hb dX2_chosen_64 rfl (lv_at hl 1 rfl) ?_
          refine va_get (ci := 2) (C := RX2) (T := TX2) (N := 7) hx hb hts hiX2 hown hK hP 0 rfl rfl 5 (by decide) hf33 (fun _ h9 => h9) rfl dX2_chosen_65 ?_
          refine va_getN (ci := 1) (C := RX1) (T := TX1) (N := 3) hx hb hts hiX1 hown hK hP 11 rfl rfl 0 (by decide) (va_Nw.use rfl hn143) (fun _ h9 => h9) rfl dX2_chosen_68 ?_
          refine lv_iload_n hx hb dX2_chosen_71 rfl (lv_at hl 0 rfl) ?_
          refine zz_iald hx hb hK hP 12 0 rfl rfl (i := k0) rfl (by omega) (by decide) dX2_chosen_72 ?_
          refine zz_topi (nI (((zkp a (2 ^ a.1)).getD k0 (0, 0)).1)) ((hEx.2 k0 hk0).1) ?_
          exact W.iret (v := (nI (((zkp a (2 ^ a.1)).getD k0 (0, 0)).1))) hx hb hr (fun t9 ht hW => ⟨⟨_, (u_4.1, u_4.2.1, u_4.2.2), rfl, (by simp (decide := true) only [zq_chosen, hz0, zwm, c_1, c_2, c_8, c_9, not_true_eq_false, not_false_eq_true, and_self, and_true, true_and, and_false, false_and, or_self, or_true, true_or, or_false, false_or, if_true, if_false, ↓reduceIte, Bool.false_eq_true, iff_self, iff_true, iff_false, true_iff, false_iff, Nat.add_zero]), zP_ht ht hP⟩, hS.F ht⟩) hS.2.2 dX2_chosen_73
        by_cases c_10 : p0 = 1
        · refine lv_lookup (tgt := 74) (off := 38) hx hb dX2_chosen_36 (by decide) (by rw [c_10]; rfl) (by decide) ?_
          refine lv_iload_n hx hb dX2_chosen_74 rfl (lv_at hl 0 rfl) ?_
          exact W.iret (v := (nI k0)) hx hb hr (fun t9 ht hW => ⟨⟨_, (u_4.1, u_4.2.1, u_4.2.2), rfl, (by simp (decide := true) only [zq_chosen, hz0, zwm, c_1, c_2, c_8, c_9, c_10, not_true_eq_false, not_false_eq_true, and_self, and_true, true_and, and_false, false_and, or_self, or_true, true_or, or_false, false_or, if_true, if_false, ↓reduceIte, Bool.false_eq_true, iff_self, iff_true, iff_false, true_iff, false_iff, Nat.add_zero]), zP_ht ht hP⟩, hS.F ht⟩) hS.2.2 dX2_chosen_75
        refine lv_lookup (tgt := 76) (off := 40) hx hb dX2_chosen_36 (by decide) (by have q0 : (p0).toInt ≠ 0 := zsw 0 c_9; have q1 : (p0).toInt ≠ 1 := zsw 1 c_10; exact zz_lkup q0 q1) (by decide) ?_
        refine lv_aload_n hx hb dX2_chosen_76 rfl (lv_at hl 1 rfl) ?_
        refine va_get (ci := 2) (C := RX2) (T := TX2) (N := 7) hx hb hts hiX2 hown hK hP 0 rfl rfl 5 (by decide) hf33 (fun _ h9 => h9) rfl dX2_chosen_77 ?_
        refine va_getN (ci := 1) (C := RX1) (T := TX1) (N := 3) hx hb hts hiX1 hown hK hP 11 rfl rfl 1 (by decide) (va_Nw.use rfl hn146) (fun _ h9 => h9) rfl dX2_chosen_80 ?_
        refine lv_iload_n hx hb dX2_chosen_83 rfl (lv_at hl 0 rfl) ?_
        refine zz_iald hx hb hK hP 13 0 rfl rfl (i := k0) rfl (by omega) (by decide) dX2_chosen_84 ?_
        refine zz_topi (((zkp a (2 ^ a.1)).getD k0 (0, 0)).2) ((hEx.2 k0 hk0).2.1) ?_
        exact W.iret (v := (((zkp a (2 ^ a.1)).getD k0 (0, 0)).2)) hx hb hr (fun t9 ht hW => ⟨⟨_, (u_4.1, u_4.2.1, u_4.2.2), rfl, (by simp (decide := true) only [zq_chosen, hz0, zwm, c_1, c_2, c_8, c_9, c_10, not_true_eq_false, not_false_eq_true, and_self, and_true, true_and, and_false, false_and, or_self, or_true, true_or, or_false, false_or, if_true, if_false, ↓reduceIte, Bool.false_eq_true, iff_self, iff_true, iff_false, true_iff, false_iff, Nat.add_zero]), zP_ht ht hP⟩, hS.F ht⟩) hS.2.2 dX2_chosen_85
      · replace c_8 := zB_f er_7 c_8
        rw [hEx.1] at c_8
        replace c_8 := zch_F a hl8 ev_6 c_8
        refine lv_bipush (v := (-6)) hx hb dX2_chosen_32 (by decide) ?_
        exact W.iret (v := (-6)) hx hb hr (fun t9 ht hW => ⟨⟨_, (u_4.1, u_4.2.1, u_4.2.2), rfl, (by simp (decide := true) only [zq_chosen, zwm, c_1, c_2, c_8, not_true_eq_false, not_false_eq_true, and_self, and_true, true_and, and_false, false_and, or_self, or_true, true_or, or_false, false_or, if_true, if_false, ↓reduceIte, Bool.false_eq_true, iff_self, iff_true, iff_false, true_iff, false_iff, Nat.add_zero]), zP_ht ht hP⟩, hS.F ht⟩) hS.2.2 dX2_chosen_34
    · replace c_2 := Int32.not_le.mp c_2
      refine lv_bipush (v := (-2)) hx hb dX2_chosen_9 (by decide) ?_
      exact W.iret (v := (-2)) hx hb hr (fun t9 ht hW => ⟨⟨_, (ha, t, g), rfl, (by simp (decide := true) only [zq_chosen, zwm, c_1, c_2, not_true_eq_false, not_false_eq_true, and_self, and_true, true_and, and_false, false_and, or_self, or_true, true_or, or_false, false_or, if_true, if_false, ↓reduceIte, Bool.false_eq_true, iff_self, iff_true, iff_false, true_iff, false_iff, Nat.add_zero]), zP_ht ht hP⟩, hS.F ht⟩) hS.2.2 dX2_chosen_11
set_option maxHeartbeats 4000000 in
set_option maxRecDepth 100000 in
theorem c_X2_check (l : Launch) (D : va_G) (cI cZ : ClassId) (hs ta : Nat) (sz : Nat) (q : Nat → Nat) (a : ZA) (b0 : ZA) (b1 : ZA) (ik : Nat) (ha : Nat → Int32) (t : ZR) (g : ZR) (p0 : Int32) (p1 : Int32) (hI : zInv a) : Met l yX2_check wsX2_check ({ frames := 2, cells := 0, slots := 0, locals := 41 }) (va_Pc [.ref (q 0), .int p0, .int p1] (fun U => U.heap.size = sz ∧ zPre D (zTy cI cZ) hs ta (zcX cI q a b0 b1 ik ha t g) U)) (va_Qi (fun (r : Int32) (u : ZA) => (r, u) = zq_check a p0 p1) (fun (u : ZA) t9 => va_P D vwCl (zcX cI q u b0 b1 ik ha t g) t9.heap) (va_A (zcX cI q a b0 b1 ik ha t g) sz)) 0 0 (va_A (zcX cI q a b0 b1 ik ha t g) sz) := by
  refine Met.ofW (cc := cX2_check) (maxL := 4) (ret := (some .int)) (by decide) rfl ?_
  intro p e s m args below meth c s₁ B hml hv0
  obtain ⟨rfl, hsz, hP, hD0, hG⟩ := hv0
  have hx := B.exec
  have hb := B.bytes
  have hr := B.returns
  have hts := atoms_spec (ws := wsX2_check) B.pre
  have hown : s.vm.findClass RX2 = some m.cls := findClass_of_methodNamed B.named
  have hlocks := B.notSynchronized
  subst hsz
  have hD := hD0.self (sz := s.heap.size)
  have hAz0 : ∀ y9, va_A (zcX cI q a b0 b1 ik ha t g) s.heap.size y9 → hs ≤ y9 := zA_of hD0 (fun y9 h => Nat.le_trans hG.2.2.2.2 h) (va_S.rf (A := zA hs) (H0 := s.heap))
  generalize hAe : va_A (zcX cI q a b0 b1 ik ha t g) s.heap.size = A at hD hAz0 ⊢
  have hA : ∀ y9 : Nat, s.heap.size ≤ y9 → A y9 := fun y9 h => by rw [← hAe]; exact Or.inr h
  have hS : va_S A s.heap s.heap [] := va_S.rf
  have hAz : ∀ y9, A y9 → hs ≤ y9 := hAz0
  have hK := hG.1
  have hl := lv_entry ([.ref (q 0), .int p0, .int p1]) (n := 4) (Nat.le_of_ble_eq_true rfl)
  rw [lg_entry_eq]
  generalize (lg_sl ([.ref (q 0), .int p0, .int p1]) ++ List.replicate (4 - (lg_sl ([.ref (q 0), .int p0, .int p1])).length) Slot.unset).toArray = ls at hl ⊢
  have hl : lv_has ls 4 [(0, .ref (q 0)), (1, .int p0), (2, .int p1)] := hl
  have hf10 := hts (.fieldLink RX2 10 "FrozenBits" "now" "LFrozenBits$Facts;") (List.mem_of_getElem? (i := 1) rfl)
  have hiX2 : ∀ w ∈ u_ws RX2 TX2 7, w ∈ wsX2_check := fun w h => List.mem_cons_of_mem _ (List.mem_append_left _ (List.mem_append_right _ h))
  have hn152 := hG.2.1 (.fieldLinkNest "FrozenBits" 152 "FrozenBits$Facts" "checks" "[I" "FrozenBits") (List.mem_of_getElem? (i := 6) rfl)
  have hiX0 : ∀ w ∈ u_ws RX0 TX0 7, w ∈ wsX2_check := fun w h => List.mem_cons_of_mem _ (List.mem_append_right _ h)
  refine lv_iload_n hx hb dX2_check_0 rfl (lv_at hl 1 rfl) ?_
  refine lv_if_lt (tgt := 9) hx hb dX2_check_1 (by decide) (fun c_1 => ?_) (fun c_1 => ?_)
  · refine lv_iconst (v := (-1)) hx hb dX2_check_9 (by decide) ?_
    exact W.iret (v := (-1)) hx hb hr (fun t9 ht hW => ⟨⟨_, a, rfl, (by simp (decide := true) only [zq_check, zwm, c_1, not_true_eq_false, not_false_eq_true, and_self, and_true, true_and, and_false, false_and, or_self, or_true, true_or, or_false, false_or, if_true, if_false, ↓reduceIte, Bool.false_eq_true, iff_self, iff_true, iff_false, true_iff, false_iff, Nat.add_zero]), zP_ht ht hP⟩, hS.F ht⟩) hS.2.2 dX2_check_10
  · refine lv_iload_n hx hb dX2_check_4 rfl (lv_at hl 1 rfl) ?_
    refine lv_iconst (v := 3) hx hb dX2_check_5 (by decide) ?_
    refine lv_icmp_lt (tgt := 11) hx hb dX2_check_6 (by decide) (fun c_2 => ?_) (fun c_2 => ?_)
    · refine lv_aload_n hx hb dX2_check_11 rfl (lv_at hl 0 rfl) ?_
      refine lv_iload_n hx hb dX2_check_12 rfl (lv_at hl 2 rfl) ?_
      refine zz_cVi (cs := zcX cI q a b0 b1 ik ha t g) (As := [.int p1]) (rest := []) ⟨hx, hb, hml, hown, hts⟩ (c_X2_isSet l D cI cZ hs ta q a b0 b1 ik ha t g p1 hI) (cwV 1 hts gX2_check_X2_isSet rfl rfl rfl (by decide +kernel) ⟨Nat.le_of_ble_eq_true rfl, Nat.le_of_ble_eq_true rfl⟩) (va_recv hK hP (ci := 2) (q0 := 0) rfl rfl) hP hD hG hS hAz rfl hl.1 rfl (Nat.le_of_ble_eq_true rfl) ⟨Nat.zero_le _, Nat.zero_le _⟩ dX2_check_13 (fun r_3 er_3 => ?_)
      refine lv_if_ne (tgt := 22) hx hb dX2_check_16 (by decide) (fun c_4 => ?_) (fun c_4 => ?_)
      · replace c_4 := zB_t er_3 c_4
        obtain ⟨k0, hk0, rfl⟩ := zr0 (n := 3) ⟨c_1, c_2⟩ (by decide)
        refine lv_aload_n hx hb dX2_check_22 rfl (lv_at hl 0 rfl) ?_
        refine va_get (ci := 2) (C := RX2) (T := TX2) (N := 7) hx hb hts hiX2 hown hK hP 0 rfl rfl 0 (by decide) hf10 (fun _ h9 => h9) rfl dX2_check_23 ?_
        refine va_getN (ci := 0) (C := RX0) (T := TX0) (N := 7) hx hb hts hiX0 hown hK hP 1 rfl rfl 6 (by decide) (va_Nw.use rfl hn152) (fun _ h9 => h9) rfl dX2_check_26 ?_
        refine lv_iload_n hx hb dX2_check_29 rfl (lv_at hl 1 rfl) ?_
        refine zz_iald hx hb hK hP 3 0 rfl rfl (i := k0) rfl (by omega) (by decide) dX2_check_30 ?_
        refine zz_topi (a.2.2.2.2.2.2 k0) (rfl) ?_
        refine lv_istore_n (lv' := [(3, .int (a.2.2.2.2.2.2 k0)), (0, .ref (q 0)), (1, .int (nI k0)), (2, .int p1)]) hx hb dX2_check_31 rfl hl (by decide) rfl (fun ls hl => ?_)
        refine lv_aload_n hx hb dX2_check_32 rfl (lv_at hl 1 rfl) ?_
        refine va_get (ci := 2) (C := RX2) (T := TX2) (N := 7) hx hb hts hiX2 hown hK hP 0 rfl rfl 0 (by decide) hf10 (fun _ h9 => h9) rfl dX2_check_33 ?_
        refine va_getN (ci := 0) (C := RX0) (T := TX0) (N := 7) hx hb hts hiX0 hown hK hP 1 rfl rfl 6 (by decide) (va_Nw.use rfl hn152) (fun _ h9 => h9) rfl dX2_check_36 ?_
        refine lv_iload_n hx hb dX2_check_39 rfl (lv_at hl 2 rfl) ?_
        refine lv_iload_n hx hb dX2_check_40 rfl (lv_at hl 3 rfl) ?_
        refine zz_iast hx hb hK hP hD hS 3 0 rfl rfl (i := k0) rfl (by omega) (by decide) dX2_check_41 (fun H locs hP hD hS => ?_)
        have hP : va_P D vwCl (zcX cI q (a.1, a.2.1, a.2.2.1, a.2.2.2.1, a.2.2.2.2.1, a.2.2.2.2.2.1, upd a.2.2.2.2.2.2 k0 p1) b0 b1 ik ha t g) H := hP
        have hD : va_D A (zcX cI q (a.1, a.2.1, a.2.2.1, a.2.2.2.1, a.2.2.2.2.1, a.2.2.2.2.2.1, upd a.2.2.2.2.2.2 k0 p1) b0 b1 ik ha t g) := hD
        refine lv_iload_n hx hb dX2_check_42 rfl (lv_at hl 0 rfl) ?_
        exact W.iret (v := (a.2.2.2.2.2.2 k0)) hx hb hr (fun t9 ht hW => ⟨⟨_, (a.1, a.2.1, a.2.2.1, a.2.2.2.1, a.2.2.2.2.1, a.2.2.2.2.2.1, upd a.2.2.2.2.2.2 k0 p1), rfl, (by simp (decide := true) only [zq_check, zwm, c_1, c_2, c_4, not_true_eq_false, not_false_eq_true, and_self, and_true, true_and, and_false, false_and, or_self, or_true, true_or, or_false, false_or, if_true, if_false, ↓reduceIte, Bool.false_eq_true, iff_self, iff_true, iff_false, true_iff, false_iff, Nat.add_zero]; rw [zN_nI (by omega)]), zP_ht ht hP⟩, hS.F ht⟩) hS.2.2 dX2_check_43
      · replace c_4 := zB_f er_3 c_4
        refine lv_bipush (v := (-2)) hx hb dX2_check_19 (by decide) ?_
        exact W.iret (v := (-2)) hx hb hr (fun t9 ht hW => ⟨⟨_, a, rfl, (by simp (decide := true) only [zq_check, zwm, c_1, c_2, c_4, not_true_eq_false, not_false_eq_true, and_self, and_true, true_and, and_false, false_and, or_self, or_true, true_or, or_false, false_or, if_true, if_false, ↓reduceIte, Bool.false_eq_true, iff_self, iff_true, iff_false, true_iff, false_iff, Nat.add_zero]), zP_ht ht hP⟩, hS.F ht⟩) hS.2.2 dX2_check_21
    · refine lv_iconst (v := (-1)) hx hb dX2_check_9 (by decide) ?_
      exact W.iret (v := (-1)) hx hb hr (fun t9 ht hW => ⟨⟨_, a, rfl, (by simp (decide := true) only [zq_check, zwm, c_1, c_2, not_true_eq_false, not_false_eq_true, and_self, and_true, true_and, and_false, false_and, or_self, or_true, true_or, or_false, false_or, if_true, if_false, ↓reduceIte, Bool.false_eq_true, iff_self, iff_true, iff_false, true_iff, false_iff, Nat.add_zero]), zP_ht ht hP⟩, hS.F ht⟩) hS.2.2 dX2_check_10
set_option maxHeartbeats 4000000 in
set_option maxRecDepth 100000 in
theorem c_X2_open (l : Launch) (D : va_G) (cI cZ : ClassId) (hs ta : Nat) (q : Nat → Nat) (a : ZA) (b0 : ZA) (b1 : ZA) (ik : Nat) (ha : Nat → Int32) (t : ZR) (g : ZR) (p0 : Int32) (p1 : Int32) (hI : zInv a) : Met l yX2_open wsX2_open ({ frames := 2, cells := 0, slots := 0, locals := 41 }) (va_Pc [.ref (q 0), .int p0, .int p1] (zPre D (zTy cI cZ) hs ta (zcX cI q a b0 b1 ik ha t g))) (vp_Si (fun r : Int32 => r = zq_open a p0 p1)) 0 0 (fun _ => False) := by
  refine Met.ofW (cc := cX2_open) (maxL := 4) (ret := (some .int)) (by decide) rfl ?_
  intro p e s m args below meth c s₁ B hml hv0
  obtain ⟨rfl, hP, hD, hG⟩ := hv0
  have hx := B.exec
  have hb := B.bytes
  have hr := B.returns
  have hts := atoms_spec (ws := wsX2_open) B.pre
  have hown : s.vm.findClass RX2 = some m.cls := findClass_of_methodNamed B.named
  have hlocks := B.notSynchronized
  have hK := hG.1
  have hS : va_S (zA hs) s.heap s.heap [] := va_S.rf
  have hAz : ∀ q, zA hs q → hs ≤ q := fun _ h => h
  have hl := lv_entry ([.ref (q 0), .int p0, .int p1]) (n := 4) (Nat.le_of_ble_eq_true rfl)
  rw [lg_entry_eq]
  generalize (lg_sl ([.ref (q 0), .int p0, .int p1]) ++ List.replicate (4 - (lg_sl ([.ref (q 0), .int p0, .int p1])).length) Slot.unset).toArray = ls at hl ⊢
  have hl : lv_has ls 4 [(0, .ref (q 0)), (1, .int p0), (2, .int p1)] := hl
  refine lv_aload_n hx hb dX2_open_0 rfl (lv_at hl 0 rfl) ?_
  refine lv_iload_n hx hb dX2_open_1 rfl (lv_at hl 1 rfl) ?_
  refine zz_cVi (cs := zcX cI q a b0 b1 ik ha t g) (As := [.int p0]) (rest := []) ⟨hx, hb, hml, hown, hts⟩ (c_X2_isSet l D cI cZ hs ta q a b0 b1 ik ha t g p0 hI) (cwV 1 hts gX2_open_X2_isSet rfl rfl rfl (by decide +kernel) ⟨Nat.le_of_ble_eq_true rfl, Nat.le_of_ble_eq_true rfl⟩) (va_recv hK hP (ci := 2) (q0 := 0) rfl rfl) hP hD hG hS hAz rfl hl.1 rfl (Nat.le_of_ble_eq_true rfl) ⟨Nat.zero_le _, Nat.zero_le _⟩ dX2_open_2 (fun r_1 er_1 => ?_)
  refine lv_if_eq (tgt := 17) hx hb dX2_open_5 (by decide) (fun c_2 => ?_) (fun c_2 => ?_)
  · replace c_2 := zB_f er_1 c_2
    refine lv_bipush (v := (-2)) hx hb dX2_open_17 (by decide) ?_
    exact W.iret (v := (-2)) hx hb hr (fun t9 ht hW => ⟨_, rfl, (by simp (decide := true) only [zq_open, zwm, c_2, not_true_eq_false, not_false_eq_true, and_self, and_true, true_and, and_false, false_and, or_self, or_true, true_or, or_false, false_or, if_true, if_false, ↓reduceIte, Bool.false_eq_true, iff_self, iff_true, iff_false, true_iff, false_iff, Nat.add_zero]), ht⟩) (fun _ h => absurd h List.not_mem_nil) dX2_open_19
  · replace c_2 := zB_t er_1 c_2
    refine lv_iload_n hx hb dX2_open_8 rfl (lv_at hl 2 rfl) ?_
    refine lv_if_lt (tgt := 17) hx hb dX2_open_9 (by decide) (fun c_3 => ?_) (fun c_3 => ?_)
    · refine lv_bipush (v := (-2)) hx hb dX2_open_17 (by decide) ?_
      exact W.iret (v := (-2)) hx hb hr (fun t9 ht hW => ⟨_, rfl, (by simp (decide := true) only [zq_open, zwm, c_2, c_3, not_true_eq_false, not_false_eq_true, and_self, and_true, true_and, and_false, false_and, or_self, or_true, true_or, or_false, false_or, if_true, if_false, ↓reduceIte, Bool.false_eq_true, iff_self, iff_true, iff_false, true_iff, false_iff, Nat.add_zero]), ht⟩) (fun _ h => absurd h List.not_mem_nil) dX2_open_19
    · refine lv_iload_n hx hb dX2_open_12 rfl (lv_at hl 2 rfl) ?_
      refine lv_iconst (v := 1) hx hb dX2_open_13 (by decide) ?_
      refine lv_icmp_le (tgt := 20) hx hb dX2_open_14 (by decide) (fun c_4 => ?_) (fun c_4 => ?_)
      · replace c_4 := Int32.not_lt.mpr c_4
        obtain ⟨k0, hk0, rfl⟩ := zr0 c_2 (by have := zNN hI; omega)
        refine lv_aload_n hx hb dX2_open_20 rfl (lv_at hl 0 rfl) ?_
        refine lv_iload_n hx hb dX2_open_21 rfl (lv_at hl 1 rfl) ?_
        refine zz_cVi (cs := zcX cI q a b0 b1 ik ha t g) (As := [.int (nI k0)]) (rest := []) ⟨hx, hb, hml, hown, hts⟩ (c_X2_openFor l D cI cZ hs ta q a b0 b1 ik ha t g k0 hI (by have := zNN hI; omega)) (cwV 1 hts gX2_open_X2_openFor rfl rfl rfl (by decide +kernel) ⟨Nat.le_of_ble_eq_true rfl, Nat.le_of_ble_eq_true rfl⟩) (va_recv hK hP (ci := 2) (q0 := 0) rfl rfl) hP hD hG hS hAz rfl hl.1 rfl (Nat.le_of_ble_eq_true rfl) ⟨Nat.zero_le _, Nat.zero_le _⟩ dX2_open_22 (fun r_5 er_5 => ?_)
        subst er_5
        refine lv_istore_n (lv' := [(3, .int (nI (zopn k0 &&& (a.2.2.2.1 ^^^ 65535)))), (0, .ref (q 0)), (1, .int (nI k0)), (2, .int p1)]) hx hb dX2_open_25 rfl hl (by decide) rfl (fun ls hl => ?_)
        refine lv_iload_n hx hb dX2_open_26 rfl (lv_at hl 3 rfl) ?_
        refine lv_if_ne (tgt := 34) hx hb dX2_open_27 (by decide) (fun c_6 => ?_) (fun c_6 => ?_)
        · refine lv_iload_n hx hb dX2_open_34 rfl (lv_at hl 0 rfl) ?_
          refine zz_pSi (As := [.int (nI (zopn k0 &&& (a.2.2.2.1 ^^^ 65535)))]) (rest := []) ⟨hx, hb, hml, hown, hts⟩ (c_J6_bitCount_0f7a4 l (zopn k0 &&& (a.2.2.2.1 ^^^ 65535)) (Nat.lt_of_le_of_lt Nat.and_le_left (zopn_lt (by have := zNN hI; omega)))) (va_cwS 1 hts gX2_open_J6_bitCount_0f7a4 rfl rfl rfl (by decide +kernel) ⟨Nat.le_of_ble_eq_true rfl, Nat.le_of_ble_eq_true rfl⟩) rfl hl.1 rfl (Nat.le_of_ble_eq_true rfl) ⟨Nat.zero_le _, Nat.zero_le _⟩ dX2_open_35 (fun r_7 er_7 => ?_)
          subst er_7
          exact W.iret (v := (nI (zpc (zopn k0 &&& (a.2.2.2.1 ^^^ 65535))))) hx hb hr (fun t9 ht hW => ⟨_, rfl, (by simp (decide := true) only [zq_open, zwm, c_2, c_3, c_4, c_6, not_true_eq_false, not_false_eq_true, and_self, and_true, true_and, and_false, false_and, or_self, or_true, true_or, or_false, false_or, if_true, if_false, ↓reduceIte, Bool.false_eq_true, iff_self, iff_true, iff_false, true_iff, false_iff, Nat.add_zero]; rw [zN_nI (by have := zNN hI; omega)]), ht⟩) (fun _ h => absurd h List.not_mem_nil) dX2_open_38
        · refine lv_iload_n hx hb dX2_open_30 rfl (lv_at hl 0 rfl) ?_
          refine lv_goto (tgt := 38) hx hb dX2_open_31 (by decide) ?_
          exact W.iret (v := (nI (zopn k0 &&& (a.2.2.2.1 ^^^ 65535)))) hx hb hr (fun t9 ht hW => ⟨_, rfl, (by simp (decide := true) only [zq_open, zwm, c_2, c_3, c_4, c_6, not_true_eq_false, not_false_eq_true, and_self, and_true, true_and, and_false, false_and, or_self, or_true, true_or, or_false, false_or, if_true, if_false, ↓reduceIte, Bool.false_eq_true, iff_self, iff_true, iff_false, true_iff, false_iff, Nat.add_zero]; rw [zN_nI (by have := zNN hI; omega)]), ht⟩) (fun _ h => absurd h List.not_mem_nil) dX2_open_38
      · replace c_4 := Int32.not_le.mp c_4
        refine lv_bipush (v := (-2)) hx hb dX2_open_17 (by decide) ?_
        exact W.iret (v := (-2)) hx hb hr (fun t9 ht hW => ⟨_, rfl, (by simp (decide := true) only [zq_open, zwm, c_2, c_3, c_4, not_true_eq_false, not_false_eq_true, and_self, and_true, true_and, and_false, false_and, or_self, or_true, true_or, or_false, false_or, if_true, if_false, ↓reduceIte, Bool.false_eq_true, iff_self, iff_true, iff_false, true_iff, false_iff, Nat.add_zero]), ht⟩) (fun _ h => absurd h List.not_mem_nil) dX2_open_19
set_option maxHeartbeats 4000000 in
set_option maxRecDepth 100000 in
theorem c_X2_fragile (l : Launch) (D : va_G) (cI cZ : ClassId) (hs ta : Nat) (q : Nat → Nat) (a : ZA) (b0 : ZA) (b1 : ZA) (ik : Nat) (ha : Nat → Int32) (t : ZR) (g : ZR) (p0 : Int32) (hI : zInv a) : Met l yX2_fragile wsX2_fragile ({ frames := 3, cells := 0, slots := 0, locals := 70 }) (va_Pc [.ref (q 0), .int p0] (zPre D (zTy cI cZ) hs ta (zcX cI q a b0 b1 ik ha t g))) (vp_Si (fun r : Int32 => r = zq_fragile a p0)) 0 0 (fun _ => False) := by
  refine Met.ofW (cc := cX2_fragile) (maxL := 3) (ret := (some .int)) (by decide) rfl ?_
  intro p e s m args below meth c s₁ B hml hv0
  obtain ⟨rfl, hP, hD, hG⟩ := hv0
  have hx := B.exec
  have hb := B.bytes
  have hr := B.returns
  have hts := atoms_spec (ws := wsX2_fragile) B.pre
  have hown : s.vm.findClass RX2 = some m.cls := findClass_of_methodNamed B.named
  have hlocks := B.notSynchronized
  have hK := hG.1
  have hS : va_S (zA hs) s.heap s.heap [] := va_S.rf
  have hAz : ∀ q, zA hs q → hs ≤ q := fun _ h => h
  have hl := lv_entry ([.ref (q 0), .int p0]) (n := 3) (Nat.le_of_ble_eq_true rfl)
  rw [lg_entry_eq]
  generalize (lg_sl ([.ref (q 0), .int p0]) ++ List.replicate (3 - (lg_sl ([.ref (q 0), .int p0])).length) Slot.unset).toArray = ls at hl ⊢
  have hl : lv_has ls 3 [(0, .ref (q 0)), (1, .int p0)] := hl
  refine lv_iload_n hx hb dX2_fragile_0 rfl (lv_at hl 1 rfl) ?_
  refine lv_if_lt (tgt := 9) hx hb dX2_fragile_1 (by decide) (fun c_1 => ?_) (fun c_1 => ?_)
  · refine lv_bipush (v := (-2)) hx hb dX2_fragile_9 (by decide) ?_
    exact W.iret (v := (-2)) hx hb hr (fun t9 ht hW => ⟨_, rfl, (by simp (decide := true) only [zq_fragile, zwm, c_1, not_true_eq_false, not_false_eq_true, and_self, and_true, true_and, and_false, false_and, or_self, or_true, true_or, or_false, false_or, if_true, if_false, ↓reduceIte, Bool.false_eq_true, iff_self, iff_true, iff_false, true_iff, false_iff, Nat.add_zero]), ht⟩) (fun _ h => absurd h List.not_mem_nil) dX2_fragile_11
  · refine lv_iload_n hx hb dX2_fragile_4 rfl (lv_at hl 1 rfl) ?_
    refine lv_iconst (v := 2) hx hb dX2_fragile_5 (by decide) ?_
    refine lv_icmp_le (tgt := 12) hx hb dX2_fragile_6 (by decide) (fun c_2 => ?_) (fun c_2 => ?_)
    · replace c_2 := Int32.not_lt.mpr c_2
      refine lv_aload_n hx hb dX2_fragile_12 rfl (lv_at hl 0 rfl) ?_
      refine zz_cVi (cs := zcX cI q a b0 b1 ik ha t g) (As := []) (rest := []) ⟨hx, hb, hml, hown, hts⟩ (c_X2_howManyFree l D cI cZ hs ta q a b0 b1 ik ha t g hI) (cwV 0 hts gX2_fragile_X2_howManyFree rfl rfl rfl (by decide +kernel) ⟨Nat.le_of_ble_eq_true rfl, Nat.le_of_ble_eq_true rfl⟩) (va_recv hK hP (ci := 2) (q0 := 0) rfl rfl) hP hD hG hS hAz rfl hl.1 rfl (Nat.le_of_ble_eq_true rfl) ⟨Nat.zero_le _, Nat.zero_le _⟩ dX2_fragile_13 (fun r_3 er_3 => ?_)
      subst er_3
      refine lv_if_ne (tgt := 22) hx hb dX2_fragile_16 (by decide) (fun c_4 => ?_) (fun c_4 => ?_)
      · replace c_4 := zI_n0 c_4
        obtain ⟨K, hq, hg⟩ := zseq_ex hI c_4
        have hcnt := hg.2.2.2
        obtain ⟨m0, hm0, hm1, hm2, hm3⟩ := zfl_spec hI c_4 hg
        refine lv_aload_n hx hb dX2_fragile_22 rfl (lv_at hl 0 rfl) ?_
        refine zz_cVi (cs := zcX cI q a b0 b1 ik ha t g) (As := []) (rest := []) ⟨hx, hb, hml, hown, hts⟩ (c_X2_leastWeight l D cI cZ hs ta q a b0 b1 ik ha t g hI) (cwV 0 hts gX2_fragile_X2_leastWeight rfl rfl rfl (by decide +kernel) ⟨Nat.le_of_ble_eq_true rfl, Nat.le_of_ble_eq_true rfl⟩) (va_recv hK hP (ci := 2) (q0 := 0) rfl rfl) hP hD hG hS hAz rfl hl.1 rfl (Nat.le_of_ble_eq_true rfl) ⟨Nat.zero_le _, Nat.zero_le _⟩ dX2_fragile_23 (fun r_5 er_5 => ?_)
        subst er_5
        refine lv_istore_n (lv' := [(2, .int (nI (zlw a.2.2.2.1 (2 ^ a.1)))), (0, .ref (q 0)), (1, .int p0)]) hx hb dX2_fragile_26 rfl hl (by decide) rfl (fun ls hl => ?_)
        refine lv_iload_n hx hb dX2_fragile_27 rfl (lv_at hl 2 rfl) ?_
        by_cases c_6 : p0 = 0
        · refine lv_lookup (tgt := 56) (off := 28) hx hb dX2_fragile_28 (by decide) (by rw [c_6]; rfl) (by decide) ?_
          refine lv_iload_n hx hb dX2_fragile_56 rfl (lv_at hl 0 rfl) ?_
          exact W.iret (v := (nI (zlw a.2.2.2.1 (2 ^ a.1)))) hx hb hr (fun t9 ht hW => ⟨_, rfl, (by simp (decide := true) only [zq_fragile, zwm, c_1, c_2, c_4, c_6, not_true_eq_false, not_false_eq_true, and_self, and_true, true_and, and_false, false_and, or_self, or_true, true_or, or_false, false_or, if_true, if_false, ↓reduceIte, Bool.false_eq_true, iff_self, iff_true, iff_false, true_iff, false_iff, Nat.add_zero]), ht⟩) (fun _ h => absurd h List.not_mem_nil) dX2_fragile_57
        by_cases c_7 : p0 = 1
        · refine lv_lookup (tgt := 58) (off := 30) hx hb dX2_fragile_28 (by decide) (by rw [c_7]; rfl) (by decide) ?_
          refine lv_aload_n hx hb dX2_fragile_58 rfl (lv_at hl 1 rfl) ?_
          refine lv_iload_n hx hb dX2_fragile_59 rfl (lv_at hl 0 rfl) ?_
          refine lv_iconst (v := 0) hx hb dX2_fragile_60 (by decide) ?_
          refine zz_cVi (cs := zcX cI q a b0 b1 ik ha t g) (As := [.int (nI (zlw a.2.2.2.1 (2 ^ a.1))), .int 0]) (rest := []) ⟨hx, hb, hml, hown, hts⟩ (c_X2_howManySets l D cI cZ hs ta q a b0 b1 ik ha t g (zlw a.2.2.2.1 (2 ^ a.1)) 0 K hI hq (zlw_le _ _)) (cwV 2 hts gX2_fragile_X2_howManySets rfl rfl rfl (by decide +kernel) ⟨Nat.le_of_ble_eq_true rfl, Nat.le_of_ble_eq_true rfl⟩) (va_recv hK hP (ci := 2) (q0 := 0) rfl rfl) hP hD hG hS hAz rfl hl.1 rfl (Nat.le_of_ble_eq_true rfl) ⟨Nat.zero_le _, Nat.zero_le _⟩ dX2_fragile_61 (fun r_8 er_8 => ?_)
          subst er_8
          refine zz_topi (nI (zfc a (zlw a.2.2.2.1 (2 ^ a.1)))) (by rw [hcnt]; rfl) ?_
          exact W.iret (v := (nI (zfc a (zlw a.2.2.2.1 (2 ^ a.1))))) hx hb hr (fun t9 ht hW => ⟨_, rfl, (by simp (decide := true) only [zq_fragile, zwm, c_1, c_2, c_4, c_6, c_7, not_true_eq_false, not_false_eq_true, and_self, and_true, true_and, and_false, false_and, or_self, or_true, true_or, or_false, false_or, if_true, if_false, ↓reduceIte, Bool.false_eq_true, iff_self, iff_true, iff_false, true_iff, false_iff, Nat.add_zero]), ht⟩) (fun _ h => absurd h List.not_mem_nil) dX2_fragile_64
        refine lv_lookup (tgt := 65) (off := 37) hx hb dX2_fragile_28 (by decide) (by have q0 : (p0).toInt ≠ 0 := zsw 0 c_6; have q1 : (p0).toInt ≠ 1 := zsw 1 c_7; exact zz_lkup q0 q1) (by decide) ?_
        refine lv_aload_n hx hb dX2_fragile_65 rfl (lv_at hl 1 rfl) ?_
        refine lv_iload_n hx hb dX2_fragile_66 rfl (lv_at hl 0 rfl) ?_
        refine zz_cVi (cs := zcX cI q a b0 b1 ik ha t g) (As := [.int (nI (zlw a.2.2.2.1 (2 ^ a.1)))]) (rest := []) ⟨hx, hb, hml, hown, hts⟩ (c_X2_leastSetThatOpens l D cI cZ hs ta q a b0 b1 ik ha t g (zlw a.2.2.2.1 (2 ^ a.1)) K m0 hI hq (zlw_le _ _) hm0 hm1 hm2) (cwV 1 hts gX2_fragile_X2_leastSetThatOpens rfl rfl rfl (by decide +kernel) ⟨Nat.le_of_ble_eq_true rfl, Nat.le_of_ble_eq_true rfl⟩) (va_recv hK hP (ci := 2) (q0 := 0) rfl rfl) hP hD hG hS hAz rfl hl.1 rfl (Nat.le_of_ble_eq_true rfl) ⟨Nat.zero_le _, Nat.zero_le _⟩ dX2_fragile_67 (fun r_9 er_9 => ?_)
        subst er_9
        refine zz_topi (nI (zfl a (zlw a.2.2.2.1 (2 ^ a.1)))) (by rw [hm3]) ?_
        exact W.iret (v := (nI (zfl a (zlw a.2.2.2.1 (2 ^ a.1))))) hx hb hr (fun t9 ht hW => ⟨_, rfl, (by simp (decide := true) only [zq_fragile, zwm, c_1, c_2, c_4, c_6, c_7, not_true_eq_false, not_false_eq_true, and_self, and_true, true_and, and_false, false_and, or_self, or_true, true_or, or_false, false_or, if_true, if_false, ↓reduceIte, Bool.false_eq_true, iff_self, iff_true, iff_false, true_iff, false_iff, Nat.add_zero]), ht⟩) (fun _ h => absurd h List.not_mem_nil) dX2_fragile_70
      · replace c_4 := zI_0 (by have := zNp hI; omega) c_4
        refine lv_bipush (v := (-6)) hx hb dX2_fragile_19 (by decide) ?_
        exact W.iret (v := (-6)) hx hb hr (fun t9 ht hW => ⟨_, rfl, (by simp (decide := true) only [zq_fragile, zwm, c_1, c_2, c_4, not_true_eq_false, not_false_eq_true, and_self, and_true, true_and, and_false, false_and, or_self, or_true, true_or, or_false, false_or, if_true, if_false, ↓reduceIte, Bool.false_eq_true, iff_self, iff_true, iff_false, true_iff, false_iff, Nat.add_zero]), ht⟩) (fun _ h => absurd h List.not_mem_nil) dX2_fragile_21
    · replace c_2 := Int32.not_le.mp c_2
      refine lv_bipush (v := (-2)) hx hb dX2_fragile_9 (by decide) ?_
      exact W.iret (v := (-2)) hx hb hr (fun t9 ht hW => ⟨_, rfl, (by simp (decide := true) only [zq_fragile, zwm, c_1, c_2, not_true_eq_false, not_false_eq_true, and_self, and_true, true_and, and_false, false_and, or_self, or_true, true_or, or_false, false_or, if_true, if_false, ↓reduceIte, Bool.false_eq_true, iff_self, iff_true, iff_false, true_iff, false_iff, Nat.add_zero]), ht⟩) (fun _ h => absurd h List.not_mem_nil) dX2_fragile_11
set_option maxHeartbeats 4000000 in
set_option maxRecDepth 100000 in
theorem c_X2_image (l : Launch) (D : va_G) (cI cZ : ClassId) (hs ta : Nat) (sz : Nat) (q : Nat → Nat) (a : ZA) (b0 : ZA) (b1 : ZA) (ik : Nat) (ha : Nat → Int32) (t : ZR) (g : ZR) (p0 : Int32) : Met l yX2_image wsX2_image ({ frames := 2, cells := 0, slots := 0, locals := 61 }) (va_Pc [.ref (q 0), .int p0] (fun U => U.heap.size = sz ∧ zPre D (zTy cI cZ) hs ta (zcX cI q a b0 b1 ik ha t g) U)) (va_Qi (fun (r : Int32) (u : ZA × ZA × Nat) => (r, u) = zq_image a b0 b1 ik p0) (fun (u : ZA × ZA × Nat) t9 => va_P D vwCl (zcX cI q a u.1 u.2.1 u.2.2 ha t g) t9.heap) (va_A (zcX cI q a b0 b1 ik ha t g) sz)) 0 0 (va_A (zcX cI q a b0 b1 ik ha t g) sz) := by
  refine Met.ofW (cc := cX2_image) (maxL := 2) (ret := (some .int)) (by decide) rfl ?_
  intro p e s m args below meth c s₁ B hml hv0
  obtain ⟨rfl, hsz, hP, hD0, hG⟩ := hv0
  have hx := B.exec
  have hb := B.bytes
  have hr := B.returns
  have hts := atoms_spec (ws := wsX2_image) B.pre
  have hown : s.vm.findClass RX2 = some m.cls := findClass_of_methodNamed B.named
  have hlocks := B.notSynchronized
  subst hsz
  have hD := hD0.self (sz := s.heap.size)
  have hAz0 : ∀ y9, va_A (zcX cI q a b0 b1 ik ha t g) s.heap.size y9 → hs ≤ y9 := zA_of hD0 (fun y9 h => Nat.le_trans hG.2.2.2.2 h) (va_S.rf (A := zA hs) (H0 := s.heap))
  generalize hAe : va_A (zcX cI q a b0 b1 ik ha t g) s.heap.size = A at hD hAz0 ⊢
  have hA : ∀ y9 : Nat, s.heap.size ≤ y9 → A y9 := fun y9 h => by rw [← hAe]; exact Or.inr h
  have hS : va_S A s.heap s.heap [] := va_S.rf
  have hAz : ∀ y9, A y9 → hs ≤ y9 := hAz0
  have hK := hG.1
  have hl := lv_entry ([.ref (q 0), .int p0]) (n := 2) (Nat.le_of_ble_eq_true rfl)
  rw [lg_entry_eq]
  generalize (lg_sl ([.ref (q 0), .int p0]) ++ List.replicate (2 - (lg_sl ([.ref (q 0), .int p0])).length) Slot.unset).toArray = ls at hl ⊢
  have hl : lv_has ls 2 [(0, .ref (q 0)), (1, .int p0)] := hl
  have hf10 := hts (.fieldLink RX2 10 "FrozenBits" "now" "LFrozenBits$Facts;") (List.mem_of_getElem? (i := 1) rfl)
  have hiX2 : ∀ w ∈ u_ws RX2 TX2 7, w ∈ wsX2_image := fun w h => List.mem_cons_of_mem _ (List.mem_append_left _ (List.mem_append_right _ h))
  have hf22 := hts (.fieldLink RX2 22 "FrozenBits" "imagesKept" "I") (List.mem_of_getElem? (i := 2) rfl)
  refine lv_iload_n hx hb dX2_image_0 rfl (lv_at hl 1 rfl) ?_
  refine lv_if_lt (tgt := 9) hx hb dX2_image_1 (by decide) (fun c_1 => ?_) (fun c_1 => ?_)
  · refine lv_bipush (v := (-2)) hx hb dX2_image_9 (by decide) ?_
    exact W.iret (v := (-2)) hx hb hr (fun t9 ht hW => ⟨⟨_, (b0, b1, ik), rfl, (by simp (decide := true) only [zq_image, zwm, c_1, not_true_eq_false, not_false_eq_true, and_self, and_true, true_and, and_false, false_and, or_self, or_true, true_or, or_false, false_or, if_true, if_false, ↓reduceIte, Bool.false_eq_true, iff_self, iff_true, iff_false, true_iff, false_iff, Nat.add_zero]), zP_ht ht hP⟩, hS.F ht⟩) hS.2.2 dX2_image_11
  · refine lv_iload_n hx hb dX2_image_4 rfl (lv_at hl 1 rfl) ?_
    refine lv_iconst (v := 2) hx hb dX2_image_5 (by decide) ?_
    refine lv_icmp_lt (tgt := 12) hx hb dX2_image_6 (by decide) (fun c_2 => ?_) (fun c_2 => ?_)
    · rcases zr01 c_1 c_2 with rfl | rfl
      · refine lv_aload_n hx hb dX2_image_12 rfl (lv_at hl 0 rfl) ?_
        refine lv_iload_n hx hb dX2_image_13 rfl (lv_at hl 1 rfl) ?_
        refine zz_cVr (cs := zcX cI q a b0 b1 ik ha t g) (As := [.int 0]) (rest := []) ⟨hx, hb, hml, hown, hts⟩ (c_X2_imageAt l D cI cZ hs ta q a b0 b1 ik ha t g 0) (cwV 1 hts gX2_image_X2_imageAt rfl rfl rfl (by decide +kernel) ⟨Nat.le_of_ble_eq_true rfl, Nat.le_of_ble_eq_true rfl⟩) (va_recv hK hP (ci := 2) (q0 := 0) rfl rfl) hP hD hG hS hAz rfl hl.1 rfl (Nat.le_of_ble_eq_true rfl) ⟨Nat.zero_le _, Nat.zero_le _⟩ dX2_image_14 (fun r_3 er_3 => ?_)
        rw [if_pos rfl] at er_3
        subst er_3
        refine lv_aload_n hx hb dX2_image_17 rfl (lv_at hl 0 rfl) ?_
        refine va_get (ci := 2) (C := RX2) (T := TX2) (N := 7) hx hb hts hiX2 hown hK hP 0 rfl rfl 0 (by decide) hf10 (fun _ h9 => h9) rfl dX2_image_18 ?_
        refine zz_nVv (ct := fun (u : ZA) => zcF cI (q 4) (q 5) (q 6) u ++ zcF cI (q 1) (q 2) (q 3) a) (cn := fun (u : ZA) => zcX cI q a u b1 ik ha t g) (cs := zcF cI (q 4) (q 5) (q 6) b0 ++ zcF cI (q 1) (q 2) (q 3) a) (As := [.ref (q 1)]) (rest := []) ⟨hx, hb, hml, hown, hts⟩ (c_X0_copyFrom l D cI cZ hs ta s.heap.size (q 4) (q 5) (q 6) (q 1) (q 2) (q 3) b0 a) (fun _ => rfl) (cwV 1 hts gX2_image_X0_copyFrom rfl rfl rfl (by decide +kernel) ⟨Nat.le_of_ble_eq_true rfl, Nat.le_of_ble_eq_true rfl⟩) (va_recv hK hP (ci := 0) (q0 := 4) rfl rfl) hP hD [4, 5, 6, 1, 2, 3] [0, 7, 8, 9, 10, 11, 12, 13, 14, 15, 16] [0, 14, 15, 16, 11, 12, 13, 1, 2, 3, 4, 5, 6, 7, 8, 9, 10] (nW := 17) rfl (by decide) (by decide) (by decide) rfl (by decide) (fun _ => rfl) (fun _ => rfl) (fun _ => rfl) hG hS hA hAz rfl hl.1 rfl (Nat.le_of_ble_eq_true rfl) ⟨Nat.zero_le _, Nat.zero_le _⟩ dX2_image_21 (fun u_5 H locs eu_5 hP hD hS => ?_)
        replace eu_5 := eu_5.symm
        subst eu_5
        have hP : va_P D vwCl (zcX cI q a a b1 ik ha t g) H := hP
        have hD : va_D A (zcX cI q a a b1 ik ha t g) := hD
        refine lv_aload_n hx hb dX2_image_24 rfl (lv_at hl 0 rfl) ?_
        refine lv_dup hx hb dX2_image_25 rfl ?_
        refine va_get (ci := 2) (C := RX2) (T := TX2) (N := 7) hx hb hts hiX2 hown hK hP 0 rfl rfl 3 (by decide) hf22 (fun _ h9 => h9) rfl dX2_image_26 ?_
        refine lv_iconst (v := 1) hx hb dX2_image_29 (by decide) ?_
        refine lv_iload_n hx hb dX2_image_30 rfl (lv_at hl 1 rfl) ?_
        refine lv_ishl hx hb dX2_image_31 ?_
        refine zz_topi (nI (2 ^ 0)) (zz_shl1n (show (0 : Int32) = nI 0 from rfl) (by omega)) ?_
        refine lv_ior hx hb dX2_image_32 ?_
        refine zz_topi (nI (ik ||| (2 ^ 0))) (zz_orn rfl rfl) ?_
        refine va_put (ci := 2) (v := .int (nI (ik ||| (2 ^ 0)))) (ty := .int) (C := RX2) (T := TX2) (N := 7) hx hb hts hiX2 tyX2 tyX2_ok nmX2 hown hK hP hD hS 0 rfl rfl 3 (by decide) hf22 (fun _ h9 => h9) rfl (by decide +kernel) rfl rfl (Nat.le_of_ble_eq_true rfl) dX2_image_33 (fun H locs hP hD hS => ?_)
        have hP : va_P D vwCl (zcX cI q a a b1 (ik ||| (2 ^ 0)) ha t g) H := hP
        have hD : va_D A (zcX cI q a a b1 (ik ||| (2 ^ 0)) ha t g) := hD
        refine lv_iconst (v := 1) hx hb dX2_image_36 (by decide) ?_
        exact W.iret (v := 1) hx hb hr (fun t9 ht hW => ⟨⟨_, (a, b1, (ik ||| (2 ^ 0))), rfl, (by simp (decide := true) only [zq_image, zwm, c_1, c_2, not_true_eq_false, not_false_eq_true, and_self, and_true, true_and, and_false, false_and, or_self, or_true, true_or, or_false, false_or, if_true, if_false, ↓reduceIte, Bool.false_eq_true, iff_self, iff_true, iff_false, true_iff, false_iff, Nat.add_zero]), zP_ht ht hP⟩, hS.F ht⟩) hS.2.2 dX2_image_37
      · refine lv_aload_n hx hb dX2_image_12 rfl (lv_at hl 0 rfl) ?_
        refine lv_iload_n hx hb dX2_image_13 rfl (lv_at hl 1 rfl) ?_
        refine zz_cVr (cs := zcX cI q a b0 b1 ik ha t g) (As := [.int 1]) (rest := []) ⟨hx, hb, hml, hown, hts⟩ (c_X2_imageAt l D cI cZ hs ta q a b0 b1 ik ha t g 1) (cwV 1 hts gX2_image_X2_imageAt rfl rfl rfl (by decide +kernel) ⟨Nat.le_of_ble_eq_true rfl, Nat.le_of_ble_eq_true rfl⟩) (va_recv hK hP (ci := 2) (q0 := 0) rfl rfl) hP hD hG hS hAz rfl hl.1 rfl (Nat.le_of_ble_eq_true rfl) ⟨Nat.zero_le _, Nat.zero_le _⟩ dX2_image_14 (fun r_6 er_6 => ?_)
        rw [if_neg (by decide)] at er_6
        subst er_6
        refine lv_aload_n hx hb dX2_image_17 rfl (lv_at hl 0 rfl) ?_
        refine va_get (ci := 2) (C := RX2) (T := TX2) (N := 7) hx hb hts hiX2 hown hK hP 0 rfl rfl 0 (by decide) hf10 (fun _ h9 => h9) rfl dX2_image_18 ?_
        refine zz_nVv (ct := fun (u : ZA) => zcF cI (q 7) (q 8) (q 9) u ++ zcF cI (q 1) (q 2) (q 3) a) (cn := fun (u : ZA) => zcX cI q a b0 u ik ha t g) (cs := zcF cI (q 7) (q 8) (q 9) b1 ++ zcF cI (q 1) (q 2) (q 3) a) (As := [.ref (q 1)]) (rest := []) ⟨hx, hb, hml, hown, hts⟩ (c_X0_copyFrom l D cI cZ hs ta s.heap.size (q 7) (q 8) (q 9) (q 1) (q 2) (q 3) b1 a) (fun _ => rfl) (cwV 1 hts gX2_image_X0_copyFrom rfl rfl rfl (by decide +kernel) ⟨Nat.le_of_ble_eq_true rfl, Nat.le_of_ble_eq_true rfl⟩) (va_recv hK hP (ci := 0) (q0 := 7) rfl rfl) hP hD [7, 8, 9, 1, 2, 3] [0, 4, 5, 6, 10, 11, 12, 13, 14, 15, 16] [0, 14, 15, 16, 1, 2, 3, 11, 12, 13, 4, 5, 6, 7, 8, 9, 10] (nW := 17) rfl (by decide) (by decide) (by decide) rfl (by decide) (fun _ => rfl) (fun _ => rfl) (fun _ => rfl) hG hS hA hAz rfl hl.1 rfl (Nat.le_of_ble_eq_true rfl) ⟨Nat.zero_le _, Nat.zero_le _⟩ dX2_image_21 (fun u_8 H locs eu_8 hP hD hS => ?_)
        replace eu_8 := eu_8.symm
        subst eu_8
        have hP : va_P D vwCl (zcX cI q a b0 a ik ha t g) H := hP
        have hD : va_D A (zcX cI q a b0 a ik ha t g) := hD
        refine lv_aload_n hx hb dX2_image_24 rfl (lv_at hl 0 rfl) ?_
        refine lv_dup hx hb dX2_image_25 rfl ?_
        refine va_get (ci := 2) (C := RX2) (T := TX2) (N := 7) hx hb hts hiX2 hown hK hP 0 rfl rfl 3 (by decide) hf22 (fun _ h9 => h9) rfl dX2_image_26 ?_
        refine lv_iconst (v := 1) hx hb dX2_image_29 (by decide) ?_
        refine lv_iload_n hx hb dX2_image_30 rfl (lv_at hl 1 rfl) ?_
        refine lv_ishl hx hb dX2_image_31 ?_
        refine zz_topi (nI (2 ^ 1)) (zz_shl1n (show (1 : Int32) = nI 1 from rfl) (by omega)) ?_
        refine lv_ior hx hb dX2_image_32 ?_
        refine zz_topi (nI (ik ||| (2 ^ 1))) (zz_orn rfl rfl) ?_
        refine va_put (ci := 2) (v := .int (nI (ik ||| (2 ^ 1)))) (ty := .int) (C := RX2) (T := TX2) (N := 7) hx hb hts hiX2 tyX2 tyX2_ok nmX2 hown hK hP hD hS 0 rfl rfl 3 (by decide) hf22 (fun _ h9 => h9) rfl (by decide +kernel) rfl rfl (Nat.le_of_ble_eq_true rfl) dX2_image_33 (fun H locs hP hD hS => ?_)
        have hP : va_P D vwCl (zcX cI q a b0 a (ik ||| (2 ^ 1)) ha t g) H := hP
        have hD : va_D A (zcX cI q a b0 a (ik ||| (2 ^ 1)) ha t g) := hD
        refine lv_iconst (v := 1) hx hb dX2_image_36 (by decide) ?_
        exact W.iret (v := 1) hx hb hr (fun t9 ht hW => ⟨⟨_, (b0, a, (ik ||| (2 ^ 1))), rfl, (by simp (decide := true) only [zq_image, zwm, c_1, c_2, not_true_eq_false, not_false_eq_true, and_self, and_true, true_and, and_false, false_and, or_self, or_true, true_or, or_false, false_or, if_true, if_false, ↓reduceIte, Bool.false_eq_true, iff_self, iff_true, iff_false, true_iff, false_iff, Nat.add_zero]), zP_ht ht hP⟩, hS.F ht⟩) hS.2.2 dX2_image_37
    · refine lv_bipush (v := (-2)) hx hb dX2_image_9 (by decide) ?_
      exact W.iret (v := (-2)) hx hb hr (fun t9 ht hW => ⟨⟨_, (b0, b1, ik), rfl, (by simp (decide := true) only [zq_image, zwm, c_1, c_2, not_true_eq_false, not_false_eq_true, and_self, and_true, true_and, and_false, false_and, or_self, or_true, true_or, or_false, false_or, if_true, if_false, ↓reduceIte, Bool.false_eq_true, iff_self, iff_true, iff_false, true_iff, false_iff, Nat.add_zero]), zP_ht ht hP⟩, hS.F ht⟩) hS.2.2 dX2_image_11
set_option maxHeartbeats 4000000 in
set_option maxRecDepth 100000 in
theorem c_X2_restore (l : Launch) (D : va_G) (cI cZ : ClassId) (hs ta : Nat) (sz : Nat) (q : Nat → Nat) (a : ZA) (b0 : ZA) (b1 : ZA) (ik : Nat) (ha : Nat → Int32) (t : ZR) (g : ZR) (p0 : Int32) (hik : ik < 4) : Met l yX2_restore wsX2_restore ({ frames := 2, cells := 0, slots := 0, locals := 61 }) (va_Pc [.ref (q 0), .int p0] (fun U => U.heap.size = sz ∧ zPre D (zTy cI cZ) hs ta (zcX cI q a b0 b1 ik ha t g) U)) (va_Qi (fun (r : Int32) (u : ZA) => (r, u) = zq_restore a b0 b1 ik p0) (fun (u : ZA) t9 => va_P D vwCl (zcX cI q u b0 b1 ik ha t g) t9.heap) (va_A (zcX cI q a b0 b1 ik ha t g) sz)) 0 0 (va_A (zcX cI q a b0 b1 ik ha t g) sz) := by
  refine Met.ofW (cc := cX2_restore) (maxL := 2) (ret := (some .int)) (by decide) rfl ?_
  intro p e s m args below meth c s₁ B hml hv0
  obtain ⟨rfl, hsz, hP, hD0, hG⟩ := hv0
  have hx := B.exec
  have hb := B.bytes
  have hr := B.returns
  have hts := atoms_spec (ws := wsX2_restore) B.pre
  have hown : s.vm.findClass RX2 = some m.cls := findClass_of_methodNamed B.named
  have hlocks := B.notSynchronized
  subst hsz
  have hD := hD0.self (sz := s.heap.size)
  have hAz0 : ∀ y9, va_A (zcX cI q a b0 b1 ik ha t g) s.heap.size y9 → hs ≤ y9 := zA_of hD0 (fun y9 h => Nat.le_trans hG.2.2.2.2 h) (va_S.rf (A := zA hs) (H0 := s.heap))
  generalize hAe : va_A (zcX cI q a b0 b1 ik ha t g) s.heap.size = A at hD hAz0 ⊢
  have hA : ∀ y9 : Nat, s.heap.size ≤ y9 → A y9 := fun y9 h => by rw [← hAe]; exact Or.inr h
  have hS : va_S A s.heap s.heap [] := va_S.rf
  have hAz : ∀ y9, A y9 → hs ≤ y9 := hAz0
  have hK := hG.1
  have hl := lv_entry ([.ref (q 0), .int p0]) (n := 2) (Nat.le_of_ble_eq_true rfl)
  rw [lg_entry_eq]
  generalize (lg_sl ([.ref (q 0), .int p0]) ++ List.replicate (2 - (lg_sl ([.ref (q 0), .int p0])).length) Slot.unset).toArray = ls at hl ⊢
  have hl : lv_has ls 2 [(0, .ref (q 0)), (1, .int p0)] := hl
  have hf22 := hts (.fieldLink RX2 22 "FrozenBits" "imagesKept" "I") (List.mem_of_getElem? (i := 1) rfl)
  have hiX2 : ∀ w ∈ u_ws RX2 TX2 7, w ∈ wsX2_restore := fun w h => List.mem_cons_of_mem _ (List.mem_append_left _ (List.mem_append_right _ h))
  have hf10 := hts (.fieldLink RX2 10 "FrozenBits" "now" "LFrozenBits$Facts;") (List.mem_of_getElem? (i := 2) rfl)
  refine lv_iload_n hx hb dX2_restore_0 rfl (lv_at hl 1 rfl) ?_
  refine lv_if_lt (tgt := 9) hx hb dX2_restore_1 (by decide) (fun c_1 => ?_) (fun c_1 => ?_)
  · refine lv_bipush (v := (-2)) hx hb dX2_restore_9 (by decide) ?_
    exact W.iret (v := (-2)) hx hb hr (fun t9 ht hW => ⟨⟨_, a, rfl, (by simp (decide := true) only [zq_restore, zwm, c_1, not_true_eq_false, not_false_eq_true, and_self, and_true, true_and, and_false, false_and, or_self, or_true, true_or, or_false, false_or, if_true, if_false, ↓reduceIte, Bool.false_eq_true, iff_self, iff_true, iff_false, true_iff, false_iff, Nat.add_zero]), zP_ht ht hP⟩, hS.F ht⟩) hS.2.2 dX2_restore_11
  · refine lv_iload_n hx hb dX2_restore_4 rfl (lv_at hl 1 rfl) ?_
    refine lv_iconst (v := 2) hx hb dX2_restore_5 (by decide) ?_
    refine lv_icmp_lt (tgt := 12) hx hb dX2_restore_6 (by decide) (fun c_2 => ?_) (fun c_2 => ?_)
    · rcases zr01 c_1 c_2 with rfl | rfl
      · refine lv_aload_n hx hb dX2_restore_12 rfl (lv_at hl 0 rfl) ?_
        refine va_get (ci := 2) (C := RX2) (T := TX2) (N := 7) hx hb hts hiX2 hown hK hP 0 rfl rfl 3 (by decide) hf22 (fun _ h9 => h9) rfl dX2_restore_13 ?_
        refine lv_iload_n hx hb dX2_restore_16 rfl (lv_at hl 1 rfl) ?_
        refine zz_pSi (As := [.int (nI ik), .int 0]) (rest := []) ⟨hx, hb, hml, hown, hts⟩ (c_X2_has l ik 0 (by omega) (by decide)) (va_cwS 2 hts gX2_restore_X2_has rfl rfl rfl (by decide +kernel) ⟨Nat.le_of_ble_eq_true rfl, Nat.le_of_ble_eq_true rfl⟩) rfl hl.1 rfl (Nat.le_of_ble_eq_true rfl) ⟨Nat.zero_le _, Nat.zero_le _⟩ dX2_restore_17 (fun r_3 er_3 => ?_)
        refine lv_if_ne (tgt := 26) hx hb dX2_restore_20 (by decide) (fun c_4 => ?_) (fun c_4 => ?_)
        · replace c_4 := zB_t er_3 c_4
          refine lv_aload_n hx hb dX2_restore_26 rfl (lv_at hl 0 rfl) ?_
          refine va_get (ci := 2) (C := RX2) (T := TX2) (N := 7) hx hb hts hiX2 hown hK hP 0 rfl rfl 0 (by decide) hf10 (fun _ h9 => h9) rfl dX2_restore_27 ?_
          refine lv_aload_n hx hb dX2_restore_30 rfl (lv_at hl 0 rfl) ?_
          refine lv_iload_n hx hb dX2_restore_31 rfl (lv_at hl 1 rfl) ?_
          refine zz_cVr (cs := zcX cI q a b0 b1 ik ha t g) (As := [.int 0]) (rest := [.ref (q 1)]) ⟨hx, hb, hml, hown, hts⟩ (c_X2_imageAt l D cI cZ hs ta q a b0 b1 ik ha t g 0) (cwV 1 hts gX2_restore_X2_imageAt rfl rfl rfl (by decide +kernel) ⟨Nat.le_of_ble_eq_true rfl, Nat.le_of_ble_eq_true rfl⟩) (va_recv hK hP (ci := 2) (q0 := 0) rfl rfl) hP hD hG hS hAz rfl hl.1 rfl (Nat.le_of_ble_eq_true rfl) ⟨Nat.zero_le _, Nat.zero_le _⟩ dX2_restore_32 (fun r_5 er_5 => ?_)
          rw [if_pos rfl] at er_5
          subst er_5
          refine zz_nVv (ct := fun (u : ZA) => zcF cI (q 1) (q 2) (q 3) u ++ zcF cI (q 4) (q 5) (q 6) b0) (cn := fun (u : ZA) => zcX cI q u b0 b1 ik ha t g) (cs := zcF cI (q 1) (q 2) (q 3) a ++ zcF cI (q 4) (q 5) (q 6) b0) (As := [.ref (q 4)]) (rest := []) ⟨hx, hb, hml, hown, hts⟩ (c_X0_copyFrom l D cI cZ hs ta s.heap.size (q 1) (q 2) (q 3) (q 4) (q 5) (q 6) a b0) (fun _ => rfl) (cwV 1 hts gX2_restore_X0_copyFrom rfl rfl rfl (by decide +kernel) ⟨Nat.le_of_ble_eq_true rfl, Nat.le_of_ble_eq_true rfl⟩) (va_recv hK hP (ci := 0) (q0 := 1) rfl rfl) hP hD [1, 2, 3, 4, 5, 6] [0, 7, 8, 9, 10, 11, 12, 13, 14, 15, 16] [0, 11, 12, 13, 14, 15, 16, 1, 2, 3, 4, 5, 6, 7, 8, 9, 10] (nW := 17) rfl (by decide) (by decide) (by decide) rfl (by decide) (fun _ => rfl) (fun _ => rfl) (fun _ => rfl) hG hS hA hAz rfl hl.1 rfl (Nat.le_of_ble_eq_true rfl) ⟨Nat.zero_le _, Nat.zero_le _⟩ dX2_restore_35 (fun u_7 H locs eu_7 hP hD hS => ?_)
          replace eu_7 := eu_7.symm
          subst eu_7
          have hP : va_P D vwCl (zcX cI q b0 b0 b1 ik ha t g) H := hP
          have hD : va_D A (zcX cI q b0 b0 b1 ik ha t g) := hD
          refine lv_iconst (v := 1) hx hb dX2_restore_38 (by decide) ?_
          exact W.iret (v := 1) hx hb hr (fun t9 ht hW => ⟨⟨_, b0, rfl, (by simp (decide := true) only [zq_restore, zwm, c_1, c_2, c_4, not_true_eq_false, not_false_eq_true, and_self, and_true, true_and, and_false, false_and, or_self, or_true, true_or, or_false, false_or, if_true, if_false, ↓reduceIte, Bool.false_eq_true, iff_self, iff_true, iff_false, true_iff, false_iff, Nat.add_zero]), zP_ht ht hP⟩, hS.F ht⟩) hS.2.2 dX2_restore_39
        · replace c_4 := zB_f er_3 c_4
          refine lv_bipush (v := (-3)) hx hb dX2_restore_23 (by decide) ?_
          exact W.iret (v := (-3)) hx hb hr (fun t9 ht hW => ⟨⟨_, a, rfl, (by simp (decide := true) only [zq_restore, zwm, c_1, c_2, c_4, not_true_eq_false, not_false_eq_true, and_self, and_true, true_and, and_false, false_and, or_self, or_true, true_or, or_false, false_or, if_true, if_false, ↓reduceIte, Bool.false_eq_true, iff_self, iff_true, iff_false, true_iff, false_iff, Nat.add_zero]), zP_ht ht hP⟩, hS.F ht⟩) hS.2.2 dX2_restore_25
      · refine lv_aload_n hx hb dX2_restore_12 rfl (lv_at hl 0 rfl) ?_
        refine va_get (ci := 2) (C := RX2) (T := TX2) (N := 7) hx hb hts hiX2 hown hK hP 0 rfl rfl 3 (by decide) hf22 (fun _ h9 => h9) rfl dX2_restore_13 ?_
        refine lv_iload_n hx hb dX2_restore_16 rfl (lv_at hl 1 rfl) ?_
        refine zz_pSi (As := [.int (nI ik), .int 1]) (rest := []) ⟨hx, hb, hml, hown, hts⟩ (c_X2_has l ik 1 (by omega) (by decide)) (va_cwS 2 hts gX2_restore_X2_has rfl rfl rfl (by decide +kernel) ⟨Nat.le_of_ble_eq_true rfl, Nat.le_of_ble_eq_true rfl⟩) rfl hl.1 rfl (Nat.le_of_ble_eq_true rfl) ⟨Nat.zero_le _, Nat.zero_le _⟩ dX2_restore_17 (fun r_8 er_8 => ?_)
        refine lv_if_ne (tgt := 26) hx hb dX2_restore_20 (by decide) (fun c_9 => ?_) (fun c_9 => ?_)
        · replace c_9 := zB_t er_8 c_9
          refine lv_aload_n hx hb dX2_restore_26 rfl (lv_at hl 0 rfl) ?_
          refine va_get (ci := 2) (C := RX2) (T := TX2) (N := 7) hx hb hts hiX2 hown hK hP 0 rfl rfl 0 (by decide) hf10 (fun _ h9 => h9) rfl dX2_restore_27 ?_
          refine lv_aload_n hx hb dX2_restore_30 rfl (lv_at hl 0 rfl) ?_
          refine lv_iload_n hx hb dX2_restore_31 rfl (lv_at hl 1 rfl) ?_
          refine zz_cVr (cs := zcX cI q a b0 b1 ik ha t g) (As := [.int 1]) (rest := [.ref (q 1)]) ⟨hx, hb, hml, hown, hts⟩ (c_X2_imageAt l D cI cZ hs ta q a b0 b1 ik ha t g 1) (cwV 1 hts gX2_restore_X2_imageAt rfl rfl rfl (by decide +kernel) ⟨Nat.le_of_ble_eq_true rfl, Nat.le_of_ble_eq_true rfl⟩) (va_recv hK hP (ci := 2) (q0 := 0) rfl rfl) hP hD hG hS hAz rfl hl.1 rfl (Nat.le_of_ble_eq_true rfl) ⟨Nat.zero_le _, Nat.zero_le _⟩ dX2_restore_32 (fun r_10 er_10 => ?_)
          rw [if_neg (by decide)] at er_10
          subst er_10
          refine zz_nVv (ct := fun (u : ZA) => zcF cI (q 1) (q 2) (q 3) u ++ zcF cI (q 7) (q 8) (q 9) b1) (cn := fun (u : ZA) => zcX cI q u b0 b1 ik ha t g) (cs := zcF cI (q 1) (q 2) (q 3) a ++ zcF cI (q 7) (q 8) (q 9) b1) (As := [.ref (q 7)]) (rest := []) ⟨hx, hb, hml, hown, hts⟩ (c_X0_copyFrom l D cI cZ hs ta s.heap.size (q 1) (q 2) (q 3) (q 7) (q 8) (q 9) a b1) (fun _ => rfl) (cwV 1 hts gX2_restore_X0_copyFrom rfl rfl rfl (by decide +kernel) ⟨Nat.le_of_ble_eq_true rfl, Nat.le_of_ble_eq_true rfl⟩) (va_recv hK hP (ci := 0) (q0 := 1) rfl rfl) hP hD [1, 2, 3, 7, 8, 9] [0, 4, 5, 6, 10, 11, 12, 13, 14, 15, 16] [0, 11, 12, 13, 1, 2, 3, 14, 15, 16, 4, 5, 6, 7, 8, 9, 10] (nW := 17) rfl (by decide) (by decide) (by decide) rfl (by decide) (fun _ => rfl) (fun _ => rfl) (fun _ => rfl) hG hS hA hAz rfl hl.1 rfl (Nat.le_of_ble_eq_true rfl) ⟨Nat.zero_le _, Nat.zero_le _⟩ dX2_restore_35 (fun u_12 H locs eu_12 hP hD hS => ?_)
          replace eu_12 := eu_12.symm
          subst eu_12
          have hP : va_P D vwCl (zcX cI q b1 b0 b1 ik ha t g) H := hP
          have hD : va_D A (zcX cI q b1 b0 b1 ik ha t g) := hD
          refine lv_iconst (v := 1) hx hb dX2_restore_38 (by decide) ?_
          exact W.iret (v := 1) hx hb hr (fun t9 ht hW => ⟨⟨_, b1, rfl, (by simp (decide := true) only [zq_restore, zwm, c_1, c_2, c_9, not_true_eq_false, not_false_eq_true, and_self, and_true, true_and, and_false, false_and, or_self, or_true, true_or, or_false, false_or, if_true, if_false, ↓reduceIte, Bool.false_eq_true, iff_self, iff_true, iff_false, true_iff, false_iff, Nat.add_zero]), zP_ht ht hP⟩, hS.F ht⟩) hS.2.2 dX2_restore_39
        · replace c_9 := zB_f er_8 c_9
          refine lv_bipush (v := (-3)) hx hb dX2_restore_23 (by decide) ?_
          exact W.iret (v := (-3)) hx hb hr (fun t9 ht hW => ⟨⟨_, a, rfl, (by simp (decide := true) only [zq_restore, zwm, c_1, c_2, c_9, not_true_eq_false, not_false_eq_true, and_self, and_true, true_and, and_false, false_and, or_self, or_true, true_or, or_false, false_or, if_true, if_false, ↓reduceIte, Bool.false_eq_true, iff_self, iff_true, iff_false, true_iff, false_iff, Nat.add_zero]), zP_ht ht hP⟩, hS.F ht⟩) hS.2.2 dX2_restore_25
    · refine lv_bipush (v := (-2)) hx hb dX2_restore_9 (by decide) ?_
      exact W.iret (v := (-2)) hx hb hr (fun t9 ht hW => ⟨⟨_, a, rfl, (by simp (decide := true) only [zq_restore, zwm, c_1, c_2, not_true_eq_false, not_false_eq_true, and_self, and_true, true_and, and_false, false_and, or_self, or_true, true_or, or_false, false_or, if_true, if_false, ↓reduceIte, Bool.false_eq_true, iff_self, iff_true, iff_false, true_iff, false_iff, Nat.add_zero]), zP_ht ht hP⟩, hS.F ht⟩) hS.2.2 dX2_restore_11
set_option maxHeartbeats 4000000 in
set_option maxRecDepth 100000 in
theorem c_X2_count (l : Launch) (D : va_G) (cI cZ : ClassId) (hs ta : Nat) (q : Nat → Nat) (a : ZA) (b0 : ZA) (b1 : ZA) (ik : Nat) (ha : Nat → Int32) (t : ZR) (g : ZR) (p0 : Int32) (hI : zInv a) : Met l yX2_count wsX2_count ({ frames := 2, cells := 0, slots := 0, locals := 40 }) (va_Pc [.ref (q 0), .int p0] (zPre D (zTy cI cZ) hs ta (zcX cI q a b0 b1 ik ha t g))) (vp_Si (fun r : Int32 => r = zq_count a ik p0)) 0 0 (fun _ => False) := by
  refine Met.ofW (cc := cX2_count) (maxL := 2) (ret := (some .int)) (by decide) rfl ?_
  intro p e s m args below meth c s₁ B hml hv0
  obtain ⟨rfl, hP, hD, hG⟩ := hv0
  have hx := B.exec
  have hb := B.bytes
  have hr := B.returns
  have hts := atoms_spec (ws := wsX2_count) B.pre
  have hown : s.vm.findClass RX2 = some m.cls := findClass_of_methodNamed B.named
  have hlocks := B.notSynchronized
  have hK := hG.1
  have hS : va_S (zA hs) s.heap s.heap [] := va_S.rf
  have hAz : ∀ q, zA hs q → hs ≤ q := fun _ h => h
  have hl := lv_entry ([.ref (q 0), .int p0]) (n := 2) (Nat.le_of_ble_eq_true rfl)
  rw [lg_entry_eq]
  generalize (lg_sl ([.ref (q 0), .int p0]) ++ List.replicate (2 - (lg_sl ([.ref (q 0), .int p0])).length) Slot.unset).toArray = ls at hl ⊢
  have hl : lv_has ls 2 [(0, .ref (q 0)), (1, .int p0)] := hl
  have hf10 := hts (.fieldLink RX2 10 "FrozenBits" "now" "LFrozenBits$Facts;") (List.mem_of_getElem? (i := 1) rfl)
  have hiX2 : ∀ w ∈ u_ws RX2 TX2 7, w ∈ wsX2_count := fun w h => List.mem_cons_of_mem _ (List.mem_append_left _ (List.mem_append_right _ h))
  have hn40 := hG.2.1 (.fieldLinkNest "FrozenBits" 40 "FrozenBits$Facts" "deep" "I" "FrozenBits") (List.mem_of_getElem? (i := 0) rfl)
  have hiX0 : ∀ w ∈ u_ws RX0 TX0 7, w ∈ wsX2_count := fun w h => List.mem_cons_of_mem _ (List.mem_append_right _ h)
  have hn50 := hG.2.1 (.fieldLinkNest "FrozenBits" 50 "FrozenBits$Facts" "top" "I" "FrozenBits") (List.mem_of_getElem? (i := 1) rfl)
  have hn47 := hG.2.1 (.fieldLinkNest "FrozenBits" 47 "FrozenBits$Facts" "of" "I" "FrozenBits") (List.mem_of_getElem? (i := 2) rfl)
  have hn83 := hG.2.1 (.fieldLinkNest "FrozenBits" 83 "FrozenBits$Facts" "frozen" "I" "FrozenBits") (List.mem_of_getElem? (i := 3) rfl)
  have hn131 := hG.2.1 (.fieldLinkNest "FrozenBits" 131 "FrozenBits$Facts" "most" "I" "FrozenBits") (List.mem_of_getElem? (i := 4) rfl)
  have hf22 := hts (.fieldLink RX2 22 "FrozenBits" "imagesKept" "I") (List.mem_of_getElem? (i := 2) rfl)
  refine lv_iload_n hx hb dX2_count_0 rfl (lv_at hl 1 rfl) ?_
  by_cases c_1 : p0 = 0
  · refine lv_tableIn (tgt := 44) (off := 43) hx hb dX2_count_1 (by rw [c_1]; decide) (by rw [c_1]; decide) (by rw [c_1]; rfl) (by decide) ?_
    refine lv_aload_n hx hb dX2_count_44 rfl (lv_at hl 0 rfl) ?_
    refine va_get (ci := 2) (C := RX2) (T := TX2) (N := 7) hx hb hts hiX2 hown hK hP 0 rfl rfl 0 (by decide) hf10 (fun _ h9 => h9) rfl dX2_count_45 ?_
    refine va_getN (ci := 0) (C := RX0) (T := TX0) (N := 7) hx hb hts hiX0 hown hK hP 1 rfl rfl 0 (by decide) (va_Nw.use rfl hn40) (fun _ h9 => h9) rfl dX2_count_48 ?_
    exact W.iret (v := (nI (a.1))) hx hb hr (fun t9 ht hW => ⟨_, rfl, (by simp (decide := true) only [zq_count, zwm, c_1, not_true_eq_false, not_false_eq_true, and_self, and_true, true_and, and_false, false_and, or_self, or_true, true_or, or_false, false_or, if_true, if_false, ↓reduceIte, Bool.false_eq_true, iff_self, iff_true, iff_false, true_iff, false_iff, Nat.add_zero]), ht⟩) (fun _ h => absurd h List.not_mem_nil) dX2_count_51
  by_cases c_2 : p0 = 1
  · refine lv_tableIn (tgt := 52) (off := 51) hx hb dX2_count_1 (by rw [c_2]; decide) (by rw [c_2]; decide) (by rw [c_2]; rfl) (by decide) ?_
    refine lv_aload_n hx hb dX2_count_52 rfl (lv_at hl 0 rfl) ?_
    refine va_get (ci := 2) (C := RX2) (T := TX2) (N := 7) hx hb hts hiX2 hown hK hP 0 rfl rfl 0 (by decide) hf10 (fun _ h9 => h9) rfl dX2_count_53 ?_
    refine va_getN (ci := 0) (C := RX0) (T := TX0) (N := 7) hx hb hts hiX0 hown hK hP 1 rfl rfl 1 (by decide) (va_Nw.use rfl hn50) (fun _ h9 => h9) rfl dX2_count_56 ?_
    exact W.iret (v := (nI (a.2.1))) hx hb hr (fun t9 ht hW => ⟨_, rfl, (by simp (decide := true) only [zq_count, zwm, c_1, c_2, not_true_eq_false, not_false_eq_true, and_self, and_true, true_and, and_false, false_and, or_self, or_true, true_or, or_false, false_or, if_true, if_false, ↓reduceIte, Bool.false_eq_true, iff_self, iff_true, iff_false, true_iff, false_iff, Nat.add_zero]), ht⟩) (fun _ h => absurd h List.not_mem_nil) dX2_count_59
  by_cases c_3 : p0 = 2
  · refine lv_tableIn (tgt := 60) (off := 59) hx hb dX2_count_1 (by rw [c_3]; decide) (by rw [c_3]; decide) (by rw [c_3]; rfl) (by decide) ?_
    refine lv_aload_n hx hb dX2_count_60 rfl (lv_at hl 0 rfl) ?_
    refine va_get (ci := 2) (C := RX2) (T := TX2) (N := 7) hx hb hts hiX2 hown hK hP 0 rfl rfl 0 (by decide) hf10 (fun _ h9 => h9) rfl dX2_count_61 ?_
    refine va_getN (ci := 0) (C := RX0) (T := TX0) (N := 7) hx hb hts hiX0 hown hK hP 1 rfl rfl 2 (by decide) (va_Nw.use rfl hn47) (fun _ h9 => h9) rfl dX2_count_64 ?_
    exact W.iret (v := (nI (a.2.2.1))) hx hb hr (fun t9 ht hW => ⟨_, rfl, (by simp (decide := true) only [zq_count, zwm, c_1, c_2, c_3, not_true_eq_false, not_false_eq_true, and_self, and_true, true_and, and_false, false_and, or_self, or_true, true_or, or_false, false_or, if_true, if_false, ↓reduceIte, Bool.false_eq_true, iff_self, iff_true, iff_false, true_iff, false_iff, Nat.add_zero]), ht⟩) (fun _ h => absurd h List.not_mem_nil) dX2_count_67
  by_cases c_4 : p0 = 3
  · refine lv_tableIn (tgt := 68) (off := 67) hx hb dX2_count_1 (by rw [c_4]; decide) (by rw [c_4]; decide) (by rw [c_4]; rfl) (by decide) ?_
    refine lv_aload_n hx hb dX2_count_68 rfl (lv_at hl 0 rfl) ?_
    refine va_get (ci := 2) (C := RX2) (T := TX2) (N := 7) hx hb hts hiX2 hown hK hP 0 rfl rfl 0 (by decide) hf10 (fun _ h9 => h9) rfl dX2_count_69 ?_
    refine va_getN (ci := 0) (C := RX0) (T := TX0) (N := 7) hx hb hts hiX0 hown hK hP 1 rfl rfl 3 (by decide) (va_Nw.use rfl hn83) (fun _ h9 => h9) rfl dX2_count_72 ?_
    exact W.iret (v := (nI (a.2.2.2.1))) hx hb hr (fun t9 ht hW => ⟨_, rfl, (by simp (decide := true) only [zq_count, zwm, c_1, c_2, c_3, c_4, not_true_eq_false, not_false_eq_true, and_self, and_true, true_and, and_false, false_and, or_self, or_true, true_or, or_false, false_or, if_true, if_false, ↓reduceIte, Bool.false_eq_true, iff_self, iff_true, iff_false, true_iff, false_iff, Nat.add_zero]), ht⟩) (fun _ h => absurd h List.not_mem_nil) dX2_count_75
  by_cases c_5 : p0 = 4
  · refine lv_tableIn (tgt := 76) (off := 75) hx hb dX2_count_1 (by rw [c_5]; decide) (by rw [c_5]; decide) (by rw [c_5]; rfl) (by decide) ?_
    refine lv_aload_n hx hb dX2_count_76 rfl (lv_at hl 0 rfl) ?_
    refine zz_cVi (cs := zcX cI q a b0 b1 ik ha t g) (As := []) (rest := []) ⟨hx, hb, hml, hown, hts⟩ (c_X2_howManyFree l D cI cZ hs ta q a b0 b1 ik ha t g hI) (cwV 0 hts gX2_count_X2_howManyFree rfl rfl rfl (by decide +kernel) ⟨Nat.le_of_ble_eq_true rfl, Nat.le_of_ble_eq_true rfl⟩) (va_recv hK hP (ci := 2) (q0 := 0) rfl rfl) hP hD hG hS hAz rfl hl.1 rfl (Nat.le_of_ble_eq_true rfl) ⟨Nat.zero_le _, Nat.zero_le _⟩ dX2_count_77 (fun r_6 er_6 => ?_)
    subst er_6
    exact W.iret (v := (nI (2 ^ a.1 - zpc a.2.2.2.1))) hx hb hr (fun t9 ht hW => ⟨_, rfl, (by simp (decide := true) only [zq_count, zwm, c_1, c_2, c_3, c_4, c_5, not_true_eq_false, not_false_eq_true, and_self, and_true, true_and, and_false, false_and, or_self, or_true, true_or, or_false, false_or, if_true, if_false, ↓reduceIte, Bool.false_eq_true, iff_self, iff_true, iff_false, true_iff, false_iff, Nat.add_zero]), ht⟩) (fun _ h => absurd h List.not_mem_nil) dX2_count_80
  by_cases c_7 : p0 = 5
  · refine lv_tableIn (tgt := 81) (off := 80) hx hb dX2_count_1 (by rw [c_7]; decide) (by rw [c_7]; decide) (by rw [c_7]; rfl) (by decide) ?_
    refine lv_aload_n hx hb dX2_count_81 rfl (lv_at hl 0 rfl) ?_
    refine va_get (ci := 2) (C := RX2) (T := TX2) (N := 7) hx hb hts hiX2 hown hK hP 0 rfl rfl 0 (by decide) hf10 (fun _ h9 => h9) rfl dX2_count_82 ?_
    refine va_getN (ci := 0) (C := RX0) (T := TX0) (N := 7) hx hb hts hiX0 hown hK hP 1 rfl rfl 4 (by decide) (va_Nw.use rfl hn131) (fun _ h9 => h9) rfl dX2_count_85 ?_
    exact W.iret (v := (nI (a.2.2.2.2.1))) hx hb hr (fun t9 ht hW => ⟨_, rfl, (by simp (decide := true) only [zq_count, zwm, c_1, c_2, c_3, c_4, c_5, c_7, not_true_eq_false, not_false_eq_true, and_self, and_true, true_and, and_false, false_and, or_self, or_true, true_or, or_false, false_or, if_true, if_false, ↓reduceIte, Bool.false_eq_true, iff_self, iff_true, iff_false, true_iff, false_iff, Nat.add_zero]), ht⟩) (fun _ h => absurd h List.not_mem_nil) dX2_count_88
  by_cases c_8 : p0 = 6
  · refine lv_tableIn (tgt := 89) (off := 88) hx hb dX2_count_1 (by rw [c_8]; decide) (by rw [c_8]; decide) (by rw [c_8]; rfl) (by decide) ?_
    refine lv_aload_n hx hb dX2_count_89 rfl (lv_at hl 0 rfl) ?_
    refine va_get (ci := 2) (C := RX2) (T := TX2) (N := 7) hx hb hts hiX2 hown hK hP 0 rfl rfl 3 (by decide) hf22 (fun _ h9 => h9) rfl dX2_count_90 ?_
    exact W.iret (v := (nI ik)) hx hb hr (fun t9 ht hW => ⟨_, rfl, (by simp (decide := true) only [zq_count, zwm, c_1, c_2, c_3, c_4, c_5, c_7, c_8, not_true_eq_false, not_false_eq_true, and_self, and_true, true_and, and_false, false_and, or_self, or_true, true_or, or_false, false_or, if_true, if_false, ↓reduceIte, Bool.false_eq_true, iff_self, iff_true, iff_false, true_iff, false_iff, Nat.add_zero]), ht⟩) (fun _ h => absurd h List.not_mem_nil) dX2_count_93
  refine lv_tableOut (tgt := 94) hx hb dX2_count_1 (by have q0 : (p0).toInt ≠ 0 := zsw 0 c_1; have q1 : (p0).toInt ≠ 1 := zsw 1 c_2; have q2 : (p0).toInt ≠ 2 := zsw 2 c_3; have q3 : (p0).toInt ≠ 3 := zsw 3 c_4; have q4 : (p0).toInt ≠ 4 := zsw 4 c_5; have q5 : (p0).toInt ≠ 5 := zsw 5 c_7; have q6 : (p0).toInt ≠ 6 := zsw 6 c_8; omega) (by decide) ?_
  refine lv_aload_n hx hb dX2_count_94 rfl (lv_at hl 0 rfl) ?_
  refine lv_iload_n hx hb dX2_count_95 rfl (lv_at hl 1 rfl) ?_
  refine zz_cVi (cs := zcX cI q a b0 b1 ik ha t g) (As := [.int p0]) (rest := []) ⟨hx, hb, hml, hown, hts⟩ (c_X2_checkCounted l D cI cZ hs ta q a b0 b1 ik ha t g p0 hI) (cwV 1 hts gX2_count_X2_checkCounted rfl rfl rfl (by decide +kernel) ⟨Nat.le_of_ble_eq_true rfl, Nat.le_of_ble_eq_true rfl⟩) (va_recv hK hP (ci := 2) (q0 := 0) rfl rfl) hP hD hG hS hAz rfl hl.1 rfl (Nat.le_of_ble_eq_true rfl) ⟨Nat.zero_le _, Nat.zero_le _⟩ dX2_count_96 (fun r_9 er_9 => ?_)
  subst er_9
  exact W.iret (v := (zcc a p0)) hx hb hr (fun t9 ht hW => ⟨_, rfl, (by simp (decide := true) only [zq_count, zwm, c_1, c_2, c_3, c_4, c_5, c_7, c_8, not_true_eq_false, not_false_eq_true, and_self, and_true, true_and, and_false, false_and, or_self, or_true, true_or, or_false, false_or, if_true, if_false, ↓reduceIte, Bool.false_eq_true, iff_self, iff_true, iff_false, true_iff, false_iff, Nat.add_zero]), ht⟩) (fun _ h => absurd h List.not_mem_nil) dX2_count_99
