set_option maxHeartbeats 4000000 in
set_option maxRecDepth 100000 in
theorem c_X3_put (l : Launch) (D : va_G) (cI cZ : ClassId) (hs ta : Nat) (sz : Nat) (q : Nat → Nat) (a : ZA) (im : Nat → Int32) (kp : Nat → Int32) (lf : Nat → Int32) (rw : Nat → Int32) (fn : Nat → Int32) (kn : Nat) (p0 : Int32) (p1 : Int32) (hI : zInv a) : Met l yX3_put wsX3_put ({ frames := 2, cells := 0, slots := 0, locals := 43 }) (va_Pc [.ref (q 0), .int p0, .int p1] (fun U => U.heap.size = sz ∧ zPre D (zTy cI cZ) hs ta (zcM cI cZ q (zst a) im kp lf rw fn kn) U)) (va_Qi (fun (r : Int32) (u : ZA) => (r, u) = zq_put a p0 p1) (fun (u : ZA) t9 => va_P D vwCl (zcM cI cZ q (zst u) im kp lf rw fn kn) t9.heap) (va_A (zcM cI cZ q (zst a) im kp lf rw fn kn) sz)) 0 0 (va_A (zcM cI cZ q (zst a) im kp lf rw fn kn) sz) := by
  refine Met.ofW (cc := cX3_put) (maxL := 4) (ret := (some .int)) (by decide) rfl ?_
  intro p e s m args below meth c s₁ B hml hv0
  obtain ⟨rfl, hsz, hP, hD0, hG⟩ := hv0
  have hx := B.exec
  have hb := B.bytes
  have hr := B.returns
  have hts := atoms_spec (ws := wsX3_put) B.pre
  have hown : s.vm.findClass RX3 = some m.cls := findClass_of_methodNamed B.named
  have hlocks := B.notSynchronized
  subst hsz
  have hD := hD0.self (sz := s.heap.size)
  have hAz0 : ∀ y9, va_A (zcM cI cZ q (zst a) im kp lf rw fn kn) s.heap.size y9 → hs ≤ y9 := zA_of hD0 (fun y9 h => Nat.le_trans hG.2.2.2.2 h) (va_S.rf (A := zA hs) (H0 := s.heap))
  generalize hAe : va_A (zcM cI cZ q (zst a) im kp lf rw fn kn) s.heap.size = A at hD hAz0 ⊢
  have hA : ∀ y9 : Nat, s.heap.size ≤ y9 → A y9 := fun y9 h => by rw [← hAe]; exact Or.inr h
  have hS : va_S A s.heap s.heap [] := va_S.rf
  have hAz : ∀ y9, A y9 → hs ≤ y9 := hAz0
  have hK := hG.1
  have hl := lv_entry ([.ref (q 0), .int p0, .int p1]) (n := 4) (Nat.le_of_ble_eq_true rfl)
  rw [lg_entry_eq]
  generalize (lg_sl ([.ref (q 0), .int p0, .int p1]) ++ List.replicate (4 - (lg_sl ([.ref (q 0), .int p0, .int p1])).length) Slot.unset).toArray = ls at hl ⊢
  have hl : lv_has ls 4 [(0, .ref (q 0)), (1, .int p0), (2, .int p1)] := hl
  have hf7 := hts (.fieldLink RX3 7 "FrozenBitsModel" "state" "[I") (List.mem_of_getElem? (i := 3) rfl)
  have hiX3 : ∀ w ∈ u_ws RX3 TX3 7, w ∈ wsX3_put := fun w h => List.mem_cons_of_mem _ (List.mem_append_right _ h)
  have hc86 := hts (.constant RX3 86 (-1000002)) (List.mem_of_getElem? (i := 2) rfl)
  have hc85 := hts (.constant RX3 85 (-1000001)) (List.mem_of_getElem? (i := 1) rfl)
  refine lv_aload_n hx hb dX3_put_0 rfl (lv_at hl 0 rfl) ?_
  refine lv_iload_n hx hb dX3_put_1 rfl (lv_at hl 1 rfl) ?_
  refine zz_cVi (cs := zcM cI cZ q (zst a) im kp lf rw fn kn) (As := [.int p0]) (rest := []) ⟨hx, hb, hml, hown, hts⟩ (c_X3_isPlace l D cI cZ hs ta q a im kp lf rw fn kn p0 hI) (cwV 1 hts gX3_put_X3_isPlace rfl rfl rfl (by decide +kernel) ⟨Nat.le_of_ble_eq_true rfl, Nat.le_of_ble_eq_true rfl⟩) (va_recv hK hP (ci := 3) (q0 := 0) rfl rfl) hP hD hG hS hAz rfl hl.1 rfl (Nat.le_of_ble_eq_true rfl) ⟨Nat.zero_le _, Nat.zero_le _⟩ dX3_put_2 (fun r_1 er_1 => ?_)
  refine lv_if_ne (tgt := 11) hx hb dX3_put_5 (by decide) (fun c_2 => ?_) (fun c_2 => ?_)
  · replace c_2 := zB_t er_1 c_2
    refine lv_iload_n hx hb dX3_put_11 rfl (lv_at hl 2 rfl) ?_
    refine lv_bipush (v := (-99)) hx hb dX3_put_12 (by decide) ?_
    refine lv_bipush (v := 99) hx hb dX3_put_14 (by decide) ?_
    refine zz_pSi (As := [.int p1, .int (-99), .int 99]) (rest := []) ⟨hx, hb, hml, hown, hts⟩ (c_X3_in l p1 (-99) 99) (va_cwS 3 hts gX3_put_X3_in rfl rfl rfl (by decide +kernel) ⟨Nat.le_of_ble_eq_true rfl, Nat.le_of_ble_eq_true rfl⟩) rfl hl.1 rfl (Nat.le_of_ble_eq_true rfl) ⟨Nat.zero_le _, Nat.zero_le _⟩ dX3_put_16 (fun r_3 er_3 => ?_)
    refine lv_if_ne (tgt := 25) hx hb dX3_put_19 (by decide) (fun c_4 => ?_) (fun c_4 => ?_)
    · replace c_4 := zB_t er_3 c_4
      obtain ⟨k0, hk0, rfl⟩ := zr0 c_2 (by have := zNp hI; omega)
      refine lv_aload_n hx hb dX3_put_25 rfl (lv_at hl 0 rfl) ?_
      refine va_get (ci := 3) (C := RX3) (T := TX3) (N := 7) hx hb hts hiX3 hown hK hP 0 rfl rfl 0 (by decide) hf7 (fun _ h9 => h9) rfl dX3_put_26 ?_
      refine lv_bipush (v := 8) hx hb dX3_put_29 (by decide) ?_
      refine lv_iload_n hx hb dX3_put_31 rfl (lv_at hl 1 rfl) ?_
      refine lv_iadd hx hb dX3_put_32 ?_
      refine zz_topi (nI (8 + k0)) (zz_addn (show (8 : Int32) = nI 8 from rfl) rfl) ?_
      refine zz_iald hx hb hK hP 1 0 rfl rfl (i := 8 + k0) rfl (by have := zNp hI; omega) (by decide) dX3_put_33 ?_
      refine zz_topi (a.2.2.2.2.2.1 k0) (zst_me _ _) ?_
      refine zz_topi (a.2.2.2.2.2.1 k0) (rfl) ?_
      refine lv_istore_n (lv' := [(3, .int (a.2.2.2.2.2.1 k0)), (0, .ref (q 0)), (1, .int (nI k0)), (2, .int p1)]) hx hb dX3_put_34 rfl hl (by decide) rfl (fun ls hl => ?_)
      refine lv_aload_n hx hb dX3_put_35 rfl (lv_at hl 1 rfl) ?_
      refine va_get (ci := 3) (C := RX3) (T := TX3) (N := 7) hx hb hts hiX3 hown hK hP 0 rfl rfl 0 (by decide) hf7 (fun _ h9 => h9) rfl dX3_put_36 ?_
      refine lv_bipush (v := 8) hx hb dX3_put_39 (by decide) ?_
      refine lv_iload_n hx hb dX3_put_41 rfl (lv_at hl 2 rfl) ?_
      refine lv_iadd hx hb dX3_put_42 ?_
      refine zz_topi (nI (8 + k0)) (zz_addn (show (8 : Int32) = nI 8 from rfl) rfl) ?_
      refine lv_iload_n hx hb dX3_put_43 rfl (lv_at hl 3 rfl) ?_
      refine zz_iast hx hb hK hP hD hS 1 0 rfl rfl (i := 8 + k0) rfl (by have := zNp hI; omega) (by decide) dX3_put_44 (fun H locs hP hD hS => ?_)
      have hP : va_P D vwCl (zcM cI cZ q (upd (zst a) (8 + k0) p1) im kp lf rw fn kn) H := hP
      have hD : va_D A (zcM cI cZ q (upd (zst a) (8 + k0) p1) im kp lf rw fn kn) := hD
      rw [zst_u8] at hP hD
      have hP : va_P D vwCl (zcM cI cZ q (zst (a.1, a.2.1, a.2.2.1, a.2.2.2.1, a.2.2.2.2.1, upd a.2.2.2.2.2.1 k0 p1, a.2.2.2.2.2.2)) im kp lf rw fn kn) H := hP
      have hD : va_D A (zcM cI cZ q (zst (a.1, a.2.1, a.2.2.1, a.2.2.2.1, a.2.2.2.2.1, upd a.2.2.2.2.2.1 k0 p1, a.2.2.2.2.2.2)) im kp lf rw fn kn) := hD
      refine lv_iload_n hx hb dX3_put_45 rfl (lv_at hl 0 rfl) ?_
      exact W.iret (v := (a.2.2.2.2.2.1 k0)) hx hb hr (fun t9 ht hW => ⟨⟨_, (a.1, a.2.1, a.2.2.1, a.2.2.2.1, a.2.2.2.2.1, upd a.2.2.2.2.2.1 k0 p1, a.2.2.2.2.2.2), rfl, (by simp (decide := true) only [zq_put, zwm, c_2, c_4, not_true_eq_false, not_false_eq_true, and_self, and_true, true_and, and_false, false_and, or_self, or_true, true_or, or_false, false_or, if_true, if_false, ↓reduceIte, Bool.false_eq_true, iff_self, iff_true, iff_false, true_iff, false_iff, Nat.add_zero, Nat.or_zero]; rw [zN_nI (by have := zNp hI; omega)]), zP_ht ht hP⟩, hS.F ht⟩) hS.2.2 dX3_put_46
    · replace c_4 := Classical.not_not.mp (zB_f er_3 c_4)
      refine lv_ldc hx hb hown hc86 dX3_put_22 ?_
      exact W.iret (v := (-1000002)) hx hb hr (fun t9 ht hW => ⟨⟨_, a, rfl, (by simp (decide := true) only [zq_put, zwm, c_2, c_4, not_true_eq_false, not_false_eq_true, and_self, and_true, true_and, and_false, false_and, or_self, or_true, true_or, or_false, false_or, if_true, if_false, ↓reduceIte, Bool.false_eq_true, iff_self, iff_true, iff_false, true_iff, false_iff, Nat.add_zero, Nat.or_zero]), zP_ht ht hP⟩, hS.F ht⟩) hS.2.2 dX3_put_24
  · replace c_2 := zB_f er_1 c_2
    refine lv_ldc hx hb hown hc85 dX3_put_8 ?_
    exact W.iret (v := (-1000001)) hx hb hr (fun t9 ht hW => ⟨⟨_, a, rfl, (by simp (decide := true) only [zq_put, zwm, c_2, not_true_eq_false, not_false_eq_true, and_self, and_true, true_and, and_false, false_and, or_self, or_true, true_or, or_false, false_or, if_true, if_false, ↓reduceIte, Bool.false_eq_true, iff_self, iff_true, iff_false, true_iff, false_iff, Nat.add_zero, Nat.or_zero]), zP_ht ht hP⟩, hS.F ht⟩) hS.2.2 dX3_put_10
set_option maxHeartbeats 4000000 in
set_option maxRecDepth 100000 in
theorem c_X3_hear (l : Launch) (D : va_G) (cI cZ : ClassId) (hs ta : Nat) (sz : Nat) (q : Nat → Nat) (a : ZA) (im : Nat → Int32) (kp : Nat → Int32) (lf : Nat → Int32) (rw : Nat → Int32) (fn : Nat → Int32) (kn : Nat) (p0 : Int32) (p1 : Int32) (hI : zInv a) : Met l yX3_hear wsX3_hear ({ frames := 2, cells := 0, slots := 0, locals := 48 }) (va_Pc [.ref (q 0), .int p0, .int p1] (fun U => U.heap.size = sz ∧ zPre D (zTy cI cZ) hs ta (zcM cI cZ q (zst a) im kp lf rw fn kn) U)) (va_Qi (fun (r : Int32) (u : ZA) => (r, u) = zq_hear a p0 p1) (fun (u : ZA) t9 => va_P D vwCl (zcM cI cZ q (zst u) im kp lf rw fn kn) t9.heap) (va_A (zcM cI cZ q (zst a) im kp lf rw fn kn) sz)) 0 0 (va_A (zcM cI cZ q (zst a) im kp lf rw fn kn) sz) := by
  refine Met.ofW (cc := cX3_hear) (maxL := 5) (ret := (some .int)) (by decide) rfl ?_
  intro p e s m args below meth c s₁ B hml hv0
  obtain ⟨rfl, hsz, hP, hD0, hG⟩ := hv0
  have hx := B.exec
  have hb := B.bytes
  have hr := B.returns
  have hts := atoms_spec (ws := wsX3_hear) B.pre
  have hown : s.vm.findClass RX3 = some m.cls := findClass_of_methodNamed B.named
  have hlocks := B.notSynchronized
  subst hsz
  have hD := hD0.self (sz := s.heap.size)
  have hAz0 : ∀ y9, va_A (zcM cI cZ q (zst a) im kp lf rw fn kn) s.heap.size y9 → hs ≤ y9 := zA_of hD0 (fun y9 h => Nat.le_trans hG.2.2.2.2 h) (va_S.rf (A := zA hs) (H0 := s.heap))
  generalize hAe : va_A (zcM cI cZ q (zst a) im kp lf rw fn kn) s.heap.size = A at hD hAz0 ⊢
  have hA : ∀ y9 : Nat, s.heap.size ≤ y9 → A y9 := fun y9 h => by rw [← hAe]; exact Or.inr h
  have hS : va_S A s.heap s.heap [] := va_S.rf
  have hAz : ∀ y9, A y9 → hs ≤ y9 := hAz0
  have hK := hG.1
  have hl := lv_entry ([.ref (q 0), .int p0, .int p1]) (n := 5) (Nat.le_of_ble_eq_true rfl)
  rw [lg_entry_eq]
  generalize (lg_sl ([.ref (q 0), .int p0, .int p1]) ++ List.replicate (5 - (lg_sl ([.ref (q 0), .int p0, .int p1])).length) Slot.unset).toArray = ls at hl ⊢
  have hl : lv_has ls 5 [(0, .ref (q 0)), (1, .int p0), (2, .int p1)] := hl
  have hf7 := hts (.fieldLink RX3 7 "FrozenBitsModel" "state" "[I") (List.mem_of_getElem? (i := 1) rfl)
  have hiX3 : ∀ w ∈ u_ws RX3 TX3 7, w ∈ wsX3_hear := fun w h => List.mem_cons_of_mem _ (List.mem_append_right _ h)
  refine lv_aload_n hx hb dX3_hear_0 rfl (lv_at hl 0 rfl) ?_
  refine lv_iload_n hx hb dX3_hear_1 rfl (lv_at hl 1 rfl) ?_
  refine zz_cVi (cs := zcM cI cZ q (zst a) im kp lf rw fn kn) (As := [.int p0]) (rest := []) ⟨hx, hb, hml, hown, hts⟩ (c_X3_isRow l D cI cZ hs ta q a im kp lf rw fn kn p0 hI) (cwV 1 hts gX3_hear_X3_isRow rfl rfl rfl (by decide +kernel) ⟨Nat.le_of_ble_eq_true rfl, Nat.le_of_ble_eq_true rfl⟩) (va_recv hK hP (ci := 3) (q0 := 0) rfl rfl) hP hD hG hS hAz rfl hl.1 rfl (Nat.le_of_ble_eq_true rfl) ⟨Nat.zero_le _, Nat.zero_le _⟩ dX3_hear_2 (fun r_1 er_1 => ?_)
  refine lv_if_eq (tgt := 18) hx hb dX3_hear_5 (by decide) (fun c_2 => ?_) (fun c_2 => ?_)
  · replace c_2 := zB_f er_1 c_2
    refine lv_bipush (v := (-2)) hx hb dX3_hear_18 (by decide) ?_
    exact W.iret (v := (-2)) hx hb hr (fun t9 ht hW => ⟨⟨_, a, rfl, (by simp (decide := true) only [zq_hear, zwm, c_2, not_true_eq_false, not_false_eq_true, and_self, and_true, true_and, and_false, false_and, or_self, or_true, true_or, or_false, false_or, if_true, if_false, ↓reduceIte, Bool.false_eq_true, iff_self, iff_true, iff_false, true_iff, false_iff, Nat.add_zero, Nat.or_zero]), zP_ht ht hP⟩, hS.F ht⟩) hS.2.2 dX3_hear_20
  · replace c_2 := zB_t er_1 c_2
    refine lv_iload_n hx hb dX3_hear_8 rfl (lv_at hl 2 rfl) ?_
    refine lv_iconst (v := 1) hx hb dX3_hear_9 (by decide) ?_
    refine lv_bipush (v := 99) hx hb dX3_hear_10 (by decide) ?_
    refine zz_pSi (As := [.int p1, .int 1, .int 99]) (rest := []) ⟨hx, hb, hml, hown, hts⟩ (c_X3_in l p1 1 99) (va_cwS 3 hts gX3_hear_X3_in rfl rfl rfl (by decide +kernel) ⟨Nat.le_of_ble_eq_true rfl, Nat.le_of_ble_eq_true rfl⟩) rfl hl.1 rfl (Nat.le_of_ble_eq_true rfl) ⟨Nat.zero_le _, Nat.zero_le _⟩ dX3_hear_12 (fun r_3 er_3 => ?_)
    refine lv_if_ne (tgt := 21) hx hb dX3_hear_15 (by decide) (fun c_4 => ?_) (fun c_4 => ?_)
    · replace c_4 := zB_t er_3 c_4
      obtain ⟨k0, hk0, rfl⟩ := zr0 c_2 (by have := zNN hI; omega)
      refine lv_aload_n hx hb dX3_hear_21 rfl (lv_at hl 0 rfl) ?_
      refine lv_iload_n hx hb dX3_hear_22 rfl (lv_at hl 1 rfl) ?_
      refine zz_cVi (cs := zcM cI cZ q (zst a) im kp lf rw fn kn) (As := [.int (nI k0)]) (rest := []) ⟨hx, hb, hml, hown, hts⟩ (c_X3_codedAll l D cI cZ hs ta q a im kp lf rw fn kn k0 hI hk0) (cwV 1 hts gX3_hear_X3_codedAll rfl rfl rfl (by decide +kernel) ⟨Nat.le_of_ble_eq_true rfl, Nat.le_of_ble_eq_true rfl⟩) (va_recv hK hP (ci := 3) (q0 := 0) rfl rfl) hP hD hG hS hAz rfl hl.1 rfl (Nat.le_of_ble_eq_true rfl) ⟨Nat.zero_le _, Nat.zero_le _⟩ dX3_hear_23 (fun r_5 er_5 => ?_)
      subst er_5
      refine lv_istore_n (lv' := [(3, .int (nI (zcod k0))), (0, .ref (q 0)), (1, .int (nI k0)), (2, .int p1)]) hx hb dX3_hear_26 rfl hl (by decide) rfl (fun ls hl => ?_)
      refine lv_iconst (v := 0) hx hb dX3_hear_27 (by decide) ?_
      refine lv_istore (lv' := [(4, .int 0), (3, .int (nI (zcod k0))), (0, .ref (q 0)), (1, .int (nI k0)), (2, .int p1)]) hx hb dX3_hear_28 hl (by decide) rfl (fun ls hl => ?_)
      have hl : lv_has ls 5 [(4, .int (nI 0)), (3, .int (nI (zcod k0))), (0, .ref (q 0)), (1, .int (nI k0)), (2, .int p1)] := hl
      refine zz_forHJ (P := fun H locs g => W p l e _ s m _ below meth c H locs _ _ _ g) (nL := 5) (2 ^ a.1) (fun i => [(4, .int (nI i)), (3, .int (nI (zcod k0))), (0, .ref (q 0)), (1, .int (nI k0)), (2, .int p1)]) (fun i H locs => va_P D vwCl (zcM cI cZ q (zst (a.1, a.2.1, a.2.2.1, a.2.2.2.1, a.2.2.2.2.1, zhe (zcod k0) p1 a.2.2.2.2.2.1 i, a.2.2.2.2.2.2)) im kp lf rw fn kn) H ∧ va_D A (zcM cI cZ q (zst (a.1, a.2.1, a.2.2.1, a.2.2.2.1, a.2.2.2.2.1, zhe (zcod k0) p1 a.2.2.2.2.2.1 i, a.2.2.2.2.2.2)) im kp lf rw fn kn) ∧ va_S A s.heap H locs) (J := fun _ => True) ?_ ?_ (⟨by rw [zhe_0]; exact hP, by rw [zhe_0]; exact hD, hS⟩) (trivial) ((lv_sub hl [0, 1, 2, 3, 4] rfl))
      · intro H locs ls hJ hI0 hl
        obtain ⟨hP, hD, hS⟩ := hI0
        refine lv_iload hx hb dX3_hear_30 (lv_at hl 0 rfl) ?_
        refine lv_aload_n hx hb dX3_hear_32 rfl (lv_at hl 2 rfl) ?_
        refine zz_cVi (cs := zcM cI cZ q (zst (a.1, a.2.1, a.2.2.1, a.2.2.2.1, a.2.2.2.2.1, zhe (zcod k0) p1 a.2.2.2.2.2.1 (2 ^ a.1), a.2.2.2.2.2.2)) im kp lf rw fn kn) (As := []) (rest := [.int (nI ((2 ^ a.1)))]) ⟨hx, hb, hml, hown, hts⟩ (c_X3_places l D cI cZ hs ta q (a.1, a.2.1, a.2.2.1, a.2.2.2.1, a.2.2.2.2.1, zhe (zcod k0) p1 a.2.2.2.2.2.1 (2 ^ a.1), a.2.2.2.2.2.2) im kp lf rw fn kn hI.1.2) (cwV 0 hts gX3_hear_X3_places rfl rfl rfl (by decide +kernel) ⟨Nat.le_of_ble_eq_true rfl, Nat.le_of_ble_eq_true rfl⟩) (va_recv hK hP (ci := 3) (q0 := 0) rfl rfl) hP hD hG hS hAz rfl hl.1 rfl (Nat.le_of_ble_eq_true rfl) ⟨Nat.zero_le _, Nat.zero_le _⟩ dX3_hear_33 (fun r_6 er_6 => ?_)
        subst er_6
        refine lv_icmp_ge (tgt := 70) hx hb dX3_hear_36 (by decide) (fun c_7 => ?_) (fun c_7 => ?_)
        · replace c_7 := Int32.not_lt.mpr c_7
          refine lv_iload_n hx hb dX3_hear_70 rfl (lv_at hl 1 rfl) ?_
          exact W.iret (v := (nI (zcod k0))) hx hb hr (fun t9 ht hW => ⟨⟨_, (a.1, a.2.1, a.2.2.1, a.2.2.2.1, a.2.2.2.2.1, zhe (zcod k0) p1 a.2.2.2.2.2.1 (2 ^ a.1), a.2.2.2.2.2.2), rfl, (by simp (decide := true) only [zq_hear, zwm, c_2, c_4, c_7, not_true_eq_false, not_false_eq_true, and_self, and_true, true_and, and_false, false_and, or_self, or_true, true_or, or_false, false_or, if_true, if_false, ↓reduceIte, Bool.false_eq_true, iff_self, iff_true, iff_false, true_iff, false_iff, Nat.add_zero, Nat.or_zero]; rw [zN_nI (by have := zNN hI; omega)]), zP_ht ht hP⟩, hS.F ht⟩) hS.2.2 dX3_hear_71
        · replace c_7 := Int32.not_le.mp c_7
          exact absurd c_7 (nI_nlt (Nat.le_refl _) (by have := zNp hI; omega))
      · intro i hi hJ ihi H locs ls hI0 hl
        obtain ⟨hP, hD, hS⟩ := hI0
        refine lv_iload hx hb dX3_hear_30 (lv_at hl 0 rfl) ?_
        refine lv_aload_n hx hb dX3_hear_32 rfl (lv_at hl 2 rfl) ?_
        refine zz_cVi (cs := zcM cI cZ q (zst (a.1, a.2.1, a.2.2.1, a.2.2.2.1, a.2.2.2.2.1, zhe (zcod k0) p1 a.2.2.2.2.2.1 i, a.2.2.2.2.2.2)) im kp lf rw fn kn) (As := []) (rest := [.int (nI i)]) ⟨hx, hb, hml, hown, hts⟩ (c_X3_places l D cI cZ hs ta q (a.1, a.2.1, a.2.2.1, a.2.2.2.1, a.2.2.2.2.1, zhe (zcod k0) p1 a.2.2.2.2.2.1 i, a.2.2.2.2.2.2) im kp lf rw fn kn hI.1.2) (cwV 0 hts gX3_hear_X3_places rfl rfl rfl (by decide +kernel) ⟨Nat.le_of_ble_eq_true rfl, Nat.le_of_ble_eq_true rfl⟩) (va_recv hK hP (ci := 3) (q0 := 0) rfl rfl) hP hD hG hS hAz rfl hl.1 rfl (Nat.le_of_ble_eq_true rfl) ⟨Nat.zero_le _, Nat.zero_le _⟩ dX3_hear_33 (fun r_8 er_8 => ?_)
        subst er_8
        refine lv_icmp_ge (tgt := 70) hx hb dX3_hear_36 (by decide) (fun c_9 => ?_) (fun c_9 => ?_)
        · replace c_9 := Int32.not_lt.mpr c_9
          exact absurd (nI_lt hi (by have := zNp hI; omega)) c_9
        · replace c_9 := Int32.not_le.mp c_9
          refine lv_aload_n hx hb dX3_hear_39 rfl (lv_at hl 2 rfl) ?_
          refine va_get (ci := 3) (C := RX3) (T := TX3) (N := 7) hx hb hts hiX3 hown hK hP 0 rfl rfl 0 (by decide) hf7 (fun _ h9 => h9) rfl dX3_hear_40 ?_
          refine lv_bipush (v := 8) hx hb dX3_hear_43 (by decide) ?_
          refine lv_iload hx hb dX3_hear_45 (lv_at hl 0 rfl) ?_
          refine lv_iadd hx hb dX3_hear_47 ?_
          refine zz_topi (nI (8 + i)) (zz_addn (show (8 : Int32) = nI 8 from rfl) rfl) ?_
          refine lv_iload_n hx hb dX3_hear_48 rfl (lv_at hl 1 rfl) ?_
          refine lv_iload hx hb dX3_hear_49 (lv_at hl 0 rfl) ?_
          refine lv_ishr hx hb dX3_hear_51 ?_
          refine zz_topi (nI ((zcod k0) >>> i)) (zz_shrn rfl rfl (by have := zcod_lt (show k0 < 65536 from by have := zNN hI; omega); omega) (by have := zNp hI; omega)) ?_
          refine lv_iconst (v := 1) hx hb dX3_hear_52 (by decide) ?_
          refine lv_iand hx hb dX3_hear_53 ?_
          refine zz_topi (nI (((zcod k0) >>> i) &&& 1)) (zz_andn rfl (show (1 : Int32) = nI 1 from rfl)) ?_
          refine lv_if_ne (tgt := 61) hx hb dX3_hear_54 (by decide) (fun c_10 => ?_) (fun c_10 => ?_)
          · replace c_10 := Classical.not_not.mp (fun q => zI_n0 c_10 (zbit_0.mpr q))
            refine lv_iload_n hx hb dX3_hear_61 rfl (lv_at hl 4 rfl) ?_
            refine lv_ineg hx hb dX3_hear_62 ?_
            refine zz_iast hx hb hK hP hD hS 1 0 rfl rfl (i := 8 + i) rfl (by have := zNp hI; omega) (by decide) dX3_hear_63 (fun H locs hP hD hS => ?_)
            have hP : va_P D vwCl (zcM cI cZ q (upd (zst (a.1, a.2.1, a.2.2.1, a.2.2.2.1, a.2.2.2.2.1, zhe (zcod k0) p1 a.2.2.2.2.2.1 i, a.2.2.2.2.2.2)) (8 + i) (-p1)) im kp lf rw fn kn) H := hP
            have hD : va_D A (zcM cI cZ q (upd (zst (a.1, a.2.1, a.2.2.1, a.2.2.2.1, a.2.2.2.2.1, zhe (zcod k0) p1 a.2.2.2.2.2.1 i, a.2.2.2.2.2.2)) (8 + i) (-p1)) im kp lf rw fn kn) := hD
            rw [zst_w8, zhe_s (v := (-p1)) (by simp only [c_10, not_true_eq_false, not_false_eq_true, and_self, and_true, true_and, and_false, false_and, or_self, or_true, true_or, or_false, false_or, if_true, if_false, ↓reduceIte, Bool.false_eq_true, iff_self, iff_true, iff_false, true_iff, false_iff, Nat.add_zero, Nat.or_zero])] at hP hD
            have hP : va_P D vwCl (zcM cI cZ q (zst (a.1, a.2.1, a.2.2.1, a.2.2.2.1, a.2.2.2.2.1, zhe (zcod k0) p1 a.2.2.2.2.2.1 (i + 1), a.2.2.2.2.2.2)) im kp lf rw fn kn) H := hP
            have hD : va_D A (zcM cI cZ q (zst (a.1, a.2.1, a.2.2.1, a.2.2.2.1, a.2.2.2.2.1, zhe (zcod k0) p1 a.2.2.2.2.2.1 (i + 1), a.2.2.2.2.2.2)) im kp lf rw fn kn) := hD
            refine lv_iinc (v := (nI (i + 1))) (lv' := [(4, .int (nI (i + 1))), (3, .int (nI (zcod k0))), (0, .ref (q 0)), (1, .int (nI k0)), (2, .int p1)]) hx hb dX3_hear_64 hl (k := 0) rfl (zz_inc _) (by decide) rfl (fun ls hl => ?_)
            refine lv_goto (tgt := 30) hx hb dX3_hear_67 (by decide) ?_
            have hl : lv_has ls 5 [(4, .int (nI ((i + 1)))), (3, .int (nI (zcod k0))), (0, .ref (q 0)), (1, .int (nI k0)), (2, .int p1)] := hl
            exact ihi (trivial) _ _ ls (⟨hP, hD, hS⟩) (lv_sub hl [0, 1, 2, 3, 4] rfl)
          · replace c_10 := zbit_0.mp (zI_0 (zand1 _) c_10)
            refine lv_iload_n hx hb dX3_hear_57 rfl (lv_at hl 4 rfl) ?_
            refine lv_goto (tgt := 63) hx hb dX3_hear_58 (by decide) ?_
            refine zz_iast hx hb hK hP hD hS 1 0 rfl rfl (i := 8 + i) rfl (by have := zNp hI; omega) (by decide) dX3_hear_63 (fun H locs hP hD hS => ?_)
            have hP : va_P D vwCl (zcM cI cZ q (upd (zst (a.1, a.2.1, a.2.2.1, a.2.2.2.1, a.2.2.2.2.1, zhe (zcod k0) p1 a.2.2.2.2.2.1 i, a.2.2.2.2.2.2)) (8 + i) p1) im kp lf rw fn kn) H := hP
            have hD : va_D A (zcM cI cZ q (upd (zst (a.1, a.2.1, a.2.2.1, a.2.2.2.1, a.2.2.2.2.1, zhe (zcod k0) p1 a.2.2.2.2.2.1 i, a.2.2.2.2.2.2)) (8 + i) p1) im kp lf rw fn kn) := hD
            rw [zst_w8, zhe_s (v := p1) (by simp only [c_10, not_true_eq_false, not_false_eq_true, and_self, and_true, true_and, and_false, false_and, or_self, or_true, true_or, or_false, false_or, if_true, if_false, ↓reduceIte, Bool.false_eq_true, iff_self, iff_true, iff_false, true_iff, false_iff, Nat.add_zero, Nat.or_zero])] at hP hD
            have hP : va_P D vwCl (zcM cI cZ q (zst (a.1, a.2.1, a.2.2.1, a.2.2.2.1, a.2.2.2.2.1, zhe (zcod k0) p1 a.2.2.2.2.2.1 (i + 1), a.2.2.2.2.2.2)) im kp lf rw fn kn) H := hP
            have hD : va_D A (zcM cI cZ q (zst (a.1, a.2.1, a.2.2.1, a.2.2.2.1, a.2.2.2.2.1, zhe (zcod k0) p1 a.2.2.2.2.2.1 (i + 1), a.2.2.2.2.2.2)) im kp lf rw fn kn) := hD
            refine lv_iinc (v := (nI (i + 1))) (lv' := [(4, .int (nI (i + 1))), (3, .int (nI (zcod k0))), (0, .ref (q 0)), (1, .int (nI k0)), (2, .int p1)]) hx hb dX3_hear_64 hl (k := 0) rfl (zz_inc _) (by decide) rfl (fun ls hl => ?_)
            refine lv_goto (tgt := 30) hx hb dX3_hear_67 (by decide) ?_
            have hl : lv_has ls 5 [(4, .int (nI ((i + 1)))), (3, .int (nI (zcod k0))), (0, .ref (q 0)), (1, .int (nI k0)), (2, .int p1)] := hl
            exact ihi (trivial) _ _ ls (⟨hP, hD, hS⟩) (lv_sub hl [0, 1, 2, 3, 4] rfl)
    · replace c_4 := Classical.not_not.mp (zB_f er_3 c_4)
      refine lv_bipush (v := (-2)) hx hb dX3_hear_18 (by decide) ?_
      exact W.iret (v := (-2)) hx hb hr (fun t9 ht hW => ⟨⟨_, a, rfl, (by simp (decide := true) only [zq_hear, zwm, c_2, c_4, not_true_eq_false, not_false_eq_true, and_self, and_true, true_and, and_false, false_and, or_self, or_true, true_or, or_false, false_or, if_true, if_false, ↓reduceIte, Bool.false_eq_true, iff_self, iff_true, iff_false, true_iff, false_iff, Nat.add_zero, Nat.or_zero]), zP_ht ht hP⟩, hS.F ht⟩) hS.2.2 dX3_hear_20
set_option maxHeartbeats 4000000 in
set_option maxRecDepth 100000 in
theorem c_X3_spoil (l : Launch) (D : va_G) (cI cZ : ClassId) (hs ta : Nat) (sz : Nat) (q : Nat → Nat) (a : ZA) (im : Nat → Int32) (kp : Nat → Int32) (lf : Nat → Int32) (rw : Nat → Int32) (fn : Nat → Int32) (kn : Nat) (p0 : Int32) (p1 : Int32) (hI : zInv a) : Met l yX3_spoil wsX3_spoil ({ frames := 2, cells := 0, slots := 0, locals := 43 }) (va_Pc [.ref (q 0), .int p0, .int p1] (fun U => U.heap.size = sz ∧ zPre D (zTy cI cZ) hs ta (zcM cI cZ q (zst a) im kp lf rw fn kn) U)) (va_Qi (fun (r : Int32) (u : ZA) => (r, u) = zq_spoil a p0 p1) (fun (u : ZA) t9 => va_P D vwCl (zcM cI cZ q (zst u) im kp lf rw fn kn) t9.heap) (va_A (zcM cI cZ q (zst a) im kp lf rw fn kn) sz)) 0 0 (va_A (zcM cI cZ q (zst a) im kp lf rw fn kn) sz) := by
  refine Met.ofW (cc := cX3_spoil) (maxL := 5) (ret := (some .int)) (by decide) rfl ?_
  intro p e s m args below meth c s₁ B hml hv0
  obtain ⟨rfl, hsz, hP, hD0, hG⟩ := hv0
  have hx := B.exec
  have hb := B.bytes
  have hr := B.returns
  have hts := atoms_spec (ws := wsX3_spoil) B.pre
  have hown : s.vm.findClass RX3 = some m.cls := findClass_of_methodNamed B.named
  have hlocks := B.notSynchronized
  subst hsz
  have hD := hD0.self (sz := s.heap.size)
  have hAz0 : ∀ y9, va_A (zcM cI cZ q (zst a) im kp lf rw fn kn) s.heap.size y9 → hs ≤ y9 := zA_of hD0 (fun y9 h => Nat.le_trans hG.2.2.2.2 h) (va_S.rf (A := zA hs) (H0 := s.heap))
  generalize hAe : va_A (zcM cI cZ q (zst a) im kp lf rw fn kn) s.heap.size = A at hD hAz0 ⊢
  have hA : ∀ y9 : Nat, s.heap.size ≤ y9 → A y9 := fun y9 h => by rw [← hAe]; exact Or.inr h
  have hS : va_S A s.heap s.heap [] := va_S.rf
  have hAz : ∀ y9, A y9 → hs ≤ y9 := hAz0
  have hK := hG.1
  have hl := lv_entry ([.ref (q 0), .int p0, .int p1]) (n := 5) (Nat.le_of_ble_eq_true rfl)
  rw [lg_entry_eq]
  generalize (lg_sl ([.ref (q 0), .int p0, .int p1]) ++ List.replicate (5 - (lg_sl ([.ref (q 0), .int p0, .int p1])).length) Slot.unset).toArray = ls at hl ⊢
  have hl : lv_has ls 5 [(0, .ref (q 0)), (1, .int p0), (2, .int p1)] := hl
  have hf7 := hts (.fieldLink RX3 7 "FrozenBitsModel" "state" "[I") (List.mem_of_getElem? (i := 1) rfl)
  have hiX3 : ∀ w ∈ u_ws RX3 TX3 7, w ∈ wsX3_spoil := fun w h => List.mem_cons_of_mem _ (List.mem_append_right _ h)
  refine lv_aload_n hx hb dX3_spoil_0 rfl (lv_at hl 0 rfl) ?_
  refine lv_iload_n hx hb dX3_spoil_1 rfl (lv_at hl 1 rfl) ?_
  refine zz_cVi (cs := zcM cI cZ q (zst a) im kp lf rw fn kn) (As := [.int p0]) (rest := []) ⟨hx, hb, hml, hown, hts⟩ (c_X3_isRow l D cI cZ hs ta q a im kp lf rw fn kn p0 hI) (cwV 1 hts gX3_spoil_X3_isRow rfl rfl rfl (by decide +kernel) ⟨Nat.le_of_ble_eq_true rfl, Nat.le_of_ble_eq_true rfl⟩) (va_recv hK hP (ci := 3) (q0 := 0) rfl rfl) hP hD hG hS hAz rfl hl.1 rfl (Nat.le_of_ble_eq_true rfl) ⟨Nat.zero_le _, Nat.zero_le _⟩ dX3_spoil_2 (fun r_1 er_1 => ?_)
  refine lv_if_eq (tgt := 17) hx hb dX3_spoil_5 (by decide) (fun c_2 => ?_) (fun c_2 => ?_)
  · replace c_2 := zB_f er_1 c_2
    refine lv_bipush (v := (-2)) hx hb dX3_spoil_17 (by decide) ?_
    exact W.iret (v := (-2)) hx hb hr (fun t9 ht hW => ⟨⟨_, a, rfl, (by simp (decide := true) only [zq_spoil, zwm, c_2, not_true_eq_false, not_false_eq_true, and_self, and_true, true_and, and_false, false_and, or_self, or_true, true_or, or_false, false_or, if_true, if_false, ↓reduceIte, Bool.false_eq_true, iff_self, iff_true, iff_false, true_iff, false_iff, Nat.add_zero, Nat.or_zero]), zP_ht ht hP⟩, hS.F ht⟩) hS.2.2 dX3_spoil_19
  · replace c_2 := zB_t er_1 c_2
    refine lv_iload_n hx hb dX3_spoil_8 rfl (lv_at hl 2 rfl) ?_
    refine lv_iconst (v := 0) hx hb dX3_spoil_9 (by decide) ?_
    refine lv_iconst (v := 1) hx hb dX3_spoil_10 (by decide) ?_
    refine zz_pSi (As := [.int p1, .int 0, .int 1]) (rest := []) ⟨hx, hb, hml, hown, hts⟩ (c_X3_in l p1 0 1) (va_cwS 3 hts gX3_spoil_X3_in rfl rfl rfl (by decide +kernel) ⟨Nat.le_of_ble_eq_true rfl, Nat.le_of_ble_eq_true rfl⟩) rfl hl.1 rfl (Nat.le_of_ble_eq_true rfl) ⟨Nat.zero_le _, Nat.zero_le _⟩ dX3_spoil_11 (fun r_3 er_3 => ?_)
    refine lv_if_ne (tgt := 20) hx hb dX3_spoil_14 (by decide) (fun c_4 => ?_) (fun c_4 => ?_)
    · replace c_4 := zB_t er_3 c_4
      obtain ⟨k0, hk0, rfl⟩ := zr0 c_2 (by have := zNN hI; omega)
      refine lv_iconst (v := 0) hx hb dX3_spoil_20 (by decide) ?_
      refine lv_istore_n (lv' := [(3, .int 0), (0, .ref (q 0)), (1, .int (nI k0)), (2, .int p1)]) hx hb dX3_spoil_21 rfl hl (by decide) rfl (fun ls hl => ?_)
      refine lv_iconst (v := 0) hx hb dX3_spoil_22 (by decide) ?_
      refine lv_istore (lv' := [(4, .int 0), (3, .int 0), (0, .ref (q 0)), (1, .int (nI k0)), (2, .int p1)]) hx hb dX3_spoil_23 hl (by decide) rfl (fun ls hl => ?_)
      have hl : lv_has ls 5 [(4, .int (nI 0)), (3, .int (nI (zct (zsc k0 a.2.2.2.2.2.1) 0))), (0, .ref (q 0)), (1, .int (nI k0)), (2, .int p1)] := hl
      refine zz_forHJ (P := fun H locs g => W p l e _ s m _ below meth c H locs _ _ _ g) (nL := 5) (2 ^ a.1) (fun i => [(4, .int (nI i)), (3, .int (nI (zct (zsc k0 a.2.2.2.2.2.1) i))), (0, .ref (q 0)), (1, .int (nI k0)), (2, .int p1)]) (fun i H locs => va_P D vwCl (zcM cI cZ q (zst (a.1, a.2.1, a.2.2.1, a.2.2.2.1, a.2.2.2.2.1, zsp k0 p1 a.2.2.2.2.2.1 i, a.2.2.2.2.2.2)) im kp lf rw fn kn) H ∧ va_D A (zcM cI cZ q (zst (a.1, a.2.1, a.2.2.1, a.2.2.2.1, a.2.2.2.2.1, zsp k0 p1 a.2.2.2.2.2.1 i, a.2.2.2.2.2.2)) im kp lf rw fn kn) ∧ va_S A s.heap H locs) (J := fun _ => True) ?_ ?_ (⟨by rw [zsp_0]; exact hP, by rw [zsp_0]; exact hD, hS⟩) (trivial) ((lv_sub hl [0, 1, 2, 3, 4] rfl))
      · intro H locs ls hJ hI0 hl
        obtain ⟨hP, hD, hS⟩ := hI0
        refine lv_iload hx hb dX3_spoil_25 (lv_at hl 0 rfl) ?_
        refine lv_aload_n hx hb dX3_spoil_27 rfl (lv_at hl 2 rfl) ?_
        refine zz_cVi (cs := zcM cI cZ q (zst (a.1, a.2.1, a.2.2.1, a.2.2.2.1, a.2.2.2.2.1, zsp k0 p1 a.2.2.2.2.2.1 (2 ^ a.1), a.2.2.2.2.2.2)) im kp lf rw fn kn) (As := []) (rest := [.int (nI ((2 ^ a.1)))]) ⟨hx, hb, hml, hown, hts⟩ (c_X3_places l D cI cZ hs ta q (a.1, a.2.1, a.2.2.1, a.2.2.2.1, a.2.2.2.2.1, zsp k0 p1 a.2.2.2.2.2.1 (2 ^ a.1), a.2.2.2.2.2.2) im kp lf rw fn kn hI.1.2) (cwV 0 hts gX3_spoil_X3_places rfl rfl rfl (by decide +kernel) ⟨Nat.le_of_ble_eq_true rfl, Nat.le_of_ble_eq_true rfl⟩) (va_recv hK hP (ci := 3) (q0 := 0) rfl rfl) hP hD hG hS hAz rfl hl.1 rfl (Nat.le_of_ble_eq_true rfl) ⟨Nat.zero_le _, Nat.zero_le _⟩ dX3_spoil_28 (fun r_5 er_5 => ?_)
        subst er_5
        refine lv_icmp_ge (tgt := 100) hx hb dX3_spoil_31 (by decide) (fun c_6 => ?_) (fun c_6 => ?_)
        · replace c_6 := Int32.not_lt.mpr c_6
          refine lv_iload_n hx hb dX3_spoil_100 rfl (lv_at hl 1 rfl) ?_
          exact W.iret (v := (nI (zct (zsc k0 a.2.2.2.2.2.1) (2 ^ a.1)))) hx hb hr (fun t9 ht hW => ⟨⟨_, (a.1, a.2.1, a.2.2.1, a.2.2.2.1, a.2.2.2.2.1, zsp k0 p1 a.2.2.2.2.2.1 (2 ^ a.1), a.2.2.2.2.2.2), rfl, (by simp (decide := true) only [zq_spoil, zwm, c_2, c_4, c_6, not_true_eq_false, not_false_eq_true, and_self, and_true, true_and, and_false, false_and, or_self, or_true, true_or, or_false, false_or, if_true, if_false, ↓reduceIte, Bool.false_eq_true, iff_self, iff_true, iff_false, true_iff, false_iff, Nat.add_zero, Nat.or_zero]; rw [zN_nI (by have := zNN hI; omega)]), zP_ht ht hP⟩, hS.F ht⟩) hS.2.2 dX3_spoil_101
        · replace c_6 := Int32.not_le.mp c_6
          exact absurd c_6 (nI_nlt (Nat.le_refl _) (by have := zNp hI; omega))
      · intro i hi hJ ihi H locs ls hI0 hl
        obtain ⟨hP, hD, hS⟩ := hI0
        refine lv_iload hx hb dX3_spoil_25 (lv_at hl 0 rfl) ?_
        refine lv_aload_n hx hb dX3_spoil_27 rfl (lv_at hl 2 rfl) ?_
        refine zz_cVi (cs := zcM cI cZ q (zst (a.1, a.2.1, a.2.2.1, a.2.2.2.1, a.2.2.2.2.1, zsp k0 p1 a.2.2.2.2.2.1 i, a.2.2.2.2.2.2)) im kp lf rw fn kn) (As := []) (rest := [.int (nI i)]) ⟨hx, hb, hml, hown, hts⟩ (c_X3_places l D cI cZ hs ta q (a.1, a.2.1, a.2.2.1, a.2.2.2.1, a.2.2.2.2.1, zsp k0 p1 a.2.2.2.2.2.1 i, a.2.2.2.2.2.2) im kp lf rw fn kn hI.1.2) (cwV 0 hts gX3_spoil_X3_places rfl rfl rfl (by decide +kernel) ⟨Nat.le_of_ble_eq_true rfl, Nat.le_of_ble_eq_true rfl⟩) (va_recv hK hP (ci := 3) (q0 := 0) rfl rfl) hP hD hG hS hAz rfl hl.1 rfl (Nat.le_of_ble_eq_true rfl) ⟨Nat.zero_le _, Nat.zero_le _⟩ dX3_spoil_28 (fun r_7 er_7 => ?_)
        subst er_7
        refine lv_icmp_ge (tgt := 100) hx hb dX3_spoil_31 (by decide) (fun c_8 => ?_) (fun c_8 => ?_)
        · replace c_8 := Int32.not_lt.mpr c_8
          exact absurd (nI_lt hi (by have := zNp hI; omega)) c_8
        · replace c_8 := Int32.not_le.mp c_8
          refine lv_iload_n hx hb dX3_spoil_34 rfl (lv_at hl 3 rfl) ?_
          refine lv_iload hx hb dX3_spoil_35 (lv_at hl 0 rfl) ?_
          refine lv_ishr hx hb dX3_spoil_37 ?_
          refine zz_topi (nI (k0 >>> i)) (zz_shrn rfl rfl (by have := zNN hI; omega) (by have := zNp hI; omega)) ?_
          refine lv_iconst (v := 1) hx hb dX3_spoil_38 (by decide) ?_
          refine lv_iand hx hb dX3_spoil_39 ?_
          refine zz_topi (nI ((k0 >>> i) &&& 1)) (zz_andn rfl (show (1 : Int32) = nI 1 from rfl)) ?_
          refine lv_iconst (v := 1) hx hb dX3_spoil_40 (by decide) ?_
          refine lv_icmp_ne (tgt := 94) hx hb dX3_spoil_41 (by decide) (fun c_9 => ?_) (fun c_9 => ?_)
          · replace c_9 := fun q => c_9 ((zI_1 (zand1 _)).mpr (zbit_1.mpr q))
            replace c_9 : ¬ k0.testBit i = true := c_9
            refine lv_iinc (v := (nI (i + 1))) (lv' := [(4, .int (nI (i + 1))), (3, .int (nI (zct (zsc k0 a.2.2.2.2.2.1) i))), (0, .ref (q 0)), (1, .int (nI k0)), (2, .int p1)]) hx hb dX3_spoil_94 hl (k := 0) rfl (zz_inc _) (by decide) rfl (fun ls hl => ?_)
            refine lv_goto (tgt := 25) hx hb dX3_spoil_97 (by decide) ?_
            rw [show ((nI (zct (zsc k0 a.2.2.2.2.2.1) i)) : Int32) = (nI (zct (zsc k0 a.2.2.2.2.2.1) (i + 1))) from by simp only [zct, zsc, c_2, c_4, c_8, c_9, decide_true, decide_false, not_true_eq_false, not_false_eq_true, and_self, and_true, true_and, and_false, false_and, or_self, or_true, true_or, or_false, false_or, if_true, if_false, ↓reduceIte, Bool.false_eq_true, iff_self, iff_true, iff_false, true_iff, false_iff, Nat.add_zero, Nat.or_zero]] at hl
            have hl : lv_has ls 5 [(4, .int (nI ((i + 1)))), (3, .int (nI (zct (zsc k0 a.2.2.2.2.2.1) (i + 1)))), (0, .ref (q 0)), (1, .int (nI k0)), (2, .int p1)] := hl
            exact ihi (trivial) _ _ ls (⟨by rw [zsp_n (Or.inl c_9)]; exact hP, by rw [zsp_n (Or.inl c_9)]; exact hD, hS⟩) (lv_sub hl [0, 1, 2, 3, 4] rfl)
          · replace c_9 := zbit_1.mp ((zI_1 (zand1 _)).mp c_9)
            refine lv_iload_n hx hb dX3_spoil_44 rfl (lv_at hl 1 rfl) ?_
            refine lv_aload_n hx hb dX3_spoil_45 rfl (lv_at hl 2 rfl) ?_
            refine va_get (ci := 3) (C := RX3) (T := TX3) (N := 7) hx hb hts hiX3 hown hK hP 0 rfl rfl 0 (by decide) hf7 (fun _ h9 => h9) rfl dX3_spoil_46 ?_
            refine lv_bipush (v := 8) hx hb dX3_spoil_49 (by decide) ?_
            refine lv_iload hx hb dX3_spoil_51 (lv_at hl 0 rfl) ?_
            refine lv_iadd hx hb dX3_spoil_53 ?_
            refine zz_topi (nI (8 + i)) (zz_addn (show (8 : Int32) = nI 8 from rfl) rfl) ?_
            refine zz_iald hx hb hK hP 1 0 rfl rfl (i := 8 + i) rfl (by have := zNp hI; omega) (by decide) dX3_spoil_54 ?_
            refine zz_topi (a.2.2.2.2.2.1 i) (by rw [zst_me]; exact zsp_i _ _ _ _) ?_
            refine lv_if_ne (tgt := 62) hx hb dX3_spoil_55 (by decide) (fun c_10 => ?_) (fun c_10 => ?_)
            · refine lv_iconst (v := 1) hx hb dX3_spoil_62 (by decide) ?_
              refine lv_iadd hx hb dX3_spoil_63 ?_
              refine zz_topi (nI ((zct (zsc k0 a.2.2.2.2.2.1) i) + 1)) (zz_addn rfl (show (1 : Int32) = nI 1 from rfl)) ?_
              refine lv_istore_n (lv' := [(3, .int (nI ((zct (zsc k0 a.2.2.2.2.2.1) i) + 1))), (4, .int (nI i)), (0, .ref (q 0)), (1, .int (nI k0)), (2, .int p1)]) hx hb dX3_spoil_64 rfl hl (by decide) rfl (fun ls hl => ?_)
              refine lv_aload_n hx hb dX3_spoil_65 rfl (lv_at hl 2 rfl) ?_
              refine va_get (ci := 3) (C := RX3) (T := TX3) (N := 7) hx hb hts hiX3 hown hK hP 0 rfl rfl 0 (by decide) hf7 (fun _ h9 => h9) rfl dX3_spoil_66 ?_
              refine lv_bipush (v := 8) hx hb dX3_spoil_69 (by decide) ?_
              refine lv_iload hx hb dX3_spoil_71 (lv_at hl 1 rfl) ?_
              refine lv_iadd hx hb dX3_spoil_73 ?_
              refine zz_topi (nI (8 + i)) (zz_addn (show (8 : Int32) = nI 8 from rfl) rfl) ?_
              refine lv_iload_n hx hb dX3_spoil_74 rfl (lv_at hl 4 rfl) ?_
              refine lv_if_ne (tgt := 82) hx hb dX3_spoil_75 (by decide) (fun c_11 => ?_) (fun c_11 => ?_)
              · refine lv_aload_n hx hb dX3_spoil_82 rfl (lv_at hl 2 rfl) ?_
                refine va_get (ci := 3) (C := RX3) (T := TX3) (N := 7) hx hb hts hiX3 hown hK hP 0 rfl rfl 0 (by decide) hf7 (fun _ h9 => h9) rfl dX3_spoil_83 ?_
                refine lv_bipush (v := 8) hx hb dX3_spoil_86 (by decide) ?_
                refine lv_iload hx hb dX3_spoil_88 (lv_at hl 1 rfl) ?_
                refine lv_iadd hx hb dX3_spoil_90 ?_
                refine zz_topi (nI (8 + i)) (zz_addn (show (8 : Int32) = nI 8 from rfl) rfl) ?_
                refine zz_iald hx hb hK hP 1 0 rfl rfl (i := 8 + i) rfl (by have := zNp hI; omega) (by decide) dX3_spoil_91 ?_
                refine zz_topi (a.2.2.2.2.2.1 i) (by rw [zst_me]; exact zsp_i _ _ _ _) ?_
                refine lv_ineg hx hb dX3_spoil_92 ?_
                refine zz_iast hx hb hK hP hD hS 1 0 rfl rfl (i := 8 + i) rfl (by have := zNp hI; omega) (by decide) dX3_spoil_93 (fun H locs hP hD hS => ?_)
                have hP : va_P D vwCl (zcM cI cZ q (upd (zst (a.1, a.2.1, a.2.2.1, a.2.2.2.1, a.2.2.2.2.1, zsp k0 p1 a.2.2.2.2.2.1 i, a.2.2.2.2.2.2)) (8 + i) (-(a.2.2.2.2.2.1 i))) im kp lf rw fn kn) H := hP
                have hD : va_D A (zcM cI cZ q (upd (zst (a.1, a.2.1, a.2.2.1, a.2.2.2.1, a.2.2.2.2.1, zsp k0 p1 a.2.2.2.2.2.1 i, a.2.2.2.2.2.2)) (8 + i) (-(a.2.2.2.2.2.1 i))) im kp lf rw fn kn) := hD
                rw [zst_w8, zsp_s (v := (-(a.2.2.2.2.2.1 i))) c_9 (by simp only [c_11, not_true_eq_false, not_false_eq_true, and_self, and_true, true_and, and_false, false_and, or_self, or_true, true_or, or_false, false_or, if_true, if_false, ↓reduceIte, Bool.false_eq_true, iff_self, iff_true, iff_false, true_iff, false_iff, Nat.add_zero, Nat.or_zero])] at hP hD
                have hP : va_P D vwCl (zcM cI cZ q (zst (a.1, a.2.1, a.2.2.1, a.2.2.2.1, a.2.2.2.2.1, zsp k0 p1 a.2.2.2.2.2.1 (i + 1), a.2.2.2.2.2.2)) im kp lf rw fn kn) H := hP
                have hD : va_D A (zcM cI cZ q (zst (a.1, a.2.1, a.2.2.1, a.2.2.2.1, a.2.2.2.2.1, zsp k0 p1 a.2.2.2.2.2.1 (i + 1), a.2.2.2.2.2.2)) im kp lf rw fn kn) := hD
                refine lv_iinc (v := (nI (i + 1))) (lv' := [(4, .int (nI (i + 1))), (3, .int (nI ((zct (zsc k0 a.2.2.2.2.2.1) i) + 1))), (0, .ref (q 0)), (1, .int (nI k0)), (2, .int p1)]) hx hb dX3_spoil_94 hl (k := 1) rfl (zz_inc _) (by decide) rfl (fun ls hl => ?_)
                refine lv_goto (tgt := 25) hx hb dX3_spoil_97 (by decide) ?_
                rw [show ((nI ((zct (zsc k0 a.2.2.2.2.2.1) i) + 1)) : Int32) = (nI (zct (zsc k0 a.2.2.2.2.2.1) (i + 1))) from by simp only [zct, zsc, c_2, c_4, c_8, c_9, c_10, c_11, decide_true, decide_false, not_true_eq_false, not_false_eq_true, and_self, and_true, true_and, and_false, false_and, or_self, or_true, true_or, or_false, false_or, if_true, if_false, ↓reduceIte, Bool.false_eq_true, iff_self, iff_true, iff_false, true_iff, false_iff, Nat.add_zero, Nat.or_zero]] at hl
                have hl : lv_has ls 5 [(4, .int (nI ((i + 1)))), (3, .int (nI (zct (zsc k0 a.2.2.2.2.2.1) (i + 1)))), (0, .ref (q 0)), (1, .int (nI k0)), (2, .int p1)] := hl
                exact ihi (trivial) _ _ ls (⟨hP, hD, hS⟩) (lv_sub hl [0, 1, 2, 3, 4] rfl)
              · refine lv_iconst (v := 0) hx hb dX3_spoil_78 (by decide) ?_
                refine lv_goto (tgt := 93) hx hb dX3_spoil_79 (by decide) ?_
                refine zz_iast hx hb hK hP hD hS 1 0 rfl rfl (i := 8 + i) rfl (by have := zNp hI; omega) (by decide) dX3_spoil_93 (fun H locs hP hD hS => ?_)
                have hP : va_P D vwCl (zcM cI cZ q (upd (zst (a.1, a.2.1, a.2.2.1, a.2.2.2.1, a.2.2.2.2.1, zsp k0 p1 a.2.2.2.2.2.1 i, a.2.2.2.2.2.2)) (8 + i) 0) im kp lf rw fn kn) H := hP
                have hD : va_D A (zcM cI cZ q (upd (zst (a.1, a.2.1, a.2.2.1, a.2.2.2.1, a.2.2.2.2.1, zsp k0 p1 a.2.2.2.2.2.1 i, a.2.2.2.2.2.2)) (8 + i) 0) im kp lf rw fn kn) := hD
                rw [zst_w8, zsp_s (v := 0) c_9 (by simp only [c_11, not_true_eq_false, not_false_eq_true, and_self, and_true, true_and, and_false, false_and, or_self, or_true, true_or, or_false, false_or, if_true, if_false, ↓reduceIte, Bool.false_eq_true, iff_self, iff_true, iff_false, true_iff, false_iff, Nat.add_zero, Nat.or_zero])] at hP hD
                have hP : va_P D vwCl (zcM cI cZ q (zst (a.1, a.2.1, a.2.2.1, a.2.2.2.1, a.2.2.2.2.1, zsp k0 p1 a.2.2.2.2.2.1 (i + 1), a.2.2.2.2.2.2)) im kp lf rw fn kn) H := hP
                have hD : va_D A (zcM cI cZ q (zst (a.1, a.2.1, a.2.2.1, a.2.2.2.1, a.2.2.2.2.1, zsp k0 p1 a.2.2.2.2.2.1 (i + 1), a.2.2.2.2.2.2)) im kp lf rw fn kn) := hD
                refine lv_iinc (v := (nI (i + 1))) (lv' := [(4, .int (nI (i + 1))), (3, .int (nI ((zct (zsc k0 a.2.2.2.2.2.1) i) + 1))), (0, .ref (q 0)), (1, .int (nI k0)), (2, .int p1)]) hx hb dX3_spoil_94 hl (k := 1) rfl (zz_inc _) (by decide) rfl (fun ls hl => ?_)
                refine lv_goto (tgt := 25) hx hb dX3_spoil_97 (by decide) ?_
                rw [show ((nI ((zct (zsc k0 a.2.2.2.2.2.1) i) + 1)) : Int32) = (nI (zct (zsc k0 a.2.2.2.2.2.1) (i + 1))) from by simp only [zct, zsc, c_2, c_4, c_8, c_9, c_10, c_11, decide_true, decide_false, not_true_eq_false, not_false_eq_true, and_self, and_true, true_and, and_false, false_and, or_self, or_true, true_or, or_false, false_or, if_true, if_false, ↓reduceIte, Bool.false_eq_true, iff_self, iff_true, iff_false, true_iff, false_iff, Nat.add_zero, Nat.or_zero]] at hl
                have hl : lv_has ls 5 [(4, .int (nI ((i + 1)))), (3, .int (nI (zct (zsc k0 a.2.2.2.2.2.1) (i + 1)))), (0, .ref (q 0)), (1, .int (nI k0)), (2, .int p1)] := hl
                exact ihi (trivial) _ _ ls (⟨hP, hD, hS⟩) (lv_sub hl [0, 1, 2, 3, 4] rfl)
            · refine lv_iconst (v := 0) hx hb dX3_spoil_58 (by decide) ?_
              refine lv_goto (tgt := 63) hx hb dX3_spoil_59 (by decide) ?_
              refine lv_iadd hx hb dX3_spoil_63 ?_
              refine zz_topi (nI ((zct (zsc k0 a.2.2.2.2.2.1) i) + 0)) (zz_addn rfl (show (0 : Int32) = nI 0 from rfl)) ?_
              refine lv_istore_n (lv' := [(3, .int (nI ((zct (zsc k0 a.2.2.2.2.2.1) i) + 0))), (4, .int (nI i)), (0, .ref (q 0)), (1, .int (nI k0)), (2, .int p1)]) hx hb dX3_spoil_64 rfl hl (by decide) rfl (fun ls hl => ?_)
              refine lv_aload_n hx hb dX3_spoil_65 rfl (lv_at hl 2 rfl) ?_
              refine va_get (ci := 3) (C := RX3) (T := TX3) (N := 7) hx hb hts hiX3 hown hK hP 0 rfl rfl 0 (by decide) hf7 (fun _ h9 => h9) rfl dX3_spoil_66 ?_
              refine lv_bipush (v := 8) hx hb dX3_spoil_69 (by decide) ?_
              refine lv_iload hx hb dX3_spoil_71 (lv_at hl 1 rfl) ?_
              refine lv_iadd hx hb dX3_spoil_73 ?_
              refine zz_topi (nI (8 + i)) (zz_addn (show (8 : Int32) = nI 8 from rfl) rfl) ?_
              refine lv_iload_n hx hb dX3_spoil_74 rfl (lv_at hl 4 rfl) ?_
              refine lv_if_ne (tgt := 82) hx hb dX3_spoil_75 (by decide) (fun c_12 => ?_) (fun c_12 => ?_)
              · refine lv_aload_n hx hb dX3_spoil_82 rfl (lv_at hl 2 rfl) ?_
                refine va_get (ci := 3) (C := RX3) (T := TX3) (N := 7) hx hb hts hiX3 hown hK hP 0 rfl rfl 0 (by decide) hf7 (fun _ h9 => h9) rfl dX3_spoil_83 ?_
                refine lv_bipush (v := 8) hx hb dX3_spoil_86 (by decide) ?_
                refine lv_iload hx hb dX3_spoil_88 (lv_at hl 1 rfl) ?_
                refine lv_iadd hx hb dX3_spoil_90 ?_
                refine zz_topi (nI (8 + i)) (zz_addn (show (8 : Int32) = nI 8 from rfl) rfl) ?_
                refine zz_iald hx hb hK hP 1 0 rfl rfl (i := 8 + i) rfl (by have := zNp hI; omega) (by decide) dX3_spoil_91 ?_
                refine zz_topi (a.2.2.2.2.2.1 i) (by rw [zst_me]; exact zsp_i _ _ _ _) ?_
                refine lv_ineg hx hb dX3_spoil_92 ?_
                refine zz_iast hx hb hK hP hD hS 1 0 rfl rfl (i := 8 + i) rfl (by have := zNp hI; omega) (by decide) dX3_spoil_93 (fun H locs hP hD hS => ?_)
                have hP : va_P D vwCl (zcM cI cZ q (upd (zst (a.1, a.2.1, a.2.2.1, a.2.2.2.1, a.2.2.2.2.1, zsp k0 p1 a.2.2.2.2.2.1 i, a.2.2.2.2.2.2)) (8 + i) (-(a.2.2.2.2.2.1 i))) im kp lf rw fn kn) H := hP
                have hD : va_D A (zcM cI cZ q (upd (zst (a.1, a.2.1, a.2.2.1, a.2.2.2.1, a.2.2.2.2.1, zsp k0 p1 a.2.2.2.2.2.1 i, a.2.2.2.2.2.2)) (8 + i) (-(a.2.2.2.2.2.1 i))) im kp lf rw fn kn) := hD
                rw [zst_w8, zsp_s (v := (-(a.2.2.2.2.2.1 i))) c_9 (by simp only [c_12, not_true_eq_false, not_false_eq_true, and_self, and_true, true_and, and_false, false_and, or_self, or_true, true_or, or_false, false_or, if_true, if_false, ↓reduceIte, Bool.false_eq_true, iff_self, iff_true, iff_false, true_iff, false_iff, Nat.add_zero, Nat.or_zero])] at hP hD
                have hP : va_P D vwCl (zcM cI cZ q (zst (a.1, a.2.1, a.2.2.1, a.2.2.2.1, a.2.2.2.2.1, zsp k0 p1 a.2.2.2.2.2.1 (i + 1), a.2.2.2.2.2.2)) im kp lf rw fn kn) H := hP
                have hD : va_D A (zcM cI cZ q (zst (a.1, a.2.1, a.2.2.1, a.2.2.2.1, a.2.2.2.2.1, zsp k0 p1 a.2.2.2.2.2.1 (i + 1), a.2.2.2.2.2.2)) im kp lf rw fn kn) := hD
                refine lv_iinc (v := (nI (i + 1))) (lv' := [(4, .int (nI (i + 1))), (3, .int (nI ((zct (zsc k0 a.2.2.2.2.2.1) i) + 0))), (0, .ref (q 0)), (1, .int (nI k0)), (2, .int p1)]) hx hb dX3_spoil_94 hl (k := 1) rfl (zz_inc _) (by decide) rfl (fun ls hl => ?_)
                refine lv_goto (tgt := 25) hx hb dX3_spoil_97 (by decide) ?_
                rw [show ((nI ((zct (zsc k0 a.2.2.2.2.2.1) i) + 0)) : Int32) = (nI (zct (zsc k0 a.2.2.2.2.2.1) (i + 1))) from by simp only [zct, zsc, c_2, c_4, c_8, c_9, c_10, c_12, decide_true, decide_false, not_true_eq_false, not_false_eq_true, and_self, and_true, true_and, and_false, false_and, or_self, or_true, true_or, or_false, false_or, if_true, if_false, ↓reduceIte, Bool.false_eq_true, iff_self, iff_true, iff_false, true_iff, false_iff, Nat.add_zero, Nat.or_zero]] at hl
                have hl : lv_has ls 5 [(4, .int (nI ((i + 1)))), (3, .int (nI (zct (zsc k0 a.2.2.2.2.2.1) (i + 1)))), (0, .ref (q 0)), (1, .int (nI k0)), (2, .int p1)] := hl
                exact ihi (trivial) _ _ ls (⟨hP, hD, hS⟩) (lv_sub hl [0, 1, 2, 3, 4] rfl)
              · refine lv_iconst (v := 0) hx hb dX3_spoil_78 (by decide) ?_
                refine lv_goto (tgt := 93) hx hb dX3_spoil_79 (by decide) ?_
                refine zz_iast hx hb hK hP hD hS 1 0 rfl rfl (i := 8 + i) rfl (by have := zNp hI; omega) (by decide) dX3_spoil_93 (fun H locs hP hD hS => ?_)
                have hP : va_P D vwCl (zcM cI cZ q (upd (zst (a.1, a.2.1, a.2.2.1, a.2.2.2.1, a.2.2.2.2.1, zsp k0 p1 a.2.2.2.2.2.1 i, a.2.2.2.2.2.2)) (8 + i) 0) im kp lf rw fn kn) H := hP
                have hD : va_D A (zcM cI cZ q (upd (zst (a.1, a.2.1, a.2.2.1, a.2.2.2.1, a.2.2.2.2.1, zsp k0 p1 a.2.2.2.2.2.1 i, a.2.2.2.2.2.2)) (8 + i) 0) im kp lf rw fn kn) := hD
                rw [zst_w8, zsp_s (v := 0) c_9 (by simp only [c_12, not_true_eq_false, not_false_eq_true, and_self, and_true, true_and, and_false, false_and, or_self, or_true, true_or, or_false, false_or, if_true, if_false, ↓reduceIte, Bool.false_eq_true, iff_self, iff_true, iff_false, true_iff, false_iff, Nat.add_zero, Nat.or_zero])] at hP hD
                have hP : va_P D vwCl (zcM cI cZ q (zst (a.1, a.2.1, a.2.2.1, a.2.2.2.1, a.2.2.2.2.1, zsp k0 p1 a.2.2.2.2.2.1 (i + 1), a.2.2.2.2.2.2)) im kp lf rw fn kn) H := hP
                have hD : va_D A (zcM cI cZ q (zst (a.1, a.2.1, a.2.2.1, a.2.2.2.1, a.2.2.2.2.1, zsp k0 p1 a.2.2.2.2.2.1 (i + 1), a.2.2.2.2.2.2)) im kp lf rw fn kn) := hD
                refine lv_iinc (v := (nI (i + 1))) (lv' := [(4, .int (nI (i + 1))), (3, .int (nI ((zct (zsc k0 a.2.2.2.2.2.1) i) + 0))), (0, .ref (q 0)), (1, .int (nI k0)), (2, .int p1)]) hx hb dX3_spoil_94 hl (k := 1) rfl (zz_inc _) (by decide) rfl (fun ls hl => ?_)
                refine lv_goto (tgt := 25) hx hb dX3_spoil_97 (by decide) ?_
                rw [show ((nI ((zct (zsc k0 a.2.2.2.2.2.1) i) + 0)) : Int32) = (nI (zct (zsc k0 a.2.2.2.2.2.1) (i + 1))) from by simp only [zct, zsc, c_2, c_4, c_8, c_9, c_10, c_12, decide_true, decide_false, not_true_eq_false, not_false_eq_true, and_self, and_true, true_and, and_false, false_and, or_self, or_true, true_or, or_false, false_or, if_true, if_false, ↓reduceIte, Bool.false_eq_true, iff_self, iff_true, iff_false, true_iff, false_iff, Nat.add_zero, Nat.or_zero]] at hl
                have hl : lv_has ls 5 [(4, .int (nI ((i + 1)))), (3, .int (nI (zct (zsc k0 a.2.2.2.2.2.1) (i + 1)))), (0, .ref (q 0)), (1, .int (nI k0)), (2, .int p1)] := hl
                exact ihi (trivial) _ _ ls (⟨hP, hD, hS⟩) (lv_sub hl [0, 1, 2, 3, 4] rfl)
    · replace c_4 := Classical.not_not.mp (zB_f er_3 c_4)
      refine lv_bipush (v := (-2)) hx hb dX3_spoil_17 (by decide) ?_
      exact W.iret (v := (-2)) hx hb hr (fun t9 ht hW => ⟨⟨_, a, rfl, (by simp (decide := true) only [zq_spoil, zwm, c_2, c_4, not_true_eq_false, not_false_eq_true, and_self, and_true, true_and, and_false, false_and, or_self, or_true, true_or, or_false, false_or, if_true, if_false, ↓reduceIte, Bool.false_eq_true, iff_self, iff_true, iff_false, true_iff, false_iff, Nat.add_zero, Nat.or_zero]), zP_ht ht hP⟩, hS.F ht⟩) hS.2.2 dX3_spoil_19
set_option maxHeartbeats 4000000 in
set_option maxRecDepth 100000 in
theorem c_X3_lesser (l : Launch) (p0 : Int32) (p1 : Int32) : Met l yX3_lesser wsX3_lesser ({ frames := 1, cells := 0, slots := 0, locals := 20 }) (va_Pc [.int p0, .int p1] (fun _ => True)) (vp_Si (fun r : Int32 => r = zwk p0 p1)) 0 0 (fun _ => False) := by
  refine Met.ofW (cc := cX3_lesser) (maxL := 5) (ret := (some .int)) (by decide) rfl ?_
  intro p e s m args below meth c s₁ B hml hv0
  obtain ⟨rfl, -⟩ := hv0
  have hx := B.exec
  have hb := B.bytes
  have hr := B.returns
  have hts := atoms_spec (ws := wsX3_lesser) B.pre
  have hown : s.vm.findClass RX3 = some m.cls := findClass_of_methodNamed B.named
  have hlocks := B.notSynchronized
  have hl := lv_entry ([.int p0, .int p1]) (n := 5) (Nat.le_of_ble_eq_true rfl)
  rw [lg_entry_eq]
  generalize (lg_sl ([.int p0, .int p1]) ++ List.replicate (5 - (lg_sl ([.int p0, .int p1])).length) Slot.unset).toArray = ls at hl ⊢
  have hl : lv_has ls 5 [(0, .int p0), (1, .int p1)] := hl
  refine lv_iload_n hx hb dX3_lesser_0 rfl (lv_at hl 0 rfl) ?_
  refine zz_pSi (As := [.int p0]) (rest := []) ⟨hx, hb, hml, hown, hts⟩ (c_X3_plain l p0) (va_cwS 1 hts gX3_lesser_X3_plain rfl rfl rfl (by decide +kernel) ⟨Nat.le_of_ble_eq_true rfl, Nat.le_of_ble_eq_true rfl⟩) rfl hl.1 rfl (Nat.le_of_ble_eq_true rfl) ⟨Nat.zero_le _, Nat.zero_le _⟩ dX3_lesser_1 (fun r_1 er_1 => ?_)
  subst er_1
  refine zz_topi (zab p0) (rfl) ?_
  refine lv_istore_n (lv' := [(2, .int (zab p0)), (0, .int p0), (1, .int p1)]) hx hb dX3_lesser_4 rfl hl (by decide) rfl (fun ls hl => ?_)
  refine lv_iload_n hx hb dX3_lesser_5 rfl (lv_at hl 2 rfl) ?_
  refine zz_pSi (As := [.int p1]) (rest := []) ⟨hx, hb, hml, hown, hts⟩ (c_X3_plain l p1) (va_cwS 1 hts gX3_lesser_X3_plain rfl rfl rfl (by decide +kernel) ⟨Nat.le_of_ble_eq_true rfl, Nat.le_of_ble_eq_true rfl⟩) rfl hl.1 rfl (Nat.le_of_ble_eq_true rfl) ⟨Nat.zero_le _, Nat.zero_le _⟩ dX3_lesser_6 (fun r_2 er_2 => ?_)
  subst er_2
  refine zz_topi (zab p1) (rfl) ?_
  refine lv_istore_n (lv' := [(3, .int (zab p1)), (2, .int (zab p0)), (0, .int p0), (1, .int p1)]) hx hb dX3_lesser_9 rfl hl (by decide) rfl (fun ls hl => ?_)
  refine lv_iload_n hx hb dX3_lesser_10 rfl (lv_at hl 1 rfl) ?_
  refine lv_iload_n hx hb dX3_lesser_11 rfl (lv_at hl 0 rfl) ?_
  refine lv_icmp_ge (tgt := 19) hx hb dX3_lesser_12 (by decide) (fun c_3 => ?_) (fun c_3 => ?_)
  · replace c_3 := Int32.not_lt.mpr c_3
    refine lv_iload_n hx hb dX3_lesser_19 rfl (lv_at hl 0 rfl) ?_
    refine zz_topi (zab p1) (rfl) ?_
    refine lv_istore (lv' := [(4, .int (zab p1)), (3, .int (zab p1)), (2, .int (zab p0)), (0, .int p0), (1, .int p1)]) hx hb dX3_lesser_20 hl (by decide) rfl (fun ls hl => ?_)
    refine lv_iload_n hx hb dX3_lesser_22 rfl (lv_at hl 3 rfl) ?_
    refine lv_if_ge (tgt := 30) hx hb dX3_lesser_23 (by decide) (fun c_4 => ?_) (fun c_4 => ?_)
    · replace c_4 := Int32.not_lt.mpr c_4
      refine lv_iconst (v := 0) hx hb dX3_lesser_30 (by decide) ?_
      refine lv_iload_n hx hb dX3_lesser_31 rfl (lv_at hl 4 rfl) ?_
      refine lv_if_ge (tgt := 39) hx hb dX3_lesser_32 (by decide) (fun c_5 => ?_) (fun c_5 => ?_)
      · replace c_5 := Int32.not_lt.mpr c_5
        refine lv_iconst (v := 0) hx hb dX3_lesser_39 (by decide) ?_
        refine lv_icmp_ne (tgt := 48) hx hb dX3_lesser_40 (by decide) (fun c_6 => ?_) (fun c_6 => ?_)
        · exact absurd c_6 (by decide)
        · refine lv_iload hx hb dX3_lesser_43 (lv_at hl 0 rfl) ?_
          refine lv_goto (tgt := 51) hx hb dX3_lesser_45 (by decide) ?_
          exact W.iret (v := (zab p1)) hx hb hr (fun t9 ht hW => ⟨_, rfl, (by simp only [zwk, zmn_r c_3, c_3, c_4, c_5, c_6, not_true_eq_false, not_false_eq_true, and_self, and_true, true_and, and_false, false_and, or_self, or_true, true_or, or_false, false_or, if_true, if_false, ↓reduceIte, Bool.false_eq_true, iff_self, iff_true, iff_false, true_iff, false_iff, Nat.add_zero, Nat.or_zero]), ht⟩) (fun _ h => absurd h List.not_mem_nil) dX3_lesser_51
      · replace c_5 := Int32.not_le.mp c_5
        refine lv_iconst (v := 1) hx hb dX3_lesser_35 (by decide) ?_
        refine lv_goto (tgt := 40) hx hb dX3_lesser_36 (by decide) ?_
        refine lv_icmp_ne (tgt := 48) hx hb dX3_lesser_40 (by decide) (fun c_7 => ?_) (fun c_7 => ?_)
        · refine lv_iload hx hb dX3_lesser_48 (lv_at hl 0 rfl) ?_
          refine lv_ineg hx hb dX3_lesser_50 ?_
          exact W.iret (v := (-(zab p1))) hx hb hr (fun t9 ht hW => ⟨_, rfl, (by simp only [zwk, zmn_r c_3, c_3, c_4, c_5, c_7, not_true_eq_false, not_false_eq_true, and_self, and_true, true_and, and_false, false_and, or_self, or_true, true_or, or_false, false_or, if_true, if_false, ↓reduceIte, Bool.false_eq_true, iff_self, iff_true, iff_false, true_iff, false_iff, Nat.add_zero, Nat.or_zero]), ht⟩) (fun _ h => absurd h List.not_mem_nil) dX3_lesser_51
        · exact absurd c_7 (by decide)
    · replace c_4 := Int32.not_le.mp c_4
      refine lv_iconst (v := 1) hx hb dX3_lesser_26 (by decide) ?_
      refine lv_goto (tgt := 31) hx hb dX3_lesser_27 (by decide) ?_
      refine lv_iload_n hx hb dX3_lesser_31 rfl (lv_at hl 4 rfl) ?_
      refine lv_if_ge (tgt := 39) hx hb dX3_lesser_32 (by decide) (fun c_8 => ?_) (fun c_8 => ?_)
      · replace c_8 := Int32.not_lt.mpr c_8
        refine lv_iconst (v := 0) hx hb dX3_lesser_39 (by decide) ?_
        refine lv_icmp_ne (tgt := 48) hx hb dX3_lesser_40 (by decide) (fun c_9 => ?_) (fun c_9 => ?_)
        · refine lv_iload hx hb dX3_lesser_48 (lv_at hl 0 rfl) ?_
          refine lv_ineg hx hb dX3_lesser_50 ?_
          exact W.iret (v := (-(zab p1))) hx hb hr (fun t9 ht hW => ⟨_, rfl, (by simp only [zwk, zmn_r c_3, c_3, c_4, c_8, c_9, not_true_eq_false, not_false_eq_true, and_self, and_true, true_and, and_false, false_and, or_self, or_true, true_or, or_false, false_or, if_true, if_false, ↓reduceIte, Bool.false_eq_true, iff_self, iff_true, iff_false, true_iff, false_iff, Nat.add_zero, Nat.or_zero]), ht⟩) (fun _ h => absurd h List.not_mem_nil) dX3_lesser_51
        · exact absurd c_9 (by decide)
      · replace c_8 := Int32.not_le.mp c_8
        refine lv_iconst (v := 1) hx hb dX3_lesser_35 (by decide) ?_
        refine lv_goto (tgt := 40) hx hb dX3_lesser_36 (by decide) ?_
        refine lv_icmp_ne (tgt := 48) hx hb dX3_lesser_40 (by decide) (fun c_10 => ?_) (fun c_10 => ?_)
        · exact absurd c_10 (by decide)
        · refine lv_iload hx hb dX3_lesser_43 (lv_at hl 0 rfl) ?_
          refine lv_goto (tgt := 51) hx hb dX3_lesser_45 (by decide) ?_
          exact W.iret (v := (zab p1)) hx hb hr (fun t9 ht hW => ⟨_, rfl, (by simp only [zwk, zmn_r c_3, c_3, c_4, c_8, c_10, not_true_eq_false, not_false_eq_true, and_self, and_true, true_and, and_false, false_and, or_self, or_true, true_or, or_false, false_or, if_true, if_false, ↓reduceIte, Bool.false_eq_true, iff_self, iff_true, iff_false, true_iff, false_iff, Nat.add_zero, Nat.or_zero]), ht⟩) (fun _ h => absurd h List.not_mem_nil) dX3_lesser_51
  · replace c_3 := Int32.not_le.mp c_3
    refine lv_iload_n hx hb dX3_lesser_15 rfl (lv_at hl 1 rfl) ?_
    refine lv_goto (tgt := 20) hx hb dX3_lesser_16 (by decide) ?_
    refine zz_topi (zab p0) (rfl) ?_
    refine lv_istore (lv' := [(4, .int (zab p0)), (3, .int (zab p1)), (2, .int (zab p0)), (0, .int p0), (1, .int p1)]) hx hb dX3_lesser_20 hl (by decide) rfl (fun ls hl => ?_)
    refine lv_iload_n hx hb dX3_lesser_22 rfl (lv_at hl 3 rfl) ?_
    refine lv_if_ge (tgt := 30) hx hb dX3_lesser_23 (by decide) (fun c_11 => ?_) (fun c_11 => ?_)
    · replace c_11 := Int32.not_lt.mpr c_11
      refine lv_iconst (v := 0) hx hb dX3_lesser_30 (by decide) ?_
      refine lv_iload_n hx hb dX3_lesser_31 rfl (lv_at hl 4 rfl) ?_
      refine lv_if_ge (tgt := 39) hx hb dX3_lesser_32 (by decide) (fun c_12 => ?_) (fun c_12 => ?_)
      · replace c_12 := Int32.not_lt.mpr c_12
        refine lv_iconst (v := 0) hx hb dX3_lesser_39 (by decide) ?_
        refine lv_icmp_ne (tgt := 48) hx hb dX3_lesser_40 (by decide) (fun c_13 => ?_) (fun c_13 => ?_)
        · exact absurd c_13 (by decide)
        · refine lv_iload hx hb dX3_lesser_43 (lv_at hl 0 rfl) ?_
          refine lv_goto (tgt := 51) hx hb dX3_lesser_45 (by decide) ?_
          exact W.iret (v := (zab p0)) hx hb hr (fun t9 ht hW => ⟨_, rfl, (by simp only [zwk, zmn_l c_3, c_3, c_11, c_12, c_13, not_true_eq_false, not_false_eq_true, and_self, and_true, true_and, and_false, false_and, or_self, or_true, true_or, or_false, false_or, if_true, if_false, ↓reduceIte, Bool.false_eq_true, iff_self, iff_true, iff_false, true_iff, false_iff, Nat.add_zero, Nat.or_zero]), ht⟩) (fun _ h => absurd h List.not_mem_nil) dX3_lesser_51
      · replace c_12 := Int32.not_le.mp c_12
        refine lv_iconst (v := 1) hx hb dX3_lesser_35 (by decide) ?_
        refine lv_goto (tgt := 40) hx hb dX3_lesser_36 (by decide) ?_
        refine lv_icmp_ne (tgt := 48) hx hb dX3_lesser_40 (by decide) (fun c_14 => ?_) (fun c_14 => ?_)
        · refine lv_iload hx hb dX3_lesser_48 (lv_at hl 0 rfl) ?_
          refine lv_ineg hx hb dX3_lesser_50 ?_
          exact W.iret (v := (-(zab p0))) hx hb hr (fun t9 ht hW => ⟨_, rfl, (by simp only [zwk, zmn_l c_3, c_3, c_11, c_12, c_14, not_true_eq_false, not_false_eq_true, and_self, and_true, true_and, and_false, false_and, or_self, or_true, true_or, or_false, false_or, if_true, if_false, ↓reduceIte, Bool.false_eq_true, iff_self, iff_true, iff_false, true_iff, false_iff, Nat.add_zero, Nat.or_zero]), ht⟩) (fun _ h => absurd h List.not_mem_nil) dX3_lesser_51
        · exact absurd c_14 (by decide)
    · replace c_11 := Int32.not_le.mp c_11
      refine lv_iconst (v := 1) hx hb dX3_lesser_26 (by decide) ?_
      refine lv_goto (tgt := 31) hx hb dX3_lesser_27 (by decide) ?_
      refine lv_iload_n hx hb dX3_lesser_31 rfl (lv_at hl 4 rfl) ?_
      refine lv_if_ge (tgt := 39) hx hb dX3_lesser_32 (by decide) (fun c_15 => ?_) (fun c_15 => ?_)
      · replace c_15 := Int32.not_lt.mpr c_15
        refine lv_iconst (v := 0) hx hb dX3_lesser_39 (by decide) ?_
        refine lv_icmp_ne (tgt := 48) hx hb dX3_lesser_40 (by decide) (fun c_16 => ?_) (fun c_16 => ?_)
        · refine lv_iload hx hb dX3_lesser_48 (lv_at hl 0 rfl) ?_
          refine lv_ineg hx hb dX3_lesser_50 ?_
          exact W.iret (v := (-(zab p0))) hx hb hr (fun t9 ht hW => ⟨_, rfl, (by simp only [zwk, zmn_l c_3, c_3, c_11, c_15, c_16, not_true_eq_false, not_false_eq_true, and_self, and_true, true_and, and_false, false_and, or_self, or_true, true_or, or_false, false_or, if_true, if_false, ↓reduceIte, Bool.false_eq_true, iff_self, iff_true, iff_false, true_iff, false_iff, Nat.add_zero, Nat.or_zero]), ht⟩) (fun _ h => absurd h List.not_mem_nil) dX3_lesser_51
        · exact absurd c_16 (by decide)
      · replace c_15 := Int32.not_le.mp c_15
        refine lv_iconst (v := 1) hx hb dX3_lesser_35 (by decide) ?_
        refine lv_goto (tgt := 40) hx hb dX3_lesser_36 (by decide) ?_
        refine lv_icmp_ne (tgt := 48) hx hb dX3_lesser_40 (by decide) (fun c_17 => ?_) (fun c_17 => ?_)
        · exact absurd c_17 (by decide)
        · refine lv_iload hx hb dX3_lesser_43 (lv_at hl 0 rfl) ?_
          refine lv_goto (tgt := 51) hx hb dX3_lesser_45 (by decide) ?_
          exact W.iret (v := (zab p0)) hx hb hr (fun t9 ht hW => ⟨_, rfl, (by simp only [zwk, zmn_l c_3, c_3, c_11, c_15, c_17, not_true_eq_false, not_false_eq_true, and_self, and_true, true_and, and_false, false_and, or_self, or_true, true_or, or_false, false_or, if_true, if_false, ↓reduceIte, Bool.false_eq_true, iff_self, iff_true, iff_false, true_iff, false_iff, Nat.add_zero, Nat.or_zero]), ht⟩) (fun _ h => absurd h List.not_mem_nil) dX3_lesser_51
set_option maxHeartbeats 4000000 in
set_option maxRecDepth 100000 in
theorem c_X3_seen (l : Launch) (D : va_G) (cI cZ : ClassId) (hs ta : Nat) (sz : Nat) (q : Nat → Nat) (a : ZA) (im : Nat → Int32) (kp : Nat → Int32) (lf : Nat → Int32) (rw : Nat → Int32) (fn : Nat → Int32) (kn : Nat) (k : Nat) (w : Nat) (hI : zInv a) (hk2 : k < 2 ^ a.1) (hw : w < 65536) : Met l yX3_seen wsX3_seen ({ frames := 2, cells := 0, slots := 0, locals := 44 }) (va_Pc [.ref (q 0), .int (nI k), .int (nI w)] (fun U => U.heap.size = sz ∧ zPre D (zTy cI cZ) hs ta (zcM cI cZ q (zst a) im kp lf rw fn kn) U)) (va_Qi (fun (r : Int32) (u : Nat → Int32) => r = zsee a.2.2.2.2.2.1 a.1 k w) (fun (u : Nat → Int32) t9 => va_P D vwCl (zcM cI cZ q (zst a) im kp u rw fn kn) t9.heap) (va_A (zcM cI cZ q (zst a) im kp lf rw fn kn) sz)) 0 0 (va_A (zcM cI cZ q (zst a) im kp lf rw fn kn) sz) := by
  refine Met.ofW (cc := cX3_seen) (maxL := 10) (ret := (some .int)) (by decide) rfl ?_
  intro p e s m args below meth c s₁ B hml hv0
  obtain ⟨rfl, hsz, hP, hD0, hG⟩ := hv0
  have hx := B.exec
  have hb := B.bytes
  have hr := B.returns
  have hts := atoms_spec (ws := wsX3_seen) B.pre
  have hown : s.vm.findClass RX3 = some m.cls := findClass_of_methodNamed B.named
  have hlocks := B.notSynchronized
  subst hsz
  have hD := hD0.self (sz := s.heap.size)
  have hAz0 : ∀ y9, va_A (zcM cI cZ q (zst a) im kp lf rw fn kn) s.heap.size y9 → hs ≤ y9 := zA_of hD0 (fun y9 h => Nat.le_trans hG.2.2.2.2 h) (va_S.rf (A := zA hs) (H0 := s.heap))
  generalize hAe : va_A (zcM cI cZ q (zst a) im kp lf rw fn kn) s.heap.size = A at hD hAz0 ⊢
  have hA : ∀ y9 : Nat, s.heap.size ≤ y9 → A y9 := fun y9 h => by rw [← hAe]; exact Or.inr h
  have hS : va_S A s.heap s.heap [] := va_S.rf
  have hAz : ∀ y9, A y9 → hs ≤ y9 := hAz0
  have hK := hG.1
  have hl := lv_entry ([.ref (q 0), .int (nI k), .int (nI w)]) (n := 10) (Nat.le_of_ble_eq_true rfl)
  rw [lg_entry_eq]
  generalize (lg_sl ([.ref (q 0), .int (nI k), .int (nI w)]) ++ List.replicate (10 - (lg_sl ([.ref (q 0), .int (nI k), .int (nI w)])).length) Slot.unset).toArray = ls at hl ⊢
  have hl : lv_has ls 10 [(0, .ref (q 0)), (1, .int (nI k)), (2, .int (nI w))] := hl
  have hf20 := hts (.fieldLink RX3 20 "FrozenBitsModel" "left" "[I") (List.mem_of_getElem? (i := 1) rfl)
  have hiX3 : ∀ w ∈ u_ws RX3 TX3 7, w ∈ wsX3_seen := fun w h => List.mem_cons_of_mem _ (List.mem_append_right _ h)
  have hf7 := hts (.fieldLink RX3 7 "FrozenBitsModel" "state" "[I") (List.mem_of_getElem? (i := 2) rfl)
  refine lv_iconst (v := 0) hx hb dX3_seen_0 (by decide) ?_
  refine lv_istore_n (lv' := [(3, .int 0), (0, .ref (q 0)), (1, .int (nI k)), (2, .int (nI w))]) hx hb dX3_seen_1 rfl hl (by decide) rfl (fun ls hl => ?_)
  have hl : lv_has ls 10 [(3, .int (nI 0)), (0, .ref (q 0)), (1, .int (nI k)), (2, .int (nI w))] := hl
  refine zz_forHJ (P := fun H locs g => W p l e _ s m _ below meth c H locs _ _ _ g) (nL := 10) (2 ^ a.1) (fun i => [(3, .int (nI i)), (0, .ref (q 0)), (1, .int (nI k)), (2, .int (nI w))]) (fun i H locs => va_P D vwCl (zcM cI cZ q (zst a) im kp (fa_fill a.2.2.2.2.2.1 lf i) rw fn kn) H ∧ va_D A (zcM cI cZ q (zst a) im kp (fa_fill a.2.2.2.2.2.1 lf i) rw fn kn) ∧ va_S A s.heap H locs) (J := fun _ => True) ?_ ?_ (⟨by rw [fa_fill_0]; exact hP, by rw [fa_fill_0]; exact hD, hS⟩) (trivial) ((lv_sub hl [0, 1, 2, 3] rfl))
  · intro H locs ls hJ hI0 hl
    obtain ⟨hP, hD, hS⟩ := hI0
    refine lv_iload_n hx hb dX3_seen_2 rfl (lv_at hl 0 rfl) ?_
    refine lv_aload_n hx hb dX3_seen_3 rfl (lv_at hl 1 rfl) ?_
    refine zz_cVi (cs := zcM cI cZ q (zst a) im kp (fa_fill a.2.2.2.2.2.1 lf (2 ^ a.1)) rw fn kn) (As := []) (rest := [.int (nI ((2 ^ a.1)))]) ⟨hx, hb, hml, hown, hts⟩ (c_X3_places l D cI cZ hs ta q a im kp (fa_fill a.2.2.2.2.2.1 lf (2 ^ a.1)) rw fn kn hI.1.2) (cwV 0 hts gX3_seen_X3_places rfl rfl rfl (by decide +kernel) ⟨Nat.le_of_ble_eq_true rfl, Nat.le_of_ble_eq_true rfl⟩) (va_recv hK hP (ci := 3) (q0 := 0) rfl rfl) hP hD hG hS hAz rfl hl.1 rfl (Nat.le_of_ble_eq_true rfl) ⟨Nat.zero_le _, Nat.zero_le _⟩ dX3_seen_4 (fun r_1 er_1 => ?_)
    subst er_1
    refine lv_icmp_ge (tgt := 31) hx hb dX3_seen_7 (by decide) (fun c_2 => ?_) (fun c_2 => ?_)
    · replace c_2 := Int32.not_lt.mpr c_2
      refine lv_iconst (v := 0) hx hb dX3_seen_31 (by decide) ?_
      refine lv_istore_n (lv' := [(3, .int 0), (0, .ref (q 0)), (1, .int (nI k)), (2, .int (nI w))]) hx hb dX3_seen_32 rfl hl (by decide) rfl (fun ls hl => ?_)
      refine lv_aload_n hx hb dX3_seen_33 rfl (lv_at hl 1 rfl) ?_
      refine zz_cVi (cs := zcM cI cZ q (zst a) im kp (fa_fill a.2.2.2.2.2.1 lf (2 ^ a.1)) rw fn kn) (As := []) (rest := []) ⟨hx, hb, hml, hown, hts⟩ (c_X3_places l D cI cZ hs ta q a im kp (fa_fill a.2.2.2.2.2.1 lf (2 ^ a.1)) rw fn kn hI.1.2) (cwV 0 hts gX3_seen_X3_places rfl rfl rfl (by decide +kernel) ⟨Nat.le_of_ble_eq_true rfl, Nat.le_of_ble_eq_true rfl⟩) (va_recv hK hP (ci := 3) (q0 := 0) rfl rfl) hP hD hG hS hAz rfl hl.1 rfl (Nat.le_of_ble_eq_true rfl) ⟨Nat.zero_le _, Nat.zero_le _⟩ dX3_seen_34 (fun r_3 er_3 => ?_)
      subst er_3
      refine lv_iconst (v := 2) hx hb dX3_seen_37 (by decide) ?_
      refine lv_idiv hx hb dX3_seen_38 (by decide) ?_
      refine zz_topi (nI ((2 ^ a.1) / 2)) (zz_divn rfl (show (2 : Int32) = nI 2 from rfl) (by have := zNp hI; omega) (by decide) (by decide)) ?_
      refine lv_istore (lv' := [(4, .int (nI ((2 ^ a.1) / 2))), (3, .int 0), (0, .ref (q 0)), (1, .int (nI k)), (2, .int (nI w))]) hx hb dX3_seen_39 hl (by decide) rfl (fun ls hl => ?_)
      have hl : lv_has ls 10 [(4, .int (nI (zhf a.1 0))), (3, .int (nI ((zsn a.2.2.2.2.2.1 a.1 k w 0).2))), (0, .ref (q 0)), (1, .int (nI k)), (2, .int (nI w))] := hl
      refine zz_forHJ (P := fun H locs g => W p l e _ s m _ below meth c H locs _ _ _ g) (nL := 10) (a.1) (fun i => [(4, .int (nI (zhf a.1 i))), (3, .int (nI ((zsn a.2.2.2.2.2.1 a.1 k w i).2))), (0, .ref (q 0)), (1, .int (nI k)), (2, .int (nI w))]) (fun i H locs => ∃ l1 : Nat → Int32, (∀ y, y < 2 ^ (a.1 - i) → l1 y = (zsn a.2.2.2.2.2.1 a.1 k w i).1 y) ∧ va_P D vwCl (zcM cI cZ q (zst a) im kp l1 rw fn kn) H ∧ va_D A (zcM cI cZ q (zst a) im kp l1 rw fn kn) ∧ va_S A s.heap H locs) (J := fun _ => True) ?_ ?_ (⟨_, fun y hy => fa_fill_in hy, hP, hD, hS⟩) (trivial) ((lv_sub hl [0, 1, 2, 3, 4] rfl))
      · intro H locs ls hJ hI0 hl
        obtain ⟨l1, hEx, hP, hD, hS⟩ := hI0
        refine lv_iload hx hb dX3_seen_41 (lv_at hl 0 rfl) ?_
        refine lv_if_le (tgt := 175) hx hb dX3_seen_43 (by decide) (fun c_4 => ?_) (fun c_4 => ?_)
        · replace c_4 := Int32.not_lt.mpr c_4
          refine lv_aload_n hx hb dX3_seen_175 rfl (lv_at hl 2 rfl) ?_
          refine va_get (ci := 3) (C := RX3) (T := TX3) (N := 7) hx hb hts hiX3 hown hK hP 0 rfl rfl 3 (by decide) hf20 (fun _ h9 => h9) rfl dX3_seen_176 ?_
          refine lv_iconst (v := 0) hx hb dX3_seen_179 (by decide) ?_
          refine zz_iald hx hb hK hP 4 0 rfl rfl (i := 0) (show (0 : Int32) = nI 0 from rfl) (by decide) (by decide) dX3_seen_180 ?_
          refine zz_topi (zsee a.2.2.2.2.2.1 a.1 k w) (hEx 0 (Nat.two_pow_pos _)) ?_
          exact W.iret (v := (zsee a.2.2.2.2.2.1 a.1 k w)) hx hb hr (fun t9 ht hW => ⟨⟨_, l1, rfl, (rfl), zP_ht ht hP⟩, hS.F ht⟩) hS.2.2 dX3_seen_181
        · replace c_4 := Int32.not_le.mp c_4
          exact absurd c_4 (by unfold zhf; rw [Nat.sub_self]; decide)
      · intro i hi hJ ihi H locs ls hI0 hl
        obtain ⟨l1, hEx, hP, hD, hS⟩ := hI0
        have hin := zsn_in a.2.2.2.2.2.1 (w := w) hk2 i (Nat.le_of_lt hi)
        have hb2 := zbit_half hin.1 hin.2.1 hin.2.2 hi
        have hz8 := zhf_le (i := i) hI.1.2
        have hs16 := zsn_16 hI a.2.2.2.2.2.1 k w (Nat.le_of_lt hi)
        have hz2 : 2 * zhf a.1 i ≤ 16 := by omega
        refine lv_iload hx hb dX3_seen_41 (lv_at hl 0 rfl) ?_
        refine lv_if_le (tgt := 175) hx hb dX3_seen_43 (by decide) (fun c_5 => ?_) (fun c_5 => ?_)
        · replace c_5 := Int32.not_lt.mpr c_5
          exact absurd (nI_lt (zhf_pos hi) (by omega)) c_5
        · replace c_5 := Int32.not_le.mp c_5
          refine lv_iload_n hx hb dX3_seen_46 rfl (lv_at hl 3 rfl) ?_
          refine lv_iload_n hx hb dX3_seen_47 rfl (lv_at hl 1 rfl) ?_
          refine lv_iload hx hb dX3_seen_48 (lv_at hl 0 rfl) ?_
          refine lv_iadd hx hb dX3_seen_50 ?_
          refine zz_topi (nI (((zsn a.2.2.2.2.2.1 a.1 k w i).2) + (zhf a.1 i))) (zz_addn rfl rfl) ?_
          refine lv_icmp_ge (tgt := 58) hx hb dX3_seen_51 (by decide) (fun c_6 => ?_) (fun c_6 => ?_)
          · replace c_6 := Int32.not_lt.mpr c_6
            replace c_6 := hb2.mpr (Nat.le_of_not_lt (fun q => c_6 (nI_lt q (by omega))))
            refine lv_iconst (v := 0) hx hb dX3_seen_58 (by decide) ?_
            refine lv_istore (lv' := [(5, .int 0), (4, .int (nI (zhf a.1 i))), (3, .int (nI ((zsn a.2.2.2.2.2.1 a.1 k w i).2))), (0, .ref (q 0)), (1, .int (nI k)), (2, .int (nI w))]) hx hb dX3_seen_59 hl (by decide) rfl (fun ls hl => ?_)
            refine lv_iload_n hx hb dX3_seen_61 rfl (lv_at hl 5 rfl) ?_
            refine lv_iload_n hx hb dX3_seen_62 rfl (lv_at hl 2 rfl) ?_
            refine lv_iload hx hb dX3_seen_63 (lv_at hl 1 rfl) ?_
            refine zz_pSi (As := [.int (nI w), .int (nI ((zsn a.2.2.2.2.2.1 a.1 k w i).2)), .int (nI (zhf a.1 i))]) (rest := []) ⟨hx, hb, hml, hown, hts⟩ (c_X3_codedOf l w ((zsn a.2.2.2.2.2.1 a.1 k w i).2) (zhf a.1 i) (a.1 - 1 - i) (zhf_eq hi) (by have := hI.1.2; omega) hw (by omega)) (va_cwS 3 hts gX3_seen_X3_codedOf rfl rfl rfl (by decide +kernel) ⟨Nat.le_of_ble_eq_true rfl, Nat.le_of_ble_eq_true rfl⟩) rfl hl.1 rfl (Nat.le_of_ble_eq_true rfl) ⟨Nat.zero_le _, Nat.zero_le _⟩ dX3_seen_65 (fun r_7 er_7 => ?_)
            subst er_7
            refine lv_istore (lv' := [(6, .int (nI (zcod ((w >>> ((zsn a.2.2.2.2.2.1 a.1 k w i).2)) &&& (2 ^ (zhf a.1 i) - 1))))), (5, .int 0), (4, .int (nI (zhf a.1 i))), (3, .int (nI ((zsn a.2.2.2.2.2.1 a.1 k w i).2))), (0, .ref (q 0)), (1, .int (nI k)), (2, .int (nI w))]) hx hb dX3_seen_68 hl (by decide) rfl (fun ls hl => ?_)
            refine lv_iconst (v := 0) hx hb dX3_seen_70 (by decide) ?_
            refine lv_istore (lv' := [(7, .int 0), (6, .int (nI (zcod ((w >>> ((zsn a.2.2.2.2.2.1 a.1 k w i).2)) &&& (2 ^ (zhf a.1 i) - 1))))), (5, .int 0), (4, .int (nI (zhf a.1 i))), (3, .int (nI ((zsn a.2.2.2.2.2.1 a.1 k w i).2))), (0, .ref (q 0)), (1, .int (nI k)), (2, .int (nI w))]) hx hb dX3_seen_71 hl (by decide) rfl (fun ls hl => ?_)
            have hl : lv_has ls 10 [(7, .int (nI 0)), (6, .int (nI (zcod ((w >>> ((zsn a.2.2.2.2.2.1 a.1 k w i).2)) &&& (2 ^ (zhf a.1 i) - 1))))), (5, .int 0), (4, .int (nI (zhf a.1 i))), (3, .int (nI ((zsn a.2.2.2.2.2.1 a.1 k w i).2))), (0, .ref (q 0)), (1, .int (nI k)), (2, .int (nI w))] := hl
            refine zz_forHJ (P := fun H locs g => W p l e _ s m _ below meth c H locs _ _ _ g) (nL := 10) (zhf a.1 i) (fun j => [(7, .int (nI j)), (6, .int (nI (zcod ((w >>> ((zsn a.2.2.2.2.2.1 a.1 k w i).2)) &&& (2 ^ (zhf a.1 i) - 1))))), (5, .int 0), (4, .int (nI (zhf a.1 i))), (3, .int (nI ((zsn a.2.2.2.2.2.1 a.1 k w i).2))), (0, .ref (q 0)), (1, .int (nI k)), (2, .int (nI w))]) (fun j H locs => va_P D vwCl (zcM cI cZ q (zst a) im kp (zg2 (zhf a.1 i) (zcod ((w >>> (zsn a.2.2.2.2.2.1 a.1 k w i).2) &&& (2 ^ zhf a.1 i - 1))) l1 j) rw fn kn) H ∧ va_D A (zcM cI cZ q (zst a) im kp (zg2 (zhf a.1 i) (zcod ((w >>> (zsn a.2.2.2.2.2.1 a.1 k w i).2) &&& (2 ^ zhf a.1 i - 1))) l1 j) rw fn kn) ∧ va_S A s.heap H locs) (J := fun _ => True) ?_ ?_ (⟨by rw [zg2_0]; exact hP, by rw [zg2_0]; exact hD, hS⟩) (trivial) ((lv_sub hl [0, 1, 2, 3, 4, 5, 6, 7] rfl))
            · intro H locs ls hJ hI0 hl
              obtain ⟨hP, hD, hS⟩ := hI0
              refine lv_iload hx hb dX3_seen_73 (lv_at hl 0 rfl) ?_
              refine lv_iload hx hb dX3_seen_75 (lv_at hl 3 rfl) ?_
              refine lv_icmp_ge (tgt := 152) hx hb dX3_seen_77 (by decide) (fun c_8 => ?_) (fun c_8 => ?_)
              · replace c_8 := Int32.not_lt.mpr c_8
                refine lv_iload_n hx hb dX3_seen_152 rfl (lv_at hl 4 rfl) ?_
                refine lv_iload hx hb dX3_seen_153 (lv_at hl 2 rfl) ?_
                refine lv_if_eq (tgt := 162) hx hb dX3_seen_155 (by decide) (fun c_9 => ?_) (fun c_9 => ?_)
                · refine lv_iload hx hb dX3_seen_162 (lv_at hl 3 rfl) ?_
                  refine lv_iadd hx hb dX3_seen_164 ?_
                  refine zz_topi (nI (((zsn a.2.2.2.2.2.1 a.1 k w i).2) + (zhf a.1 i))) (zz_addn rfl rfl) ?_
                  refine lv_istore_n (lv' := [(3, .int (nI (((zsn a.2.2.2.2.2.1 a.1 k w i).2) + (zhf a.1 i)))), (7, .int (nI ((zhf a.1 i)))), (6, .int (nI (zcod ((w >>> ((zsn a.2.2.2.2.2.1 a.1 k w i).2)) &&& (2 ^ (zhf a.1 i) - 1))))), (5, .int 0), (4, .int (nI (zhf a.1 i))), (0, .ref (q 0)), (1, .int (nI k)), (2, .int (nI w))]) hx hb dX3_seen_165 rfl hl (by decide) rfl (fun ls hl => ?_)
                  refine lv_iload hx hb dX3_seen_166 (lv_at hl 4 rfl) ?_
                  refine lv_iconst (v := 2) hx hb dX3_seen_168 (by decide) ?_
                  refine lv_idiv hx hb dX3_seen_169 (by decide) ?_
                  refine zz_topi (nI (zhf a.1 (i + 1))) (by rw [zz_divn rfl (show (2 : Int32) = nI 2 from rfl) (by omega) (by decide) (by decide), ← zhf_next, Nat.shiftRight_eq_div_pow]) ?_
                  refine lv_istore (lv' := [(4, .int (nI (zhf a.1 (i + 1)))), (3, .int (nI (((zsn a.2.2.2.2.2.1 a.1 k w i).2) + (zhf a.1 i)))), (7, .int (nI ((zhf a.1 i)))), (6, .int (nI (zcod ((w >>> ((zsn a.2.2.2.2.2.1 a.1 k w i).2)) &&& (2 ^ (zhf a.1 i) - 1))))), (5, .int 0), (0, .ref (q 0)), (1, .int (nI k)), (2, .int (nI w))]) hx hb dX3_seen_170 hl (by decide) rfl (fun ls hl => ?_)
                  refine lv_goto (tgt := 41) hx hb dX3_seen_172 (by decide) ?_
                  rw [show ((nI (((zsn a.2.2.2.2.2.1 a.1 k w i).2) + (zhf a.1 i))) : Int32) = (nI ((zsn a.2.2.2.2.2.1 a.1 k w (i + 1)).2)) from by simp only [zsn, c_2, c_5, c_6, c_8, c_9, not_true_eq_false, not_false_eq_true, and_self, and_true, true_and, and_false, false_and, or_self, or_true, true_or, or_false, false_or, if_true, if_false, ↓reduceIte, Bool.false_eq_true, iff_self, iff_true, iff_false, true_iff, false_iff, Nat.add_zero, Nat.or_zero]] at hl
                  exact ihi (trivial) _ _ ls (⟨_, zsee_j2 hi hEx c_6, hP, hD, hS⟩) (lv_sub hl [0, 1, 5, 6, 7] rfl)
                · exact absurd c_9 (by decide)
              · replace c_8 := Int32.not_le.mp c_8
                exact absurd c_8 (nI_nlt (Nat.le_refl _) (by omega))
            · intro j hj hJ ihj H locs ls hI0 hl
              obtain ⟨hP, hD, hS⟩ := hI0
              refine lv_iload hx hb dX3_seen_73 (lv_at hl 0 rfl) ?_
              refine lv_iload hx hb dX3_seen_75 (lv_at hl 3 rfl) ?_
              refine lv_icmp_ge (tgt := 152) hx hb dX3_seen_77 (by decide) (fun c_10 => ?_) (fun c_10 => ?_)
              · replace c_10 := Int32.not_lt.mpr c_10
                exact absurd (nI_lt hj (by omega)) c_10
              · replace c_10 := Int32.not_le.mp c_10
                refine lv_aload_n hx hb dX3_seen_80 rfl (lv_at hl 5 rfl) ?_
                refine va_get (ci := 3) (C := RX3) (T := TX3) (N := 7) hx hb hts hiX3 hown hK hP 0 rfl rfl 3 (by decide) hf20 (fun _ h9 => h9) rfl dX3_seen_81 ?_
                refine lv_iload hx hb dX3_seen_84 (lv_at hl 0 rfl) ?_
                refine zz_iald hx hb hK hP 4 0 rfl rfl (i := j) rfl (by omega) (by decide) dX3_seen_86 ?_
                refine zz_topi (l1 j) (zg2_hi (by omega)) ?_
                refine zz_topi (l1 j) (rfl) ?_
                refine lv_istore (lv' := [(8, .int (l1 j)), (7, .int (nI j)), (6, .int (nI (zcod ((w >>> ((zsn a.2.2.2.2.2.1 a.1 k w i).2)) &&& (2 ^ (zhf a.1 i) - 1))))), (5, .int 0), (4, .int (nI (zhf a.1 i))), (3, .int (nI ((zsn a.2.2.2.2.2.1 a.1 k w i).2))), (0, .ref (q 0)), (1, .int (nI k)), (2, .int (nI w))]) hx hb dX3_seen_87 hl (by decide) rfl (fun ls hl => ?_)
                refine lv_aload_n hx hb dX3_seen_89 rfl (lv_at hl 6 rfl) ?_
                refine va_get (ci := 3) (C := RX3) (T := TX3) (N := 7) hx hb hts hiX3 hown hK hP 0 rfl rfl 3 (by decide) hf20 (fun _ h9 => h9) rfl dX3_seen_90 ?_
                refine lv_iload hx hb dX3_seen_93 (lv_at hl 1 rfl) ?_
                refine lv_iload hx hb dX3_seen_95 (lv_at hl 4 rfl) ?_
                refine lv_iadd hx hb dX3_seen_97 ?_
                refine zz_topi (nI (j + (zhf a.1 i))) (zz_addn rfl rfl) ?_
                refine zz_iald hx hb hK hP 4 0 rfl rfl (i := j + (zhf a.1 i)) rfl (by omega) (by decide) dX3_seen_98 ?_
                refine zz_topi (l1 (j + zhf a.1 i)) (zg2_hi (by omega)) ?_
                refine zz_topi (l1 (j + zhf a.1 i)) (rfl) ?_
                refine lv_istore (lv' := [(9, .int (l1 (j + zhf a.1 i))), (8, .int (l1 j)), (7, .int (nI j)), (6, .int (nI (zcod ((w >>> ((zsn a.2.2.2.2.2.1 a.1 k w i).2)) &&& (2 ^ (zhf a.1 i) - 1))))), (5, .int 0), (4, .int (nI (zhf a.1 i))), (3, .int (nI ((zsn a.2.2.2.2.2.1 a.1 k w i).2))), (0, .ref (q 0)), (1, .int (nI k)), (2, .int (nI w))]) hx hb dX3_seen_99 hl (by decide) rfl (fun ls hl => ?_)
                refine lv_aload_n hx hb dX3_seen_101 rfl (lv_at hl 7 rfl) ?_
                refine va_get (ci := 3) (C := RX3) (T := TX3) (N := 7) hx hb hts hiX3 hown hK hP 0 rfl rfl 3 (by decide) hf20 (fun _ h9 => h9) rfl dX3_seen_102 ?_
                refine lv_iload hx hb dX3_seen_105 (lv_at hl 2 rfl) ?_
                refine lv_iload hx hb dX3_seen_107 (lv_at hl 4 rfl) ?_
                refine lv_if_eq (tgt := 122) hx hb dX3_seen_109 (by decide) (fun c_11 => ?_) (fun c_11 => ?_)
                · refine lv_iload hx hb dX3_seen_122 (lv_at hl 3 rfl) ?_
                  refine lv_iload hx hb dX3_seen_124 (lv_at hl 2 rfl) ?_
                  refine lv_ishr hx hb dX3_seen_126 ?_
                  refine zz_topi (nI ((zcod ((w >>> ((zsn a.2.2.2.2.2.1 a.1 k w i).2)) &&& (2 ^ (zhf a.1 i) - 1))) >>> j)) (zz_shrn rfl rfl (by have := zcod_lt (show ((w >>> (zsn a.2.2.2.2.2.1 a.1 k w i).2) &&& (2 ^ zhf a.1 i - 1)) < 65536 from Nat.lt_of_le_of_lt (Nat.le_trans Nat.and_le_left (Nat.shiftRight_le _ _)) hw); omega) (by omega)) ?_
                  refine lv_iconst (v := 1) hx hb dX3_seen_127 (by decide) ?_
                  refine lv_iand hx hb dX3_seen_128 ?_
                  refine zz_topi (nI (((zcod ((w >>> ((zsn a.2.2.2.2.2.1 a.1 k w i).2)) &&& (2 ^ (zhf a.1 i) - 1))) >>> j) &&& 1)) (zz_andn rfl (show (1 : Int32) = nI 1 from rfl)) ?_
                  refine lv_if_ne (tgt := 140) hx hb dX3_seen_129 (by decide) (fun c_12 => ?_) (fun c_12 => ?_)
                  · replace c_12 := Classical.not_not.mp (fun q => zI_n0 c_12 (zbit_0.mpr q))
                    refine lv_iload hx hb dX3_seen_140 (lv_at hl 0 rfl) ?_
                    refine lv_iload hx hb dX3_seen_142 (lv_at hl 1 rfl) ?_
                    refine lv_isub hx hb dX3_seen_144 ?_
                    refine zz_iast hx hb hK hP hD hS 4 0 rfl rfl (i := j) rfl (by omega) (by decide) dX3_seen_145 (fun H locs hP hD hS => ?_)
                    have hP : va_P D vwCl (zcM cI cZ q (zst a) im kp (upd (zg2 (zhf a.1 i) (zcod ((w >>> (zsn a.2.2.2.2.2.1 a.1 k w i).2) &&& (2 ^ zhf a.1 i - 1))) l1 j) j ((l1 (j + zhf a.1 i)) - (l1 j))) rw fn kn) H := hP
                    have hD : va_D A (zcM cI cZ q (zst a) im kp (upd (zg2 (zhf a.1 i) (zcod ((w >>> (zsn a.2.2.2.2.2.1 a.1 k w i).2) &&& (2 ^ zhf a.1 i - 1))) l1 j) j ((l1 (j + zhf a.1 i)) - (l1 j))) rw fn kn) := hD
                    rw [zg2_s2 (v := ((l1 (j + zhf a.1 i)) - (l1 j))) hj (by simp only [c_12, not_true_eq_false, not_false_eq_true, and_self, and_true, true_and, and_false, false_and, or_self, or_true, true_or, or_false, false_or, if_true, if_false, ↓reduceIte, Bool.false_eq_true, iff_self, iff_true, iff_false, true_iff, false_iff, Nat.add_zero, Nat.or_zero, Int32.sub_eq_add_neg])] at hP hD
                    have hP : va_P D vwCl (zcM cI cZ q (zst a) im kp (zg2 (zhf a.1 i) (zcod ((w >>> (zsn a.2.2.2.2.2.1 a.1 k w i).2) &&& (2 ^ zhf a.1 i - 1))) l1 (j + 1)) rw fn kn) H := hP
                    have hD : va_D A (zcM cI cZ q (zst a) im kp (zg2 (zhf a.1 i) (zcod ((w >>> (zsn a.2.2.2.2.2.1 a.1 k w i).2) &&& (2 ^ zhf a.1 i - 1))) l1 (j + 1)) rw fn kn) := hD
                    refine lv_iinc (v := (nI (j + 1))) (lv' := [(7, .int (nI (j + 1))), (9, .int (l1 (j + zhf a.1 i))), (8, .int (l1 j)), (6, .int (nI (zcod ((w >>> ((zsn a.2.2.2.2.2.1 a.1 k w i).2)) &&& (2 ^ (zhf a.1 i) - 1))))), (5, .int 0), (4, .int (nI (zhf a.1 i))), (3, .int (nI ((zsn a.2.2.2.2.2.1 a.1 k w i).2))), (0, .ref (q 0)), (1, .int (nI k)), (2, .int (nI w))]) hx hb dX3_seen_146 hl (k := 2) rfl (zz_inc _) (by decide) rfl (fun ls hl => ?_)
                    refine lv_goto (tgt := 73) hx hb dX3_seen_149 (by decide) ?_
                    have hl : lv_has ls 10 [(7, .int (nI ((j + 1)))), (9, .int (l1 (j + zhf a.1 i))), (8, .int (l1 j)), (6, .int (nI (zcod ((w >>> ((zsn a.2.2.2.2.2.1 a.1 k w i).2)) &&& (2 ^ (zhf a.1 i) - 1))))), (5, .int 0), (4, .int (nI (zhf a.1 i))), (3, .int (nI ((zsn a.2.2.2.2.2.1 a.1 k w i).2))), (0, .ref (q 0)), (1, .int (nI k)), (2, .int (nI w))] := hl
                    exact ihj (trivial) _ _ ls (⟨hP, hD, hS⟩) (lv_sub hl [0, 3, 4, 5, 6, 7, 8, 9] rfl)
                  · replace c_12 := zbit_0.mp (zI_0 (zand1 _) c_12)
                    refine lv_iload hx hb dX3_seen_132 (lv_at hl 0 rfl) ?_
                    refine lv_iload hx hb dX3_seen_134 (lv_at hl 1 rfl) ?_
                    refine lv_iadd hx hb dX3_seen_136 ?_
                    refine lv_goto (tgt := 145) hx hb dX3_seen_137 (by decide) ?_
                    refine zz_iast hx hb hK hP hD hS 4 0 rfl rfl (i := j) rfl (by omega) (by decide) dX3_seen_145 (fun H locs hP hD hS => ?_)
                    have hP : va_P D vwCl (zcM cI cZ q (zst a) im kp (upd (zg2 (zhf a.1 i) (zcod ((w >>> (zsn a.2.2.2.2.2.1 a.1 k w i).2) &&& (2 ^ zhf a.1 i - 1))) l1 j) j ((l1 (j + zhf a.1 i)) + (l1 j))) rw fn kn) H := hP
                    have hD : va_D A (zcM cI cZ q (zst a) im kp (upd (zg2 (zhf a.1 i) (zcod ((w >>> (zsn a.2.2.2.2.2.1 a.1 k w i).2) &&& (2 ^ zhf a.1 i - 1))) l1 j) j ((l1 (j + zhf a.1 i)) + (l1 j))) rw fn kn) := hD
                    rw [zg2_s2 (v := ((l1 (j + zhf a.1 i)) + (l1 j))) hj (by simp only [c_12, not_true_eq_false, not_false_eq_true, and_self, and_true, true_and, and_false, false_and, or_self, or_true, true_or, or_false, false_or, if_true, if_false, ↓reduceIte, Bool.false_eq_true, iff_self, iff_true, iff_false, true_iff, false_iff, Nat.add_zero, Nat.or_zero, Int32.sub_eq_add_neg])] at hP hD
                    have hP : va_P D vwCl (zcM cI cZ q (zst a) im kp (zg2 (zhf a.1 i) (zcod ((w >>> (zsn a.2.2.2.2.2.1 a.1 k w i).2) &&& (2 ^ zhf a.1 i - 1))) l1 (j + 1)) rw fn kn) H := hP
                    have hD : va_D A (zcM cI cZ q (zst a) im kp (zg2 (zhf a.1 i) (zcod ((w >>> (zsn a.2.2.2.2.2.1 a.1 k w i).2) &&& (2 ^ zhf a.1 i - 1))) l1 (j + 1)) rw fn kn) := hD
                    refine lv_iinc (v := (nI (j + 1))) (lv' := [(7, .int (nI (j + 1))), (9, .int (l1 (j + zhf a.1 i))), (8, .int (l1 j)), (6, .int (nI (zcod ((w >>> ((zsn a.2.2.2.2.2.1 a.1 k w i).2)) &&& (2 ^ (zhf a.1 i) - 1))))), (5, .int 0), (4, .int (nI (zhf a.1 i))), (3, .int (nI ((zsn a.2.2.2.2.2.1 a.1 k w i).2))), (0, .ref (q 0)), (1, .int (nI k)), (2, .int (nI w))]) hx hb dX3_seen_146 hl (k := 2) rfl (zz_inc _) (by decide) rfl (fun ls hl => ?_)
                    refine lv_goto (tgt := 73) hx hb dX3_seen_149 (by decide) ?_
                    have hl : lv_has ls 10 [(7, .int (nI ((j + 1)))), (9, .int (l1 (j + zhf a.1 i))), (8, .int (l1 j)), (6, .int (nI (zcod ((w >>> ((zsn a.2.2.2.2.2.1 a.1 k w i).2)) &&& (2 ^ (zhf a.1 i) - 1))))), (5, .int 0), (4, .int (nI (zhf a.1 i))), (3, .int (nI ((zsn a.2.2.2.2.2.1 a.1 k w i).2))), (0, .ref (q 0)), (1, .int (nI k)), (2, .int (nI w))] := hl
                    exact ihj (trivial) _ _ ls (⟨hP, hD, hS⟩) (lv_sub hl [0, 3, 4, 5, 6, 7, 8, 9] rfl)
                · exact absurd c_11 (by decide)
          · replace c_6 := Int32.not_le.mp c_6
            replace c_6 : ¬ k.testBit (a.1 - 1 - i) = true := fun q => absurd (hb2.mp q) (Nat.not_le.mpr ((nI_ltI (by have := zNp hI; omega) (by omega)).mp c_6))
            refine lv_iconst (v := 1) hx hb dX3_seen_54 (by decide) ?_
            refine lv_goto (tgt := 59) hx hb dX3_seen_55 (by decide) ?_
            refine lv_istore (lv' := [(5, .int 1), (4, .int (nI (zhf a.1 i))), (3, .int (nI ((zsn a.2.2.2.2.2.1 a.1 k w i).2))), (0, .ref (q 0)), (1, .int (nI k)), (2, .int (nI w))]) hx hb dX3_seen_59 hl (by decide) rfl (fun ls hl => ?_)
            refine lv_iload_n hx hb dX3_seen_61 rfl (lv_at hl 5 rfl) ?_
            refine lv_iload_n hx hb dX3_seen_62 rfl (lv_at hl 2 rfl) ?_
            refine lv_iload hx hb dX3_seen_63 (lv_at hl 1 rfl) ?_
            refine zz_pSi (As := [.int (nI w), .int (nI ((zsn a.2.2.2.2.2.1 a.1 k w i).2)), .int (nI (zhf a.1 i))]) (rest := []) ⟨hx, hb, hml, hown, hts⟩ (c_X3_codedOf l w ((zsn a.2.2.2.2.2.1 a.1 k w i).2) (zhf a.1 i) (a.1 - 1 - i) (zhf_eq hi) (by have := hI.1.2; omega) hw (by omega)) (va_cwS 3 hts gX3_seen_X3_codedOf rfl rfl rfl (by decide +kernel) ⟨Nat.le_of_ble_eq_true rfl, Nat.le_of_ble_eq_true rfl⟩) rfl hl.1 rfl (Nat.le_of_ble_eq_true rfl) ⟨Nat.zero_le _, Nat.zero_le _⟩ dX3_seen_65 (fun r_13 er_13 => ?_)
            subst er_13
            refine lv_istore (lv' := [(6, .int (nI (zcod ((w >>> ((zsn a.2.2.2.2.2.1 a.1 k w i).2)) &&& (2 ^ (zhf a.1 i) - 1))))), (5, .int 1), (4, .int (nI (zhf a.1 i))), (3, .int (nI ((zsn a.2.2.2.2.2.1 a.1 k w i).2))), (0, .ref (q 0)), (1, .int (nI k)), (2, .int (nI w))]) hx hb dX3_seen_68 hl (by decide) rfl (fun ls hl => ?_)
            refine lv_iconst (v := 0) hx hb dX3_seen_70 (by decide) ?_
            refine lv_istore (lv' := [(7, .int 0), (6, .int (nI (zcod ((w >>> ((zsn a.2.2.2.2.2.1 a.1 k w i).2)) &&& (2 ^ (zhf a.1 i) - 1))))), (5, .int 1), (4, .int (nI (zhf a.1 i))), (3, .int (nI ((zsn a.2.2.2.2.2.1 a.1 k w i).2))), (0, .ref (q 0)), (1, .int (nI k)), (2, .int (nI w))]) hx hb dX3_seen_71 hl (by decide) rfl (fun ls hl => ?_)
            have hl : lv_has ls 10 [(7, .int (nI 0)), (6, .int (nI (zcod ((w >>> ((zsn a.2.2.2.2.2.1 a.1 k w i).2)) &&& (2 ^ (zhf a.1 i) - 1))))), (5, .int 1), (4, .int (nI (zhf a.1 i))), (3, .int (nI ((zsn a.2.2.2.2.2.1 a.1 k w i).2))), (0, .ref (q 0)), (1, .int (nI k)), (2, .int (nI w))] := hl
            refine zz_forHJ (P := fun H locs g => W p l e _ s m _ below meth c H locs _ _ _ g) (nL := 10) (zhf a.1 i) (fun j => [(7, .int (nI j)), (6, .int (nI (zcod ((w >>> ((zsn a.2.2.2.2.2.1 a.1 k w i).2)) &&& (2 ^ (zhf a.1 i) - 1))))), (5, .int 1), (4, .int (nI (zhf a.1 i))), (3, .int (nI ((zsn a.2.2.2.2.2.1 a.1 k w i).2))), (0, .ref (q 0)), (1, .int (nI k)), (2, .int (nI w))]) (fun j H locs => va_P D vwCl (zcM cI cZ q (zst a) im kp (zg1 (zhf a.1 i) l1 j) rw fn kn) H ∧ va_D A (zcM cI cZ q (zst a) im kp (zg1 (zhf a.1 i) l1 j) rw fn kn) ∧ va_S A s.heap H locs) (J := fun _ => True) ?_ ?_ (⟨by rw [zg1_0]; exact hP, by rw [zg1_0]; exact hD, hS⟩) (trivial) ((lv_sub hl [0, 1, 2, 3, 4, 5, 6, 7] rfl))
            · intro H locs ls hJ hI0 hl
              obtain ⟨hP, hD, hS⟩ := hI0
              refine lv_iload hx hb dX3_seen_73 (lv_at hl 0 rfl) ?_
              refine lv_iload hx hb dX3_seen_75 (lv_at hl 3 rfl) ?_
              refine lv_icmp_ge (tgt := 152) hx hb dX3_seen_77 (by decide) (fun c_14 => ?_) (fun c_14 => ?_)
              · replace c_14 := Int32.not_lt.mpr c_14
                refine lv_iload_n hx hb dX3_seen_152 rfl (lv_at hl 4 rfl) ?_
                refine lv_iload hx hb dX3_seen_153 (lv_at hl 2 rfl) ?_
                refine lv_if_eq (tgt := 162) hx hb dX3_seen_155 (by decide) (fun c_15 => ?_) (fun c_15 => ?_)
                · exact absurd c_15 (by decide)
                · refine lv_iconst (v := 0) hx hb dX3_seen_158 (by decide) ?_
                  refine lv_goto (tgt := 164) hx hb dX3_seen_159 (by decide) ?_
                  refine lv_iadd hx hb dX3_seen_164 ?_
                  refine zz_topi (nI (((zsn a.2.2.2.2.2.1 a.1 k w i).2) + 0)) (zz_addn rfl (show (0 : Int32) = nI 0 from rfl)) ?_
                  refine lv_istore_n (lv' := [(3, .int (nI (((zsn a.2.2.2.2.2.1 a.1 k w i).2) + 0))), (7, .int (nI ((zhf a.1 i)))), (6, .int (nI (zcod ((w >>> ((zsn a.2.2.2.2.2.1 a.1 k w i).2)) &&& (2 ^ (zhf a.1 i) - 1))))), (5, .int 1), (4, .int (nI (zhf a.1 i))), (0, .ref (q 0)), (1, .int (nI k)), (2, .int (nI w))]) hx hb dX3_seen_165 rfl hl (by decide) rfl (fun ls hl => ?_)
                  refine lv_iload hx hb dX3_seen_166 (lv_at hl 4 rfl) ?_
                  refine lv_iconst (v := 2) hx hb dX3_seen_168 (by decide) ?_
                  refine lv_idiv hx hb dX3_seen_169 (by decide) ?_
                  refine zz_topi (nI (zhf a.1 (i + 1))) (by rw [zz_divn rfl (show (2 : Int32) = nI 2 from rfl) (by omega) (by decide) (by decide), ← zhf_next, Nat.shiftRight_eq_div_pow]) ?_
                  refine lv_istore (lv' := [(4, .int (nI (zhf a.1 (i + 1)))), (3, .int (nI (((zsn a.2.2.2.2.2.1 a.1 k w i).2) + 0))), (7, .int (nI ((zhf a.1 i)))), (6, .int (nI (zcod ((w >>> ((zsn a.2.2.2.2.2.1 a.1 k w i).2)) &&& (2 ^ (zhf a.1 i) - 1))))), (5, .int 1), (0, .ref (q 0)), (1, .int (nI k)), (2, .int (nI w))]) hx hb dX3_seen_170 hl (by decide) rfl (fun ls hl => ?_)
                  refine lv_goto (tgt := 41) hx hb dX3_seen_172 (by decide) ?_
                  rw [show ((nI (((zsn a.2.2.2.2.2.1 a.1 k w i).2) + 0)) : Int32) = (nI ((zsn a.2.2.2.2.2.1 a.1 k w (i + 1)).2)) from by simp only [zsn, c_2, c_5, c_6, c_14, c_15, not_true_eq_false, not_false_eq_true, and_self, and_true, true_and, and_false, false_and, or_self, or_true, true_or, or_false, false_or, if_true, if_false, ↓reduceIte, Bool.false_eq_true, iff_self, iff_true, iff_false, true_iff, false_iff, Nat.add_zero, Nat.or_zero]] at hl
                  exact ihi (trivial) _ _ ls (⟨_, zsee_j1 hi hEx c_6, hP, hD, hS⟩) (lv_sub hl [0, 1, 5, 6, 7] rfl)
              · replace c_14 := Int32.not_le.mp c_14
                exact absurd c_14 (nI_nlt (Nat.le_refl _) (by omega))
            · intro j hj hJ ihj H locs ls hI0 hl
              obtain ⟨hP, hD, hS⟩ := hI0
              refine lv_iload hx hb dX3_seen_73 (lv_at hl 0 rfl) ?_
              refine lv_iload hx hb dX3_seen_75 (lv_at hl 3 rfl) ?_
              refine lv_icmp_ge (tgt := 152) hx hb dX3_seen_77 (by decide) (fun c_16 => ?_) (fun c_16 => ?_)
              · replace c_16 := Int32.not_lt.mpr c_16
                exact absurd (nI_lt hj (by omega)) c_16
              · replace c_16 := Int32.not_le.mp c_16
                refine lv_aload_n hx hb dX3_seen_80 rfl (lv_at hl 5 rfl) ?_
                refine va_get (ci := 3) (C := RX3) (T := TX3) (N := 7) hx hb hts hiX3 hown hK hP 0 rfl rfl 3 (by decide) hf20 (fun _ h9 => h9) rfl dX3_seen_81 ?_
                refine lv_iload hx hb dX3_seen_84 (lv_at hl 0 rfl) ?_
                refine zz_iald hx hb hK hP 4 0 rfl rfl (i := j) rfl (by omega) (by decide) dX3_seen_86 ?_
                refine zz_topi (l1 j) (zg1_hi (by omega)) ?_
                refine zz_topi (l1 j) (rfl) ?_
                refine lv_istore (lv' := [(8, .int (l1 j)), (7, .int (nI j)), (6, .int (nI (zcod ((w >>> ((zsn a.2.2.2.2.2.1 a.1 k w i).2)) &&& (2 ^ (zhf a.1 i) - 1))))), (5, .int 1), (4, .int (nI (zhf a.1 i))), (3, .int (nI ((zsn a.2.2.2.2.2.1 a.1 k w i).2))), (0, .ref (q 0)), (1, .int (nI k)), (2, .int (nI w))]) hx hb dX3_seen_87 hl (by decide) rfl (fun ls hl => ?_)
                refine lv_aload_n hx hb dX3_seen_89 rfl (lv_at hl 6 rfl) ?_
                refine va_get (ci := 3) (C := RX3) (T := TX3) (N := 7) hx hb hts hiX3 hown hK hP 0 rfl rfl 3 (by decide) hf20 (fun _ h9 => h9) rfl dX3_seen_90 ?_
                refine lv_iload hx hb dX3_seen_93 (lv_at hl 1 rfl) ?_
                refine lv_iload hx hb dX3_seen_95 (lv_at hl 4 rfl) ?_
                refine lv_iadd hx hb dX3_seen_97 ?_
                refine zz_topi (nI (j + (zhf a.1 i))) (zz_addn rfl rfl) ?_
                refine zz_iald hx hb hK hP 4 0 rfl rfl (i := j + (zhf a.1 i)) rfl (by omega) (by decide) dX3_seen_98 ?_
                refine zz_topi (l1 (j + zhf a.1 i)) (zg1_hi (by omega)) ?_
                refine zz_topi (l1 (j + zhf a.1 i)) (rfl) ?_
                refine lv_istore (lv' := [(9, .int (l1 (j + zhf a.1 i))), (8, .int (l1 j)), (7, .int (nI j)), (6, .int (nI (zcod ((w >>> ((zsn a.2.2.2.2.2.1 a.1 k w i).2)) &&& (2 ^ (zhf a.1 i) - 1))))), (5, .int 1), (4, .int (nI (zhf a.1 i))), (3, .int (nI ((zsn a.2.2.2.2.2.1 a.1 k w i).2))), (0, .ref (q 0)), (1, .int (nI k)), (2, .int (nI w))]) hx hb dX3_seen_99 hl (by decide) rfl (fun ls hl => ?_)
                refine lv_aload_n hx hb dX3_seen_101 rfl (lv_at hl 7 rfl) ?_
                refine va_get (ci := 3) (C := RX3) (T := TX3) (N := 7) hx hb hts hiX3 hown hK hP 0 rfl rfl 3 (by decide) hf20 (fun _ h9 => h9) rfl dX3_seen_102 ?_
                refine lv_iload hx hb dX3_seen_105 (lv_at hl 2 rfl) ?_
                refine lv_iload hx hb dX3_seen_107 (lv_at hl 4 rfl) ?_
                refine lv_if_eq (tgt := 122) hx hb dX3_seen_109 (by decide) (fun c_17 => ?_) (fun c_17 => ?_)
                · exact absurd c_17 (by decide)
                · refine lv_iload hx hb dX3_seen_112 (lv_at hl 1 rfl) ?_
                  refine lv_iload hx hb dX3_seen_114 (lv_at hl 0 rfl) ?_
                  refine zz_pSi (As := [.int (l1 j), .int (l1 (j + zhf a.1 i))]) (rest := [.int (nI j), .ref (q 4)]) ⟨hx, hb, hml, hown, hts⟩ (c_X3_lesser l (l1 j) (l1 (j + zhf a.1 i))) (va_cwS 2 hts gX3_seen_X3_lesser rfl rfl rfl (by decide +kernel) ⟨Nat.le_of_ble_eq_true rfl, Nat.le_of_ble_eq_true rfl⟩) rfl hl.1 rfl (Nat.le_of_ble_eq_true rfl) ⟨Nat.zero_le _, Nat.zero_le _⟩ dX3_seen_116 (fun r_18 er_18 => ?_)
                  subst er_18
                  refine lv_goto (tgt := 145) hx hb dX3_seen_119 (by decide) ?_
                  refine zz_iast hx hb hK hP hD hS 4 0 rfl rfl (i := j) rfl (by omega) (by decide) dX3_seen_145 (fun H locs hP hD hS => ?_)
                  have hP : va_P D vwCl (zcM cI cZ q (zst a) im kp (upd (zg1 (zhf a.1 i) l1 j) j (zwk (l1 j) (l1 (j + zhf a.1 i)))) rw fn kn) H := hP
                  have hD : va_D A (zcM cI cZ q (zst a) im kp (upd (zg1 (zhf a.1 i) l1 j) j (zwk (l1 j) (l1 (j + zhf a.1 i)))) rw fn kn) := hD
                  rw [zg1_s2 hj] at hP hD
                  have hP : va_P D vwCl (zcM cI cZ q (zst a) im kp (zg1 (zhf a.1 i) l1 (j + 1)) rw fn kn) H := hP
                  have hD : va_D A (zcM cI cZ q (zst a) im kp (zg1 (zhf a.1 i) l1 (j + 1)) rw fn kn) := hD
                  refine lv_iinc (v := (nI (j + 1))) (lv' := [(7, .int (nI (j + 1))), (9, .int (l1 (j + zhf a.1 i))), (8, .int (l1 j)), (6, .int (nI (zcod ((w >>> ((zsn a.2.2.2.2.2.1 a.1 k w i).2)) &&& (2 ^ (zhf a.1 i) - 1))))), (5, .int 1), (4, .int (nI (zhf a.1 i))), (3, .int (nI ((zsn a.2.2.2.2.2.1 a.1 k w i).2))), (0, .ref (q 0)), (1, .int (nI k)), (2, .int (nI w))]) hx hb dX3_seen_146 hl (k := 2) rfl (zz_inc _) (by decide) rfl (fun ls hl => ?_)
                  refine lv_goto (tgt := 73) hx hb dX3_seen_149 (by decide) ?_
                  have hl : lv_has ls 10 [(7, .int (nI ((j + 1)))), (9, .int (l1 (j + zhf a.1 i))), (8, .int (l1 j)), (6, .int (nI (zcod ((w >>> ((zsn a.2.2.2.2.2.1 a.1 k w i).2)) &&& (2 ^ (zhf a.1 i) - 1))))), (5, .int 1), (4, .int (nI (zhf a.1 i))), (3, .int (nI ((zsn a.2.2.2.2.2.1 a.1 k w i).2))), (0, .ref (q 0)), (1, .int (nI k)), (2, .int (nI w))] := hl
                  exact ihj (trivial) _ _ ls (⟨hP, hD, hS⟩) (lv_sub hl [0, 3, 4, 5, 6, 7, 8, 9] rfl)
    · replace c_2 := Int32.not_le.mp c_2
      exact absurd c_2 (nI_nlt (Nat.le_refl _) (by have := zNp hI; omega))
  · intro i hi hJ ihi H locs ls hI0 hl
    obtain ⟨hP, hD, hS⟩ := hI0
    refine lv_iload_n hx hb dX3_seen_2 rfl (lv_at hl 0 rfl) ?_
    refine lv_aload_n hx hb dX3_seen_3 rfl (lv_at hl 1 rfl) ?_
    refine zz_cVi (cs := zcM cI cZ q (zst a) im kp (fa_fill a.2.2.2.2.2.1 lf i) rw fn kn) (As := []) (rest := [.int (nI i)]) ⟨hx, hb, hml, hown, hts⟩ (c_X3_places l D cI cZ hs ta q a im kp (fa_fill a.2.2.2.2.2.1 lf i) rw fn kn hI.1.2) (cwV 0 hts gX3_seen_X3_places rfl rfl rfl (by decide +kernel) ⟨Nat.le_of_ble_eq_true rfl, Nat.le_of_ble_eq_true rfl⟩) (va_recv hK hP (ci := 3) (q0 := 0) rfl rfl) hP hD hG hS hAz rfl hl.1 rfl (Nat.le_of_ble_eq_true rfl) ⟨Nat.zero_le _, Nat.zero_le _⟩ dX3_seen_4 (fun r_19 er_19 => ?_)
    subst er_19
    refine lv_icmp_ge (tgt := 31) hx hb dX3_seen_7 (by decide) (fun c_20 => ?_) (fun c_20 => ?_)
    · replace c_20 := Int32.not_lt.mpr c_20
      exact absurd (nI_lt hi (by have := zNp hI; omega)) c_20
    · replace c_20 := Int32.not_le.mp c_20
      refine lv_aload_n hx hb dX3_seen_10 rfl (lv_at hl 1 rfl) ?_
      refine va_get (ci := 3) (C := RX3) (T := TX3) (N := 7) hx hb hts hiX3 hown hK hP 0 rfl rfl 3 (by decide) hf20 (fun _ h9 => h9) rfl dX3_seen_11 ?_
      refine lv_iload_n hx hb dX3_seen_14 rfl (lv_at hl 0 rfl) ?_
      refine lv_aload_n hx hb dX3_seen_15 rfl (lv_at hl 1 rfl) ?_
      refine va_get (ci := 3) (C := RX3) (T := TX3) (N := 7) hx hb hts hiX3 hown hK hP 0 rfl rfl 0 (by decide) hf7 (fun _ h9 => h9) rfl dX3_seen_16 ?_
      refine lv_bipush (v := 8) hx hb dX3_seen_19 (by decide) ?_
      refine lv_iload_n hx hb dX3_seen_21 rfl (lv_at hl 0 rfl) ?_
      refine lv_iadd hx hb dX3_seen_22 ?_
      refine zz_topi (nI (8 + i)) (zz_addn (show (8 : Int32) = nI 8 from rfl) rfl) ?_
      refine zz_iald hx hb hK hP 1 0 rfl rfl (i := 8 + i) rfl (by have := zNp hI; omega) (by decide) dX3_seen_23 ?_
      refine zz_topi (a.2.2.2.2.2.1 i) (zst_me _ _) ?_
      refine zz_iast hx hb hK hP hD hS 4 0 rfl rfl (i := i) rfl (by have := zNp hI; omega) (by decide) dX3_seen_24 (fun H locs hP hD hS => ?_)
      have hP : va_P D vwCl (zcM cI cZ q (zst a) im kp (upd (fa_fill a.2.2.2.2.2.1 lf i) i (a.2.2.2.2.2.1 i)) rw fn kn) H := hP
      have hD : va_D A (zcM cI cZ q (zst a) im kp (upd (fa_fill a.2.2.2.2.2.1 lf i) i (a.2.2.2.2.2.1 i)) rw fn kn) := hD
      rw [fa_fill_succ a.2.2.2.2.2.1] at hP hD
      have hP : va_P D vwCl (zcM cI cZ q (zst a) im kp (fa_fill a.2.2.2.2.2.1 lf (i + 1)) rw fn kn) H := hP
      have hD : va_D A (zcM cI cZ q (zst a) im kp (fa_fill a.2.2.2.2.2.1 lf (i + 1)) rw fn kn) := hD
      refine lv_iinc (v := (nI (i + 1))) (lv' := [(3, .int (nI (i + 1))), (0, .ref (q 0)), (1, .int (nI k)), (2, .int (nI w))]) hx hb dX3_seen_25 hl (k := 0) rfl (zz_inc _) (by decide) rfl (fun ls hl => ?_)
      refine lv_goto (tgt := 2) hx hb dX3_seen_28 (by decide) ?_
      have hl : lv_has ls 10 [(3, .int (nI ((i + 1)))), (0, .ref (q 0)), (1, .int (nI k)), (2, .int (nI w))] := hl
      exact ihi (trivial) _ _ ls (⟨hP, hD, hS⟩) (lv_sub hl [0, 1, 2, 3] rfl)
set_option maxHeartbeats 4000000 in
set_option maxRecDepth 100000 in
theorem c_X3_readAll (l : Launch) (D : va_G) (cI cZ : ClassId) (hs ta : Nat) (sz : Nat) (q : Nat → Nat) (a : ZA) (im : Nat → Int32) (kp : Nat → Int32) (lf : Nat → Int32) (rw : Nat → Int32) (fn : Nat → Int32) (kn : Nat) (hI : zInv a) : Met l yX3_readAll wsX3_readAll ({ frames := 3, cells := 0, slots := 0, locals := 73 }) (va_Pc [.ref (q 0)] (fun U => U.heap.size = sz ∧ zPre D (zTy cI cZ) hs ta (zcM cI cZ q (zst a) im kp lf rw fn kn) U)) (va_Qi (fun (r : Int32) (u : Nat → Int32) => r = nI (zrr a (2 ^ a.1))) (fun (u : Nat → Int32) t9 => va_P D vwCl (zcM cI cZ q (zst a) im kp u rw fn kn) t9.heap) (va_A (zcM cI cZ q (zst a) im kp lf rw fn kn) sz)) 0 0 (va_A (zcM cI cZ q (zst a) im kp lf rw fn kn) sz) := by
  refine Met.ofW (cc := cX3_readAll) (maxL := 4) (ret := (some .int)) (by decide) rfl ?_
  intro p e s m args below meth c s₁ B hml hv0
  obtain ⟨rfl, hsz, hP, hD0, hG⟩ := hv0
  have hx := B.exec
  have hb := B.bytes
  have hr := B.returns
  have hts := atoms_spec (ws := wsX3_readAll) B.pre
  have hown : s.vm.findClass RX3 = some m.cls := findClass_of_methodNamed B.named
  have hlocks := B.notSynchronized
  subst hsz
  have hD := hD0.self (sz := s.heap.size)
  have hAz0 : ∀ y9, va_A (zcM cI cZ q (zst a) im kp lf rw fn kn) s.heap.size y9 → hs ≤ y9 := zA_of hD0 (fun y9 h => Nat.le_trans hG.2.2.2.2 h) (va_S.rf (A := zA hs) (H0 := s.heap))
  generalize hAe : va_A (zcM cI cZ q (zst a) im kp lf rw fn kn) s.heap.size = A at hD hAz0 ⊢
  have hA : ∀ y9 : Nat, s.heap.size ≤ y9 → A y9 := fun y9 h => by rw [← hAe]; exact Or.inr h
  have hS : va_S A s.heap s.heap [] := va_S.rf
  have hAz : ∀ y9, A y9 → hs ≤ y9 := hAz0
  have hK := hG.1
  have hl := lv_entry ([.ref (q 0)]) (n := 4) (Nat.le_of_ble_eq_true rfl)
  rw [lg_entry_eq]
  generalize (lg_sl ([.ref (q 0)]) ++ List.replicate (4 - (lg_sl ([.ref (q 0)])).length) Slot.unset).toArray = ls at hl ⊢
  have hl : lv_has ls 4 [(0, .ref (q 0))] := hl
  refine lv_iconst (v := 0) hx hb dX3_readAll_0 (by decide) ?_
  refine lv_istore_n (lv' := [(1, .int 0), (0, .ref (q 0))]) hx hb dX3_readAll_1 rfl hl (by decide) rfl (fun ls hl => ?_)
  refine lv_iconst (v := 0) hx hb dX3_readAll_2 (by decide) ?_
  refine lv_istore_n (lv' := [(2, .int 0), (1, .int 0), (0, .ref (q 0))]) hx hb dX3_readAll_3 rfl hl (by decide) rfl (fun ls hl => ?_)
  have hl : lv_has ls 4 [(2, .int (nI 0)), (1, .int (nI (zrr a 0))), (0, .ref (q 0))] := hl
  refine zz_forHJ (P := fun H locs g => W p l e _ s m _ below meth c H locs _ _ _ g) (nL := 4) (2 ^ a.1) (fun i => [(2, .int (nI i)), (1, .int (nI (zrr a i))), (0, .ref (q 0))]) (fun i H locs => ∃ l1 : Nat → Int32, va_P D vwCl (zcM cI cZ q (zst a) im kp l1 rw fn kn) H ∧ va_D A (zcM cI cZ q (zst a) im kp l1 rw fn kn) ∧ va_S A s.heap H locs) (J := fun _ => True) ?_ ?_ (⟨_, hP, hD, hS⟩) (trivial) ((lv_sub hl [0, 1, 2] rfl))
  · intro H locs ls hJ hI0 hl
    obtain ⟨l1, hP, hD, hS⟩ := hI0
    refine lv_iload_n hx hb dX3_readAll_4 rfl (lv_at hl 0 rfl) ?_
    refine lv_aload_n hx hb dX3_readAll_5 rfl (lv_at hl 2 rfl) ?_
    refine zz_cVi (cs := zcM cI cZ q (zst a) im kp l1 rw fn kn) (As := []) (rest := [.int (nI ((2 ^ a.1)))]) ⟨hx, hb, hml, hown, hts⟩ (c_X3_places l D cI cZ hs ta q a im kp l1 rw fn kn hI.1.2) (cwV 0 hts gX3_readAll_X3_places rfl rfl rfl (by decide +kernel) ⟨Nat.le_of_ble_eq_true rfl, Nat.le_of_ble_eq_true rfl⟩) (va_recv hK hP (ci := 3) (q0 := 0) rfl rfl) hP hD hG hS hAz rfl hl.1 rfl (Nat.le_of_ble_eq_true rfl) ⟨Nat.zero_le _, Nat.zero_le _⟩ dX3_readAll_6 (fun r_1 er_1 => ?_)
    subst er_1
    refine lv_icmp_ge (tgt := 59) hx hb dX3_readAll_9 (by decide) (fun c_2 => ?_) (fun c_2 => ?_)
    · replace c_2 := Int32.not_lt.mpr c_2
      refine lv_iload_n hx hb dX3_readAll_59 rfl (lv_at hl 1 rfl) ?_
      exact W.iret (v := (nI (zrr a (2 ^ a.1)))) hx hb hr (fun t9 ht hW => ⟨⟨_, l1, rfl, (rfl), zP_ht ht hP⟩, hS.F ht⟩) hS.2.2 dX3_readAll_60
    · replace c_2 := Int32.not_le.mp c_2
      exact absurd c_2 (nI_nlt (Nat.le_refl _) (by have := zNp hI; omega))
  · intro i hi hJ ihi H locs ls hI0 hl
    obtain ⟨l1, hP, hD, hS⟩ := hI0
    refine lv_iload_n hx hb dX3_readAll_4 rfl (lv_at hl 0 rfl) ?_
    refine lv_aload_n hx hb dX3_readAll_5 rfl (lv_at hl 2 rfl) ?_
    refine zz_cVi (cs := zcM cI cZ q (zst a) im kp l1 rw fn kn) (As := []) (rest := [.int (nI i)]) ⟨hx, hb, hml, hown, hts⟩ (c_X3_places l D cI cZ hs ta q a im kp l1 rw fn kn hI.1.2) (cwV 0 hts gX3_readAll_X3_places rfl rfl rfl (by decide +kernel) ⟨Nat.le_of_ble_eq_true rfl, Nat.le_of_ble_eq_true rfl⟩) (va_recv hK hP (ci := 3) (q0 := 0) rfl rfl) hP hD hG hS hAz rfl hl.1 rfl (Nat.le_of_ble_eq_true rfl) ⟨Nat.zero_le _, Nat.zero_le _⟩ dX3_readAll_6 (fun r_3 er_3 => ?_)
    subst er_3
    refine lv_icmp_ge (tgt := 59) hx hb dX3_readAll_9 (by decide) (fun c_4 => ?_) (fun c_4 => ?_)
    · replace c_4 := Int32.not_lt.mpr c_4
      exact absurd (nI_lt hi (by have := zNp hI; omega)) c_4
    · replace c_4 := Int32.not_le.mp c_4
      refine lv_aload_n hx hb dX3_readAll_12 rfl (lv_at hl 2 rfl) ?_
      refine zz_cVi (cs := zcM cI cZ q (zst a) im kp l1 rw fn kn) (As := []) (rest := []) ⟨hx, hb, hml, hown, hts⟩ (c_X3_free l D cI cZ hs ta q a im kp l1 rw fn kn hI) (cwV 0 hts gX3_readAll_X3_free rfl rfl rfl (by decide +kernel) ⟨Nat.le_of_ble_eq_true rfl, Nat.le_of_ble_eq_true rfl⟩) (va_recv hK hP (ci := 3) (q0 := 0) rfl rfl) hP hD hG hS hAz rfl hl.1 rfl (Nat.le_of_ble_eq_true rfl) ⟨Nat.zero_le _, Nat.zero_le _⟩ dX3_readAll_13 (fun r_5 er_5 => ?_)
      subst er_5
      refine lv_iload_n hx hb dX3_readAll_16 rfl (lv_at hl 0 rfl) ?_
      refine lv_ishr hx hb dX3_readAll_17 ?_
      refine zz_topi (nI ((zfre a) >>> i)) (zz_shrn rfl rfl (by have := zfre_lt hI; omega) (by have := zNp hI; omega)) ?_
      refine lv_iconst (v := 1) hx hb dX3_readAll_18 (by decide) ?_
      refine lv_iand hx hb dX3_readAll_19 ?_
      refine zz_topi (nI (((zfre a) >>> i) &&& 1)) (zz_andn rfl (show (1 : Int32) = nI 1 from rfl)) ?_
      refine lv_iconst (v := 1) hx hb dX3_readAll_20 (by decide) ?_
      refine lv_icmp_ne (tgt := 37) hx hb dX3_readAll_21 (by decide) (fun c_6 => ?_) (fun c_6 => ?_)
      · replace c_6 := Classical.not_not.mp (fun q => c_6 ((zI_1 (zand1 _)).mpr ((zfre_1 hI hi).mpr q)))
        refine lv_iconst (v := 0) hx hb dX3_readAll_37 (by decide) ?_
        refine lv_istore_n (lv' := [(3, .int 0), (2, .int (nI i)), (1, .int (nI (zrr a i))), (0, .ref (q 0))]) hx hb dX3_readAll_38 rfl hl (by decide) rfl (fun ls hl => ?_)
        refine lv_iload_n hx hb dX3_readAll_39 rfl (lv_at hl 2 rfl) ?_
        refine lv_iload_n hx hb dX3_readAll_40 rfl (lv_at hl 0 rfl) ?_
        refine lv_if_eq (tgt := 50) hx hb dX3_readAll_41 (by decide) (fun c_7 => ?_) (fun c_7 => ?_)
        · refine lv_iconst (v := 0) hx hb dX3_readAll_50 (by decide) ?_
          refine lv_ior hx hb dX3_readAll_51 ?_
          refine zz_topi (nI ((zrr a i) ||| 0)) (zz_orn rfl (show (0 : Int32) = nI 0 from rfl)) ?_
          refine lv_istore_n (lv' := [(1, .int (nI ((zrr a i) ||| 0))), (3, .int 0), (2, .int (nI i)), (0, .ref (q 0))]) hx hb dX3_readAll_52 rfl hl (by decide) rfl (fun ls hl => ?_)
          refine lv_iinc (v := (nI (i + 1))) (lv' := [(2, .int (nI (i + 1))), (1, .int (nI ((zrr a i) ||| 0))), (3, .int 0), (0, .ref (q 0))]) hx hb dX3_readAll_53 hl (k := 2) rfl (zz_inc _) (by decide) rfl (fun ls hl => ?_)
          refine lv_goto (tgt := 4) hx hb dX3_readAll_56 (by decide) ?_
          rw [show ((nI ((zrr a i) ||| 0)) : Int32) = (nI (zrr a (i + 1))) from by simp only [zrr, c_4, c_6, c_7, not_true_eq_false, not_false_eq_true, and_self, and_true, true_and, and_false, false_and, or_self, or_true, true_or, or_false, false_or, if_true, if_false, ↓reduceIte, Bool.false_eq_true, iff_self, iff_true, iff_false, true_iff, false_iff, Nat.add_zero, Nat.or_zero]] at hl
          have hl : lv_has ls 4 [(2, .int (nI ((i + 1)))), (1, .int (nI (zrr a (i + 1)))), (3, .int 0), (0, .ref (q 0))] := hl
          exact ihi (trivial) _ _ ls (⟨_, hP, hD, hS⟩) (lv_sub hl [0, 1, 3] rfl)
        · exact absurd c_7 (by decide)
      · replace c_6 := (zfre_1 hI hi).mp ((zI_1 (zand1 _)).mp c_6)
        refine lv_aload_n hx hb dX3_readAll_24 rfl (lv_at hl 2 rfl) ?_
        refine lv_iload_n hx hb dX3_readAll_25 rfl (lv_at hl 0 rfl) ?_
        refine lv_iload_n hx hb dX3_readAll_26 rfl (lv_at hl 1 rfl) ?_
        refine zz_mVi (ct := (fun (u : Nat → Int32) => zcM cI cZ q (zst a) im kp u rw fn kn)) (cs := zcM cI cZ q (zst a) im kp l1 rw fn kn) (As := [.int (nI i), .int (nI (zrr a i))]) (rest := []) ⟨hx, hb, hml, hown, hts⟩ (c_X3_seen l D cI cZ hs ta H.size q a im kp l1 rw fn kn i (zrr a i) hI hi (zrr_16 a (by have := zNp hI; omega))) (fun _ => rfl) (cwV 2 hts gX3_readAll_X3_seen rfl rfl rfl (by decide +kernel) ⟨Nat.le_of_ble_eq_true rfl, Nat.le_of_ble_eq_true rfl⟩) (va_recv hK hP (ci := 3) (q0 := 0) rfl rfl) hP hD hG hS hA hAz rfl hl.1 rfl (Nat.le_of_ble_eq_true rfl) ⟨Nat.zero_le _, Nat.zero_le _⟩ dX3_readAll_27 (fun r_8 u_9 H locs eu_9 hP hD hS => ?_)
        subst eu_9
        have hP : va_P D vwCl (zcM cI cZ q (zst a) im kp u_9 rw fn kn) H := hP
        have hD : va_D A (zcM cI cZ q (zst a) im kp u_9 rw fn kn) := hD
        refine lv_if_ge (tgt := 37) hx hb dX3_readAll_30 (by decide) (fun c_10 => ?_) (fun c_10 => ?_)
        · replace c_10 := Int32.not_lt.mpr c_10
          refine lv_iconst (v := 0) hx hb dX3_readAll_37 (by decide) ?_
          refine lv_istore_n (lv' := [(3, .int 0), (2, .int (nI i)), (1, .int (nI (zrr a i))), (0, .ref (q 0))]) hx hb dX3_readAll_38 rfl hl (by decide) rfl (fun ls hl => ?_)
          refine lv_iload_n hx hb dX3_readAll_39 rfl (lv_at hl 2 rfl) ?_
          refine lv_iload_n hx hb dX3_readAll_40 rfl (lv_at hl 0 rfl) ?_
          refine lv_if_eq (tgt := 50) hx hb dX3_readAll_41 (by decide) (fun c_11 => ?_) (fun c_11 => ?_)
          · refine lv_iconst (v := 0) hx hb dX3_readAll_50 (by decide) ?_
            refine lv_ior hx hb dX3_readAll_51 ?_
            refine zz_topi (nI ((zrr a i) ||| 0)) (zz_orn rfl (show (0 : Int32) = nI 0 from rfl)) ?_
            refine lv_istore_n (lv' := [(1, .int (nI ((zrr a i) ||| 0))), (3, .int 0), (2, .int (nI i)), (0, .ref (q 0))]) hx hb dX3_readAll_52 rfl hl (by decide) rfl (fun ls hl => ?_)
            refine lv_iinc (v := (nI (i + 1))) (lv' := [(2, .int (nI (i + 1))), (1, .int (nI ((zrr a i) ||| 0))), (3, .int 0), (0, .ref (q 0))]) hx hb dX3_readAll_53 hl (k := 2) rfl (zz_inc _) (by decide) rfl (fun ls hl => ?_)
            refine lv_goto (tgt := 4) hx hb dX3_readAll_56 (by decide) ?_
            rw [show ((nI ((zrr a i) ||| 0)) : Int32) = (nI (zrr a (i + 1))) from by simp only [zrr, c_4, c_6, c_10, c_11, not_true_eq_false, not_false_eq_true, and_self, and_true, true_and, and_false, false_and, or_self, or_true, true_or, or_false, false_or, if_true, if_false, ↓reduceIte, Bool.false_eq_true, iff_self, iff_true, iff_false, true_iff, false_iff, Nat.add_zero, Nat.or_zero]] at hl
            have hl : lv_has ls 4 [(2, .int (nI ((i + 1)))), (1, .int (nI (zrr a (i + 1)))), (3, .int 0), (0, .ref (q 0))] := hl
            exact ihi (trivial) _ _ ls (⟨_, hP, hD, hS⟩) (lv_sub hl [0, 1, 3] rfl)
          · exact absurd c_11 (by decide)
        · replace c_10 := Int32.not_le.mp c_10
          refine lv_iconst (v := 1) hx hb dX3_readAll_33 (by decide) ?_
          refine lv_goto (tgt := 38) hx hb dX3_readAll_34 (by decide) ?_
          refine lv_istore_n (lv' := [(3, .int 1), (2, .int (nI i)), (1, .int (nI (zrr a i))), (0, .ref (q 0))]) hx hb dX3_readAll_38 rfl hl (by decide) rfl (fun ls hl => ?_)
          refine lv_iload_n hx hb dX3_readAll_39 rfl (lv_at hl 2 rfl) ?_
          refine lv_iload_n hx hb dX3_readAll_40 rfl (lv_at hl 0 rfl) ?_
          refine lv_if_eq (tgt := 50) hx hb dX3_readAll_41 (by decide) (fun c_12 => ?_) (fun c_12 => ?_)
          · exact absurd c_12 (by decide)
          · refine lv_iconst (v := 1) hx hb dX3_readAll_44 (by decide) ?_
            refine lv_iload_n hx hb dX3_readAll_45 rfl (lv_at hl 1 rfl) ?_
            refine lv_ishl hx hb dX3_readAll_46 ?_
            refine zz_topi (nI (2 ^ i)) (zz_shl1n rfl (by have := zNp hI; omega)) ?_
            refine lv_goto (tgt := 51) hx hb dX3_readAll_47 (by decide) ?_
            refine lv_ior hx hb dX3_readAll_51 ?_
            refine zz_topi (nI ((zrr a i) ||| (2 ^ i))) (zz_orn rfl rfl) ?_
            refine lv_istore_n (lv' := [(1, .int (nI ((zrr a i) ||| (2 ^ i)))), (3, .int 1), (2, .int (nI i)), (0, .ref (q 0))]) hx hb dX3_readAll_52 rfl hl (by decide) rfl (fun ls hl => ?_)
            refine lv_iinc (v := (nI (i + 1))) (lv' := [(2, .int (nI (i + 1))), (1, .int (nI ((zrr a i) ||| (2 ^ i)))), (3, .int 1), (0, .ref (q 0))]) hx hb dX3_readAll_53 hl (k := 2) rfl (zz_inc _) (by decide) rfl (fun ls hl => ?_)
            refine lv_goto (tgt := 4) hx hb dX3_readAll_56 (by decide) ?_
            rw [show ((nI ((zrr a i) ||| (2 ^ i))) : Int32) = (nI (zrr a (i + 1))) from by simp only [zrr, c_4, c_6, c_10, c_12, not_true_eq_false, not_false_eq_true, and_self, and_true, true_and, and_false, false_and, or_self, or_true, true_or, or_false, false_or, if_true, if_false, ↓reduceIte, Bool.false_eq_true, iff_self, iff_true, iff_false, true_iff, false_iff, Nat.add_zero, Nat.or_zero]] at hl
            have hl : lv_has ls 4 [(2, .int (nI ((i + 1)))), (1, .int (nI (zrr a (i + 1)))), (3, .int 1), (0, .ref (q 0))] := hl
            exact ihi (trivial) _ _ ls (⟨_, hP, hD, hS⟩) (lv_sub hl [0, 1, 3] rfl)
set_option maxHeartbeats 4000000 in
set_option maxRecDepth 100000 in
theorem c_X3_measure (l : Launch) (D : va_G) (cI cZ : ClassId) (hs ta : Nat) (sz : Nat) (q : Nat → Nat) (a : ZA) (im : Nat → Int32) (kp : Nat → Int32) (lf : Nat → Int32) (rw : Nat → Int32) (fn : Nat → Int32) (kn : Nat) (p0 : Int32) (p1 : Int32) (hI : zInv a) : Met l yX3_measure wsX3_measure ({ frames := 4, cells := 0, slots := 0, locals := 96 }) (va_Pc [.ref (q 0), .int p0, .int p1] (fun U => U.heap.size = sz ∧ zPre D (zTy cI cZ) hs ta (zcM cI cZ q (zst a) im kp lf rw fn kn) U)) (va_Qi (fun (r : Int32) (u : Nat → Int32) => r = zq_measure a p0 p1) (fun (u : Nat → Int32) t9 => va_P D vwCl (zcM cI cZ q (zst a) im kp u rw fn kn) t9.heap) (va_A (zcM cI cZ q (zst a) im kp lf rw fn kn) sz)) 0 0 (va_A (zcM cI cZ q (zst a) im kp lf rw fn kn) sz) := by
  refine Met.ofW (cc := cX3_measure) (maxL := 3) (ret := (some .int)) (by decide) rfl ?_
  intro p e s m args below meth c s₁ B hml hv0
  obtain ⟨rfl, hsz, hP, hD0, hG⟩ := hv0
  have hx := B.exec
  have hb := B.bytes
  have hr := B.returns
  have hts := atoms_spec (ws := wsX3_measure) B.pre
  have hown : s.vm.findClass RX3 = some m.cls := findClass_of_methodNamed B.named
  have hlocks := B.notSynchronized
  subst hsz
  have hD := hD0.self (sz := s.heap.size)
  have hAz0 : ∀ y9, va_A (zcM cI cZ q (zst a) im kp lf rw fn kn) s.heap.size y9 → hs ≤ y9 := zA_of hD0 (fun y9 h => Nat.le_trans hG.2.2.2.2 h) (va_S.rf (A := zA hs) (H0 := s.heap))
  generalize hAe : va_A (zcM cI cZ q (zst a) im kp lf rw fn kn) s.heap.size = A at hD hAz0 ⊢
  have hA : ∀ y9 : Nat, s.heap.size ≤ y9 → A y9 := fun y9 h => by rw [← hAe]; exact Or.inr h
  have hS : va_S A s.heap s.heap [] := va_S.rf
  have hAz : ∀ y9, A y9 → hs ≤ y9 := hAz0
  have hK := hG.1
  have hl := lv_entry ([.ref (q 0), .int p0, .int p1]) (n := 3) (Nat.le_of_ble_eq_true rfl)
  rw [lg_entry_eq]
  generalize (lg_sl ([.ref (q 0), .int p0, .int p1]) ++ List.replicate (3 - (lg_sl ([.ref (q 0), .int p0, .int p1])).length) Slot.unset).toArray = ls at hl ⊢
  have hl : lv_has ls 3 [(0, .ref (q 0)), (1, .int p0), (2, .int p1)] := hl
  have hf7 := hts (.fieldLink RX3 7 "FrozenBitsModel" "state" "[I") (List.mem_of_getElem? (i := 3) rfl)
  have hiX3 : ∀ w ∈ u_ws RX3 TX3 7, w ∈ wsX3_measure := fun w h => List.mem_cons_of_mem _ (List.mem_append_right _ h)
  have hc86 := hts (.constant RX3 86 (-1000002)) (List.mem_of_getElem? (i := 2) rfl)
  have hc85 := hts (.constant RX3 85 (-1000001)) (List.mem_of_getElem? (i := 1) rfl)
  refine lv_aload_n hx hb dX3_measure_0 rfl (lv_at hl 0 rfl) ?_
  refine lv_iload_n hx hb dX3_measure_1 rfl (lv_at hl 1 rfl) ?_
  refine zz_cVi (cs := zcM cI cZ q (zst a) im kp lf rw fn kn) (As := [.int p0]) (rest := []) ⟨hx, hb, hml, hown, hts⟩ (c_X3_isPlace l D cI cZ hs ta q a im kp lf rw fn kn p0 hI) (cwV 1 hts gX3_measure_X3_isPlace rfl rfl rfl (by decide +kernel) ⟨Nat.le_of_ble_eq_true rfl, Nat.le_of_ble_eq_true rfl⟩) (va_recv hK hP (ci := 3) (q0 := 0) rfl rfl) hP hD hG hS hAz rfl hl.1 rfl (Nat.le_of_ble_eq_true rfl) ⟨Nat.zero_le _, Nat.zero_le _⟩ dX3_measure_2 (fun r_1 er_1 => ?_)
  refine lv_if_ne (tgt := 11) hx hb dX3_measure_5 (by decide) (fun c_2 => ?_) (fun c_2 => ?_)
  · replace c_2 := zB_t er_1 c_2
    refine lv_iload_n hx hb dX3_measure_11 rfl (lv_at hl 2 rfl) ?_
    refine lv_iconst (v := 0) hx hb dX3_measure_12 (by decide) ?_
    refine lv_iconst (v := 1) hx hb dX3_measure_13 (by decide) ?_
    refine zz_pSi (As := [.int p1, .int 0, .int 1]) (rest := []) ⟨hx, hb, hml, hown, hts⟩ (c_X3_in l p1 0 1) (va_cwS 3 hts gX3_measure_X3_in rfl rfl rfl (by decide +kernel) ⟨Nat.le_of_ble_eq_true rfl, Nat.le_of_ble_eq_true rfl⟩) rfl hl.1 rfl (Nat.le_of_ble_eq_true rfl) ⟨Nat.zero_le _, Nat.zero_le _⟩ dX3_measure_14 (fun r_3 er_3 => ?_)
    refine lv_if_ne (tgt := 23) hx hb dX3_measure_17 (by decide) (fun c_4 => ?_) (fun c_4 => ?_)
    · replace c_4 := zB_t er_3 c_4
      obtain ⟨k0, hk0, rfl⟩ := zr0 c_2 (by have := zNp hI; omega)
      refine lv_iload_n hx hb dX3_measure_23 rfl (lv_at hl 2 rfl) ?_
      refine lv_if_ne (tgt := 39) hx hb dX3_measure_24 (by decide) (fun c_5 => ?_) (fun c_5 => ?_)
      · refine lv_aload_n hx hb dX3_measure_39 rfl (lv_at hl 0 rfl) ?_
        refine lv_iload_n hx hb dX3_measure_40 rfl (lv_at hl 1 rfl) ?_
        refine lv_aload_n hx hb dX3_measure_41 rfl (lv_at hl 0 rfl) ?_
        refine zz_mVi (ct := (fun (u : Nat → Int32) => zcM cI cZ q (zst a) im kp u rw fn kn)) (cs := zcM cI cZ q (zst a) im kp lf rw fn kn) (As := []) (rest := [.int (nI k0), .ref (q 0)]) ⟨hx, hb, hml, hown, hts⟩ (c_X3_readAll l D cI cZ hs ta s.heap.size q a im kp lf rw fn kn hI) (fun _ => rfl) (cwV 0 hts gX3_measure_X3_readAll rfl rfl rfl (by decide +kernel) ⟨Nat.le_of_ble_eq_true rfl, Nat.le_of_ble_eq_true rfl⟩) (va_recv hK hP (ci := 3) (q0 := 0) rfl rfl) hP hD hG hS hA hAz rfl hl.1 rfl (Nat.le_of_ble_eq_true rfl) ⟨Nat.zero_le _, Nat.zero_le _⟩ dX3_measure_42 (fun r_6 u_7 H locs eu_7 hP hD hS => ?_)
        subst eu_7
        have hP : va_P D vwCl (zcM cI cZ q (zst a) im kp u_7 rw fn kn) H := hP
        have hD : va_D A (zcM cI cZ q (zst a) im kp u_7 rw fn kn) := hD
        refine zz_mVi (ct := (fun (u : Nat → Int32) => zcM cI cZ q (zst a) im kp u rw fn kn)) (cs := zcM cI cZ q (zst a) im kp u_7 rw fn kn) (As := [.int (nI k0), .int (nI (zrr a (2 ^ a.1)))]) (rest := []) ⟨hx, hb, hml, hown, hts⟩ (c_X3_seen l D cI cZ hs ta H.size q a im kp u_7 rw fn kn k0 (zrr a (2 ^ a.1)) hI hk0 (zrr_16 a (zNp hI))) (fun _ => rfl) (cwV 2 hts gX3_measure_X3_seen rfl rfl rfl (by decide +kernel) ⟨Nat.le_of_ble_eq_true rfl, Nat.le_of_ble_eq_true rfl⟩) (va_recv hK hP (ci := 3) (q0 := 0) rfl rfl) hP hD hG hS hA hAz rfl hl.1 rfl (Nat.le_of_ble_eq_true rfl) ⟨Nat.zero_le _, Nat.zero_le _⟩ dX3_measure_45 (fun r_8 u_9 H locs eu_9 hP hD hS => ?_)
        subst eu_9
        have hP : va_P D vwCl (zcM cI cZ q (zst a) im kp u_9 rw fn kn) H := hP
        have hD : va_D A (zcM cI cZ q (zst a) im kp u_9 rw fn kn) := hD
        exact W.iret (v := (zsee a.2.2.2.2.2.1 a.1 k0 (zrr a (2 ^ a.1)))) hx hb hr (fun t9 ht hW => ⟨⟨_, u_9, rfl, (by simp (decide := true) only [zq_measure, zwm, c_2, c_4, c_5, not_true_eq_false, not_false_eq_true, and_self, and_true, true_and, and_false, false_and, or_self, or_true, true_or, or_false, false_or, if_true, if_false, ↓reduceIte, Bool.false_eq_true, iff_self, iff_true, iff_false, true_iff, false_iff, Nat.add_zero, Nat.or_zero]; rw [zN_nI (by have := zNp hI; omega)]), zP_ht ht hP⟩, hS.F ht⟩) hS.2.2 dX3_measure_48
      · refine lv_aload_n hx hb dX3_measure_27 rfl (lv_at hl 0 rfl) ?_
        refine va_get (ci := 3) (C := RX3) (T := TX3) (N := 7) hx hb hts hiX3 hown hK hP 0 rfl rfl 0 (by decide) hf7 (fun _ h9 => h9) rfl dX3_measure_28 ?_
        refine lv_bipush (v := 8) hx hb dX3_measure_31 (by decide) ?_
        refine lv_iload_n hx hb dX3_measure_33 rfl (lv_at hl 1 rfl) ?_
        refine lv_iadd hx hb dX3_measure_34 ?_
        refine zz_topi (nI (8 + k0)) (zz_addn (show (8 : Int32) = nI 8 from rfl) rfl) ?_
        refine zz_iald hx hb hK hP 1 0 rfl rfl (i := 8 + k0) rfl (by have := zNp hI; omega) (by decide) dX3_measure_35 ?_
        refine zz_topi (a.2.2.2.2.2.1 k0) (zst_me _ _) ?_
        refine lv_goto (tgt := 48) hx hb dX3_measure_36 (by decide) ?_
        exact W.iret (v := (a.2.2.2.2.2.1 k0)) hx hb hr (fun t9 ht hW => ⟨⟨_, lf, rfl, (by simp (decide := true) only [zq_measure, zwm, c_2, c_4, c_5, not_true_eq_false, not_false_eq_true, and_self, and_true, true_and, and_false, false_and, or_self, or_true, true_or, or_false, false_or, if_true, if_false, ↓reduceIte, Bool.false_eq_true, iff_self, iff_true, iff_false, true_iff, false_iff, Nat.add_zero, Nat.or_zero]; rw [zN_nI (by have := zNp hI; omega)]), zP_ht ht hP⟩, hS.F ht⟩) hS.2.2 dX3_measure_48
    · replace c_4 := Classical.not_not.mp (zB_f er_3 c_4)
      refine lv_ldc hx hb hown hc86 dX3_measure_20 ?_
      exact W.iret (v := (-1000002)) hx hb hr (fun t9 ht hW => ⟨⟨_, lf, rfl, (by simp (decide := true) only [zq_measure, zwm, c_2, c_4, not_true_eq_false, not_false_eq_true, and_self, and_true, true_and, and_false, false_and, or_self, or_true, true_or, or_false, false_or, if_true, if_false, ↓reduceIte, Bool.false_eq_true, iff_self, iff_true, iff_false, true_iff, false_iff, Nat.add_zero, Nat.or_zero]), zP_ht ht hP⟩, hS.F ht⟩) hS.2.2 dX3_measure_22
  · replace c_2 := zB_f er_1 c_2
    refine lv_ldc hx hb hown hc85 dX3_measure_8 ?_
    exact W.iret (v := (-1000001)) hx hb hr (fun t9 ht hW => ⟨⟨_, lf, rfl, (by simp (decide := true) only [zq_measure, zwm, c_2, not_true_eq_false, not_false_eq_true, and_self, and_true, true_and, and_false, false_and, or_self, or_true, true_or, or_false, false_or, if_true, if_false, ↓reduceIte, Bool.false_eq_true, iff_self, iff_true, iff_false, true_iff, false_iff, Nat.add_zero, Nat.or_zero]), zP_ht ht hP⟩, hS.F ht⟩) hS.2.2 dX3_measure_10
set_option maxHeartbeats 4000000 in
set_option maxRecDepth 100000 in
theorem c_X3_fineOf (l : Launch) (D : va_G) (cI cZ : ClassId) (hs ta : Nat) (sz : Nat) (q : Nat → Nat) (a : ZA) (im : Nat → Int32) (kp : Nat → Int32) (lf : Nat → Int32) (rw : Nat → Int32) (fn : Nat → Int32) (kn : Nat) (k : Nat) (w : Nat) (hI : zInv a) (hk2 : k < 2 ^ a.1) (hw : w < 65536) : Met l yX3_fineOf wsX3_fineOf ({ frames := 3, cells := 0, slots := 0, locals := 73 }) (va_Pc [.ref (q 0), .int (nI k), .int (nI w)] (fun U => U.heap.size = sz ∧ zPre D (zTy cI cZ) hs ta (zcM cI cZ q (zst a) im kp lf rw fn kn) U)) (va_Qi (fun (r : Int32) (u : Nat → Int32) => r = zfb (zsee a.2.2.2.2.2.1 a.1 k w) (Nat.testBit w k)) (fun (u : Nat → Int32) t9 => va_P D vwCl (zcM cI cZ q (zst a) im kp u rw fn kn) t9.heap) (va_A (zcM cI cZ q (zst a) im kp lf rw fn kn) sz)) 0 0 (va_A (zcM cI cZ q (zst a) im kp lf rw fn kn) sz) := by
  refine Met.ofW (cc := cX3_fineOf) (maxL := 5) (ret := (some .int)) (by decide) rfl ?_
  intro p e s m args below meth c s₁ B hml hv0
  obtain ⟨rfl, hsz, hP, hD0, hG⟩ := hv0
  have hx := B.exec
  have hb := B.bytes
  have hr := B.returns
  have hts := atoms_spec (ws := wsX3_fineOf) B.pre
  have hown : s.vm.findClass RX3 = some m.cls := findClass_of_methodNamed B.named
  have hlocks := B.notSynchronized
  subst hsz
  have hD := hD0.self (sz := s.heap.size)
  have hAz0 : ∀ y9, va_A (zcM cI cZ q (zst a) im kp lf rw fn kn) s.heap.size y9 → hs ≤ y9 := zA_of hD0 (fun y9 h => Nat.le_trans hG.2.2.2.2 h) (va_S.rf (A := zA hs) (H0 := s.heap))
  generalize hAe : va_A (zcM cI cZ q (zst a) im kp lf rw fn kn) s.heap.size = A at hD hAz0 ⊢
  have hA : ∀ y9 : Nat, s.heap.size ≤ y9 → A y9 := fun y9 h => by rw [← hAe]; exact Or.inr h
  have hS : va_S A s.heap s.heap [] := va_S.rf
  have hAz : ∀ y9, A y9 → hs ≤ y9 := hAz0
  have hK := hG.1
  have hl := lv_entry ([.ref (q 0), .int (nI k), .int (nI w)]) (n := 5) (Nat.le_of_ble_eq_true rfl)
  rw [lg_entry_eq]
  generalize (lg_sl ([.ref (q 0), .int (nI k), .int (nI w)]) ++ List.replicate (5 - (lg_sl ([.ref (q 0), .int (nI k), .int (nI w)])).length) Slot.unset).toArray = ls at hl ⊢
  have hl : lv_has ls 5 [(0, .ref (q 0)), (1, .int (nI k)), (2, .int (nI w))] := hl
  refine lv_aload_n hx hb dX3_fineOf_0 rfl (lv_at hl 0 rfl) ?_
  refine lv_iload_n hx hb dX3_fineOf_1 rfl (lv_at hl 1 rfl) ?_
  refine lv_iload_n hx hb dX3_fineOf_2 rfl (lv_at hl 2 rfl) ?_
  refine zz_mVi (ct := (fun (u : Nat → Int32) => zcM cI cZ q (zst a) im kp u rw fn kn)) (cs := zcM cI cZ q (zst a) im kp lf rw fn kn) (As := [.int (nI k), .int (nI w)]) (rest := []) ⟨hx, hb, hml, hown, hts⟩ (c_X3_seen l D cI cZ hs ta s.heap.size q a im kp lf rw fn kn k w hI hk2 hw) (fun _ => rfl) (cwV 2 hts gX3_fineOf_X3_seen rfl rfl rfl (by decide +kernel) ⟨Nat.le_of_ble_eq_true rfl, Nat.le_of_ble_eq_true rfl⟩) (va_recv hK hP (ci := 3) (q0 := 0) rfl rfl) hP hD hG hS hA hAz rfl hl.1 rfl (Nat.le_of_ble_eq_true rfl) ⟨Nat.zero_le _, Nat.zero_le _⟩ dX3_fineOf_3 (fun r_1 u_2 H locs eu_2 hP hD hS => ?_)
  subst eu_2
  have hP : va_P D vwCl (zcM cI cZ q (zst a) im kp u_2 rw fn kn) H := hP
  have hD : va_D A (zcM cI cZ q (zst a) im kp u_2 rw fn kn) := hD
  refine zz_topi (zsee a.2.2.2.2.2.1 a.1 k w) (rfl) ?_
  refine lv_istore_n (lv' := [(3, .int (zsee a.2.2.2.2.2.1 a.1 k w)), (0, .ref (q 0)), (1, .int (nI k)), (2, .int (nI w))]) hx hb dX3_fineOf_6 rfl hl (by decide) rfl (fun ls hl => ?_)
  refine lv_iload_n hx hb dX3_fineOf_7 rfl (lv_at hl 3 rfl) ?_
  refine lv_iload_n hx hb dX3_fineOf_8 rfl (lv_at hl 2 rfl) ?_
  refine lv_ishr hx hb dX3_fineOf_9 ?_
  refine zz_topi (nI (w >>> k)) (zz_shrn rfl rfl (by omega) (by have := zNp hI; omega)) ?_
  refine lv_iconst (v := 1) hx hb dX3_fineOf_10 (by decide) ?_
  refine lv_iand hx hb dX3_fineOf_11 ?_
  refine zz_topi (nI ((w >>> k) &&& 1)) (zz_andn rfl (show (1 : Int32) = nI 1 from rfl)) ?_
  refine lv_iconst (v := 1) hx hb dX3_fineOf_12 (by decide) ?_
  refine lv_icmp_ne (tgt := 20) hx hb dX3_fineOf_13 (by decide) (fun c_3 => ?_) (fun c_3 => ?_)
  · replace c_3 : ¬ w.testBit k = true := fun q => c_3 ((zI_1 (zand1 _)).mpr (zbit_1.mpr q))
    refine lv_iconst (v := 0) hx hb dX3_fineOf_20 (by decide) ?_
    refine lv_istore (lv' := [(4, .int 0), (3, .int (zsee a.2.2.2.2.2.1 a.1 k w)), (0, .ref (q 0)), (1, .int (nI k)), (2, .int (nI w))]) hx hb dX3_fineOf_21 hl (by decide) rfl (fun ls hl => ?_)
    refine lv_iload_n hx hb dX3_fineOf_23 rfl (lv_at hl 1 rfl) ?_
    refine lv_if_ge (tgt := 32) hx hb dX3_fineOf_24 (by decide) (fun c_4 => ?_) (fun c_4 => ?_)
    · replace c_4 := Int32.not_lt.mpr c_4
      refine lv_iload_n hx hb dX3_fineOf_32 rfl (lv_at hl 1 rfl) ?_
      refine lv_if_le (tgt := 48) hx hb dX3_fineOf_33 (by decide) (fun c_5 => ?_) (fun c_5 => ?_)
      · replace c_5 := Int32.not_lt.mpr c_5
        refine lv_iconst (v := 0) hx hb dX3_fineOf_48 (by decide) ?_
        exact W.iret (v := 0) hx hb hr (fun t9 ht hW => ⟨⟨_, u_2, rfl, (by rw [show Nat.testBit w k = false from Bool.eq_false_iff.mpr c_3]; exact zfb_no c_4), zP_ht ht hP⟩, hS.F ht⟩) hS.2.2 dX3_fineOf_49
      · replace c_5 := Int32.not_le.mp c_5
        refine lv_iload hx hb dX3_fineOf_36 (lv_at hl 0 rfl) ?_
        refine lv_if_eq (tgt := 48) hx hb dX3_fineOf_38 (by decide) (fun c_6 => ?_) (fun c_6 => ?_)
        · refine lv_iconst (v := 0) hx hb dX3_fineOf_48 (by decide) ?_
          exact W.iret (v := 0) hx hb hr (fun t9 ht hW => ⟨⟨_, u_2, rfl, (by rw [show Nat.testBit w k = false from Bool.eq_false_iff.mpr c_3]; exact zfb_no c_4), zP_ht ht hP⟩, hS.F ht⟩) hS.2.2 dX3_fineOf_49
        · exact absurd c_6 (by decide)
    · replace c_4 := Int32.not_le.mp c_4
      refine lv_iload hx hb dX3_fineOf_27 (lv_at hl 0 rfl) ?_
      refine lv_if_eq (tgt := 41) hx hb dX3_fineOf_29 (by decide) (fun c_7 => ?_) (fun c_7 => ?_)
      · refine lv_iload_n hx hb dX3_fineOf_41 rfl (lv_at hl 1 rfl) ?_
        refine zz_pSi (As := [.int (zsee a.2.2.2.2.2.1 a.1 k w)]) (rest := []) ⟨hx, hb, hml, hown, hts⟩ (c_X3_plain l (zsee a.2.2.2.2.2.1 a.1 k w)) (va_cwS 1 hts gX3_fineOf_X3_plain rfl rfl rfl (by decide +kernel) ⟨Nat.le_of_ble_eq_true rfl, Nat.le_of_ble_eq_true rfl⟩) rfl hl.1 rfl (Nat.le_of_ble_eq_true rfl) ⟨Nat.zero_le _, Nat.zero_le _⟩ dX3_fineOf_42 (fun r_8 er_8 => ?_)
        subst er_8
        refine lv_goto (tgt := 49) hx hb dX3_fineOf_45 (by decide) ?_
        exact W.iret (v := (zab (zsee a.2.2.2.2.2.1 a.1 k w))) hx hb hr (fun t9 ht hW => ⟨⟨_, u_2, rfl, (by rw [show Nat.testBit w k = false from Bool.eq_false_iff.mpr c_3]; exact zfb_y0 c_4 (zsee_bd hI k w).1), zP_ht ht hP⟩, hS.F ht⟩) hS.2.2 dX3_fineOf_49
      · exact absurd c_7 (by decide)
  · replace c_3 := zbit_1.mp ((zI_1 (zand1 _)).mp c_3)
    refine lv_iconst (v := 1) hx hb dX3_fineOf_16 (by decide) ?_
    refine lv_goto (tgt := 21) hx hb dX3_fineOf_17 (by decide) ?_
    refine lv_istore (lv' := [(4, .int 1), (3, .int (zsee a.2.2.2.2.2.1 a.1 k w)), (0, .ref (q 0)), (1, .int (nI k)), (2, .int (nI w))]) hx hb dX3_fineOf_21 hl (by decide) rfl (fun ls hl => ?_)
    refine lv_iload_n hx hb dX3_fineOf_23 rfl (lv_at hl 1 rfl) ?_
    refine lv_if_ge (tgt := 32) hx hb dX3_fineOf_24 (by decide) (fun c_9 => ?_) (fun c_9 => ?_)
    · replace c_9 := Int32.not_lt.mpr c_9
      refine lv_iload_n hx hb dX3_fineOf_32 rfl (lv_at hl 1 rfl) ?_
      refine lv_if_le (tgt := 48) hx hb dX3_fineOf_33 (by decide) (fun c_10 => ?_) (fun c_10 => ?_)
      · replace c_10 := Int32.not_lt.mpr c_10
        refine lv_iconst (v := 0) hx hb dX3_fineOf_48 (by decide) ?_
        exact W.iret (v := 0) hx hb hr (fun t9 ht hW => ⟨⟨_, u_2, rfl, (by rw [show Nat.testBit w k = true from c_3]; exact zfb_n2 c_10 c_9), zP_ht ht hP⟩, hS.F ht⟩) hS.2.2 dX3_fineOf_49
      · replace c_10 := Int32.not_le.mp c_10
        refine lv_iload hx hb dX3_fineOf_36 (lv_at hl 0 rfl) ?_
        refine lv_if_eq (tgt := 48) hx hb dX3_fineOf_38 (by decide) (fun c_11 => ?_) (fun c_11 => ?_)
        · exact absurd c_11 (by decide)
        · refine lv_iload_n hx hb dX3_fineOf_41 rfl (lv_at hl 1 rfl) ?_
          refine zz_pSi (As := [.int (zsee a.2.2.2.2.2.1 a.1 k w)]) (rest := []) ⟨hx, hb, hml, hown, hts⟩ (c_X3_plain l (zsee a.2.2.2.2.2.1 a.1 k w)) (va_cwS 1 hts gX3_fineOf_X3_plain rfl rfl rfl (by decide +kernel) ⟨Nat.le_of_ble_eq_true rfl, Nat.le_of_ble_eq_true rfl⟩) rfl hl.1 rfl (Nat.le_of_ble_eq_true rfl) ⟨Nat.zero_le _, Nat.zero_le _⟩ dX3_fineOf_42 (fun r_12 er_12 => ?_)
          subst er_12
          refine lv_goto (tgt := 49) hx hb dX3_fineOf_45 (by decide) ?_
          exact W.iret (v := (zab (zsee a.2.2.2.2.2.1 a.1 k w))) hx hb hr (fun t9 ht hW => ⟨⟨_, u_2, rfl, (by rw [show Nat.testBit w k = true from c_3]; exact zfb_y1 c_10), zP_ht ht hP⟩, hS.F ht⟩) hS.2.2 dX3_fineOf_49
    · replace c_9 := Int32.not_le.mp c_9
      refine lv_iload hx hb dX3_fineOf_27 (lv_at hl 0 rfl) ?_
      refine lv_if_eq (tgt := 41) hx hb dX3_fineOf_29 (by decide) (fun c_13 => ?_) (fun c_13 => ?_)
      · exact absurd c_13 (by decide)
      · refine lv_iload_n hx hb dX3_fineOf_32 rfl (lv_at hl 1 rfl) ?_
        refine lv_if_le (tgt := 48) hx hb dX3_fineOf_33 (by decide) (fun c_14 => ?_) (fun c_14 => ?_)
        · replace c_14 := Int32.not_lt.mpr c_14
          refine lv_iconst (v := 0) hx hb dX3_fineOf_48 (by decide) ?_
          exact W.iret (v := 0) hx hb hr (fun t9 ht hW => ⟨⟨_, u_2, rfl, (by rw [show Nat.testBit w k = true from c_3]; exact zfb_n1 c_9), zP_ht ht hP⟩, hS.F ht⟩) hS.2.2 dX3_fineOf_49
        · replace c_14 := Int32.not_le.mp c_14
          refine lv_iload hx hb dX3_fineOf_36 (lv_at hl 0 rfl) ?_
          refine lv_if_eq (tgt := 48) hx hb dX3_fineOf_38 (by decide) (fun c_15 => ?_) (fun c_15 => ?_)
          · exact absurd c_15 (by decide)
          · refine lv_iload_n hx hb dX3_fineOf_41 rfl (lv_at hl 1 rfl) ?_
            refine zz_pSi (As := [.int (zsee a.2.2.2.2.2.1 a.1 k w)]) (rest := []) ⟨hx, hb, hml, hown, hts⟩ (c_X3_plain l (zsee a.2.2.2.2.2.1 a.1 k w)) (va_cwS 1 hts gX3_fineOf_X3_plain rfl rfl rfl (by decide +kernel) ⟨Nat.le_of_ble_eq_true rfl, Nat.le_of_ble_eq_true rfl⟩) rfl hl.1 rfl (Nat.le_of_ble_eq_true rfl) ⟨Nat.zero_le _, Nat.zero_le _⟩ dX3_fineOf_42 (fun r_16 er_16 => ?_)
            subst er_16
            refine lv_goto (tgt := 49) hx hb dX3_fineOf_45 (by decide) ?_
            exact W.iret (v := (zab (zsee a.2.2.2.2.2.1 a.1 k w))) hx hb hr (fun t9 ht hW => ⟨⟨_, u_2, rfl, (by rw [show Nat.testBit w k = true from c_3]; exact zfb_y1 c_14), zP_ht ht hP⟩, hS.F ht⟩) hS.2.2 dX3_fineOf_49
set_option maxHeartbeats 4000000 in
set_option maxRecDepth 100000 in
theorem c_X3_fineOfAll (l : Launch) (D : va_G) (cI cZ : ClassId) (hs ta : Nat) (sz : Nat) (q : Nat → Nat) (a : ZA) (im : Nat → Int32) (kp : Nat → Int32) (lf : Nat → Int32) (rw : Nat → Int32) (fn : Nat → Int32) (kn : Nat) (w : Nat) (hI : zInv a) (hw : w < 65536) : Met l yX3_fineOfAll wsX3_fineOfAll ({ frames := 4, cells := 0, slots := 0, locals := 97 }) (va_Pc [.ref (q 0), .int (nI w)] (fun U => U.heap.size = sz ∧ zPre D (zTy cI cZ) hs ta (zcM cI cZ q (zst a) im kp lf rw fn kn) U)) (va_Qi (fun (r : Int32) (u : Nat → Int32) => r = zfi a.2.2.2.2.2.1 a.1 w (2 ^ a.1)) (fun (u : Nat → Int32) t9 => va_P D vwCl (zcM cI cZ q (zst a) im kp u rw fn kn) t9.heap) (va_A (zcM cI cZ q (zst a) im kp lf rw fn kn) sz)) 0 0 (va_A (zcM cI cZ q (zst a) im kp lf rw fn kn) sz) := by
  refine Met.ofW (cc := cX3_fineOfAll) (maxL := 4) (ret := (some .int)) (by decide) rfl ?_
  intro p e s m args below meth c s₁ B hml hv0
  obtain ⟨rfl, hsz, hP, hD0, hG⟩ := hv0
  have hx := B.exec
  have hb := B.bytes
  have hr := B.returns
  have hts := atoms_spec (ws := wsX3_fineOfAll) B.pre
  have hown : s.vm.findClass RX3 = some m.cls := findClass_of_methodNamed B.named
  have hlocks := B.notSynchronized
  subst hsz
  have hD := hD0.self (sz := s.heap.size)
  have hAz0 : ∀ y9, va_A (zcM cI cZ q (zst a) im kp lf rw fn kn) s.heap.size y9 → hs ≤ y9 := zA_of hD0 (fun y9 h => Nat.le_trans hG.2.2.2.2 h) (va_S.rf (A := zA hs) (H0 := s.heap))
  generalize hAe : va_A (zcM cI cZ q (zst a) im kp lf rw fn kn) s.heap.size = A at hD hAz0 ⊢
  have hA : ∀ y9 : Nat, s.heap.size ≤ y9 → A y9 := fun y9 h => by rw [← hAe]; exact Or.inr h
  have hS : va_S A s.heap s.heap [] := va_S.rf
  have hAz : ∀ y9, A y9 → hs ≤ y9 := hAz0
  have hK := hG.1
  have hl := lv_entry ([.ref (q 0), .int (nI w)]) (n := 4) (Nat.le_of_ble_eq_true rfl)
  rw [lg_entry_eq]
  generalize (lg_sl ([.ref (q 0), .int (nI w)]) ++ List.replicate (4 - (lg_sl ([.ref (q 0), .int (nI w)])).length) Slot.unset).toArray = ls at hl ⊢
  have hl : lv_has ls 4 [(0, .ref (q 0)), (1, .int (nI w))] := hl
  refine lv_iconst (v := 0) hx hb dX3_fineOfAll_0 (by decide) ?_
  refine lv_istore_n (lv' := [(2, .int 0), (0, .ref (q 0)), (1, .int (nI w))]) hx hb dX3_fineOfAll_1 rfl hl (by decide) rfl (fun ls hl => ?_)
  refine lv_iconst (v := 0) hx hb dX3_fineOfAll_2 (by decide) ?_
  refine lv_istore_n (lv' := [(3, .int 0), (2, .int 0), (0, .ref (q 0)), (1, .int (nI w))]) hx hb dX3_fineOfAll_3 rfl hl (by decide) rfl (fun ls hl => ?_)
  have hl : lv_has ls 4 [(3, .int (nI 0)), (2, .int (zfi a.2.2.2.2.2.1 a.1 w 0)), (0, .ref (q 0)), (1, .int (nI w))] := hl
  refine zz_forHJ (P := fun H locs g => W p l e _ s m _ below meth c H locs _ _ _ g) (nL := 4) (2 ^ a.1) (fun i => [(3, .int (nI i)), (2, .int (zfi a.2.2.2.2.2.1 a.1 w i)), (0, .ref (q 0)), (1, .int (nI w))]) (fun i H locs => ∃ l1 : Nat → Int32, va_P D vwCl (zcM cI cZ q (zst a) im kp l1 rw fn kn) H ∧ va_D A (zcM cI cZ q (zst a) im kp l1 rw fn kn) ∧ va_S A s.heap H locs) (J := fun _ => True) ?_ ?_ (⟨_, hP, hD, hS⟩) (trivial) ((lv_sub hl [0, 1, 2, 3] rfl))
  · intro H locs ls hJ hI0 hl
    obtain ⟨l1, hP, hD, hS⟩ := hI0
    refine lv_iload_n hx hb dX3_fineOfAll_4 rfl (lv_at hl 0 rfl) ?_
    refine lv_aload_n hx hb dX3_fineOfAll_5 rfl (lv_at hl 2 rfl) ?_
    refine zz_cVi (cs := zcM cI cZ q (zst a) im kp l1 rw fn kn) (As := []) (rest := [.int (nI ((2 ^ a.1)))]) ⟨hx, hb, hml, hown, hts⟩ (c_X3_places l D cI cZ hs ta q a im kp l1 rw fn kn hI.1.2) (cwV 0 hts gX3_fineOfAll_X3_places rfl rfl rfl (by decide +kernel) ⟨Nat.le_of_ble_eq_true rfl, Nat.le_of_ble_eq_true rfl⟩) (va_recv hK hP (ci := 3) (q0 := 0) rfl rfl) hP hD hG hS hAz rfl hl.1 rfl (Nat.le_of_ble_eq_true rfl) ⟨Nat.zero_le _, Nat.zero_le _⟩ dX3_fineOfAll_6 (fun r_1 er_1 => ?_)
    subst er_1
    refine lv_icmp_ge (tgt := 27) hx hb dX3_fineOfAll_9 (by decide) (fun c_2 => ?_) (fun c_2 => ?_)
    · replace c_2 := Int32.not_lt.mpr c_2
      refine lv_iload_n hx hb dX3_fineOfAll_27 rfl (lv_at hl 1 rfl) ?_
      exact W.iret (v := (zfi a.2.2.2.2.2.1 a.1 w (2 ^ a.1))) hx hb hr (fun t9 ht hW => ⟨⟨_, l1, rfl, (rfl), zP_ht ht hP⟩, hS.F ht⟩) hS.2.2 dX3_fineOfAll_28
    · replace c_2 := Int32.not_le.mp c_2
      exact absurd c_2 (nI_nlt (Nat.le_refl _) (by have := zNp hI; omega))
  · intro i hi hJ ihi H locs ls hI0 hl
    obtain ⟨l1, hP, hD, hS⟩ := hI0
    refine lv_iload_n hx hb dX3_fineOfAll_4 rfl (lv_at hl 0 rfl) ?_
    refine lv_aload_n hx hb dX3_fineOfAll_5 rfl (lv_at hl 2 rfl) ?_
    refine zz_cVi (cs := zcM cI cZ q (zst a) im kp l1 rw fn kn) (As := []) (rest := [.int (nI i)]) ⟨hx, hb, hml, hown, hts⟩ (c_X3_places l D cI cZ hs ta q a im kp l1 rw fn kn hI.1.2) (cwV 0 hts gX3_fineOfAll_X3_places rfl rfl rfl (by decide +kernel) ⟨Nat.le_of_ble_eq_true rfl, Nat.le_of_ble_eq_true rfl⟩) (va_recv hK hP (ci := 3) (q0 := 0) rfl rfl) hP hD hG hS hAz rfl hl.1 rfl (Nat.le_of_ble_eq_true rfl) ⟨Nat.zero_le _, Nat.zero_le _⟩ dX3_fineOfAll_6 (fun r_3 er_3 => ?_)
    subst er_3
    refine lv_icmp_ge (tgt := 27) hx hb dX3_fineOfAll_9 (by decide) (fun c_4 => ?_) (fun c_4 => ?_)
    · replace c_4 := Int32.not_lt.mpr c_4
      exact absurd (nI_lt hi (by have := zNp hI; omega)) c_4
    · replace c_4 := Int32.not_le.mp c_4
      refine lv_iload_n hx hb dX3_fineOfAll_12 rfl (lv_at hl 1 rfl) ?_
      refine lv_aload_n hx hb dX3_fineOfAll_13 rfl (lv_at hl 2 rfl) ?_
      refine lv_iload_n hx hb dX3_fineOfAll_14 rfl (lv_at hl 0 rfl) ?_
      refine lv_iload_n hx hb dX3_fineOfAll_15 rfl (lv_at hl 3 rfl) ?_
      refine zz_mVi (ct := (fun (u : Nat → Int32) => zcM cI cZ q (zst a) im kp u rw fn kn)) (cs := zcM cI cZ q (zst a) im kp l1 rw fn kn) (As := [.int (nI i), .int (nI w)]) (rest := [.int (zfi a.2.2.2.2.2.1 a.1 w i)]) ⟨hx, hb, hml, hown, hts⟩ (c_X3_fineOf l D cI cZ hs ta H.size q a im kp l1 rw fn kn i w hI hi hw) (fun _ => rfl) (cwV 2 hts gX3_fineOfAll_X3_fineOf rfl rfl rfl (by decide +kernel) ⟨Nat.le_of_ble_eq_true rfl, Nat.le_of_ble_eq_true rfl⟩) (va_recv hK hP (ci := 3) (q0 := 0) rfl rfl) hP hD hG hS hA hAz rfl hl.1 rfl (Nat.le_of_ble_eq_true rfl) ⟨Nat.zero_le _, Nat.zero_le _⟩ dX3_fineOfAll_16 (fun r_5 u_6 H locs eu_6 hP hD hS => ?_)
      subst eu_6
      have hP : va_P D vwCl (zcM cI cZ q (zst a) im kp u_6 rw fn kn) H := hP
      have hD : va_D A (zcM cI cZ q (zst a) im kp u_6 rw fn kn) := hD
      refine lv_iadd hx hb dX3_fineOfAll_19 ?_
      refine lv_topi (fun v_7 ev_7 => ?_)
      refine lv_istore_n (lv' := [(2, .int v_7), (3, .int (nI i)), (0, .ref (q 0)), (1, .int (nI w))]) hx hb dX3_fineOfAll_20 rfl hl (by decide) rfl (fun ls hl => ?_)
      refine lv_iinc (v := (nI (i + 1))) (lv' := [(3, .int (nI (i + 1))), (2, .int v_7), (0, .ref (q 0)), (1, .int (nI w))]) hx hb dX3_fineOfAll_21 hl (k := 1) rfl (zz_inc _) (by decide) rfl (fun ls hl => ?_)
      refine lv_goto (tgt := 4) hx hb dX3_fineOfAll_24 (by decide) ?_
      obtain rfl : v_7 = (zfi a.2.2.2.2.2.1 a.1 w (i + 1)) := by rw [ev_7]; rfl
      have hl : lv_has ls 4 [(3, .int (nI ((i + 1)))), (2, .int (zfi a.2.2.2.2.2.1 a.1 w (i + 1))), (0, .ref (q 0)), (1, .int (nI w))] := hl
      exact ihi (trivial) _ _ ls (⟨_, hP, hD, hS⟩) (lv_sub hl [0, 1, 2, 3] rfl)
set_option maxHeartbeats 4000000 in
set_option maxRecDepth 100000 in
theorem c_X3_unlike (l : Launch) (D : va_G) (cI cZ : ClassId) (hs ta : Nat) (q : Nat → Nat) (a : ZA) (im : Nat → Int32) (kp : Nat → Int32) (lf : Nat → Int32) (rw : Nat → Int32) (fn : Nat → Int32) (kn : Nat) (w : Nat) (hI : zInv a) (hw : w < 2 ^ 2 ^ a.1) : Met l yX3_unlike wsX3_unlike ({ frames := 2, cells := 0, slots := 0, locals := 48 }) (va_Pc [.ref (q 0), .int (nI w)] (zPre D (zTy cI cZ) hs ta (zcM cI cZ q (zst a) im kp lf rw fn kn))) (vp_Si (fun r : Int32 => r = nI (zct (zun a.2.2.2.2.2.1 (zcod w)) (2 ^ a.1)))) 0 0 (fun _ => False) := by
  refine Met.ofW (cc := cX3_unlike) (maxL := 6) (ret := (some .int)) (by decide) rfl ?_
  intro p e s m args below meth c s₁ B hml hv0
  obtain ⟨rfl, hP, hD, hG⟩ := hv0
  have hx := B.exec
  have hb := B.bytes
  have hr := B.returns
  have hts := atoms_spec (ws := wsX3_unlike) B.pre
  have hown : s.vm.findClass RX3 = some m.cls := findClass_of_methodNamed B.named
  have hlocks := B.notSynchronized
  have hK := hG.1
  have hS : va_S (zA hs) s.heap s.heap [] := va_S.rf
  have hAz : ∀ q, zA hs q → hs ≤ q := fun _ h => h
  have hl := lv_entry ([.ref (q 0), .int (nI w)]) (n := 6) (Nat.le_of_ble_eq_true rfl)
  rw [lg_entry_eq]
  generalize (lg_sl ([.ref (q 0), .int (nI w)]) ++ List.replicate (6 - (lg_sl ([.ref (q 0), .int (nI w)])).length) Slot.unset).toArray = ls at hl ⊢
  have hl : lv_has ls 6 [(0, .ref (q 0)), (1, .int (nI w))] := hl
  have hf7 := hts (.fieldLink RX3 7 "FrozenBitsModel" "state" "[I") (List.mem_of_getElem? (i := 1) rfl)
  have hiX3 : ∀ w ∈ u_ws RX3 TX3 7, w ∈ wsX3_unlike := fun w h => List.mem_cons_of_mem _ (List.mem_append_right _ h)
  refine lv_aload_n hx hb dX3_unlike_0 rfl (lv_at hl 0 rfl) ?_
  refine lv_iload_n hx hb dX3_unlike_1 rfl (lv_at hl 1 rfl) ?_
  refine zz_cVi (cs := zcM cI cZ q (zst a) im kp lf rw fn kn) (As := [.int (nI w)]) (rest := []) ⟨hx, hb, hml, hown, hts⟩ (c_X3_codedAll l D cI cZ hs ta q a im kp lf rw fn kn w hI hw) (cwV 1 hts gX3_unlike_X3_codedAll rfl rfl rfl (by decide +kernel) ⟨Nat.le_of_ble_eq_true rfl, Nat.le_of_ble_eq_true rfl⟩) (va_recv hK hP (ci := 3) (q0 := 0) rfl rfl) hP hD hG hS hAz rfl hl.1 rfl (Nat.le_of_ble_eq_true rfl) ⟨Nat.zero_le _, Nat.zero_le _⟩ dX3_unlike_2 (fun r_1 er_1 => ?_)
  subst er_1
  refine lv_istore_n (lv' := [(2, .int (nI (zcod w))), (0, .ref (q 0)), (1, .int (nI w))]) hx hb dX3_unlike_5 rfl hl (by decide) rfl (fun ls hl => ?_)
  refine lv_iconst (v := 0) hx hb dX3_unlike_6 (by decide) ?_
  refine lv_istore_n (lv' := [(3, .int 0), (2, .int (nI (zcod w))), (0, .ref (q 0)), (1, .int (nI w))]) hx hb dX3_unlike_7 rfl hl (by decide) rfl (fun ls hl => ?_)
  refine lv_iconst (v := 0) hx hb dX3_unlike_8 (by decide) ?_
  refine lv_istore (lv' := [(4, .int 0), (3, .int 0), (2, .int (nI (zcod w))), (0, .ref (q 0)), (1, .int (nI w))]) hx hb dX3_unlike_9 hl (by decide) rfl (fun ls hl => ?_)
  have hl : lv_has ls 6 [(4, .int (nI 0)), (3, .int (nI (zct (zun a.2.2.2.2.2.1 (zcod w)) 0))), (2, .int (nI (zcod w))), (0, .ref (q 0)), (1, .int (nI w))] := hl
  refine zz_forJ (nL := 6) (2 ^ a.1) (fun i => [(4, .int (nI i)), (3, .int (nI (zct (zun a.2.2.2.2.2.1 (zcod w)) i))), (2, .int (nI (zcod w))), (0, .ref (q 0)), (1, .int (nI w))]) (J := fun _ => True) ?_ ?_ (trivial) (lv_sub hl [0, 1, 2, 3, 4] rfl)
  · intro hJ ls hl
    refine lv_iload hx hb dX3_unlike_11 (lv_at hl 0 rfl) ?_
    refine lv_aload_n hx hb dX3_unlike_13 rfl (lv_at hl 3 rfl) ?_
    refine zz_cVi (cs := zcM cI cZ q (zst a) im kp lf rw fn kn) (As := []) (rest := [.int (nI ((2 ^ a.1)))]) ⟨hx, hb, hml, hown, hts⟩ (c_X3_places l D cI cZ hs ta q a im kp lf rw fn kn hI.1.2) (cwV 0 hts gX3_unlike_X3_places rfl rfl rfl (by decide +kernel) ⟨Nat.le_of_ble_eq_true rfl, Nat.le_of_ble_eq_true rfl⟩) (va_recv hK hP (ci := 3) (q0 := 0) rfl rfl) hP hD hG hS hAz rfl hl.1 rfl (Nat.le_of_ble_eq_true rfl) ⟨Nat.zero_le _, Nat.zero_le _⟩ dX3_unlike_14 (fun r_2 er_2 => ?_)
    subst er_2
    refine lv_icmp_ge (tgt := 70) hx hb dX3_unlike_17 (by decide) (fun c_3 => ?_) (fun c_3 => ?_)
    · replace c_3 := Int32.not_lt.mpr c_3
      refine lv_iload_n hx hb dX3_unlike_70 rfl (lv_at hl 1 rfl) ?_
      exact W.iret (v := (nI (zct (zun a.2.2.2.2.2.1 (zcod w)) (2 ^ a.1)))) hx hb hr (fun t9 ht hW => ⟨_, rfl, (by rfl), ht⟩) (fun _ h => absurd h List.not_mem_nil) dX3_unlike_71
    · replace c_3 := Int32.not_le.mp c_3
      exact absurd c_3 (nI_nlt (Nat.le_refl _) (by have := zNp hI; omega))
  · intro i hi hJ ihi ls hl
    refine lv_iload hx hb dX3_unlike_11 (lv_at hl 0 rfl) ?_
    refine lv_aload_n hx hb dX3_unlike_13 rfl (lv_at hl 3 rfl) ?_
    refine zz_cVi (cs := zcM cI cZ q (zst a) im kp lf rw fn kn) (As := []) (rest := [.int (nI i)]) ⟨hx, hb, hml, hown, hts⟩ (c_X3_places l D cI cZ hs ta q a im kp lf rw fn kn hI.1.2) (cwV 0 hts gX3_unlike_X3_places rfl rfl rfl (by decide +kernel) ⟨Nat.le_of_ble_eq_true rfl, Nat.le_of_ble_eq_true rfl⟩) (va_recv hK hP (ci := 3) (q0 := 0) rfl rfl) hP hD hG hS hAz rfl hl.1 rfl (Nat.le_of_ble_eq_true rfl) ⟨Nat.zero_le _, Nat.zero_le _⟩ dX3_unlike_14 (fun r_4 er_4 => ?_)
    subst er_4
    refine lv_icmp_ge (tgt := 70) hx hb dX3_unlike_17 (by decide) (fun c_5 => ?_) (fun c_5 => ?_)
    · replace c_5 := Int32.not_lt.mpr c_5
      exact absurd (nI_lt hi (by have := zNp hI; omega)) c_5
    · replace c_5 := Int32.not_le.mp c_5
      refine lv_aload_n hx hb dX3_unlike_20 rfl (lv_at hl 3 rfl) ?_
      refine va_get (ci := 3) (C := RX3) (T := TX3) (N := 7) hx hb hts hiX3 hown hK hP 0 rfl rfl 0 (by decide) hf7 (fun _ h9 => h9) rfl dX3_unlike_21 ?_
      refine lv_bipush (v := 8) hx hb dX3_unlike_24 (by decide) ?_
      refine lv_iload hx hb dX3_unlike_26 (lv_at hl 0 rfl) ?_
      refine lv_iadd hx hb dX3_unlike_28 ?_
      refine zz_topi (nI (8 + i)) (zz_addn (show (8 : Int32) = nI 8 from rfl) rfl) ?_
      refine zz_iald hx hb hK hP 1 0 rfl rfl (i := 8 + i) rfl (by have := zNp hI; omega) (by decide) dX3_unlike_29 ?_
      refine zz_topi (a.2.2.2.2.2.1 i) (zst_me _ _) ?_
      refine zz_topi (a.2.2.2.2.2.1 i) (rfl) ?_
      refine lv_istore (lv' := [(5, .int (a.2.2.2.2.2.1 i)), (4, .int (nI i)), (3, .int (nI (zct (zun a.2.2.2.2.2.1 (zcod w)) i))), (2, .int (nI (zcod w))), (0, .ref (q 0)), (1, .int (nI w))]) hx hb dX3_unlike_30 hl (by decide) rfl (fun ls hl => ?_)
      refine lv_iload_n hx hb dX3_unlike_32 rfl (lv_at hl 2 rfl) ?_
      refine lv_iload hx hb dX3_unlike_33 (lv_at hl 0 rfl) ?_
      refine lv_if_eq (tgt := 61) hx hb dX3_unlike_35 (by decide) (fun c_6 => ?_) (fun c_6 => ?_)
      · refine lv_iconst (v := 0) hx hb dX3_unlike_61 (by decide) ?_
        refine lv_iadd hx hb dX3_unlike_62 ?_
        refine zz_topi (nI ((zct (zun a.2.2.2.2.2.1 (zcod w)) i) + 0)) (zz_addn rfl (show (0 : Int32) = nI 0 from rfl)) ?_
        refine lv_istore_n (lv' := [(3, .int (nI ((zct (zun a.2.2.2.2.2.1 (zcod w)) i) + 0))), (5, .int (a.2.2.2.2.2.1 i)), (4, .int (nI i)), (2, .int (nI (zcod w))), (0, .ref (q 0)), (1, .int (nI w))]) hx hb dX3_unlike_63 rfl hl (by decide) rfl (fun ls hl => ?_)
        refine lv_iinc (v := (nI (i + 1))) (lv' := [(4, .int (nI (i + 1))), (3, .int (nI ((zct (zun a.2.2.2.2.2.1 (zcod w)) i) + 0))), (5, .int (a.2.2.2.2.2.1 i)), (2, .int (nI (zcod w))), (0, .ref (q 0)), (1, .int (nI w))]) hx hb dX3_unlike_64 hl (k := 2) rfl (zz_inc _) (by decide) rfl (fun ls hl => ?_)
        refine lv_goto (tgt := 11) hx hb dX3_unlike_67 (by decide) ?_
        rw [show ((nI ((zct (zun a.2.2.2.2.2.1 (zcod w)) i) + 0)) : Int32) = (nI (zct (zun a.2.2.2.2.2.1 (zcod w)) (i + 1))) from by simp only [zct, zun, c_5, c_6, decide_true, decide_false, not_true_eq_false, not_false_eq_true, and_self, and_true, true_and, and_false, false_and, or_self, or_true, true_or, or_false, false_or, if_true, if_false, ↓reduceIte, Bool.false_eq_true, iff_self, iff_true, iff_false, true_iff, false_iff, Nat.add_zero, Nat.or_zero]] at hl
        have hl : lv_has ls 6 [(4, .int (nI ((i + 1)))), (3, .int (nI (zct (zun a.2.2.2.2.2.1 (zcod w)) (i + 1)))), (5, .int (a.2.2.2.2.2.1 i)), (2, .int (nI (zcod w))), (0, .ref (q 0)), (1, .int (nI w))] := hl
        exact ihi (trivial) ls (lv_sub hl [0, 1, 3, 4, 5] rfl)
      · refine lv_iload_n hx hb dX3_unlike_38 rfl (lv_at hl 3 rfl) ?_
        refine lv_iload hx hb dX3_unlike_39 (lv_at hl 1 rfl) ?_
        refine lv_ishr hx hb dX3_unlike_41 ?_
        refine zz_topi (nI ((zcod w) >>> i)) (zz_shrn rfl rfl (by have := zcod_lt (Nat.lt_of_lt_of_le hw (zNN hI)); omega) (by have := zNp hI; omega)) ?_
        refine lv_iconst (v := 1) hx hb dX3_unlike_42 (by decide) ?_
        refine lv_iand hx hb dX3_unlike_43 ?_
        refine zz_topi (nI (((zcod w) >>> i) &&& 1)) (zz_andn rfl (show (1 : Int32) = nI 1 from rfl)) ?_
        refine lv_iload hx hb dX3_unlike_44 (lv_at hl 0 rfl) ?_
        refine lv_if_ge (tgt := 53) hx hb dX3_unlike_46 (by decide) (fun c_7 => ?_) (fun c_7 => ?_)
        · replace c_7 := Int32.not_lt.mpr c_7
          refine lv_iconst (v := 0) hx hb dX3_unlike_53 (by decide) ?_
          refine lv_icmp_eq (tgt := 61) hx hb dX3_unlike_54 (by decide) (fun c_8 => ?_) (fun c_8 => ?_)
          · replace c_8 := zbit_0.mp (zI_0 (zand1 _) c_8)
            refine lv_iconst (v := 0) hx hb dX3_unlike_61 (by decide) ?_
            refine lv_iadd hx hb dX3_unlike_62 ?_
            refine zz_topi (nI ((zct (zun a.2.2.2.2.2.1 (zcod w)) i) + 0)) (zz_addn rfl (show (0 : Int32) = nI 0 from rfl)) ?_
            refine lv_istore_n (lv' := [(3, .int (nI ((zct (zun a.2.2.2.2.2.1 (zcod w)) i) + 0))), (5, .int (a.2.2.2.2.2.1 i)), (4, .int (nI i)), (2, .int (nI (zcod w))), (0, .ref (q 0)), (1, .int (nI w))]) hx hb dX3_unlike_63 rfl hl (by decide) rfl (fun ls hl => ?_)
            refine lv_iinc (v := (nI (i + 1))) (lv' := [(4, .int (nI (i + 1))), (3, .int (nI ((zct (zun a.2.2.2.2.2.1 (zcod w)) i) + 0))), (5, .int (a.2.2.2.2.2.1 i)), (2, .int (nI (zcod w))), (0, .ref (q 0)), (1, .int (nI w))]) hx hb dX3_unlike_64 hl (k := 2) rfl (zz_inc _) (by decide) rfl (fun ls hl => ?_)
            refine lv_goto (tgt := 11) hx hb dX3_unlike_67 (by decide) ?_
            rw [show ((nI ((zct (zun a.2.2.2.2.2.1 (zcod w)) i) + 0)) : Int32) = (nI (zct (zun a.2.2.2.2.2.1 (zcod w)) (i + 1))) from by simp only [zct, zun, c_5, c_6, c_7, c_8, decide_true, decide_false, not_true_eq_false, not_false_eq_true, and_self, and_true, true_and, and_false, false_and, or_self, or_true, true_or, or_false, false_or, if_true, if_false, ↓reduceIte, Bool.false_eq_true, iff_self, iff_true, iff_false, true_iff, false_iff, Nat.add_zero, Nat.or_zero]] at hl
            have hl : lv_has ls 6 [(4, .int (nI ((i + 1)))), (3, .int (nI (zct (zun a.2.2.2.2.2.1 (zcod w)) (i + 1)))), (5, .int (a.2.2.2.2.2.1 i)), (2, .int (nI (zcod w))), (0, .ref (q 0)), (1, .int (nI w))] := hl
            exact ihi (trivial) ls (lv_sub hl [0, 1, 3, 4, 5] rfl)
          · replace c_8 := Classical.not_not.mp (fun q => zI_n0 c_8 (zbit_0.mpr q))
            refine lv_iconst (v := 1) hx hb dX3_unlike_57 (by decide) ?_
            refine lv_goto (tgt := 62) hx hb dX3_unlike_58 (by decide) ?_
            refine lv_iadd hx hb dX3_unlike_62 ?_
            refine zz_topi (nI ((zct (zun a.2.2.2.2.2.1 (zcod w)) i) + 1)) (zz_addn rfl (show (1 : Int32) = nI 1 from rfl)) ?_
            refine lv_istore_n (lv' := [(3, .int (nI ((zct (zun a.2.2.2.2.2.1 (zcod w)) i) + 1))), (5, .int (a.2.2.2.2.2.1 i)), (4, .int (nI i)), (2, .int (nI (zcod w))), (0, .ref (q 0)), (1, .int (nI w))]) hx hb dX3_unlike_63 rfl hl (by decide) rfl (fun ls hl => ?_)
            refine lv_iinc (v := (nI (i + 1))) (lv' := [(4, .int (nI (i + 1))), (3, .int (nI ((zct (zun a.2.2.2.2.2.1 (zcod w)) i) + 1))), (5, .int (a.2.2.2.2.2.1 i)), (2, .int (nI (zcod w))), (0, .ref (q 0)), (1, .int (nI w))]) hx hb dX3_unlike_64 hl (k := 2) rfl (zz_inc _) (by decide) rfl (fun ls hl => ?_)
            refine lv_goto (tgt := 11) hx hb dX3_unlike_67 (by decide) ?_
            rw [show ((nI ((zct (zun a.2.2.2.2.2.1 (zcod w)) i) + 1)) : Int32) = (nI (zct (zun a.2.2.2.2.2.1 (zcod w)) (i + 1))) from by simp only [zct, zun, c_5, c_6, c_7, c_8, decide_true, decide_false, not_true_eq_false, not_false_eq_true, and_self, and_true, true_and, and_false, false_and, or_self, or_true, true_or, or_false, false_or, if_true, if_false, ↓reduceIte, Bool.false_eq_true, iff_self, iff_true, iff_false, true_iff, false_iff, Nat.add_zero, Nat.or_zero]] at hl
            have hl : lv_has ls 6 [(4, .int (nI ((i + 1)))), (3, .int (nI (zct (zun a.2.2.2.2.2.1 (zcod w)) (i + 1)))), (5, .int (a.2.2.2.2.2.1 i)), (2, .int (nI (zcod w))), (0, .ref (q 0)), (1, .int (nI w))] := hl
            exact ihi (trivial) ls (lv_sub hl [0, 1, 3, 4, 5] rfl)
        · replace c_7 := Int32.not_le.mp c_7
          refine lv_iconst (v := 1) hx hb dX3_unlike_49 (by decide) ?_
          refine lv_goto (tgt := 54) hx hb dX3_unlike_50 (by decide) ?_
          refine lv_icmp_eq (tgt := 61) hx hb dX3_unlike_54 (by decide) (fun c_9 => ?_) (fun c_9 => ?_)
          · replace c_9 := zbit_1.mp ((zI_1 (zand1 _)).mp c_9)
            refine lv_iconst (v := 0) hx hb dX3_unlike_61 (by decide) ?_
            refine lv_iadd hx hb dX3_unlike_62 ?_
            refine zz_topi (nI ((zct (zun a.2.2.2.2.2.1 (zcod w)) i) + 0)) (zz_addn rfl (show (0 : Int32) = nI 0 from rfl)) ?_
            refine lv_istore_n (lv' := [(3, .int (nI ((zct (zun a.2.2.2.2.2.1 (zcod w)) i) + 0))), (5, .int (a.2.2.2.2.2.1 i)), (4, .int (nI i)), (2, .int (nI (zcod w))), (0, .ref (q 0)), (1, .int (nI w))]) hx hb dX3_unlike_63 rfl hl (by decide) rfl (fun ls hl => ?_)
            refine lv_iinc (v := (nI (i + 1))) (lv' := [(4, .int (nI (i + 1))), (3, .int (nI ((zct (zun a.2.2.2.2.2.1 (zcod w)) i) + 0))), (5, .int (a.2.2.2.2.2.1 i)), (2, .int (nI (zcod w))), (0, .ref (q 0)), (1, .int (nI w))]) hx hb dX3_unlike_64 hl (k := 2) rfl (zz_inc _) (by decide) rfl (fun ls hl => ?_)
            refine lv_goto (tgt := 11) hx hb dX3_unlike_67 (by decide) ?_
            rw [show ((nI ((zct (zun a.2.2.2.2.2.1 (zcod w)) i) + 0)) : Int32) = (nI (zct (zun a.2.2.2.2.2.1 (zcod w)) (i + 1))) from by simp only [zct, zun, c_5, c_6, c_7, c_9, decide_true, decide_false, not_true_eq_false, not_false_eq_true, and_self, and_true, true_and, and_false, false_and, or_self, or_true, true_or, or_false, false_or, if_true, if_false, ↓reduceIte, Bool.false_eq_true, iff_self, iff_true, iff_false, true_iff, false_iff, Nat.add_zero, Nat.or_zero]] at hl
            have hl : lv_has ls 6 [(4, .int (nI ((i + 1)))), (3, .int (nI (zct (zun a.2.2.2.2.2.1 (zcod w)) (i + 1)))), (5, .int (a.2.2.2.2.2.1 i)), (2, .int (nI (zcod w))), (0, .ref (q 0)), (1, .int (nI w))] := hl
            exact ihi (trivial) ls (lv_sub hl [0, 1, 3, 4, 5] rfl)
          · replace c_9 : ¬ (zcod w).testBit i = true := fun q => c_9 ((zI_1 (zand1 _)).mpr (zbit_1.mpr q))
            refine lv_iconst (v := 1) hx hb dX3_unlike_57 (by decide) ?_
            refine lv_goto (tgt := 62) hx hb dX3_unlike_58 (by decide) ?_
            refine lv_iadd hx hb dX3_unlike_62 ?_
            refine zz_topi (nI ((zct (zun a.2.2.2.2.2.1 (zcod w)) i) + 1)) (zz_addn rfl (show (1 : Int32) = nI 1 from rfl)) ?_
            refine lv_istore_n (lv' := [(3, .int (nI ((zct (zun a.2.2.2.2.2.1 (zcod w)) i) + 1))), (5, .int (a.2.2.2.2.2.1 i)), (4, .int (nI i)), (2, .int (nI (zcod w))), (0, .ref (q 0)), (1, .int (nI w))]) hx hb dX3_unlike_63 rfl hl (by decide) rfl (fun ls hl => ?_)
            refine lv_iinc (v := (nI (i + 1))) (lv' := [(4, .int (nI (i + 1))), (3, .int (nI ((zct (zun a.2.2.2.2.2.1 (zcod w)) i) + 1))), (5, .int (a.2.2.2.2.2.1 i)), (2, .int (nI (zcod w))), (0, .ref (q 0)), (1, .int (nI w))]) hx hb dX3_unlike_64 hl (k := 2) rfl (zz_inc _) (by decide) rfl (fun ls hl => ?_)
            refine lv_goto (tgt := 11) hx hb dX3_unlike_67 (by decide) ?_
            rw [show ((nI ((zct (zun a.2.2.2.2.2.1 (zcod w)) i) + 1)) : Int32) = (nI (zct (zun a.2.2.2.2.2.1 (zcod w)) (i + 1))) from by simp only [zct, zun, c_5, c_6, c_7, c_9, decide_true, decide_false, not_true_eq_false, not_false_eq_true, and_self, and_true, true_and, and_false, false_and, or_self, or_true, true_or, or_false, false_or, if_true, if_false, ↓reduceIte, Bool.false_eq_true, iff_self, iff_true, iff_false, true_iff, false_iff, Nat.add_zero, Nat.or_zero]] at hl
            have hl : lv_has ls 6 [(4, .int (nI ((i + 1)))), (3, .int (nI (zct (zun a.2.2.2.2.2.1 (zcod w)) (i + 1)))), (5, .int (a.2.2.2.2.2.1 i)), (2, .int (nI (zcod w))), (0, .ref (q 0)), (1, .int (nI w))] := hl
            exact ihi (trivial) ls (lv_sub hl [0, 1, 3, 4, 5] rfl)
set_option maxHeartbeats 4000000 in
set_option maxRecDepth 100000 in
theorem c_X3_holds (l : Launch) (D : va_G) (cI cZ : ClassId) (hs ta : Nat) (q : Nat → Nat) (a : ZA) (im : Nat → Int32) (kp : Nat → Int32) (lf : Nat → Int32) (rw : Nat → Int32) (fn : Nat → Int32) (kn : Nat) (w : Nat) (hI : zInv a) (hw : w < 65536) : Met l yX3_holds wsX3_holds ({ frames := 1, cells := 0, slots := 0, locals := 22 }) (va_Pc [.ref (q 0), .int (nI w)] (zPre D (zTy cI cZ) hs ta (zcM cI cZ q (zst a) im kp lf rw fn kn))) (vp_Si (fun r : Int32 => r = zB (zhd a w = true))) 0 0 (fun _ => False) := by
  refine Met.ofW (cc := cX3_holds) (maxL := 4) (ret := (some .boolean)) (by decide) rfl ?_
  intro p e s m args below meth c s₁ B hml hv0
  obtain ⟨rfl, hP, hD, hG⟩ := hv0
  have hx := B.exec
  have hb := B.bytes
  have hr := B.returns
  have hts := atoms_spec (ws := wsX3_holds) B.pre
  have hown : s.vm.findClass RX3 = some m.cls := findClass_of_methodNamed B.named
  have hlocks := B.notSynchronized
  have hK := hG.1
  have hS : va_S (zA hs) s.heap s.heap [] := va_S.rf
  have hAz : ∀ q, zA hs q → hs ≤ q := fun _ h => h
  have hl := lv_entry ([.ref (q 0), .int (nI w)]) (n := 4) (Nat.le_of_ble_eq_true rfl)
  rw [lg_entry_eq]
  generalize (lg_sl ([.ref (q 0), .int (nI w)]) ++ List.replicate (4 - (lg_sl ([.ref (q 0), .int (nI w)])).length) Slot.unset).toArray = ls at hl ⊢
  have hl : lv_has ls 4 [(0, .ref (q 0)), (1, .int (nI w))] := hl
  have hf7 := hts (.fieldLink RX3 7 "FrozenBitsModel" "state" "[I") (List.mem_of_getElem? (i := 1) rfl)
  have hiX3 : ∀ w ∈ u_ws RX3 TX3 7, w ∈ wsX3_holds := fun w h => List.mem_cons_of_mem _ (List.mem_append_right _ h)
  refine lv_iconst (v := 1) hx hb dX3_holds_0 (by decide) ?_
  refine lv_istore_n (lv' := [(2, .int 1), (0, .ref (q 0)), (1, .int (nI w))]) hx hb dX3_holds_1 rfl hl (by decide) rfl (fun ls hl => ?_)
  refine lv_iconst (v := 0) hx hb dX3_holds_2 (by decide) ?_
  refine lv_istore_n (lv' := [(3, .int 0), (2, .int 1), (0, .ref (q 0)), (1, .int (nI w))]) hx hb dX3_holds_3 rfl hl (by decide) rfl (fun ls hl => ?_)
  rw [show (1 : Int32) = (zB (zhk a w 0 = true)) from zB_1 rfl] at hl
  have hl : lv_has ls 4 [(3, .int (nI 0)), (2, .int (zB (zhk a w 0 = true))), (0, .ref (q 0)), (1, .int (nI w))] := hl
  refine zz_forJ (nL := 4) (3) (fun i => [(3, .int (nI i)), (2, .int (zB (zhk a w i = true))), (0, .ref (q 0)), (1, .int (nI w))]) (J := fun _ => True) ?_ ?_ (trivial) (lv_sub hl [0, 1, 2, 3] rfl)
  · intro hJ ls hl
    refine lv_iload_n hx hb dX3_holds_4 rfl (lv_at hl 0 rfl) ?_
    refine lv_iconst (v := 3) hx hb dX3_holds_5 (by decide) ?_
    refine lv_icmp_ge (tgt := 43) hx hb dX3_holds_6 (by decide) (fun c_1 => ?_) (fun c_1 => ?_)
    · replace c_1 := Int32.not_lt.mpr c_1
      refine lv_iload_n hx hb dX3_holds_43 rfl (lv_at hl 1 rfl) ?_
      exact W.zret (v := (zB (zhk a w 3 = true))) (ty := .boolean) hx hb hr (zB_nar rfl) (fun t9 ht hW => ⟨_, rfl, (by rw [zhk_3]), ht⟩) (fun _ h => absurd h List.not_mem_nil) dX3_holds_44
    · replace c_1 := Int32.not_le.mp c_1
      exact absurd c_1 (nI_nlt (Nat.le_refl _) (by decide))
  · intro i hi hJ ihi ls hl
    refine lv_iload_n hx hb dX3_holds_4 rfl (lv_at hl 0 rfl) ?_
    refine lv_iconst (v := 3) hx hb dX3_holds_5 (by decide) ?_
    refine lv_icmp_ge (tgt := 43) hx hb dX3_holds_6 (by decide) (fun c_2 => ?_) (fun c_2 => ?_)
    · replace c_2 := Int32.not_lt.mpr c_2
      exact absurd (nI_lt hi (by decide)) c_2
    · replace c_2 := Int32.not_le.mp c_2
      refine lv_iload_n hx hb dX3_holds_9 rfl (lv_at hl 1 rfl) ?_
      refine lv_if_eq (tgt := 35) hx hb dX3_holds_10 (by decide) (fun c_3 => ?_) (fun c_3 => ?_)
      · replace c_3 := zB_f rfl c_3
        refine lv_iconst (v := 0) hx hb dX3_holds_35 (by decide) ?_
        refine lv_istore_n (lv' := [(2, .int 0), (3, .int (nI i)), (0, .ref (q 0)), (1, .int (nI w))]) hx hb dX3_holds_36 rfl hl (by decide) rfl (fun ls hl => ?_)
        refine lv_iinc (v := (nI (i + 1))) (lv' := [(3, .int (nI (i + 1))), (2, .int 0), (0, .ref (q 0)), (1, .int (nI w))]) hx hb dX3_holds_37 hl (k := 1) rfl (zz_inc _) (by decide) rfl (fun ls hl => ?_)
        refine lv_goto (tgt := 4) hx hb dX3_holds_40 (by decide) ?_
        rw [show (0 : Int32) = (zB (zhk a w (i + 1) = true)) from zB_0 (fun q => c_3 (Bool.and_eq_true _ _ ▸ q).1)] at hl
        have hl : lv_has ls 4 [(3, .int (nI ((i + 1)))), (2, .int (zB (zhk a w (i + 1) = true))), (0, .ref (q 0)), (1, .int (nI w))] := hl
        exact ihi (trivial) ls (lv_sub hl [0, 1, 2, 3] rfl)
      · replace c_3 := zB_t rfl c_3
        refine lv_iload_n hx hb dX3_holds_13 rfl (lv_at hl 3 rfl) ?_
        refine lv_aload_n hx hb dX3_holds_14 rfl (lv_at hl 2 rfl) ?_
        refine va_get (ci := 3) (C := RX3) (T := TX3) (N := 7) hx hb hts hiX3 hown hK hP 0 rfl rfl 0 (by decide) hf7 (fun _ h9 => h9) rfl dX3_holds_15 ?_
        refine lv_iconst (v := 5) hx hb dX3_holds_18 (by decide) ?_
        refine lv_iload_n hx hb dX3_holds_19 rfl (lv_at hl 0 rfl) ?_
        refine lv_iadd hx hb dX3_holds_20 ?_
        refine zz_topi (nI (5 + i)) (zz_addn (show (5 : Int32) = nI 5 from rfl) rfl) ?_
        refine zz_iald hx hb hK hP 1 0 rfl rfl (i := 5 + i) rfl (by omega) (by decide) dX3_holds_21 ?_
        refine zz_topi (a.2.2.2.2.2.2 i) (zst_ck _ (by omega)) ?_
        refine zz_topi (nI (zck a i)) ((zck_eq hI hi).1) ?_
        refine lv_iand hx hb dX3_holds_22 ?_
        refine zz_topi (nI (w &&& (zck a i))) (zz_andn rfl rfl) ?_
        refine zz_pSi (As := [.int (nI (w &&& (zck a i)))]) (rest := []) ⟨hx, hb, hml, hown, hts⟩ (c_X3_size l (w &&& (zck a i)) (Nat.lt_of_le_of_lt Nat.and_le_left hw)) (va_cwS 1 hts gX3_holds_X3_size rfl rfl rfl (by decide +kernel) ⟨Nat.le_of_ble_eq_true rfl, Nat.le_of_ble_eq_true rfl⟩) rfl hl.1 rfl (Nat.le_of_ble_eq_true rfl) ⟨Nat.zero_le _, Nat.zero_le _⟩ dX3_holds_23 (fun r_4 er_4 => ?_)
        subst er_4
        refine lv_iconst (v := 2) hx hb dX3_holds_26 (by decide) ?_
        refine lv_irem hx hb dX3_holds_27 (by decide) ?_
        refine zz_topi (nI ((zpc (w &&& (zck a i))) % 2)) (zz_remn rfl (show (2 : Int32) = nI 2 from rfl) (by have := zpc_le (w &&& zck a i); omega) (by decide) (by decide)) ?_
        refine lv_if_ne (tgt := 35) hx hb dX3_holds_28 (by decide) (fun c_5 => ?_) (fun c_5 => ?_)
        · replace c_5 := zI_n0 c_5
          refine lv_iconst (v := 0) hx hb dX3_holds_35 (by decide) ?_
          refine lv_istore_n (lv' := [(2, .int 0), (3, .int (nI i)), (0, .ref (q 0)), (1, .int (nI w))]) hx hb dX3_holds_36 rfl hl (by decide) rfl (fun ls hl => ?_)
          refine lv_iinc (v := (nI (i + 1))) (lv' := [(3, .int (nI (i + 1))), (2, .int 0), (0, .ref (q 0)), (1, .int (nI w))]) hx hb dX3_holds_37 hl (k := 1) rfl (zz_inc _) (by decide) rfl (fun ls hl => ?_)
          refine lv_goto (tgt := 4) hx hb dX3_holds_40 (by decide) ?_
          rw [show (0 : Int32) = (zB (zhk a w (i + 1) = true)) from zB_0 (by rw [zhk, c_3]; exact fun q => c_5 (of_decide_eq_true q))] at hl
          have hl : lv_has ls 4 [(3, .int (nI ((i + 1)))), (2, .int (zB (zhk a w (i + 1) = true))), (0, .ref (q 0)), (1, .int (nI w))] := hl
          exact ihi (trivial) ls (lv_sub hl [0, 1, 2, 3] rfl)
        · replace c_5 := zI_0 (Nat.lt_of_lt_of_le (Nat.mod_lt _ (by decide)) (by decide)) c_5
          refine lv_iconst (v := 1) hx hb dX3_holds_31 (by decide) ?_
          refine lv_goto (tgt := 36) hx hb dX3_holds_32 (by decide) ?_
          refine lv_istore_n (lv' := [(2, .int 1), (3, .int (nI i)), (0, .ref (q 0)), (1, .int (nI w))]) hx hb dX3_holds_36 rfl hl (by decide) rfl (fun ls hl => ?_)
          refine lv_iinc (v := (nI (i + 1))) (lv' := [(3, .int (nI (i + 1))), (2, .int 1), (0, .ref (q 0)), (1, .int (nI w))]) hx hb dX3_holds_37 hl (k := 1) rfl (zz_inc _) (by decide) rfl (fun ls hl => ?_)
          refine lv_goto (tgt := 4) hx hb dX3_holds_40 (by decide) ?_
          rw [show (1 : Int32) = (zB (zhk a w (i + 1) = true)) from zB_1 (by rw [zhk, c_3]; exact decide_eq_true c_5)] at hl
          have hl : lv_has ls 4 [(3, .int (nI ((i + 1)))), (2, .int (zB (zhk a w (i + 1) = true))), (0, .ref (q 0)), (1, .int (nI w))] := hl
          exact ihi (trivial) ls (lv_sub hl [0, 1, 2, 3] rfl)
set_option maxHeartbeats 4000000 in
set_option maxRecDepth 100000 in
theorem c_X3_read (l : Launch) (D : va_G) (cI cZ : ClassId) (hs ta : Nat) (sz : Nat) (q : Nat → Nat) (a : ZA) (im : Nat → Int32) (kp : Nat → Int32) (lf : Nat → Int32) (rw : Nat → Int32) (fn : Nat → Int32) (kn : Nat) (p0 : Int32) (hI : zInv a) : Met l yX3_read wsX3_read ({ frames := 5, cells := 0, slots := 0, locals := 120 }) (va_Pc [.ref (q 0), .int p0] (fun U => U.heap.size = sz ∧ zPre D (zTy cI cZ) hs ta (zcM cI cZ q (zst a) im kp lf rw fn kn) U)) (va_Qi (fun (r : Int32) (u : Nat → Int32) => r = zq_read a p0) (fun (u : Nat → Int32) t9 => va_P D vwCl (zcM cI cZ q (zst a) im kp u rw fn kn) t9.heap) (va_A (zcM cI cZ q (zst a) im kp lf rw fn kn) sz)) 0 0 (va_A (zcM cI cZ q (zst a) im kp lf rw fn kn) sz) := by
  refine Met.ofW (cc := cX3_read) (maxL := 3) (ret := (some .int)) (by decide) rfl ?_
  intro p e s m args below meth c s₁ B hml hv0
  obtain ⟨rfl, hsz, hP, hD0, hG⟩ := hv0
  have hx := B.exec
  have hb := B.bytes
  have hr := B.returns
  have hts := atoms_spec (ws := wsX3_read) B.pre
  have hown : s.vm.findClass RX3 = some m.cls := findClass_of_methodNamed B.named
  have hlocks := B.notSynchronized
  subst hsz
  have hD := hD0.self (sz := s.heap.size)
  have hAz0 : ∀ y9, va_A (zcM cI cZ q (zst a) im kp lf rw fn kn) s.heap.size y9 → hs ≤ y9 := zA_of hD0 (fun y9 h => Nat.le_trans hG.2.2.2.2 h) (va_S.rf (A := zA hs) (H0 := s.heap))
  generalize hAe : va_A (zcM cI cZ q (zst a) im kp lf rw fn kn) s.heap.size = A at hD hAz0 ⊢
  have hA : ∀ y9 : Nat, s.heap.size ≤ y9 → A y9 := fun y9 h => by rw [← hAe]; exact Or.inr h
  have hS : va_S A s.heap s.heap [] := va_S.rf
  have hAz : ∀ y9, A y9 → hs ≤ y9 := hAz0
  have hK := hG.1
  have hl := lv_entry ([.ref (q 0), .int p0]) (n := 3) (Nat.le_of_ble_eq_true rfl)
  rw [lg_entry_eq]
  generalize (lg_sl ([.ref (q 0), .int p0]) ++ List.replicate (3 - (lg_sl ([.ref (q 0), .int p0])).length) Slot.unset).toArray = ls at hl ⊢
  have hl : lv_has ls 3 [(0, .ref (q 0)), (1, .int p0)] := hl
  refine lv_iload_n hx hb dX3_read_0 rfl (lv_at hl 1 rfl) ?_
  refine lv_iconst (v := 0) hx hb dX3_read_1 (by decide) ?_
  refine lv_iconst (v := 3) hx hb dX3_read_2 (by decide) ?_
  refine zz_pSi (As := [.int p0, .int 0, .int 3]) (rest := []) ⟨hx, hb, hml, hown, hts⟩ (c_X3_in l p0 0 3) (va_cwS 3 hts gX3_read_X3_in rfl rfl rfl (by decide +kernel) ⟨Nat.le_of_ble_eq_true rfl, Nat.le_of_ble_eq_true rfl⟩) rfl hl.1 rfl (Nat.le_of_ble_eq_true rfl) ⟨Nat.zero_le _, Nat.zero_le _⟩ dX3_read_3 (fun r_1 er_1 => ?_)
  refine lv_if_ne (tgt := 12) hx hb dX3_read_6 (by decide) (fun c_2 => ?_) (fun c_2 => ?_)
  · replace c_2 := zB_t er_1 c_2
    refine lv_aload_n hx hb dX3_read_12 rfl (lv_at hl 0 rfl) ?_
    refine zz_mVi (ct := (fun (u : Nat → Int32) => zcM cI cZ q (zst a) im kp u rw fn kn)) (cs := zcM cI cZ q (zst a) im kp lf rw fn kn) (As := []) (rest := []) ⟨hx, hb, hml, hown, hts⟩ (c_X3_readAll l D cI cZ hs ta s.heap.size q a im kp lf rw fn kn hI) (fun _ => rfl) (cwV 0 hts gX3_read_X3_readAll rfl rfl rfl (by decide +kernel) ⟨Nat.le_of_ble_eq_true rfl, Nat.le_of_ble_eq_true rfl⟩) (va_recv hK hP (ci := 3) (q0 := 0) rfl rfl) hP hD hG hS hA hAz rfl hl.1 rfl (Nat.le_of_ble_eq_true rfl) ⟨Nat.zero_le _, Nat.zero_le _⟩ dX3_read_13 (fun r_3 u_4 H locs eu_4 hP hD hS => ?_)
    subst eu_4
    have hP : va_P D vwCl (zcM cI cZ q (zst a) im kp u_4 rw fn kn) H := hP
    have hD : va_D A (zcM cI cZ q (zst a) im kp u_4 rw fn kn) := hD
    refine lv_istore_n (lv' := [(2, .int (nI (zrr a (2 ^ a.1)))), (0, .ref (q 0)), (1, .int p0)]) hx hb dX3_read_16 rfl hl (by decide) rfl (fun ls hl => ?_)
    refine lv_iload_n hx hb dX3_read_17 rfl (lv_at hl 2 rfl) ?_
    refine lv_if_ne (tgt := 25) hx hb dX3_read_18 (by decide) (fun c_5 => ?_) (fun c_5 => ?_)
    · refine lv_iload_n hx hb dX3_read_25 rfl (lv_at hl 2 rfl) ?_
      refine lv_iconst (v := 1) hx hb dX3_read_26 (by decide) ?_
      refine lv_icmp_ne (tgt := 38) hx hb dX3_read_27 (by decide) (fun c_6 => ?_) (fun c_6 => ?_)
      · refine lv_iload_n hx hb dX3_read_38 rfl (lv_at hl 2 rfl) ?_
        refine lv_iconst (v := 2) hx hb dX3_read_39 (by decide) ?_
        refine lv_icmp_ne (tgt := 51) hx hb dX3_read_40 (by decide) (fun c_7 => ?_) (fun c_7 => ?_)
        · refine lv_aload_n hx hb dX3_read_51 rfl (lv_at hl 1 rfl) ?_
          refine lv_iload_n hx hb dX3_read_52 rfl (lv_at hl 0 rfl) ?_
          refine zz_cVi (cs := zcM cI cZ q (zst a) im kp u_4 rw fn kn) (As := [.int (nI (zrr a (2 ^ a.1)))]) (rest := []) ⟨hx, hb, hml, hown, hts⟩ (c_X3_holds l D cI cZ hs ta q a im kp u_4 rw fn kn (zrr a (2 ^ a.1)) hI (zrr_16 a (zNp hI))) (cwV 1 hts gX3_read_X3_holds rfl rfl rfl (by decide +kernel) ⟨Nat.le_of_ble_eq_true rfl, Nat.le_of_ble_eq_true rfl⟩) (va_recv hK hP (ci := 3) (q0 := 0) rfl rfl) hP hD hG hS hAz rfl hl.1 rfl (Nat.le_of_ble_eq_true rfl) ⟨Nat.zero_le _, Nat.zero_le _⟩ dX3_read_53 (fun r_8 er_8 => ?_)
          refine lv_if_eq (tgt := 63) hx hb dX3_read_56 (by decide) (fun c_9 => ?_) (fun c_9 => ?_)
          · replace c_9 := zB_f er_8 c_9
            refine lv_iconst (v := 0) hx hb dX3_read_63 (by decide) ?_
            exact W.iret (v := 0) hx hb hr (fun t9 ht hW => ⟨⟨_, u_4, rfl, (by simp (decide := true) only [zq_read, zB, c_2, c_5, c_6, c_7, c_9, not_true_eq_false, not_false_eq_true, and_self, and_true, true_and, and_false, false_and, or_self, or_true, true_or, or_false, false_or, if_true, if_false, ↓reduceIte, Bool.false_eq_true, iff_self, iff_true, iff_false, true_iff, false_iff, Nat.add_zero, Nat.or_zero]), zP_ht ht hP⟩, hS.F ht⟩) hS.2.2 dX3_read_64
          · replace c_9 := zB_t er_8 c_9
            refine lv_iconst (v := 1) hx hb dX3_read_59 (by decide) ?_
            refine lv_goto (tgt := 64) hx hb dX3_read_60 (by decide) ?_
            exact W.iret (v := 1) hx hb hr (fun t9 ht hW => ⟨⟨_, u_4, rfl, (by simp (decide := true) only [zq_read, zB, c_2, c_5, c_6, c_7, c_9, not_true_eq_false, not_false_eq_true, and_self, and_true, true_and, and_false, false_and, or_self, or_true, true_or, or_false, false_or, if_true, if_false, ↓reduceIte, Bool.false_eq_true, iff_self, iff_true, iff_false, true_iff, false_iff, Nat.add_zero, Nat.or_zero]), zP_ht ht hP⟩, hS.F ht⟩) hS.2.2 dX3_read_64
        · refine lv_aload_n hx hb dX3_read_43 rfl (lv_at hl 1 rfl) ?_
          refine lv_iload_n hx hb dX3_read_44 rfl (lv_at hl 0 rfl) ?_
          refine zz_cVi (cs := zcM cI cZ q (zst a) im kp u_4 rw fn kn) (As := [.int (nI (zrr a (2 ^ a.1)))]) (rest := []) ⟨hx, hb, hml, hown, hts⟩ (c_X3_unlike l D cI cZ hs ta q a im kp u_4 rw fn kn (zrr a (2 ^ a.1)) hI (Nat.lt_of_lt_of_le (zrr_lt a (2 ^ a.1)) (Nat.le_refl _))) (cwV 1 hts gX3_read_X3_unlike rfl rfl rfl (by decide +kernel) ⟨Nat.le_of_ble_eq_true rfl, Nat.le_of_ble_eq_true rfl⟩) (va_recv hK hP (ci := 3) (q0 := 0) rfl rfl) hP hD hG hS hAz rfl hl.1 rfl (Nat.le_of_ble_eq_true rfl) ⟨Nat.zero_le _, Nat.zero_le _⟩ dX3_read_45 (fun r_10 er_10 => ?_)
          subst er_10
          refine lv_goto (tgt := 64) hx hb dX3_read_48 (by decide) ?_
          exact W.iret (v := (nI (zct (zun a.2.2.2.2.2.1 (zcod (zrr a (2 ^ a.1)))) (2 ^ a.1)))) hx hb hr (fun t9 ht hW => ⟨⟨_, u_4, rfl, (by simp (decide := true) only [zq_read, zB, c_2, c_5, c_6, c_7, not_true_eq_false, not_false_eq_true, and_self, and_true, true_and, and_false, false_and, or_self, or_true, true_or, or_false, false_or, if_true, if_false, ↓reduceIte, Bool.false_eq_true, iff_self, iff_true, iff_false, true_iff, false_iff, Nat.add_zero, Nat.or_zero]), zP_ht ht hP⟩, hS.F ht⟩) hS.2.2 dX3_read_64
      · refine lv_aload_n hx hb dX3_read_30 rfl (lv_at hl 1 rfl) ?_
        refine lv_iload_n hx hb dX3_read_31 rfl (lv_at hl 0 rfl) ?_
        refine zz_mVi (ct := (fun (u : Nat → Int32) => zcM cI cZ q (zst a) im kp u rw fn kn)) (cs := zcM cI cZ q (zst a) im kp u_4 rw fn kn) (As := [.int (nI (zrr a (2 ^ a.1)))]) (rest := []) ⟨hx, hb, hml, hown, hts⟩ (c_X3_fineOfAll l D cI cZ hs ta H.size q a im kp u_4 rw fn kn (zrr a (2 ^ a.1)) hI (zrr_16 a (zNp hI))) (fun _ => rfl) (cwV 1 hts gX3_read_X3_fineOfAll rfl rfl rfl (by decide +kernel) ⟨Nat.le_of_ble_eq_true rfl, Nat.le_of_ble_eq_true rfl⟩) (va_recv hK hP (ci := 3) (q0 := 0) rfl rfl) hP hD hG hS hA hAz rfl hl.1 rfl (Nat.le_of_ble_eq_true rfl) ⟨Nat.zero_le _, Nat.zero_le _⟩ dX3_read_32 (fun r_11 u_12 H locs eu_12 hP hD hS => ?_)
        subst eu_12
        have hP : va_P D vwCl (zcM cI cZ q (zst a) im kp u_12 rw fn kn) H := hP
        have hD : va_D A (zcM cI cZ q (zst a) im kp u_12 rw fn kn) := hD
        refine lv_goto (tgt := 64) hx hb dX3_read_35 (by decide) ?_
        exact W.iret (v := (zfi a.2.2.2.2.2.1 a.1 (zrr a (2 ^ a.1)) (2 ^ a.1))) hx hb hr (fun t9 ht hW => ⟨⟨_, u_12, rfl, (by simp (decide := true) only [zq_read, zB, c_2, c_5, c_6, not_true_eq_false, not_false_eq_true, and_self, and_true, true_and, and_false, false_and, or_self, or_true, true_or, or_false, false_or, if_true, if_false, ↓reduceIte, Bool.false_eq_true, iff_self, iff_true, iff_false, true_iff, false_iff, Nat.add_zero, Nat.or_zero]), zP_ht ht hP⟩, hS.F ht⟩) hS.2.2 dX3_read_64
    · refine lv_iload_n hx hb dX3_read_21 rfl (lv_at hl 0 rfl) ?_
      refine lv_goto (tgt := 64) hx hb dX3_read_22 (by decide) ?_
      exact W.iret (v := (nI (zrr a (2 ^ a.1)))) hx hb hr (fun t9 ht hW => ⟨⟨_, u_4, rfl, (by simp (decide := true) only [zq_read, zB, c_2, c_5, not_true_eq_false, not_false_eq_true, and_self, and_true, true_and, and_false, false_and, or_self, or_true, true_or, or_false, false_or, if_true, if_false, ↓reduceIte, Bool.false_eq_true, iff_self, iff_true, iff_false, true_iff, false_iff, Nat.add_zero, Nat.or_zero]), zP_ht ht hP⟩, hS.F ht⟩) hS.2.2 dX3_read_64
  · replace c_2 := Classical.not_not.mp (zB_f er_1 c_2)
    refine lv_bipush (v := (-2)) hx hb dX3_read_9 (by decide) ?_
    exact W.iret (v := (-2)) hx hb hr (fun t9 ht hW => ⟨⟨_, lf, rfl, (by simp (decide := true) only [zq_read, zwm, c_2, not_true_eq_false, not_false_eq_true, and_self, and_true, true_and, and_false, false_and, or_self, or_true, true_or, or_false, false_or, if_true, if_false, ↓reduceIte, Bool.false_eq_true, iff_self, iff_true, iff_false, true_iff, false_iff, Nat.add_zero, Nat.or_zero]), zP_ht ht hP⟩, hS.F ht⟩) hS.2.2 dX3_read_11
set_option maxHeartbeats 4000000 in
set_option maxRecDepth 100000 in
theorem c_X3_most (l : Launch) (D : va_G) (cI cZ : ClassId) (hs ta : Nat) (sz : Nat) (q : Nat → Nat) (a : ZA) (im : Nat → Int32) (kp : Nat → Int32) (lf : Nat → Int32) (rw : Nat → Int32) (fn : Nat → Int32) (kn : Nat) (p0 : Int32) (hI : zInv a) : Met l yX3_most wsX3_most ({ frames := 1, cells := 0, slots := 0, locals := 22 }) (va_Pc [.ref (q 0), .int p0] (fun U => U.heap.size = sz ∧ zPre D (zTy cI cZ) hs ta (zcM cI cZ q (zst a) im kp lf rw fn kn) U)) (va_Qi (fun (r : Int32) (u : ZA) => (r, u) = zq_most a p0) (fun (u : ZA) t9 => va_P D vwCl (zcM cI cZ q (zst u) im kp lf rw fn kn) t9.heap) (va_A (zcM cI cZ q (zst a) im kp lf rw fn kn) sz)) 0 0 (va_A (zcM cI cZ q (zst a) im kp lf rw fn kn) sz) := by
  refine Met.ofW (cc := cX3_most) (maxL := 3) (ret := (some .int)) (by decide) rfl ?_
  intro p e s m args below meth c s₁ B hml hv0
  obtain ⟨rfl, hsz, hP, hD0, hG⟩ := hv0
  have hx := B.exec
  have hb := B.bytes
  have hr := B.returns
  have hts := atoms_spec (ws := wsX3_most) B.pre
  have hown : s.vm.findClass RX3 = some m.cls := findClass_of_methodNamed B.named
  have hlocks := B.notSynchronized
  subst hsz
  have hD := hD0.self (sz := s.heap.size)
  have hAz0 : ∀ y9, va_A (zcM cI cZ q (zst a) im kp lf rw fn kn) s.heap.size y9 → hs ≤ y9 := zA_of hD0 (fun y9 h => Nat.le_trans hG.2.2.2.2 h) (va_S.rf (A := zA hs) (H0 := s.heap))
  generalize hAe : va_A (zcM cI cZ q (zst a) im kp lf rw fn kn) s.heap.size = A at hD hAz0 ⊢
  have hA : ∀ y9 : Nat, s.heap.size ≤ y9 → A y9 := fun y9 h => by rw [← hAe]; exact Or.inr h
  have hS : va_S A s.heap s.heap [] := va_S.rf
  have hAz : ∀ y9, A y9 → hs ≤ y9 := hAz0
  have hK := hG.1
  have hl := lv_entry ([.ref (q 0), .int p0]) (n := 3) (Nat.le_of_ble_eq_true rfl)
  rw [lg_entry_eq]
  generalize (lg_sl ([.ref (q 0), .int p0]) ++ List.replicate (3 - (lg_sl ([.ref (q 0), .int p0])).length) Slot.unset).toArray = ls at hl ⊢
  have hl : lv_has ls 3 [(0, .ref (q 0)), (1, .int p0)] := hl
  have hf7 := hts (.fieldLink RX3 7 "FrozenBitsModel" "state" "[I") (List.mem_of_getElem? (i := 1) rfl)
  have hiX3 : ∀ w ∈ u_ws RX3 TX3 7, w ∈ wsX3_most := fun w h => List.mem_cons_of_mem _ (List.mem_append_right _ h)
  refine lv_iload_n hx hb dX3_most_0 rfl (lv_at hl 1 rfl) ?_
  refine lv_iconst (v := 1) hx hb dX3_most_1 (by decide) ?_
  refine lv_bipush (v := 8) hx hb dX3_most_2 (by decide) ?_
  refine zz_pSi (As := [.int p0, .int 1, .int 8]) (rest := []) ⟨hx, hb, hml, hown, hts⟩ (c_X3_in l p0 1 8) (va_cwS 3 hts gX3_most_X3_in rfl rfl rfl (by decide +kernel) ⟨Nat.le_of_ble_eq_true rfl, Nat.le_of_ble_eq_true rfl⟩) rfl hl.1 rfl (Nat.le_of_ble_eq_true rfl) ⟨Nat.zero_le _, Nat.zero_le _⟩ dX3_most_4 (fun r_1 er_1 => ?_)
  refine lv_if_ne (tgt := 13) hx hb dX3_most_7 (by decide) (fun c_2 => ?_) (fun c_2 => ?_)
  · replace c_2 := zB_t er_1 c_2
    obtain ⟨k0, hk0a, hk0b, rfl⟩ := zr1 (lo := 1) (hi := 8) (fun q => c_2 (Or.inl q)) (fun q => c_2 (Or.inr q)) (by omega) (by omega)
    refine lv_aload_n hx hb dX3_most_13 rfl (lv_at hl 0 rfl) ?_
    refine va_get (ci := 3) (C := RX3) (T := TX3) (N := 7) hx hb hts hiX3 hown hK hP 0 rfl rfl 0 (by decide) hf7 (fun _ h9 => h9) rfl dX3_most_14 ?_
    refine lv_iconst (v := 4) hx hb dX3_most_17 (by decide) ?_
    refine zz_iald hx hb hK hP 1 0 rfl rfl (i := 4) (show (4 : Int32) = nI 4 from rfl) (by decide) (by decide) dX3_most_18 ?_
    refine zz_topi (nI (a.2.2.2.2.1)) rfl ?_
    refine lv_istore_n (lv' := [(2, .int (nI (a.2.2.2.2.1))), (0, .ref (q 0)), (1, .int (nI k0))]) hx hb dX3_most_19 rfl hl (by decide) rfl (fun ls hl => ?_)
    refine lv_aload_n hx hb dX3_most_20 rfl (lv_at hl 1 rfl) ?_
    refine va_get (ci := 3) (C := RX3) (T := TX3) (N := 7) hx hb hts hiX3 hown hK hP 0 rfl rfl 0 (by decide) hf7 (fun _ h9 => h9) rfl dX3_most_21 ?_
    refine lv_iconst (v := 4) hx hb dX3_most_24 (by decide) ?_
    refine lv_iload_n hx hb dX3_most_25 rfl (lv_at hl 2 rfl) ?_
    refine zz_iast hx hb hK hP hD hS 1 0 rfl rfl (i := 4) (show (4 : Int32) = nI 4 from rfl) (by decide) (by decide) dX3_most_26 (fun H locs hP hD hS => ?_)
    have hP : va_P D vwCl (zcM cI cZ q (upd (zst a) 4 (nI k0)) im kp lf rw fn kn) H := hP
    have hD : va_D A (zcM cI cZ q (upd (zst a) 4 (nI k0)) im kp lf rw fn kn) := hD
    rw [zst_u4] at hP hD
    have hP : va_P D vwCl (zcM cI cZ q (zst (a.1, a.2.1, a.2.2.1, a.2.2.2.1, k0, a.2.2.2.2.2.1, a.2.2.2.2.2.2)) im kp lf rw fn kn) H := hP
    have hD : va_D A (zcM cI cZ q (zst (a.1, a.2.1, a.2.2.1, a.2.2.2.1, k0, a.2.2.2.2.2.1, a.2.2.2.2.2.2)) im kp lf rw fn kn) := hD
    refine lv_iload_n hx hb dX3_most_27 rfl (lv_at hl 0 rfl) ?_
    exact W.iret (v := (nI (a.2.2.2.2.1))) hx hb hr (fun t9 ht hW => ⟨⟨_, (a.1, a.2.1, a.2.2.1, a.2.2.2.1, k0, a.2.2.2.2.2.1, a.2.2.2.2.2.2), rfl, (by simp (decide := true) only [zq_most, zwm, c_2, not_true_eq_false, not_false_eq_true, and_self, and_true, true_and, and_false, false_and, or_self, or_true, true_or, or_false, false_or, if_true, if_false, ↓reduceIte, Bool.false_eq_true, iff_self, iff_true, iff_false, true_iff, false_iff, Nat.add_zero, Nat.or_zero]; rw [zN_nI (by omega)]), zP_ht ht hP⟩, hS.F ht⟩) hS.2.2 dX3_most_28
  · replace c_2 := Classical.not_not.mp (zB_f er_1 c_2)
    refine lv_bipush (v := (-2)) hx hb dX3_most_10 (by decide) ?_
    exact W.iret (v := (-2)) hx hb hr (fun t9 ht hW => ⟨⟨_, a, rfl, (by simp (decide := true) only [zq_most, zwm, c_2, not_true_eq_false, not_false_eq_true, and_self, and_true, true_and, and_false, false_and, or_self, or_true, true_or, or_false, false_or, if_true, if_false, ↓reduceIte, Bool.false_eq_true, iff_self, iff_true, iff_false, true_iff, false_iff, Nat.add_zero, Nat.or_zero]), zP_ht ht hP⟩, hS.F ht⟩) hS.2.2 dX3_most_12
set_option maxHeartbeats 4000000 in
set_option maxRecDepth 100000 in
theorem c_X3_check (l : Launch) (D : va_G) (cI cZ : ClassId) (hs ta : Nat) (sz : Nat) (q : Nat → Nat) (a : ZA) (im : Nat → Int32) (kp : Nat → Int32) (lf : Nat → Int32) (rw : Nat → Int32) (fn : Nat → Int32) (kn : Nat) (p0 : Int32) (p1 : Int32) (hI : zInv a) : Met l yX3_check wsX3_check ({ frames := 2, cells := 0, slots := 0, locals := 43 }) (va_Pc [.ref (q 0), .int p0, .int p1] (fun U => U.heap.size = sz ∧ zPre D (zTy cI cZ) hs ta (zcM cI cZ q (zst a) im kp lf rw fn kn) U)) (va_Qi (fun (r : Int32) (u : ZA) => (r, u) = zq_check a p0 p1) (fun (u : ZA) t9 => va_P D vwCl (zcM cI cZ q (zst u) im kp lf rw fn kn) t9.heap) (va_A (zcM cI cZ q (zst a) im kp lf rw fn kn) sz)) 0 0 (va_A (zcM cI cZ q (zst a) im kp lf rw fn kn) sz) := by
  refine Met.ofW (cc := cX3_check) (maxL := 4) (ret := (some .int)) (by decide) rfl ?_
  intro p e s m args below meth c s₁ B hml hv0
  obtain ⟨rfl, hsz, hP, hD0, hG⟩ := hv0
  have hx := B.exec
  have hb := B.bytes
  have hr := B.returns
  have hts := atoms_spec (ws := wsX3_check) B.pre
  have hown : s.vm.findClass RX3 = some m.cls := findClass_of_methodNamed B.named
  have hlocks := B.notSynchronized
  subst hsz
  have hD := hD0.self (sz := s.heap.size)
  have hAz0 : ∀ y9, va_A (zcM cI cZ q (zst a) im kp lf rw fn kn) s.heap.size y9 → hs ≤ y9 := zA_of hD0 (fun y9 h => Nat.le_trans hG.2.2.2.2 h) (va_S.rf (A := zA hs) (H0 := s.heap))
  generalize hAe : va_A (zcM cI cZ q (zst a) im kp lf rw fn kn) s.heap.size = A at hD hAz0 ⊢
  have hA : ∀ y9 : Nat, s.heap.size ≤ y9 → A y9 := fun y9 h => by rw [← hAe]; exact Or.inr h
  have hS : va_S A s.heap s.heap [] := va_S.rf
  have hAz : ∀ y9, A y9 → hs ≤ y9 := hAz0
  have hK := hG.1
  have hl := lv_entry ([.ref (q 0), .int p0, .int p1]) (n := 4) (Nat.le_of_ble_eq_true rfl)
  rw [lg_entry_eq]
  generalize (lg_sl ([.ref (q 0), .int p0, .int p1]) ++ List.replicate (4 - (lg_sl ([.ref (q 0), .int p0, .int p1])).length) Slot.unset).toArray = ls at hl ⊢
  have hl : lv_has ls 4 [(0, .ref (q 0)), (1, .int p0), (2, .int p1)] := hl
  have hf7 := hts (.fieldLink RX3 7 "FrozenBitsModel" "state" "[I") (List.mem_of_getElem? (i := 1) rfl)
  have hiX3 : ∀ w ∈ u_ws RX3 TX3 7, w ∈ wsX3_check := fun w h => List.mem_cons_of_mem _ (List.mem_append_right _ h)
  refine lv_iload_n hx hb dX3_check_0 rfl (lv_at hl 1 rfl) ?_
  refine lv_iconst (v := 0) hx hb dX3_check_1 (by decide) ?_
  refine lv_iconst (v := 2) hx hb dX3_check_2 (by decide) ?_
  refine zz_pSi (As := [.int p0, .int 0, .int 2]) (rest := []) ⟨hx, hb, hml, hown, hts⟩ (c_X3_in l p0 0 2) (va_cwS 3 hts gX3_check_X3_in rfl rfl rfl (by decide +kernel) ⟨Nat.le_of_ble_eq_true rfl, Nat.le_of_ble_eq_true rfl⟩) rfl hl.1 rfl (Nat.le_of_ble_eq_true rfl) ⟨Nat.zero_le _, Nat.zero_le _⟩ dX3_check_3 (fun r_1 er_1 => ?_)
  refine lv_if_ne (tgt := 11) hx hb dX3_check_6 (by decide) (fun c_2 => ?_) (fun c_2 => ?_)
  · replace c_2 := zB_t er_1 c_2
    rw [show (2 : Int32) = nI (3 - 1) from rfl, zin_iff (by decide) (by decide)] at c_2
    replace c_2 : ¬ p0 < 0 ∧ p0 < 3 := c_2
    refine lv_aload_n hx hb dX3_check_11 rfl (lv_at hl 0 rfl) ?_
    refine lv_iload_n hx hb dX3_check_12 rfl (lv_at hl 2 rfl) ?_
    refine zz_cVi (cs := zcM cI cZ q (zst a) im kp lf rw fn kn) (As := [.int p1]) (rest := []) ⟨hx, hb, hml, hown, hts⟩ (c_X3_isRow l D cI cZ hs ta q a im kp lf rw fn kn p1 hI) (cwV 1 hts gX3_check_X3_isRow rfl rfl rfl (by decide +kernel) ⟨Nat.le_of_ble_eq_true rfl, Nat.le_of_ble_eq_true rfl⟩) (va_recv hK hP (ci := 3) (q0 := 0) rfl rfl) hP hD hG hS hAz rfl hl.1 rfl (Nat.le_of_ble_eq_true rfl) ⟨Nat.zero_le _, Nat.zero_le _⟩ dX3_check_13 (fun r_3 er_3 => ?_)
    refine lv_if_ne (tgt := 22) hx hb dX3_check_16 (by decide) (fun c_4 => ?_) (fun c_4 => ?_)
    · replace c_4 := zB_t er_3 c_4
      obtain ⟨k0, hk0, rfl⟩ := zr0 (n := 3) c_2 (by decide)
      refine lv_aload_n hx hb dX3_check_22 rfl (lv_at hl 0 rfl) ?_
      refine va_get (ci := 3) (C := RX3) (T := TX3) (N := 7) hx hb hts hiX3 hown hK hP 0 rfl rfl 0 (by decide) hf7 (fun _ h9 => h9) rfl dX3_check_23 ?_
      refine lv_iconst (v := 5) hx hb dX3_check_26 (by decide) ?_
      refine lv_iload_n hx hb dX3_check_27 rfl (lv_at hl 1 rfl) ?_
      refine lv_iadd hx hb dX3_check_28 ?_
      refine zz_topi (nI (5 + k0)) (zz_addn (show (5 : Int32) = nI 5 from rfl) rfl) ?_
      refine zz_iald hx hb hK hP 1 0 rfl rfl (i := 5 + k0) rfl (by omega) (by decide) dX3_check_29 ?_
      refine zz_topi (a.2.2.2.2.2.2 k0) (zst_ck _ (by omega)) ?_
      refine zz_topi (a.2.2.2.2.2.2 k0) (rfl) ?_
      refine lv_istore_n (lv' := [(3, .int (a.2.2.2.2.2.2 k0)), (0, .ref (q 0)), (1, .int (nI k0)), (2, .int p1)]) hx hb dX3_check_30 rfl hl (by decide) rfl (fun ls hl => ?_)
      refine lv_aload_n hx hb dX3_check_31 rfl (lv_at hl 1 rfl) ?_
      refine va_get (ci := 3) (C := RX3) (T := TX3) (N := 7) hx hb hts hiX3 hown hK hP 0 rfl rfl 0 (by decide) hf7 (fun _ h9 => h9) rfl dX3_check_32 ?_
      refine lv_iconst (v := 5) hx hb dX3_check_35 (by decide) ?_
      refine lv_iload_n hx hb dX3_check_36 rfl (lv_at hl 2 rfl) ?_
      refine lv_iadd hx hb dX3_check_37 ?_
      refine zz_topi (nI (5 + k0)) (zz_addn (show (5 : Int32) = nI 5 from rfl) rfl) ?_
      refine lv_iload_n hx hb dX3_check_38 rfl (lv_at hl 3 rfl) ?_
      refine zz_iast hx hb hK hP hD hS 1 0 rfl rfl (i := 5 + k0) rfl (by omega) (by decide) dX3_check_39 (fun H locs hP hD hS => ?_)
      have hP : va_P D vwCl (zcM cI cZ q (upd (zst a) (5 + k0) p1) im kp lf rw fn kn) H := hP
      have hD : va_D A (zcM cI cZ q (upd (zst a) (5 + k0) p1) im kp lf rw fn kn) := hD
      rw [zst_u5 _ hk0] at hP hD
      have hP : va_P D vwCl (zcM cI cZ q (zst (a.1, a.2.1, a.2.2.1, a.2.2.2.1, a.2.2.2.2.1, a.2.2.2.2.2.1, upd a.2.2.2.2.2.2 k0 p1)) im kp lf rw fn kn) H := hP
      have hD : va_D A (zcM cI cZ q (zst (a.1, a.2.1, a.2.2.1, a.2.2.2.1, a.2.2.2.2.1, a.2.2.2.2.2.1, upd a.2.2.2.2.2.2 k0 p1)) im kp lf rw fn kn) := hD
      refine lv_iload_n hx hb dX3_check_40 rfl (lv_at hl 0 rfl) ?_
      exact W.iret (v := (a.2.2.2.2.2.2 k0)) hx hb hr (fun t9 ht hW => ⟨⟨_, (a.1, a.2.1, a.2.2.1, a.2.2.2.1, a.2.2.2.2.1, a.2.2.2.2.2.1, upd a.2.2.2.2.2.2 k0 p1), rfl, (by simp (decide := true) only [zq_check, zwm, c_2, c_4, not_true_eq_false, not_false_eq_true, and_self, and_true, true_and, and_false, false_and, or_self, or_true, true_or, or_false, false_or, if_true, if_false, ↓reduceIte, Bool.false_eq_true, iff_self, iff_true, iff_false, true_iff, false_iff, Nat.add_zero, Nat.or_zero]; rw [zN_nI (by omega)]), zP_ht ht hP⟩, hS.F ht⟩) hS.2.2 dX3_check_41
    · replace c_4 := zB_f er_3 c_4
      refine lv_bipush (v := (-2)) hx hb dX3_check_19 (by decide) ?_
      exact W.iret (v := (-2)) hx hb hr (fun t9 ht hW => ⟨⟨_, a, rfl, (by simp (decide := true) only [zq_check, zwm, c_2, c_4, not_true_eq_false, not_false_eq_true, and_self, and_true, true_and, and_false, false_and, or_self, or_true, true_or, or_false, false_or, if_true, if_false, ↓reduceIte, Bool.false_eq_true, iff_self, iff_true, iff_false, true_iff, false_iff, Nat.add_zero, Nat.or_zero]), zP_ht ht hP⟩, hS.F ht⟩) hS.2.2 dX3_check_21
  · replace c_2 := Classical.not_not.mp (zB_f er_1 c_2)
    have hz : p0 < 0 ∨ ¬ p0 < 3 := Classical.or_iff_not_imp_left.mpr (fun q q2 => (zin_iff (n := 3) (by decide) (by decide)).mpr ⟨q, q2⟩ c_2)
    refine lv_iconst (v := (-1)) hx hb dX3_check_9 (by decide) ?_
    exact W.iret (v := (-1)) hx hb hr (fun t9 ht hW => ⟨⟨_, a, rfl, (by simp (decide := true) only [zq_check, hz, zwm, c_2, not_true_eq_false, not_false_eq_true, and_self, and_true, true_and, and_false, false_and, or_self, or_true, true_or, or_false, false_or, if_true, if_false, ↓reduceIte, Bool.false_eq_true, iff_self, iff_true, iff_false, true_iff, false_iff, Nat.add_zero, Nat.or_zero]), zP_ht ht hP⟩, hS.F ht⟩) hS.2.2 dX3_check_10
